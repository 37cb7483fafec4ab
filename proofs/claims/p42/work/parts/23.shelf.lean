/-! the shelves of the class -/
/-- nothing, a body, or a row of a sort -/
abbrev Shf : Type := Option (Nat ⊕ (Nat × List Int64))
def shLen (s : Shf) : Nat := match s with
  | some (.inr (_, l)) => l.length
  | _ => 0
def isRw (s : Shf) : Bool := match s with
  | some (.inr _) => true
  | _ => false
def RS (M : Mem) (a : Nat) (s : Shf) : Prop := match s with
  | none => M.1 a 0 = 0
  | some (.inl b) => M.1 a 0 = 1 ∧ M.1 a 1 = nI b ∧ b < 50
  | some (.inr (t, l)) => M.1 a 0 = 2 ∧ M.1 a 2 = nI t ∧ t < 5 ∧ M.1 a 3 = nI l.length ∧ l.length ≤ 60 ∧ ∀ j x, l[j]? = some x → M.2 (a + 1) j = x
def isSh (a : Nat) : Prop := a = 22 ∨ a = 24 ∨ a = 26 ∨ a = 28 ∨ a = 30 ∨ a = 32
theorem RS_fr {A : List Nat} {M M' : Mem} {a : Nat} {s : Shf} (h : RS M a s) (hf : Fr A M M') (ha : (A.contains a || A.contains (a + 1)) = false) : RS M' a s := by
  rw [Bool.or_eq_false_iff] at ha
  unfold RS at h ⊢
  rw [Fr_1 hf a ha.1, Fr_2 hf (a + 1) ha.2]
  exact h
theorem i0 : (0 : Int32) = nI 0 := rfl
theorem RS_h {M : Mem} {a : Nat} {s : Shf} (h : RS M a s) : (s = none ∧ (M.1 a 0).toInt = 0) ∨ (∃ b, s = some (.inl b) ∧ (M.1 a 0).toInt = 1) ∨ ∃ t l, s = some (.inr (t, l)) ∧ (M.1 a 0).toInt = 2 := by
  match s, h with
  | none, h => exact Or.inl ⟨rfl, by rw [show M.1 a 0 = 0 from h]; rfl⟩
  | some (.inl b), h => exact Or.inr (Or.inl ⟨b, rfl, by rw [h.1]; rfl⟩)
  | some (.inr (t, l)), h => exact Or.inr (Or.inr ⟨t, l, rfl, by rw [h.1]; rfl⟩)
theorem sp_len {d a : Nat} {M : Mem} {s : Shf} (ha : isSh a) (h : RS M a s) : Call (d + 1) 53 [.ref a] M (RV (some (.int (nI (shLen s)))) M) := by
  rcases ha with rfl | rfl | rfl | rfl | rfl | rfl <;>
  · refine call_run 400 rfl rfl (fun B Cl Z hZ hB hC => ?_)
    (conv => whnf); refine ⟨fun b => ?_, fun b => ?_⟩
    · simp only [c_lt, c_gt, c_le, c_ge, c_eq, c_ne, b2_z, b2_nz, b2_i, Classical.not_not, t0, t1, Nat.reduceMod, Nat.reduceDiv, Int.reduceAdd, Int.reduceNeg, Nat.reduceAdd, kv_0, kv_2, kc_0, kc_2] at b
      conv => whnf
      refine hZ _ _ ⟨v_eq ?_, rfl⟩
      rcases RS_h h with ⟨rfl, q⟩ | ⟨_, rfl, q⟩ | ⟨_, _, _, q⟩
      · rfl
      · rfl
      · omega
    · simp only [c_lt, c_gt, c_le, c_ge, c_eq, c_ne, b2_z, b2_nz, b2_i, Classical.not_not, t0, t1, Nat.reduceMod, Nat.reduceDiv, Int.reduceAdd, Int.reduceNeg, Nat.reduceAdd, kv_0, kv_2, kc_0, kc_2] at b
      conv => whnf
      refine hZ _ _ ⟨v_eq ?_, rfl⟩
      rcases RS_h h with ⟨rfl, q⟩ | ⟨_, rfl, q⟩ | ⟨_, _, rfl, q⟩
      · omega
      · omega
      · exact h.2.2.2.1
def rfu (s : Shf) (w : Nat) : Int32 := match s with
  | none => cI (-11)
  | some (.inl _) => cI (-12)
  | some (.inr (t, _)) => if t = w then cI 0 else cI (-12)
theorem sp_refusal {d a w : Nat} {M : Mem} {s : Shf} (ha : isSh a) (h : RS M a s) (hw : w < 5) : Call (d + 1) 55 [.ref a, .int (nI w)] M (RV (some (.int (rfu s w))) M) := by
  have e := nI_v (n := w) (by omega)
  rcases ha with rfl | rfl | rfl | rfl | rfl | rfl <;>
  · refine call_run 400 rfl rfl (fun B Cl Z hZ hB hC => ?_)
    rcases RS_h h with ⟨rfl, q⟩ | ⟨_, rfl, q⟩ | ⟨t, _, rfl, q⟩
    · repeat' (first | ((conv => whnf); refine ⟨fun _ => ?_, fun _ => ?_⟩) | ((conv => whnf); refine ⟨?_, ?_⟩) | fail)
      all_goals (try simp only [c_lt, c_gt, c_le, c_ge, c_eq, c_ne, b2_z, b2_nz, b2_i, Classical.not_not, t0, t1, Nat.reduceMod, Nat.reduceDiv, Int.reduceAdd, Int.reduceNeg, Nat.reduceAdd, kv_m12, kv_m11, kv_0, kv_2, kc_0, kc_2] at *)
      all_goals first
        | omega
        | exact hZ _ _ ⟨rfl, rfl⟩
    · repeat' (first | ((conv => whnf); refine ⟨fun _ => ?_, fun _ => ?_⟩) | ((conv => whnf); refine ⟨?_, ?_⟩) | fail)
      all_goals (try simp only [c_lt, c_gt, c_le, c_ge, c_eq, c_ne, b2_z, b2_nz, b2_i, Classical.not_not, t0, t1, Nat.reduceMod, Nat.reduceDiv, Int.reduceAdd, Int.reduceNeg, Nat.reduceAdd, kv_m12, kv_m11, kv_0, kv_2, kc_0, kc_2] at *)
      all_goals first
        | omega
        | exact hZ _ _ ⟨rfl, rfl⟩
    · have e2 := congrArg Int32.toInt h.2.1
      have h5 := h.2.2.1
      rw [nI_v (n := t) (by omega)] at e2
      repeat' (first | ((conv => whnf); refine ⟨fun _ => ?_, fun _ => ?_⟩) | ((conv => whnf); refine ⟨?_, ?_⟩) | fail)
      all_goals (try simp only [c_lt, c_gt, c_le, c_ge, c_eq, c_ne, b2_z, b2_nz, b2_i, Classical.not_not, t0, t1, Nat.reduceMod, Nat.reduceDiv, Int.reduceAdd, Int.reduceNeg, Nat.reduceAdd, kv_m12, kv_m11, kv_0, kv_2, kc_0, kc_2, e] at *)
      all_goals first
        | omega
        | exact hZ _ _ ⟨v_eq (if_neg (by omega)).symm, rfl⟩
        | exact hZ _ _ ⟨v_eq (if_pos (by omega)).symm, rfl⟩
def rfa (s : Shf) (i : Int32) : Int32 := match s with
  | none => cI (-11)
  | some (.inl _) => cI (-12)
  | some (.inr (_, l)) => if 0 ≤ i.toInt ∧ i.toInt < (l.length : Int) then cI 0 else cI (-13)
theorem sp_refusalAt {d a : Nat} {M : Mem} {s : Shf} {i : Int32} (ha : isSh a) (h : RS M a s) : Call (d + 1) 56 [.ref a, .int i] M (RV (some (.int (rfa s i))) M) := by
  rcases ha with rfl | rfl | rfl | rfl | rfl | rfl <;>
  · refine call_run 400 rfl rfl (fun B Cl Z hZ hB hC => ?_)
    rcases RS_h h with ⟨rfl, q⟩ | ⟨_, rfl, q⟩ | ⟨t, l, rfl, q⟩
    · repeat' (first | ((conv => whnf); refine ⟨fun _ => ?_, fun _ => ?_⟩) | ((conv => whnf); refine ⟨?_, ?_⟩) | fail)
      all_goals (try simp only [c_lt, c_gt, c_le, c_ge, c_eq, c_ne, b2_z, b2_nz, b2_i, Classical.not_not, t0, t1, Nat.reduceMod, Nat.reduceDiv, Int.reduceAdd, Int.reduceNeg, Nat.reduceAdd, kv_m13, kv_m12, kv_m11, kv_0, kv_2, kc_0, kc_2] at *)
      all_goals first
        | omega
        | exact hZ _ _ ⟨rfl, rfl⟩
    · repeat' (first | ((conv => whnf); refine ⟨fun _ => ?_, fun _ => ?_⟩) | ((conv => whnf); refine ⟨?_, ?_⟩) | fail)
      all_goals (try simp only [c_lt, c_gt, c_le, c_ge, c_eq, c_ne, b2_z, b2_nz, b2_i, Classical.not_not, t0, t1, Nat.reduceMod, Nat.reduceDiv, Int.reduceAdd, Int.reduceNeg, Nat.reduceAdd, kv_m13, kv_m12, kv_m11, kv_0, kv_2, kc_0, kc_2] at *)
      all_goals first
        | omega
        | exact hZ _ _ ⟨rfl, rfl⟩
    · have e2 := congrArg Int32.toInt h.2.2.2.1
      have h5 := h.2.2.2.2.1
      rw [nI_v (n := l.length) (by omega)] at e2
      repeat' (first | ((conv => whnf); refine ⟨fun _ => ?_, fun _ => ?_⟩) | ((conv => whnf); refine ⟨?_, ?_⟩) | fail)
      all_goals (try simp only [c_lt, c_gt, c_le, c_ge, c_eq, c_ne, b2_z, b2_nz, b2_i, Classical.not_not, t0, t1, Nat.reduceMod, Nat.reduceDiv, Int.reduceAdd, Int.reduceNeg, Nat.reduceAdd, kv_m13, kv_m12, kv_m11, kv_0, kv_2, kc_0, kc_2] at *)
      all_goals first
        | omega
        | exact hZ _ _ ⟨v_eq (if_neg (by omega)).symm, rfl⟩
        | exact hZ _ _ ⟨v_eq (if_pos (by omega)).symm, rfl⟩
theorem shLen_le {M : Mem} {a : Nat} {s : Shf} (h : RS M a s) : shLen s ≤ 60 := by
  match s, h with
  | none, _ => exact Nat.zero_le _
  | some (.inl _), _ => exact Nat.zero_le _
  | some (.inr (_, l)), h => exact h.2.2.2.2.1
theorem sp_cell {d a i t : Nat} {M : Mem} {l : List Int64} {x : Int64} (ha : isSh a) (h : RS M a (some (.inr (t, l)))) (hx : l[i]? = some x) : Call (d + 2) 57 [.ref a, .int (nI i)] M (RV (some (.long x)) M) := by
  have hl := (List.getElem?_eq_some_iff.mp hx).1
  have h6 := h.2.2.2.2.1
  have hc := h.2.2.2.2.2 i x hx
  have e := nI_v (n := i) (by omega)
  have e3 := nI_v (n := l.length) (by omega)
  rcases id ha with rfl | rfl | rfl | rfl | rfl | rfl <;>
  · refine call_run 400 rfl rfl (fun B Cl Z hZ hB hC => ?_)
    (conv => whnf); refine ⟨fun b => ?_, fun b => ?_⟩
    · simp only [c_lt, c_gt, c_le, c_ge, c_eq, c_ne, b2_z, b2_nz, b2_i, Classical.not_not, t0, t1, Nat.reduceMod, Nat.reduceDiv, Int.reduceAdd, Int.reduceNeg, Nat.reduceAdd, kv_60, kc_60, e] at b
      omega
    · (conv => whnf); refine ret_k hC (sp_len ha h) ?_
      (conv => whnf); refine ⟨fun b => ?_, fun b => ?_⟩
      · simp only [c_lt, c_gt, c_le, c_ge, c_eq, c_ne, b2_z, b2_nz, b2_i, Classical.not_not, t0, t1, Nat.reduceMod, Nat.reduceDiv, Int.reduceAdd, Int.reduceNeg, Nat.reduceAdd, kv_60, kc_60, e, shLen, e3] at b
        omega
      · (conv => whnf); refine ⟨fun b => ?_, fun b => ?_⟩
        · simp only [c_lt, c_gt, c_le, c_ge, c_eq, c_ne, b2_z, b2_nz, b2_i, Classical.not_not, t0, t1, Nat.reduceMod, Nat.reduceDiv, Int.reduceAdd, Int.reduceNeg, Nat.reduceAdd, kv_60, kc_60, e] at b
          omega
        · (conv => whnf)
          refine ⟨nI_vp (by omega) (by omega), ?_⟩
          (conv => whnf)
          refine hZ _ _ ⟨?_, rfl⟩
          rw [nI_c (by omega), ← hc]
