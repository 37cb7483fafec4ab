/-! acts: how they run -/
def RA (M : Mem) (own b : Nat) (tr : List Nat) : Prop := M.1 7 3 = nI tr.length ∧ (∀ i c, tr[i]? = some c → M.1 43 i = nI c) ∧ M.1 7 4 = nI own ∧ M.1 7 5 = nI b
def FA (M M' : Mem) : Prop := Fr [7, 43] M M' ∧ ∀ j, j < 3 → M'.1 7 j = M.1 7 j
theorem FA_trans {M M1 M2 : Mem} (h1 : FA M M1) (h2 : FA M1 M2) : FA M M2 := ⟨Fr_trans h1.1 h2.1, fun j hj => (h2.2 j hj).trans (h1.2 j hj)⟩
theorem FA_refl {M : Mem} : FA M M := ⟨Fr_refl, fun _ _ => rfl⟩
/-- an act's answer, and what ran -/
abbrev AR : Type := Int32 × List Nat
def AP (M : Mem) (own b : Nat) (tr : List Nat) (p : AR) : Po := fun v M' => v = some (.int p.1) ∧ RA M' own b (tr ++ p.2) ∧ FA M M'
def lys (k : Nat) (x : Int32) (b : Nat) : AR :=
  if k = 1 ∨ k = 4 then (x + nI b + cI 3, [20, 1]) else if k = 6 then ((x + nI b) * cI 2, [70, 1]) else if k = 7 then ((x + nI b) * cI 2 - cI 1, [81, 70, 1]) else (x + nI b, [1])
def cts (k : Nat) (x : Int32) (b own : Nat) : AR :=
  if k = 3 then ((x ^^^ nI b) * cI 3, [40, 11]) else if k = 5 then ((x ^^^ nI b) * cI 3 - (lys own (cI 2) b).1, [60, 40, 11] ++ (lys own (cI 2) b).2) else (x ^^^ nI b, [11])
def lns0 (x : Int32) (b own : Nat) : AR := ((lys own x b).1 * cI 2, 10 :: (lys own x b).2)
def lns2 (x : Int32) (b own : Nat) : AR := (-(lns0 x b own).1, 30 :: (lns0 x b own).2)
def lns (k : Nat) (x : Int32) (b own : Nat) : AR :=
  if k = 2 then lns2 x b own else if k = 3 ∨ k = 5 then ((lns2 (x + cI 1) b own).1, 41 :: (lns2 (x + cI 1) b own).2)
  else if k = 7 then ((lns0 x b own).1 + (cts own (cI 2) b own).1, 80 :: ((lns0 x b own).2 ++ (cts own (cI 2) b own).2)) else lns0 x b own
def tls0 (x : Int32) (b own : Nat) : AR := ((lns own x b own).1 - (cts own (cI 1) b own).1, 2 :: ((lns own x b own).2 ++ (cts own (cI 1) b own).2))
def tls (k : Nat) (x : Int32) (b own : Nat) : AR :=
  if k = 4 then ((tls0 x b own).1 ^^^ cI 5, 50 :: (tls0 x b own).2) else if k = 5 then ((tls0 x b own).1 + cI 1, 61 :: (tls0 x b own).2) else tls0 x b own
theorem lys_l (k : Nat) (x : Int32) (b : Nat) : (lys k x b).2.length ≤ 3 := by unfold lys; (repeat' split) <;> simp
theorem cts_l (k : Nat) (x : Int32) (b own : Nat) : (cts k x b own).2.length ≤ 6 := by
  have := lys_l own (cI 2) b
  unfold cts; (repeat' split) <;> simp <;> omega
theorem lns0_l (x : Int32) (b own : Nat) : (lns0 x b own).2.length ≤ 4 := by
  have := lys_l own x b
  unfold lns0; simp; omega
theorem lns2_l (x : Int32) (b own : Nat) : (lns2 x b own).2.length ≤ 5 := by
  have := lns0_l x b own
  unfold lns2; simp; omega
theorem lns_l (k : Nat) (x : Int32) (b own : Nat) : (lns k x b own).2.length ≤ 11 := by
  have h1 := lns0_l x b own
  have h2 := lns2_l x b own
  have h3 := lns2_l (x + cI 1) b own
  have h4 := cts_l own (cI 2) b own
  unfold lns
  repeat' split
  · omega
  · simp; omega
  · simp; omega
  · omega
theorem sp_begins {d own b c : Nat} {M : Mem} {tr : List Nat} (h : RA M own b tr) (hl : tr.length < 24) : Call (d + 1) 7 [.ref 7, .int (nI c)] M (fun v M' => v = none ∧ RA M' own b (tr ++ [c]) ∧ FA M M') := by
  obtain ⟨h1, h2, h3, h4⟩ := h
  have e := nI_v (n := tr.length) (by omega)
  refine call_run 400 rfl rfl (fun B Cl Z hZ hB hC => ?_)
  (conv => whnf); refine ⟨fun a => ?_, fun a => ?_⟩
  · simp only [c_lt, c_gt, c_le, c_ge, c_eq, c_ne, b2_z, b2_nz, b2_i, Classical.not_not, t0, t1, Nat.reduceMod, Nat.reduceDiv, Int.reduceAdd, Int.reduceNeg, Nat.reduceAdd, kv_1, kv_24, kc_1, kc_24, h1, e] at a
    omega
  · (conv => whnf)
    simp only [Nat.reduceMod, h1]
    refine ⟨nI_vp hl (by omega), ?_⟩
    (conv => whnf)
    simp only [Nat.reduceMod, nI_c (n := tr.length) (by omega)]
    refine hZ _ _ ⟨rfl, ⟨?_, ?_, ?_, ?_⟩, Fr_mI (Fr_mI Fr_refl (by decide)) (by decide), ?_⟩
    · simp [mI_at, h1]
      exact nI_1 _
    · intro i q hq
      simp only [mI_at]
      rcases Nat.lt_or_ge i tr.length with z | z
      · rw [List.getElem?_append_left z] at hq
        rw [if_neg (by simp), if_neg (by omega)]
        exact h2 i q hq
      · have := (List.getElem?_eq_some_iff.mp hq).1
        simp at this
        obtain rfl : i = tr.length := by omega
        rw [List.getElem?_append_right (Nat.le_refl _), Nat.sub_self] at hq
        cases hq
        simp
    · simp [mI_at]; exact h3
    · simp [mI_at]; exact h4
    · intro j hj
      simp only [mI_at]
      rw [if_neg (by omega), if_neg (by simp)]
theorem sp_lays {d own b : Nat} : ∀ (n k : Nat) (M : Mem) (tr : List Nat) (x : Int32), (k = 7 → 2 ≤ n) → (k = 1 ∨ k = 4 ∨ k = 6 → 1 ≤ n) → k < 8 → RA M own b tr → tr.length + n + 1 ≤ 24 → ∀ dd, dd + n < 16 → Call (d + n + 2) 8 [.ref 7, .int (nI k), .int x, .int (nI dd)] M (AP M own b tr (lys k x b)) := by
  intro n
  induction n with
  | zero =>
    intro k M tr x n1 n2 hk h hl dd hd
    have e := nI_v (n := k) (by omega)
    have e2 := nI_v (n := dd) (by omega)
    refine call_run 400 rfl rfl (fun B Cl Z hZ hB hC => ?_)
    repeat' (first | ((conv => whnf); refine ⟨fun _ => ?_, fun _ => ?_⟩) | ((conv => whnf); refine ⟨?_, ?_⟩) | fail)
    all_goals (try simp only [c_lt, c_gt, c_le, c_ge, c_eq, c_ne, b2_z, b2_nz, b2_i, Classical.not_not, t0, t1, Nat.reduceMod, Nat.reduceDiv, Int.reduceAdd, Int.reduceNeg, Nat.reduceAdd, kv_0, kv_1, kv_2, kv_3, kv_4, kv_5, kv_6, kv_7, kv_16, kv_20, kv_70, kv_81, kc_0, kc_1, kc_2, kc_3, kc_4, kc_5, kc_6, kc_7, kc_16, kc_20, kc_70, kc_81, e, e2, x_eq] at *)
    all_goals try omega
    all_goals
     (have hk2 : ¬ (k = 1 ∨ k = 4) ∧ ¬ k = 6 ∧ ¬ k = 7 := by omega
      refine hC _ _ _ _ _ (sp_begins (c := 1) h (by omega)) (fun v M1 q => ?_)
      obtain ⟨rfl, q2, q3⟩ := q
      (conv => whnf)
      have e9 : lys k x b = (x + nI b, [1]) := by unfold lys; rw [if_neg hk2.1, if_neg hk2.2.1, if_neg hk2.2.2]
      refine hZ _ _ ⟨v_eq ?_, ?_, q3⟩
      · rw [e9]; exact congrArg (fun z => x + z) q2.2.2.2
      · rw [e9]; exact q2)
  | succ n ih =>
    intro k M tr x n1 n2 hk h hl dd hd
    have e := nI_v (n := k) (by omega)
    have e2 := nI_v (n := dd) (by omega)
    refine call_run 400 rfl rfl (fun B Cl Z hZ hB hC => ?_)
    repeat' (first | ((conv => whnf); refine ⟨fun _ => ?_, fun _ => ?_⟩) | ((conv => whnf); refine ⟨?_, ?_⟩) | fail)
    all_goals (try simp only [c_lt, c_gt, c_le, c_ge, c_eq, c_ne, b2_z, b2_nz, b2_i, Classical.not_not, t0, t1, Nat.reduceMod, Nat.reduceDiv, Int.reduceAdd, Int.reduceNeg, Nat.reduceAdd, kv_0, kv_1, kv_2, kv_3, kv_4, kv_5, kv_6, kv_7, kv_16, kv_20, kv_70, kv_81, kc_0, kc_1, kc_2, kc_3, kc_4, kc_5, kc_6, kc_7, kc_16, kc_20, kc_70, kc_81, e, e2, x_eq] at *)
    all_goals try omega
    all_goals first
     | (have hk2 : ¬ (k = 1 ∨ k = 4) ∧ ¬ k = 6 ∧ ¬ k = 7 := by omega
        refine hC _ _ _ _ _ (sp_begins (c := 1) h (by omega)) (fun v M1 q => ?_)
        obtain ⟨rfl, q2, q3⟩ := q
        (conv => whnf)
        have e9 : lys k x b = (x + nI b, [1]) := by unfold lys; rw [if_neg hk2.1, if_neg hk2.2.1, if_neg hk2.2.2]
        refine hZ _ _ ⟨v_eq ?_, ?_, q3⟩
        · rw [e9]; exact congrArg (fun z => x + z) q2.2.2.2
        · rw [e9]; exact q2)
     | (have hk2 : k = 1 ∨ k = 4 := by omega
        refine hC _ _ _ _ _ (sp_begins (c := 20) h (by omega)) (fun v M1 q => ?_)
        obtain ⟨rfl, q2, q3⟩ := q
        (conv => whnf)
        rw [nI_i1 dd]
        refine hC _ _ _ _ _ (ih 0 M1 (tr ++ [20]) x (by omega) (by omega) (by omega) q2 (by simp; omega) (dd + 1) (by omega)) (fun v M2 r => ?_)
        obtain ⟨rfl, r2, r3⟩ := r
        (conv => whnf)
        have e9 : lys k x b = (x + nI b + cI 3, [20, 1]) := by unfold lys; exact if_pos hk2
        refine hZ _ _ ⟨v_eq ?_, ?_, FA_trans q3 r3⟩
        · rw [e9]; rfl
        · rw [e9]; rw [List.append_assoc] at r2; exact r2)
     | (have hk2 : k = 6 := by omega
        refine hC _ _ _ _ _ (sp_begins (c := 70) h (by omega)) (fun v M1 q => ?_)
        obtain ⟨rfl, q2, q3⟩ := q
        (conv => whnf)
        rw [nI_i1 dd]
        refine hC _ _ _ _ _ (ih 0 M1 (tr ++ [70]) x (by omega) (by omega) (by omega) q2 (by simp; omega) (dd + 1) (by omega)) (fun v M2 r => ?_)
        obtain ⟨rfl, r2, r3⟩ := r
        (conv => whnf)
        have e9 : lys k x b = ((x + nI b) * cI 2, [70, 1]) := by unfold lys; rw [if_neg (by omega), if_pos hk2]
        refine hZ _ _ ⟨v_eq ?_, ?_, FA_trans q3 r3⟩
        · rw [e9]; rfl
        · rw [e9]; rw [List.append_assoc] at r2; exact r2)
     | (have hk2 : k = 7 := by omega
        refine hC _ _ _ _ _ (sp_begins (c := 81) h (by omega)) (fun v M1 q => ?_)
        obtain ⟨rfl, q2, q3⟩ := q
        (conv => whnf)
        rw [nI_i1 dd]
        refine hC _ _ _ _ _ (ih 6 M1 (tr ++ [81]) x (by omega) (by omega) (by omega) q2 (by simp; omega) (dd + 1) (by omega)) (fun v M2 r => ?_)
        obtain ⟨rfl, r2, r3⟩ := r
        (conv => whnf)
        have e9 : lys k x b = ((x + nI b) * cI 2 - cI 1, [81, 70, 1]) := by unfold lys; rw [if_neg (by omega), if_neg (by omega), if_pos hk2]
        refine hZ _ _ ⟨v_eq ?_, ?_, FA_trans q3 r3⟩
        · rw [e9]; rfl
        · rw [e9]; rw [List.append_assoc] at r2; exact r2)
