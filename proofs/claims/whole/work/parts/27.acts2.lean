/-! acts: cuts, leans, tells, and what performs them -/
theorem sp_cuts0 {d own b k dd : Nat} {M : Mem} {tr : List Nat} {x : Int32} (hk : k < 8) (ho : own < 8) (h : RA M own b tr) (h3 : ¬ k = 3) (h5 : ¬ k = 5) (hl : tr.length < 24) (hd : dd < 16) : Call (d + 2) 10 [.ref 7, .int (nI k), .int x, .int (nI dd)] M (AP M own b tr (cts k x b own)) := by
  have e := nI_v (n := k) (by omega)
  have e2 := nI_v (n := dd) (by omega)
  refine call_run 400 rfl rfl (fun B Cl Z hZ hB hC => ?_)
  repeat' (first | ((conv => whnf); refine ⟨fun _ => ?_, fun _ => ?_⟩) | ((conv => whnf); refine ⟨?_, ?_⟩) | fail)
  all_goals (try simp only [c_lt, c_gt, c_le, c_ge, c_eq, c_ne, b2_z, b2_nz, b2_i, Classical.not_not, t0, t1, Nat.reduceMod, Nat.reduceDiv, Int.reduceAdd, Int.reduceNeg, Nat.reduceAdd, kv_0, kv_1, kv_2, kv_3, kv_5, kv_11, kv_16, kv_40, kv_60, kc_0, kc_1, kc_2, kc_3, kc_5, kc_11, kc_16, kc_40, kc_60, e, e2, x_eq] at *)
  all_goals try omega
  refine hC _ _ _ _ _ (sp_begins (c := 11) h (by omega)) (fun v M1 q => ?_)
  obtain ⟨rfl, q2, q3⟩ := q
  (conv => whnf)
  have e9 : cts k x b own = (x ^^^ nI b, [11]) := by unfold cts; rw [if_neg h3, if_neg h5]
  refine hZ _ _ ⟨v_eq ?_, ?_, q3⟩
  · rw [e9]; exact congrArg (fun z => x ^^^ z) q2.2.2.2
  · rw [e9]; exact q2
theorem sp_cuts3 {d own b k dd : Nat} {M : Mem} {tr : List Nat} {x : Int32} (hk : k < 8) (ho : own < 8) (h : RA M own b tr) (h3 : k = 3) (hl : tr.length + 2 ≤ 24) (hd : dd + 1 < 16) : Call (d + 3) 10 [.ref 7, .int (nI k), .int x, .int (nI dd)] M (AP M own b tr (cts k x b own)) := by
  have e := nI_v (n := k) (by omega)
  have e2 := nI_v (n := dd) (by omega)
  refine call_run 400 rfl rfl (fun B Cl Z hZ hB hC => ?_)
  repeat' (first | ((conv => whnf); refine ⟨fun _ => ?_, fun _ => ?_⟩) | ((conv => whnf); refine ⟨?_, ?_⟩) | fail)
  all_goals (try simp only [c_lt, c_gt, c_le, c_ge, c_eq, c_ne, b2_z, b2_nz, b2_i, Classical.not_not, t0, t1, Nat.reduceMod, Nat.reduceDiv, Int.reduceAdd, Int.reduceNeg, Nat.reduceAdd, kv_0, kv_1, kv_2, kv_3, kv_5, kv_11, kv_16, kv_40, kv_60, kc_0, kc_1, kc_2, kc_3, kc_5, kc_11, kc_16, kc_40, kc_60, e, e2, x_eq] at *)
  all_goals try omega
  refine hC _ _ _ _ _ (sp_begins (c := 40) h (by omega)) (fun v M1 q => ?_)
  obtain ⟨rfl, q2, q3⟩ := q
  (conv => whnf)
  rw [nI_i1 dd]
  refine hC _ _ _ _ _ (sp_cuts0 (k := 2) (by omega) ho q2 (by omega) (by omega) (by simp; omega) (by omega)) (fun v M2 r => ?_)
  obtain ⟨rfl, r2, r3⟩ := r
  (conv => whnf)
  have e9 : cts k x b own = ((x ^^^ nI b) * cI 3, [40, 11]) := by unfold cts; rw [if_pos h3]
  refine hZ _ _ ⟨v_eq ?_, ?_, FA_trans q3 r3⟩
  · rw [e9]; rfl
  · rw [e9]; rw [List.append_assoc] at r2; exact r2
theorem sp_cuts5 {d own b k dd : Nat} {M : Mem} {tr : List Nat} {x : Int32} (hk : k < 8) (ho : own < 8) (h : RA M own b tr) (h3 : k = 5) (hl : tr.length + 6 ≤ 24) (hd : dd + 3 < 16) : Call (d + 5) 10 [.ref 7, .int (nI k), .int x, .int (nI dd)] M (AP M own b tr (cts k x b own)) := by
  have e := nI_v (n := k) (by omega)
  have e2 := nI_v (n := dd) (by omega)
  refine call_run 400 rfl rfl (fun B Cl Z hZ hB hC => ?_)
  repeat' (first | ((conv => whnf); refine ⟨fun _ => ?_, fun _ => ?_⟩) | ((conv => whnf); refine ⟨?_, ?_⟩) | fail)
  all_goals (try simp only [c_lt, c_gt, c_le, c_ge, c_eq, c_ne, b2_z, b2_nz, b2_i, Classical.not_not, t0, t1, Nat.reduceMod, Nat.reduceDiv, Int.reduceAdd, Int.reduceNeg, Nat.reduceAdd, kv_0, kv_1, kv_2, kv_3, kv_5, kv_11, kv_16, kv_40, kv_60, kc_0, kc_1, kc_2, kc_3, kc_5, kc_11, kc_16, kc_40, kc_60, e, e2, x_eq] at *)
  all_goals try omega
  refine hC _ _ _ _ _ (sp_begins (c := 60) h (by omega)) (fun v M1 q => ?_)
  obtain ⟨rfl, q2, q3⟩ := q
  (conv => whnf)
  rw [nI_i1 dd]
  refine hC _ _ _ _ _ (sp_cuts3 (d := d + 1) (k := 3) (by omega) ho q2 rfl (by simp; omega) (by omega)) (fun v M2 r => ?_)
  obtain ⟨rfl, r2, r3⟩ := r
  have ho2 : M2.1 7 4 = nI own := r2.2.2.1
  (conv => whnf)
  rw [nI_i1 dd]
  simp only [Nat.reduceMod, show ∀ M : Mem, fval M 7 4 (nth 0 [43, 0, 44, 0, 0, 0] 4) = .int (M.1 7 4) from fun _ => rfl, ho2]
  refine hC _ _ _ _ _ (sp_lays 2 own M2 _ (cI 2) (by omega) (by omega) ho r2 (by simp [cts]; omega) (dd + 1) (by omega)) (fun v M3 t => ?_)
  obtain ⟨rfl, t2, t3⟩ := t
  (conv => whnf)
  have e9 : cts k x b own = ((x ^^^ nI b) * cI 3 - (lys own (cI 2) b).1, [60, 40, 11] ++ (lys own (cI 2) b).2) := by unfold cts; rw [if_neg (by omega), if_pos h3]
  refine hZ _ _ ⟨v_eq ?_, ?_, FA_trans q3 (FA_trans r3 t3)⟩
  · rw [e9]; rfl
  · rw [e9]; rw [List.append_assoc, List.append_assoc] at t2; exact t2
theorem sp_cuts {d own b k dd : Nat} {M : Mem} {tr : List Nat} {x : Int32} (hk : k < 8) (ho : own < 8) (h : RA M own b tr) (hl : tr.length + 6 ≤ 24) (hd : dd + 3 < 16) : Call (d + 5) 10 [.ref 7, .int (nI k), .int x, .int (nI dd)] M (AP M own b tr (cts k x b own)) := by
  by_cases h5 : k = 5
  · exact sp_cuts5 hk ho h h5 hl hd
  by_cases h3 : k = 3
  · exact sp_cuts3 (d := d + 2) hk ho h h3 (by omega) (by omega)
  · exact sp_cuts0 (d := d + 3) hk ho h h3 h5 (by omega) (by omega)
theorem sp_leans0 {d own b k dd : Nat} {M : Mem} {tr : List Nat} {x : Int32} (hk : k < 8) (ho : own < 8) (h : RA M own b tr) (h1 : ¬ k = 2 ∧ ¬ k = 3 ∧ ¬ k = 5 ∧ ¬ k = 7) (hl : tr.length + 4 ≤ 24) (hd : dd + 3 < 16) : Call (d + 5) 9 [.ref 7, .int (nI k), .int x, .int (nI dd)] M (AP M own b tr (lns0 x b own)) := by
  have e := nI_v (n := k) (by omega)
  have e2 := nI_v (n := dd) (by omega)
  refine call_run 400 rfl rfl (fun B Cl Z hZ hB hC => ?_)
  repeat' (first | ((conv => whnf); refine ⟨fun _ => ?_, fun _ => ?_⟩) | ((conv => whnf); refine ⟨?_, ?_⟩) | fail)
  all_goals (try simp only [c_lt, c_gt, c_le, c_ge, c_eq, c_ne, b2_z, b2_nz, b2_i, Classical.not_not, t0, t1, Nat.reduceMod, Nat.reduceDiv, Int.reduceAdd, Int.reduceNeg, Nat.reduceAdd, kv_0, kv_1, kv_2, kv_3, kv_4, kv_5, kv_6, kv_7, kv_10, kv_16, kv_30, kv_41, kv_80, kc_0, kc_1, kc_2, kc_3, kc_4, kc_5, kc_6, kc_7, kc_10, kc_16, kc_30, kc_41, kc_80, e, e2, x_eq] at *)
  all_goals try omega
  all_goals
    refine hC _ _ _ _ _ (sp_begins (c := 10) h (by omega)) (fun v M1 q => ?_)
    obtain ⟨rfl, q2, q3⟩ := q
    have ho2 : M1.1 7 4 = nI own := q2.2.2.1
    (conv => whnf)
    rw [nI_i1 dd]
    simp only [Nat.reduceMod, show ∀ M : Mem, fval M 7 4 (nth 0 [43, 0, 44, 0, 0, 0] 4) = .int (M.1 7 4) from fun _ => rfl, ho2]
    refine hC _ _ _ _ _ (sp_lays 2 own M1 _ x (by omega) (by omega) ho q2 (by simp; omega) (dd + 1) (by omega)) (fun v M2 r => ?_)
    obtain ⟨rfl, r2, r3⟩ := r
    (conv => whnf)
    refine hZ _ _ ⟨rfl, ?_, FA_trans q3 r3⟩
    rw [List.append_assoc] at r2; exact r2
theorem sp_leans2 {d own b k dd : Nat} {M : Mem} {tr : List Nat} {x : Int32} (hk : k < 8) (ho : own < 8) (h : RA M own b tr) (h1 : k = 2) (hl : tr.length + 5 ≤ 24) (hd : dd + 4 < 16) : Call (d + 6) 9 [.ref 7, .int (nI k), .int x, .int (nI dd)] M (AP M own b tr (lns2 x b own)) := by
  have e := nI_v (n := k) (by omega)
  have e2 := nI_v (n := dd) (by omega)
  refine call_run 400 rfl rfl (fun B Cl Z hZ hB hC => ?_)
  repeat' (first | ((conv => whnf); refine ⟨fun _ => ?_, fun _ => ?_⟩) | ((conv => whnf); refine ⟨?_, ?_⟩) | fail)
  all_goals (try simp only [c_lt, c_gt, c_le, c_ge, c_eq, c_ne, b2_z, b2_nz, b2_i, Classical.not_not, t0, t1, Nat.reduceMod, Nat.reduceDiv, Int.reduceAdd, Int.reduceNeg, Nat.reduceAdd, kv_0, kv_1, kv_2, kv_3, kv_4, kv_5, kv_6, kv_7, kv_10, kv_16, kv_30, kv_41, kv_80, kc_0, kc_1, kc_2, kc_3, kc_4, kc_5, kc_6, kc_7, kc_10, kc_16, kc_30, kc_41, kc_80, e, e2, x_eq] at *)
  all_goals try omega
  refine hC _ _ _ _ _ (sp_begins (c := 30) h (by omega)) (fun v M1 q => ?_)
  obtain ⟨rfl, q2, q3⟩ := q
  (conv => whnf)
  rw [nI_i1 dd]
  refine hC _ _ _ _ _ (sp_leans0 (k := 0) (by omega) ho q2 (by omega) (by simp; omega) (by omega)) (fun v M2 r => ?_)
  obtain ⟨rfl, r2, r3⟩ := r
  (conv => whnf)
  refine hZ _ _ ⟨rfl, ?_, FA_trans q3 r3⟩
  rw [List.append_assoc] at r2; exact r2
theorem sp_leans35 {d own b k dd : Nat} {M : Mem} {tr : List Nat} {x : Int32} (hk : k < 8) (ho : own < 8) (h : RA M own b tr) (h1 : k = 3 ∨ k = 5) (hl : tr.length + 6 ≤ 24) (hd : dd + 5 < 16) : Call (d + 7) 9 [.ref 7, .int (nI k), .int x, .int (nI dd)] M (AP M own b tr (lns k x b own)) := by
  have e := nI_v (n := k) (by omega)
  have e2 := nI_v (n := dd) (by omega)
  refine call_run 400 rfl rfl (fun B Cl Z hZ hB hC => ?_)
  repeat' (first | ((conv => whnf); refine ⟨fun _ => ?_, fun _ => ?_⟩) | ((conv => whnf); refine ⟨?_, ?_⟩) | fail)
  all_goals (try simp only [c_lt, c_gt, c_le, c_ge, c_eq, c_ne, b2_z, b2_nz, b2_i, Classical.not_not, t0, t1, Nat.reduceMod, Nat.reduceDiv, Int.reduceAdd, Int.reduceNeg, Nat.reduceAdd, kv_0, kv_1, kv_2, kv_3, kv_4, kv_5, kv_6, kv_7, kv_10, kv_16, kv_30, kv_41, kv_80, kc_0, kc_1, kc_2, kc_3, kc_4, kc_5, kc_6, kc_7, kc_10, kc_16, kc_30, kc_41, kc_80, e, e2, x_eq] at *)
  all_goals try omega
  all_goals
    refine hC _ _ _ _ _ (sp_begins (c := 41) h (by omega)) (fun v M1 q => ?_)
    obtain ⟨rfl, q2, q3⟩ := q
    (conv => whnf)
    rw [nI_i1 dd]
    refine hC _ _ _ _ _ (sp_leans2 (k := 2) (x := x + cI 1) (by omega) ho q2 rfl (by simp; omega) (by omega)) (fun v M2 r => ?_)
    obtain ⟨rfl, r2, r3⟩ := r
    (conv => whnf)
    have e9 : lns k x b own = ((lns2 (x + cI 1) b own).1, 41 :: (lns2 (x + cI 1) b own).2) := by unfold lns; rw [if_neg (by omega), if_pos h1]
    refine hZ _ _ ⟨v_eq ?_, ?_, FA_trans q3 r3⟩
    · rw [e9]
    · rw [e9]; rw [List.append_assoc] at r2; exact r2
theorem sp_leans7 {d own b k dd : Nat} {M : Mem} {tr : List Nat} {x : Int32} (hk : k < 8) (ho : own < 8) (h : RA M own b tr) (h1 : k = 7) (hl : tr.length + 11 ≤ 24) (hd : dd + 4 < 16) : Call (d + 6) 9 [.ref 7, .int (nI k), .int x, .int (nI dd)] M (AP M own b tr (lns k x b own)) := by
  have e := nI_v (n := k) (by omega)
  have e2 := nI_v (n := dd) (by omega)
  refine call_run 400 rfl rfl (fun B Cl Z hZ hB hC => ?_)
  repeat' (first | ((conv => whnf); refine ⟨fun _ => ?_, fun _ => ?_⟩) | ((conv => whnf); refine ⟨?_, ?_⟩) | fail)
  all_goals (try simp only [c_lt, c_gt, c_le, c_ge, c_eq, c_ne, b2_z, b2_nz, b2_i, Classical.not_not, t0, t1, Nat.reduceMod, Nat.reduceDiv, Int.reduceAdd, Int.reduceNeg, Nat.reduceAdd, kv_0, kv_1, kv_2, kv_3, kv_4, kv_5, kv_6, kv_7, kv_10, kv_16, kv_30, kv_41, kv_80, kc_0, kc_1, kc_2, kc_3, kc_4, kc_5, kc_6, kc_7, kc_10, kc_16, kc_30, kc_41, kc_80, e, e2, x_eq] at *)
  all_goals try omega
  have z1 := lns0_l x b own
  refine hC _ _ _ _ _ (sp_begins (c := 80) h (by omega)) (fun v M1 q => ?_)
  obtain ⟨rfl, q2, q3⟩ := q
  (conv => whnf)
  rw [nI_i1 dd]
  refine hC _ _ _ _ _ (sp_leans0 (k := 6) (by omega) ho q2 (by omega) (by simp; omega) (by omega)) (fun v M2 r => ?_)
  obtain ⟨rfl, r2, r3⟩ := r
  have ho2 : M2.1 7 4 = nI own := r2.2.2.1
  (conv => whnf)
  rw [nI_i1 dd]
  simp only [Nat.reduceMod, show ∀ M : Mem, fval M 7 4 (nth 0 [43, 0, 44, 0, 0, 0] 4) = .int (M.1 7 4) from fun _ => rfl, ho2]
  refine hC _ _ _ _ _ (sp_cuts (k := own) (x := cI 2) ho ho r2 (by simp; omega) (by omega)) (fun v M3 t => ?_)
  obtain ⟨rfl, t2, t3⟩ := t
  (conv => whnf)
  have e9 : lns k x b own = ((lns0 x b own).1 + (cts own (cI 2) b own).1, 80 :: ((lns0 x b own).2 ++ (cts own (cI 2) b own).2)) := by unfold lns; rw [if_neg (by omega), if_neg (by omega), if_pos h1]
  refine hZ _ _ ⟨v_eq ?_, ?_, FA_trans q3 (FA_trans r3 t3)⟩
  · rw [e9]
  · rw [e9]; rw [List.append_assoc, List.append_assoc] at t2; exact t2
theorem sp_leans {d own b k dd : Nat} {M : Mem} {tr : List Nat} {x : Int32} (hk : k < 8) (ho : own < 8) (h : RA M own b tr) (hl : tr.length + 11 ≤ 24) (hd : dd + 5 < 16) : Call (d + 7) 9 [.ref 7, .int (nI k), .int x, .int (nI dd)] M (AP M own b tr (lns k x b own)) := by
  by_cases h7 : k = 7
  · exact sp_leans7 (d := d + 1) hk ho h h7 hl (by omega)
  by_cases h3 : k = 3 ∨ k = 5
  · exact sp_leans35 hk ho h h3 (by omega) (by omega)
  by_cases h2 : k = 2
  · have := sp_leans2 (d := d + 1) (x := x) hk ho h h2 (by omega) (show dd + 4 < 16 by omega)
    have e9 : lns k x b own = lns2 x b own := by unfold lns; rw [if_pos h2]
    rw [e9]; exact this
  · have := sp_leans0 (d := d + 2) (x := x) hk ho h ⟨h2, by omega, by omega, h7⟩ (by omega) (show dd + 3 < 16 by omega)
    have e9 : lns k x b own = lns0 x b own := by unfold lns; rw [if_neg h2, if_neg h3, if_neg h7]
    rw [e9]; exact this
theorem sp_tells0 {d own b k dd : Nat} {M : Mem} {tr : List Nat} {x : Int32} (hk : k < 8) (ho : own < 8) (h : RA M own b tr) (h1 : ¬ k = 4 ∧ ¬ k = 5) (hl : tr.length + 18 ≤ 24) (hd : dd + 6 < 16) : Call (d + 8) 11 [.ref 7, .int (nI k), .int x, .int (nI dd)] M (AP M own b tr (tls0 x b own)) := by
  have e := nI_v (n := k) (by omega)
  have e2 := nI_v (n := dd) (by omega)
  refine call_run 400 rfl rfl (fun B Cl Z hZ hB hC => ?_)
  repeat' (first | ((conv => whnf); refine ⟨fun _ => ?_, fun _ => ?_⟩) | ((conv => whnf); refine ⟨?_, ?_⟩) | fail)
  all_goals (try simp only [c_lt, c_gt, c_le, c_ge, c_eq, c_ne, b2_z, b2_nz, b2_i, Classical.not_not, t0, t1, Nat.reduceMod, Nat.reduceDiv, Int.reduceAdd, Int.reduceNeg, Nat.reduceAdd, kv_0, kv_1, kv_2, kv_3, kv_4, kv_5, kv_16, kv_50, kv_61, kc_0, kc_1, kc_2, kc_3, kc_4, kc_5, kc_16, kc_50, kc_61, e, e2, x_eq] at *)
  all_goals try omega
  have z1 := lns_l own x b own
  refine hC _ _ _ _ _ (sp_begins (c := 2) h (by omega)) (fun v M1 q => ?_)
  obtain ⟨rfl, q2, q3⟩ := q
  have ho2 : M1.1 7 4 = nI own := q2.2.2.1
  (conv => whnf)
  rw [nI_i1 dd]
  simp only [Nat.reduceMod, show ∀ M : Mem, fval M 7 4 (nth 0 [43, 0, 44, 0, 0, 0] 4) = .int (M.1 7 4) from fun _ => rfl, ho2]
  refine hC _ _ _ _ _ (sp_leans (k := own) (x := x) ho ho q2 (by simp; omega) (by omega)) (fun v M2 r => ?_)
  obtain ⟨rfl, r2, r3⟩ := r
  have ho3 : M2.1 7 4 = nI own := r2.2.2.1
  (conv => whnf)
  rw [nI_i1 dd]
  simp only [Nat.reduceMod, show ∀ M : Mem, fval M 7 4 (nth 0 [43, 0, 44, 0, 0, 0] 4) = .int (M.1 7 4) from fun _ => rfl, ho3]
  refine hC _ _ _ _ _ (sp_cuts (d := d + 2) (k := own) (x := cI 1) ho ho r2 (by simp; omega) (by omega)) (fun v M3 t => ?_)
  obtain ⟨rfl, t2, t3⟩ := t
  (conv => whnf)
  refine hZ _ _ ⟨rfl, ?_, FA_trans q3 (FA_trans r3 t3)⟩
  rw [List.append_assoc, List.append_assoc] at t2; exact t2
theorem sp_tells4 {d own b k dd : Nat} {M : Mem} {tr : List Nat} {x : Int32} (hk : k < 8) (ho : own < 8) (h : RA M own b tr) (h1 : k = 4) (hl : tr.length + 19 ≤ 24) (hd : dd + 7 < 16) : Call (d + 9) 11 [.ref 7, .int (nI k), .int x, .int (nI dd)] M (AP M own b tr (tls k x b own)) := by
  have e := nI_v (n := k) (by omega)
  have e2 := nI_v (n := dd) (by omega)
  refine call_run 400 rfl rfl (fun B Cl Z hZ hB hC => ?_)
  repeat' (first | ((conv => whnf); refine ⟨fun _ => ?_, fun _ => ?_⟩) | ((conv => whnf); refine ⟨?_, ?_⟩) | fail)
  all_goals (try simp only [c_lt, c_gt, c_le, c_ge, c_eq, c_ne, b2_z, b2_nz, b2_i, Classical.not_not, t0, t1, Nat.reduceMod, Nat.reduceDiv, Int.reduceAdd, Int.reduceNeg, Nat.reduceAdd, kv_0, kv_1, kv_2, kv_3, kv_4, kv_5, kv_16, kv_50, kv_61, kc_0, kc_1, kc_2, kc_3, kc_4, kc_5, kc_16, kc_50, kc_61, e, e2, x_eq] at *)
  all_goals try omega
  refine hC _ _ _ _ _ (sp_begins (c := 50) h (by omega)) (fun v M1 q => ?_)
  obtain ⟨rfl, q2, q3⟩ := q
  (conv => whnf)
  rw [nI_i1 dd]
  refine hC _ _ _ _ _ (sp_tells0 (k := 1) (by omega) ho q2 (by omega) (by simp; omega) (by omega)) (fun v M2 r => ?_)
  obtain ⟨rfl, r2, r3⟩ := r
  (conv => whnf)
  have e9 : tls k x b own = ((tls0 x b own).1 ^^^ cI 5, 50 :: (tls0 x b own).2) := by unfold tls; rw [if_pos h1]
  refine hZ _ _ ⟨v_eq ?_, ?_, FA_trans q3 r3⟩
  · rw [e9]
  · rw [e9]; rw [List.append_assoc] at r2; exact r2
theorem sp_tells5 {d own b k dd : Nat} {M : Mem} {tr : List Nat} {x : Int32} (hk : k < 8) (ho : own < 8) (h : RA M own b tr) (h1 : k = 5) (hl : tr.length + 19 ≤ 24) (hd : dd + 7 < 16) : Call (d + 9) 11 [.ref 7, .int (nI k), .int x, .int (nI dd)] M (AP M own b tr (tls k x b own)) := by
  have e := nI_v (n := k) (by omega)
  have e2 := nI_v (n := dd) (by omega)
  refine call_run 400 rfl rfl (fun B Cl Z hZ hB hC => ?_)
  repeat' (first | ((conv => whnf); refine ⟨fun _ => ?_, fun _ => ?_⟩) | ((conv => whnf); refine ⟨?_, ?_⟩) | fail)
  all_goals (try simp only [c_lt, c_gt, c_le, c_ge, c_eq, c_ne, b2_z, b2_nz, b2_i, Classical.not_not, t0, t1, Nat.reduceMod, Nat.reduceDiv, Int.reduceAdd, Int.reduceNeg, Nat.reduceAdd, kv_0, kv_1, kv_2, kv_3, kv_4, kv_5, kv_16, kv_50, kv_61, kc_0, kc_1, kc_2, kc_3, kc_4, kc_5, kc_16, kc_50, kc_61, e, e2, x_eq] at *)
  all_goals try omega
  refine hC _ _ _ _ _ (sp_begins (c := 61) h (by omega)) (fun v M1 q => ?_)
  obtain ⟨rfl, q2, q3⟩ := q
  (conv => whnf)
  rw [nI_i1 dd]
  refine hC _ _ _ _ _ (sp_tells0 (k := 3) (by omega) ho q2 (by omega) (by simp; omega) (by omega)) (fun v M2 r => ?_)
  obtain ⟨rfl, r2, r3⟩ := r
  (conv => whnf)
  have e9 : tls k x b own = ((tls0 x b own).1 + cI 1, 61 :: (tls0 x b own).2) := by unfold tls; rw [if_neg (by omega), if_pos h1]
  refine hZ _ _ ⟨v_eq ?_, ?_, FA_trans q3 r3⟩
  · rw [e9]
  · rw [e9]; rw [List.append_assoc] at r2; exact r2
theorem sp_tells {d own b k dd : Nat} {M : Mem} {tr : List Nat} {x : Int32} (hk : k < 8) (ho : own < 8) (h : RA M own b tr) (hl : tr.length + 19 ≤ 24) (hd : dd + 7 < 16) : Call (d + 9) 11 [.ref 7, .int (nI k), .int x, .int (nI dd)] M (AP M own b tr (tls k x b own)) := by
  by_cases h4 : k = 4
  · exact sp_tells4 hk ho h h4 hl hd
  by_cases h5 : k = 5
  · exact sp_tells5 hk ho h h5 hl hd
  · have := sp_tells0 (d := d + 1) (x := x) hk ho h ⟨h4, h5⟩ (by omega) (show dd + 6 < 16 by omega)
    have e9 : tls k x b own = tls0 x b own := by unfold tls; rw [if_neg h4, if_neg h5]
    rw [e9]; exact this
