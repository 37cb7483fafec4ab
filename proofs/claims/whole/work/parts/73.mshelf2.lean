/-! the reference: rows made, shifted; bodies taken, counts -/
theorem zero_loop {d i : Nat} (hi : i < 6) {x t n : Int32} (hx : x = nI i) : ∀ (m k : Nat) (M : Mem), k + m = 60 → BodyK (d + 1) 266 54 [(0, .ref 55), (1, .int x), (2, .int t), (3, .int n), (4, .int (nI (60 * i + k)))] [] M (fun v M' => v = some (.int (cI 1)) ∧ FrM [97] [] M M' ∧ ∀ j, M'.2 97 j = if 60 * i + k ≤ j ∧ j < 60 * i + 60 then 0 else M.2 97 j) := by
  subst hx
  have e60 : cI 60 * nI i + cI 60 = nI (60 * i + 60) := ix60 i 60
  have ev := nI_v (n := 60 * i + 60) (by omega)
  intro m
  induction m with
  | zero =>
    intro k M hk
    obtain rfl : k = 60 := by omega
    refine body_run 400 rfl (fun B Cl Z hZ hB hC => ?_)
    (conv => whnf); refine ⟨fun b => ?_, fun b => ?_⟩
    · conv => whnf
      exact hZ _ _ ⟨rfl, FrM_refl, fun j => by rw [if_neg (by omega)]⟩
    · replace b : ¬ cnd .ge (nI (60 * i + 60)) (cI 60 * nI i + cI 60) := b
      rw [e60, c_ge] at b
      omega
  | succ m ih =>
    intro k M hk
    have ek := nI_v (n := 60 * i + k) (by omega)
    refine body_run 400 rfl (fun B Cl Z hZ hB hC => ?_)
    (conv => whnf); refine ⟨fun b => ?_, fun b => ?_⟩
    · replace b : cnd .ge (nI (60 * i + k)) (cI 60 * nI i + cI 60) := b
      rw [e60, c_ge, ev, ek] at b
      omega
    (conv => whnf)
    refine ⟨nI_vp (by omega) (by decide), ?_⟩
    (conv => whnf)
    rw [nI_c (by omega)]
    refine hB _ _ _ _ (Body_lv (Body_mono (ih (k + 1) (mL M 97 (60 * i + k) (Int64.ofNat (0 : Fin 2).val)) (by omega)) (fun v M' q => ?_)) ⟨rfl, rfl, rfl, rfl, v_eq (nI_i1 _), trivial⟩)
    obtain ⟨rfl, q2, q3⟩ := q
    refine ⟨rfl, FrM_trans (FrM_l FrM_refl (by decide)) q2, fun j => ?_⟩
    rw [q3, mL_same]
    show (if _ then 0 else if j = 60 * i + k then _ else M.2 97 j) = _
    by_cases z : 60 * i + (k + 1) ≤ j ∧ j < 60 * i + 60
    · rw [if_pos z, if_pos (by omega)]
    · rw [if_neg z]
      by_cases y : j = 60 * i + k
      · rw [if_pos y, if_pos (by omega)]; rfl
      · rw [if_neg y, if_neg (by omega)]
theorem m_row {d : Nat} {M : Mem} {s : St} {x t n : Int32} (h : RM M s) (hv : inv s) : Call (d + 3) 266 [.ref 55, .int x, .int t, .int n] M (QP M (.int (aRow s x t n).1) (aRow s x t n).2) := by
  obtain ⟨h1, h2, h3, h4, h5, h6, h7, h8, h9, h10⟩ := id h
  have out : ¬ ((0 ≤ x.toInt ∧ x.toInt < 6) ∧ (0 ≤ t.toInt ∧ t.toInt ≤ 4) ∧ n.toInt ≤ 60) → aRow s x t n = (cI (-1), s) := fun z => if_neg z
  refine call_run 400 rfl rfl (fun B Cl Z hZ hB hC => ?_)
  (conv => whnf); refine ret_k hC (m_isShelf) ?_
  (conv => whnf); refine ⟨fun a => ?_, fun a => ?_⟩
  · rw [b2_z] at a
    rw [out (fun z => a z.1)] at hZ
    conv => whnf
    exact hZ _ _ (QP_same h FrM_refl)
  rw [b2_z] at a
  have a := Classical.not_not.mp a
  (conv => whnf); refine ret_k hC (m_in) ?_
  rw [kv_0, kv_4]
  (conv => whnf); refine ⟨fun b => ?_, fun b => ?_⟩
  · rw [b2_z] at b
    rw [out (fun z => b z.2.1)] at hZ
    conv => whnf
    exact hZ _ _ (QP_same h FrM_refl)
  rw [b2_z] at b
  have b := Classical.not_not.mp b
  (conv => whnf); refine ⟨fun g => ?_, fun g => ?_⟩
  case' refine_2 =>
    simp only [c_lt, c_gt, c_le, c_ge, c_eq, c_ne, b2_z, b2_nz, b2_i, Classical.not_not, t0, t1, Nat.reduceMod, Nat.reduceDiv, Int.reduceAdd, Int.reduceNeg, Nat.reduceAdd, kv_m14, kv_m2, kv_m1, kv_0, kv_1, kv_4, kv_60, kc_0, kc_1, kc_4, kc_60] at g
    rw [out (by omega)] at hZ
    conv => whnf
    exact hZ _ _ (QP_same h FrM_refl)
  simp only [c_lt, c_gt, c_le, c_ge, c_eq, c_ne, b2_z, b2_nz, b2_i, Classical.not_not, t0, t1, Nat.reduceMod, Nat.reduceDiv, Int.reduceAdd, Int.reduceNeg, Nat.reduceAdd, kv_m14, kv_m2, kv_m1, kv_0, kv_1, kv_4, kv_60, kc_0, kc_1, kc_4, kc_60] at g
  (conv => whnf); refine ⟨fun k => ?_, fun k => ?_⟩
  case' refine_2 =>
    simp only [c_lt, c_gt, c_le, c_ge, c_eq, c_ne, b2_z, b2_nz, b2_i, Classical.not_not, t0, t1, Nat.reduceMod, Nat.reduceDiv, Int.reduceAdd, Int.reduceNeg, Nat.reduceAdd, kv_m14, kv_m2, kv_m1, kv_0, kv_1, kv_4, kv_60, kc_0, kc_1, kc_4, kc_60] at k
    have e9 : aRow s x t n = (cI (-14), s) := by
      unfold aRow
      rw [if_pos ⟨a, b, g⟩, if_pos (by omega)]
    rw [e9] at hZ
    conv => whnf
    exact hZ _ _ (QP_same h FrM_refl)
  simp only [c_lt, c_gt, c_le, c_ge, c_eq, c_ne, b2_z, b2_nz, b2_i, Classical.not_not, t0, t1, Nat.reduceMod, Nat.reduceDiv, Int.reduceAdd, Int.reduceNeg, Nat.reduceAdd, kv_m14, kv_m2, kv_m1, kv_0, kv_1, kv_4, kv_60, kc_0, kc_1, kc_4, kc_60] at k
  obtain ⟨i, rfl, ei, hi⟩ := to_nI a.1
  obtain ⟨tt, rfl, et, ht⟩ := to_nI b.1
  obtain ⟨m, rfl, em, hm⟩ := to_nI (x := n) (by omega)
  have e9 : aRow s (nI i) (nI tt) (nI m) = (cI 1, wSh s (upD (sSh s) i (some (.inr (tt, List.replicate m 0))))) := by
    unfold aRow
    rw [if_pos ⟨a, b, g⟩, if_neg (by omega), ei, et, em]
    rfl
  rw [e9] at hB
  have vi : vp_in (nI i) 6 := nI_vp (by omega) (by decide)
  have hi6 : i < 6 := by omega
  (conv => whnf)
  refine ⟨vi, ?_⟩
  (conv => whnf)
  refine ⟨vi, ?_⟩
  (conv => whnf)
  rw [nI_c hi]
  have hf0 : FrM [95, 96] [] M (mI (mI M 95 i (cI (-2) - nI tt)) 96 i (nI m)) := FrM_a (FrM_a FrM_refl (by decide) (by decide)) (by decide) (by decide)
  have e95 : (mI (mI M 95 i (cI (-2) - nI tt)) 96 i (nI m)).1 95 = upd (M.1 95) i (cI (-2) - nI tt) := rfl
  have e96 : (mI (mI M 95 i (cI (-2) - nI tt)) 96 i (nI m)).1 96 = upd (M.1 96) i (nI m) := rfl
  have e97 : (mI (mI M 95 i (cI (-2) - nI tt)) 96 i (nI m)).2 97 = M.2 97 := rfl
  generalize (mI (mI M 95 i (cI (-2) - nI tt)) 96 i (nI m)) = M1 at hf0 e95 e96 e97 ⊢
  have eS : cI 60 * nI i = nI (60 * i + 0) := by rw [show cI 60 = nI 60 from rfl, nI_mul]; rfl
  refine hB _ _ _ _ (Body_lv (Body_mono (zero_loop (d := d + 2) hi6 (x := nI i) (t := nI tt) (n := nI m) rfl 60 0 M1 rfl) (fun v M2 q => ?_)) ⟨rfl, rfl, rfl, rfl, v_eq eS, trivial⟩)
  obtain ⟨rfl, q2, q3⟩ := q
  have hf : FrM [95, 96, 97] [] M M2 := FrM_trans (FrM_sub hf0 (by decide) (by decide)) (FrM_sub q2 (by decide) (by decide))
  have f95 : M2.1 95 = upd (M.1 95) i (cI (-2) - nI tt) := by rw [FrM_c q2 (by decide) (by decide)]; exact e95
  have f96 : M2.1 96 = upd (M.1 96) i (nI m) := by rw [FrM_c q2 (by decide) (by decide)]; exact e96
  refine ⟨rfl, RM_st h hf (RMk_fr h1 hf (by decide) (by decide)) (RMn_f h2 hf (by decide)) (RMd_f h4 hf (by decide)) (RMi_f h5 hf (by decide) (by decide)) (RMt_f h6 hf (by decide) (by decide)) (RMb_f h7 hf (by decide) (by decide)) (RMr_f h8 hf (by decide) (by decide)) (RMs_set h9 (fun j hj => (hv.2.2.2.1 j hj).2) (fun j _ z => ?_) (fun j _ z => ?_) (fun j _ z k hk => ?_) ⟨?_, ?_, fun j x q => ?_⟩) (RMc_f h10 hf (by decide) (by decide)) (RMl_f h3 hf (by decide) (by decide)), Fr_sub hf.1 (by decide)⟩
  · rw [f95]; exact if_neg z
  · rw [f96]; exact if_neg z
  · rw [q3, if_neg (by omega), e97]
  · rw [f95]; exact if_pos rfl
  · rw [f96, List.length_replicate]; exact if_pos rfl
  · have hj : j < m := by
      rcases Nat.lt_or_ge j m with w | w
      · exact w
      · rw [List.getElem?_eq_none (by rw [List.length_replicate]; exact w)] at q; cases q
    rw [List.getElem?_replicate, if_pos hj] at q
    cases q
    rw [q3, if_pos (by omega)]
def unM (kd up : Int32) : Prop := up.toInt = 0 ∨ kd.toInt = up.toInt ∨ (up.toInt = 1 ∧ kd.toInt = 4) ∨ (up.toInt = 2 ∧ (kd.toInt = 3 ∨ kd.toInt = 5)) ∨ (up.toInt = 3 ∧ kd.toInt = 5) ∨ (up.toInt = 6 ∧ kd.toInt = 7)
theorem m_isUnder {d : Nat} {M : Mem} {kd up : Int32} : Call (d + 1) 249 [.int kd, .int up] M (fun v M' => M' = M ∧ ((unM kd up ∧ v = some (.int (cI 1))) ∨ (¬ unM kd up ∧ v = some (.int (cI 0))))) := by
  refine call_run 400 rfl rfl (fun B Cl Z hZ hB hC => ?_)
  repeat' (first | ((conv => whnf); refine ⟨fun _ => ?_, fun _ => ?_⟩) | ((conv => whnf); refine ⟨?_, ?_⟩) | fail)
  all_goals (try simp only [c_lt, c_gt, c_le, c_ge, c_eq, c_ne, b2_z, b2_nz, b2_i, Classical.not_not, t0, t1, Nat.reduceMod, Nat.reduceDiv, Int.reduceAdd, Int.reduceNeg, Nat.reduceAdd, kv_0, kv_1, kv_2, kv_3, kv_4, kv_5, kv_6, kv_7, kc_0, kc_1, kc_2, kc_3, kc_4, kc_5, kc_6, kc_7] at *)
  all_goals first
    | exact Or.inl rfl
    | exact Or.inr rfl
    | exact hZ _ _ ⟨rfl, Or.inl ⟨by unfold unM; omega, rfl⟩⟩
    | exact hZ _ _ ⟨rfl, Or.inr ⟨by unfold unM; omega, rfl⟩⟩
theorem un_dec0 : ((List.range 8).all fun k => (List.range 8).all fun u => decide (upN (nI u) 8 (nI k) = nI u) == (decide (u = 0) || (decide (k = u) || ((decide (u = 1) && decide (k = 4)) || ((decide (u = 2) && (decide (k = 3) || decide (k = 5))) || ((decide (u = 3) && decide (k = 5)) || (decide (u = 6) && decide (k = 7)))))))) = true := by decide +kernel
theorem un_dec (k : Nat) (hk : k < 8) (u : Nat) (hu : u < 8) : (upN (nI u) 8 (nI k) = nI u ↔ (u = 0 ∨ k = u ∨ (u = 1 ∧ k = 4) ∨ (u = 2 ∧ (k = 3 ∨ k = 5)) ∨ (u = 3 ∧ k = 5) ∨ (u = 6 ∧ k = 7))) := by
  have h := List.all_eq_true.mp (List.all_eq_true.mp un_dec0 k (List.mem_range.mpr hk)) u (List.mem_range.mpr hu)
  have h2 := eq_of_beq h
  rw [← decide_eq_true_iff (p := upN (nI u) 8 (nI k) = nI u), h2]
  simp
theorem un_iff {k u : Nat} (hk : k < 8) (hu : u < 8) : unM (nI k) (nI u) ↔ upN (nI u) 8 (nI k) = nI u := by
  rw [un_dec k hk u hu]
  unfold unM
  rw [nI_v (by omega), nI_v (by omega)]
  omega
theorem m_taken {d : Nat} {M : Mem} {s : St} {x k : Int32} (h : RM M s) (hv : inv s) : Call (d + 3) 271 [.ref 55, .int x, .int k] M (QP M (.int (aTaken s x k)) s) := by
  have out : ¬ ((0 ≤ x.toInt ∧ x.toInt < 6) ∧ 0 ≤ k.toInt ∧ k.toInt ≤ 7) → aTaken s x k = cI (-1) := fun z => if_neg z
  refine call_run 400 rfl rfl (fun B Cl Z hZ hB hC => ?_)
  (conv => whnf); refine ret_k hC (m_isShelf) ?_
  (conv => whnf); refine ⟨fun a => ?_, fun a => ?_⟩
  · rw [b2_z] at a
    rw [out (fun z => a z.1)] at hZ
    conv => whnf
    exact hZ _ _ (QP_same h FrM_refl)
  rw [b2_z] at a
  have a := Classical.not_not.mp a
  (conv => whnf); refine ret_k hC (m_in) ?_
  rw [kv_0, kv_7]
  (conv => whnf); refine ⟨fun b => ?_, fun b => ?_⟩
  case' refine_2 =>
    rw [b2_nz] at b
    rw [out (fun z => b z.2)] at hZ
    conv => whnf
    exact hZ _ _ (QP_same h FrM_refl)
  rw [b2_nz] at b
  obtain ⟨i, rfl, ei, hi⟩ := to_nI a.1
  obtain ⟨u, rfl, eu, hu⟩ := to_nI b.1
  have e8 : aTaken s (nI i) (nI u) = (match sSh s i with
      | none => cI (-11)
      | some (.inr _) => cI (-12)
      | some (.inl b) => if upN (nI u) 8 (nI ((sKs s).getD b 0)) = nI u then nI ((sKs s).getD b 0) else cI (-12)) := by
    unfold aTaken
    rw [if_pos ⟨a, b⟩, ei]
    rfl
  rw [e8] at hZ
  have vi : vp_in (nI i) 6 := nI_vp (by omega) (by decide)
  have ec := nI_c hi
  rcases hv.sv h (show i < 6 by omega) with ⟨q1, q2⟩ | ⟨bb, q1, q2, q3, q4⟩ | ⟨t, l, q1, q2, q3, q4, q5, q6⟩
  · rw [q1] at hZ
    (conv => whnf)
    refine ⟨vi, ?_⟩
    (conv => whnf); refine ⟨fun g => ?_, fun g => ?_⟩
    · replace g : cnd .ne (M.1 95 (nI i).toNatClampNeg) (cI (-1)) := g
      rw [ec, c_ne, q2, kv_m1] at g
      omega
    · conv => whnf
      exact hZ _ _ (QP_same h FrM_refl)
  · have hbl : bb < (sKs s).length := by
      have := (hv.2.2.2.1 i (by omega)).1
      rw [q1] at this
      exact this
    have hkd := h.2.2.2.2.2.2.1.2 bb _ (at_get hbl)
    have hk8 := hv.2.2.2.2.1.2 bb _ (at_get hbl)
    rw [q1] at hZ
    dsimp only at hZ
    generalize (sKs s).getD bb 0 = kd at hZ hkd hk8
    have vb : vp_in (nI bb) 50 := nI_vp q2 (by decide)
    have eb := nI_c (n := bb) (by omega)
    (conv => whnf)
    refine ⟨vi, ?_⟩
    (conv => whnf); refine ⟨fun g => ?_, fun g => ?_⟩
    case' refine_2 =>
      replace g : ¬ cnd .ne (M.1 95 (nI i).toNatClampNeg) (cI (-1)) := g
      rw [ec, c_ne, q4, kv_m1] at g
      omega
    (conv => whnf)
    refine ⟨vi, ?_⟩
    (conv => whnf); refine ⟨fun w => ?_, fun w => ?_⟩
    · replace w : cnd .lt (M.1 95 (nI i).toNatClampNeg) 0 := w
      rw [ec, c_lt, q4, t0] at w
      omega
    (conv => whnf)
    refine ⟨vi, ?_⟩
    (conv => whnf)
    rw [ec, q3]
    refine ⟨vb, ?_⟩
    (conv => whnf)
    rw [eb, hkd]
    refine hC _ _ _ _ _ (m_isUnder) (fun v M1 p => ?_)
    obtain ⟨rfl, ⟨p2, rfl⟩ | ⟨p2, rfl⟩⟩ := p
    · rw [if_pos ((un_iff hk8 (by omega)).mp p2)] at hZ
      (conv => whnf); refine ⟨fun z => absurd z (by rw [c_eq]; decide), fun _ => ?_⟩
      (conv => whnf)
      refine ⟨vi, ?_⟩
      (conv => whnf)
      rw [ec, q3]
      refine ⟨vb, ?_⟩
      conv => whnf
      rw [eb, hkd]
      exact hZ _ _ (QP_same h FrM_refl)
    · rw [if_neg (fun z => p2 ((un_iff hk8 (by omega)).mpr z))] at hZ
      (conv => whnf); refine ⟨fun _ => ?_, fun z => absurd rfl z⟩
      conv => whnf
      exact hZ _ _ (QP_same h FrM_refl)
  · rw [q1] at hZ
    (conv => whnf)
    refine ⟨vi, ?_⟩
    (conv => whnf); refine ⟨fun g => ?_, fun g => ?_⟩
    case' refine_2 =>
      replace g : ¬ cnd .ne (M.1 95 (nI i).toNatClampNeg) (cI (-1)) := g
      rw [ec, c_ne, q5, kv_m1] at g
      omega
    (conv => whnf)
    refine ⟨vi, ?_⟩
    (conv => whnf); refine ⟨fun w => ?_, fun w => ?_⟩
    case' refine_2 =>
      replace w : ¬ cnd .lt (M.1 95 (nI i).toNatClampNeg) 0 := w
      rw [ec, c_lt, q5, t0] at w
      omega
    conv => whnf
    exact hZ _ _ (QP_same h FrM_refl)
