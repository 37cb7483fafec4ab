/-! the reference: bodies, the tape, counts, days, the image -/
theorem m_body {d : Nat} {M : Mem} {s : St} {x : Int32} (h : RM M s) (hv : inv s) : Call (d + 2) 248 [.ref 55, .int x] M (QP M (.int (aBody s x).1) (aBody s x).2) := by
  obtain ⟨h1, h2, h3, h4, h5, h6, h7, h8, h9, h10⟩ := id h
  have h50 := hv.2.2.2.2.1.1
  have e := nI_v (n := (sKs s).length) (by omega)
  refine call_run 400 rfl rfl (fun B Cl Z hZ hB hC => ?_)
  (conv => whnf); refine ret_k hC (m_in) ?_
  rw [kv_0, kv_7]
  (conv => whnf); refine ⟨fun a => ?_, fun a => ?_⟩
  case' refine_2 =>
    rw [b2_nz] at a
    have e9 : aBody s x = (cI (-1), s) := if_neg (by omega)
    rw [e9] at hZ
    conv => whnf
    exact hZ _ _ (QP_same h FrM_refl)
  rw [b2_nz] at a
  obtain ⟨i, rfl, ei, hi⟩ := to_nI a.1
  have e8 : aBody s (nI i) = (if (sKs s).length = 50 then (cI (-3), s) else (nI (sKs s).length, wKs s (sKs s ++ [i]))) := by
    unfold aBody
    rw [if_pos (by omega), ei]
    rfl
  rw [e8] at hZ
  (conv => whnf); refine ⟨fun b => ?_, fun b => ?_⟩
  · replace b : cnd .ne (M.1 55 58) (cI 50) := b
    rw [h7.1, c_ne, e, kv_50] at b
    rw [if_neg (by omega)] at hZ
    have vp : vp_in (M.1 55 58) 50 := by rw [h7.1]; exact nI_vp (by omega) (by decide)
    (conv => whnf)
    refine ⟨vp, ?_⟩
    (conv => whnf)
    show Z (some (.int (M.1 55 58 + cI 1 - cI 1))) (mI (mI M 93 (M.1 55 58).toNatClampNeg (nI i)) 55 58 (M.1 55 58 + cI 1))
    rw [h7.1, nI_c (by omega)]
    have hf : FrM [93] [58] M (mI (mI M 93 (sKs s).length (nI i)) 55 58 (nI (sKs s).length + cI 1)) := FrM_s (FrM_a FrM_refl (by decide) (by decide)) (by decide)
    refine hZ _ _ ⟨v_eq (Int32.add_sub_cancel _ _), RM_st h hf (RMk_fr h1 hf (by decide) (by decide)) (RMn_f h2 hf (by decide)) (RMd_f h4 hf (by decide)) (RMi_f h5 hf (by decide) (by decide)) (RMt_f h6 hf (by decide) (by decide)) ⟨?_, fun j k hk => ?_⟩ (RMr_f h8 hf (by decide) (by decide)) (RMs_f h9 hf (by decide)) (RMc_f h10 hf (by decide) (by decide)) (RMl_f h3 hf (by decide) (by decide)), Fr_sub hf.1 (by decide)⟩
    · rw [mI_1]
      show _ = nI (sKs s ++ [i]).length
      rw [List.length_append]
      exact nI_1 _
    · replace hk : (sKs s ++ [i])[j]? = some k := hk
      rw [mI_ne _ _ _ (by decide), mI_at]
      rcases Nat.lt_or_ge j (sKs s).length with z | z
      · rw [List.getElem?_append_left z] at hk
        rw [if_neg (by omega)]
        exact h7.2 j k hk
      · rw [List.getElem?_append_right z] at hk
        rcases Nat.eq_zero_or_pos (j - (sKs s).length) with w | w
        · rw [w] at hk
          cases hk
          rw [if_pos ⟨rfl, by omega⟩]
        · rw [List.getElem?_eq_none (by show 1 ≤ _; omega)] at hk
          cases hk
  · replace b : ¬ cnd .ne (M.1 55 58) (cI 50) := b
    rw [h7.1, c_ne, e, kv_50] at b
    rw [if_pos (by omega)] at hZ
    conv => whnf
    exact hZ _ _ (QP_same h FrM_refl)
theorem m_feed {d : Nat} {M : Mem} {s : St} {x : Int32} (h : RM M s) (hv : inv s) : Call (d + 2) 178 [.ref 55, .int x] M (QP M (.int (aFeed s x).1) (aFeed s x).2) := by
  obtain ⟨h1, h2, h3, h4, h5, h6, h7, h8, h9, h10⟩ := id h
  have h120 := hv.2.2.2.2.2.2.1.1
  have e := nI_v (n := (sTp s).length) (by omega)
  refine call_run 400 rfl rfl (fun B Cl Z hZ hB hC => ?_)
  (conv => whnf); refine ret_k hC (m_in) ?_
  rw [kv_0, kv_255]
  (conv => whnf); refine ⟨fun a => ?_, fun a => ?_⟩
  case' refine_2 =>
    rw [b2_nz] at a
    have e9 : aFeed s x = (cI (-1), s) := if_neg (by omega)
    rw [e9] at hZ
    conv => whnf
    exact hZ _ _ (QP_same h FrM_refl)
  rw [b2_nz] at a
  obtain ⟨i, rfl, ei, hi⟩ := to_nI a.1
  have e8 : aFeed s (nI i) = (if (sTp s).length = 120 then (cI (-3), s) else (nI ((sTp s).length + 1), wTp s (sTp s ++ [i]))) := by
    unfold aFeed
    rw [if_pos (by omega), ei]
    rfl
  rw [e8] at hZ
  (conv => whnf); refine ⟨fun b => ?_, fun b => ?_⟩
  · replace b : cnd .ne (M.1 55 16) (cI 120) := b
    rw [h6.1, c_ne, e, kv_120] at b
    rw [if_neg (by omega)] at hZ
    have vp : vp_in (M.1 55 16) 120 := by rw [h6.1]; exact nI_vp (by omega) (by decide)
    (conv => whnf)
    refine ⟨vp, ?_⟩
    (conv => whnf)
    show Z (some (.int (M.1 55 16 + cI 1))) (mI (mI M 67 (M.1 55 16).toNatClampNeg (vp_nar .byte (nI i).toInt8.toInt32)) 55 16 (M.1 55 16 + cI 1))
    rw [h6.1, nI_c (by omega), nI_i1]
    have hf : FrM [67] [16] M (mI (mI M 67 (sTp s).length (vp_nar .byte (nI i).toInt8.toInt32)) 55 16 (nI ((sTp s).length + 1))) := FrM_s (FrM_a FrM_refl (by decide) (by decide)) (by decide)
    have hnar : vp_nar .byte (nI i).toInt8.toInt32 = (nI i).toInt8.toInt32 := by
      show (nI i).toInt8.toInt32.toInt8.toInt32 = _
      rw [Int8.toInt8_toInt32]
    refine hZ _ _ ⟨rfl, RM_st h hf (RMk_fr h1 hf (by decide) (by decide)) (RMn_f h2 hf (by decide)) (RMd_f h4 hf (by decide)) (RMi_f h5 hf (by decide) (by decide)) ⟨?_, fun j k hk => ?_⟩ (RMb_f h7 hf (by decide) (by decide)) (RMr_f h8 hf (by decide) (by decide)) (RMs_f h9 hf (by decide)) (RMc_f h10 hf (by decide) (by decide)) (RMl_f h3 hf (by decide) (by decide)), Fr_sub hf.1 (by decide)⟩
    · rw [mI_1]
      show _ = nI (sTp s ++ [i]).length
      rw [List.length_append]
      rfl
    · replace hk : (sTp s ++ [i])[j]? = some k := hk
      rw [mI_ne _ _ _ (by decide), mI_at]
      rcases Nat.lt_or_ge j (sTp s).length with z | z
      · rw [List.getElem?_append_left z] at hk
        rw [if_neg (by omega)]
        exact h6.2 j k hk
      · rw [List.getElem?_append_right z] at hk
        rcases Nat.eq_zero_or_pos (j - (sTp s).length) with w | w
        · rw [w] at hk
          cases hk
          rw [if_pos ⟨rfl, by omega⟩]
          exact hnar
        · rw [List.getElem?_eq_none (by show 1 ≤ _; omega)] at hk
          cases hk
  · replace b : ¬ cnd .ne (M.1 55 16) (cI 120) := b
    rw [h6.1, c_ne, e, kv_120] at b
    rw [if_pos (by omega)] at hZ
    conv => whnf
    exact hZ _ _ (QP_same h FrM_refl)
theorem sH_stop {rk : Rk} : ∀ (n r : Nat), rk.length ≤ r → sH rk r n = 0
  | 0, _, _ => rfl
  | n + 1, r, h => by
    unfold sH
    rw [hgt_ge h, sH_stop n (r + 1) (by omega)]
theorem all_loop {d : Nat} {M : Mem} {rk : Rk} (h : RMk M rk) (h4 : rk.length ≤ 4) : ∀ (n r a : Nat), r + n = 4 → r ≤ rk.length → BodyK (d + 1) 262 4 [(0, .ref 55), (1, .int (nI a)), (2, .int (nI r))] [] M (RV (some (.int (nI (a + sH rk r n)))) M) := by
  have el := nI_v (n := rk.length) (by omega)
  intro n
  induction n with
  | zero =>
    intro r a hr hle
    have e := nI_v (n := r) (by omega)
    refine body_run 400 rfl (fun B Cl Z hZ hB hC => ?_)
    (conv => whnf); refine ⟨fun b => ?_, fun b => ?_⟩
    · conv => whnf
      exact hZ _ _ ⟨rfl, rfl⟩
    · replace b : ¬ cnd .ge (nI r) (M.1 55 1) := b
      rw [h.1, c_ge, el, e] at b
      omega
  | succ n ih =>
    intro r a hr hle
    have e := nI_v (n := r) (by omega)
    refine body_run 400 rfl (fun B Cl Z hZ hB hC => ?_)
    (conv => whnf); refine ⟨fun b => ?_, fun b => ?_⟩
    · replace b : cnd .ge (nI r) (M.1 55 1) := b
      rw [h.1, c_ge, el, e] at b
      rw [sH_stop (n + 1) r (by omega)] at hZ
      conv => whnf
      exact hZ _ _ ⟨rfl, rfl⟩
    · replace b : ¬ cnd .ge (nI r) (M.1 55 1) := b
      rw [h.1, c_ge, el, e] at b
      have hm := (h.2 r (by omega)).1
      have e9 : a + sH rk r (n + 1) = (a + hgt rk r) + sH rk (r + 1) n := by
        rw [show sH rk r (n + 1) = hgt rk r + sH rk (r + 1) n from rfl]
        omega
      rw [e9] at hB
      (conv => whnf)
      refine ⟨nI_vp (by omega) (by decide), ?_⟩
      (conv => whnf)
      rw [nI_c (by omega), hm, nI_add]
      exact hB _ _ _ _ (Body_lv (ih (r + 1) (a + hgt rk r) (by omega) (by omega)) ⟨rfl, rfl, v_eq (nI_i1 r), trivial⟩)
theorem m_all {d : Nat} {M : Mem} {rk : Rk} (h : RMk M rk) (h4 : rk.length ≤ 4) : Call (d + 1) 262 [.ref 55] M (RV (some (.int (nI (sH rk 0 4)))) M) := by
  refine call_run 400 rfl rfl (fun B Cl Z hZ hB hC => ?_)
  conv => whnf
  have := all_loop (d := d) h h4 4 0 0 rfl (Nat.zero_le _)
  rw [Nat.zero_add] at this
  exact hB _ _ _ _ (Body_lv this ⟨rfl, rfl, rfl, trivial⟩)
theorem m_count {d : Nat} {M : Mem} {s : St} {x : Int32} (h : RM M s) (hv : inv s) : Call (d + 2) 263 [.ref 55, .int x] M (QP M (.int (aCount s x)) s) := by
  obtain ⟨h1, h2, h3, h4, h5, h6, h7, h8, h9, h10⟩ := id h
  refine call_run 400 rfl rfl (fun B Cl Z hZ hB hC => ?_)
  repeat' (first | ((conv => whnf); refine ⟨fun _ => ?_, fun _ => ?_⟩) | ((conv => whnf); refine ⟨?_, ?_⟩) | ((conv => whnf); refine ret_k hC (m_all h1 hv.1.1) ?_) | fail)
  all_goals (try (conv => whnf))
  all_goals (try simp only [c_lt, c_gt, c_le, c_ge, c_eq, c_ne, b2_z, b2_nz, b2_i, Classical.not_not, t0, t1, Nat.reduceMod, Nat.reduceDiv, Int.reduceAdd, Int.reduceNeg, Nat.reduceAdd, kv_m1, kv_0, kv_1, kv_2, kv_3, kv_4, kv_5, kc_0, kc_1, kc_2, kc_3, kc_4, kc_5, x_eq] at *)
  all_goals refine hZ _ _ ?_
  all_goals unfold aCount
  all_goals repeat' first | rw [if_pos (by omega)] | rw [if_neg (by omega)] | fail
  all_goals first | exact QP_same h FrM_refl | exact QP_v h FrM_refl (congrArg Value.int h1.1) | exact QP_v h FrM_refl (congrArg Value.int h6.1) | exact QP_v h FrM_refl (congrArg Value.int h7.1) | exact QP_v h FrM_refl (congrArg Value.int h8.1) | exact QP_v h FrM_refl (congrArg Value.int h10.1)
