/-! the reference: its law worked out -/
theorem div_m1 {a b : Int32} (h : b.toInt = -1) : a / b = -a := by
  apply Int32.toInt_inj.mp
  rw [Int32.toInt_div, h, Int32.toInt_neg]
  congr 1
  rw [show (-1 : Int) = -1 from rfl, Int.tdiv_neg, Int.tdiv_one]
theorem rem_m1 {a b : Int32} (h : b.toInt = -1) : a - a / b * b = 0 := by
  have hb : b = -1 := Int32.toInt_inj.mp (by rw [h]; rfl)
  rw [div_m1 h, hb, Int32.neg_mul_neg, Int32.mul_one, Int32.sub_self]
theorem m_twoOf {d s : Nat} {M : Mem} {a b : Int32} (h : s < 130) : Call (d + 1) 193 [.int (nI s), .int a, .int b] M (RV (some (.int (two s a b))) M) := by
  have e := nI_v (n := s) (by omega)
  refine call_run 400 rfl rfl (fun B Cl Z hZ hB hC => ?_)
  repeat' (first | ((conv => whnf); refine ⟨fun _ => ?_, fun _ => ?_⟩) | ((conv => whnf); refine ⟨?_, ?_⟩) | fail)
  all_goals (try simp only [c_lt, c_gt, c_le, c_ge, c_eq, c_ne, b2_z, b2_nz, b2_i, Classical.not_not, t0, t1, Nat.reduceMod, Nat.reduceDiv, Int.reduceAdd, Int.reduceNeg, Nat.reduceAdd, kv_m1, kv_0, kv_1, kv_37, kv_38, kv_39, kv_40, kv_41, kv_42, kv_43, kv_44, kv_45, kv_46, kv_47, kv_48, kv_49, kv_50, kv_51, kv_52, kv_53, kv_54, kv_55, kv_56, kv_57, kv_58, kv_59, kv_60, kv_61, kv_62, kc_0, kc_1, kc_37, kc_38, kc_39, kc_40, kc_41, kc_42, kc_43, kc_44, kc_45, kc_46, kc_47, kc_48, kc_49, kc_50, kc_51, kc_52, kc_53, kc_54, kc_55, kc_56, kc_57, kc_58, kc_59, kc_60, kc_61, kc_62, e, x_eq] at *)
  all_goals first
    | omega
    | (refine hZ _ _ ⟨congrArg (fun z => some (Value.int z)) ?_, rfl⟩
       unfold two
       repeat' first | rw [if_pos (by omega)] | rw [if_neg (by omega)] | fail
       all_goals (first | rfl | exact b2_0 (by omega) | exact b2_1 (by omega) | exact (div_m1 (by omega)).symm | exact (rem_m1 (by omega)).symm))
