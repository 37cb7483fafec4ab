/-! the reference: ricks, layers laid, shelves -/
theorem FrM_c {A J : List Nat} {M M' : Mem} (hf : FrM A J M M') {a : Nat} (h56 : 56 ≤ a) (ha : A.contains a = false) : M'.1 a = M.1 a :=
  hf.1.1 a (fun z => by
    rcases List.mem_cons.mp z with rfl | z
    · omega
    · have := List.contains_iff_mem.mpr z; rw [ha] at this; cases this)
theorem RMn_f {A J : List Nat} {M M' : Mem} {s : St} (h : RMn M s) (hf : FrM A J M M') (ha : (A.contains 61 || A.contains 62) = false) : RMn M' s := by
  rw [Bool.or_eq_false_iff] at ha
  exact RMn_e h (FrM_c hf (by decide) ha.1) (FrM_c hf (by decide) ha.2)
theorem RMd_f {A J : List Nat} {M M' : Mem} {f : Nat → Int32} (h : ∀ i, i < 5 → M.1 86 i = f i) (hf : FrM A J M M') (ha : A.contains 86 = false) : ∀ i, i < 5 → M'.1 86 i = f i := fun i hi => by rw [FrM_c hf (by decide) ha]; exact h i hi
theorem RMi_f {A J : List Nat} {M M' : Mem} {im : Option (Rk × (Nat → Int32) × Nat)} (h : RMi M im) (hf : FrM A J M M') (ha : (A.contains 87 || A.contains 88 || A.contains 89 || A.contains 90 || A.contains 91 || A.contains 92) = false) (hj : (J.contains 49 || J.contains 50 || J.contains 51) = false) : RMi M' im := by
  simp only [Bool.or_eq_false_iff] at ha hj
  exact RMi_e h (FrM_c hf (by decide) ha.1.1.1.1.1) (FrM_c hf (by decide) ha.1.1.1.1.2) (FrM_c hf (by decide) ha.1.1.1.2) (FrM_c hf (by decide) ha.1.1.2) (FrM_c hf (by decide) ha.1.2) (FrM_c hf (by decide) ha.2) (fun j q => by
    rcases q with rfl | rfl | rfl
    · exact FrM_j hf 49 hj.1.1
    · exact FrM_j hf 50 hj.1.2
    · exact FrM_j hf 51 hj.2)
theorem RMt_f {A J : List Nat} {M M' : Mem} {t : List Nat} (h : RMt M t) (hf : FrM A J M M') (ha : A.contains 67 = false) (hj : J.contains 16 = false) : RMt M' t := by
  unfold RMt at h ⊢; rw [FrM_j hf 16 hj, FrM_c hf (by decide) ha]; exact h
theorem RMb_f {A J : List Nat} {M M' : Mem} {t : List Nat} (h : RMb M t) (hf : FrM A J M M') (ha : A.contains 93 = false) (hj : J.contains 58 = false) : RMb M' t := by
  unfold RMb at h ⊢; rw [FrM_j hf 58 hj, FrM_c hf (by decide) ha]; exact h
theorem RMr_f {A J : List Nat} {M M' : Mem} {t : List Nat} (h : RMr M t) (hf : FrM A J M M') (ha : A.contains 94 = false) (hj : J.contains 60 = false) : RMr M' t := by
  unfold RMr at h ⊢; rw [FrM_j hf 60 hj, FrM_c hf (by decide) ha]; exact h
theorem RMs_f {A J : List Nat} {M M' : Mem} {f : Nat → Shf} (h : ∀ i, i < 6 → RMs1 M i (f i)) (hf : FrM A J M M') (ha : (A.contains 95 || A.contains 96 || A.contains 97) = false) : ∀ i, i < 6 → RMs1 M' i (f i) := by
  simp only [Bool.or_eq_false_iff] at ha
  exact fun i hi => RMs_e (h i hi) (FrM_c hf (by decide) ha.1.1) (FrM_c hf (by decide) ha.1.2) (hf.1.2 97 (fun z => by
    rcases List.mem_cons.mp z with z | z
    · cases z
    · have := List.contains_iff_mem.mpr z; rw [ha.2] at this; cases this))
theorem RMc_f {A J : List Nat} {M M' : Mem} {g : List AChg} {n : Nat} (h : RMc M g n) (hf : FrM A J M M') (ha : (A.contains 63 || A.contains 64 || A.contains 65 || A.contains 66) = false) (hj : (J.contains 9 || J.contains 10) = false) : RMc M' g n := by
  simp only [Bool.or_eq_false_iff] at ha hj
  unfold RMc at h ⊢
  rw [FrM_j hf 9 hj.1, FrM_j hf 10 hj.2, FrM_c hf (by decide) ha.1.1.1, FrM_c hf (by decide) ha.1.1.2, FrM_c hf (by decide) ha.1.2, FrM_c hf (by decide) ha.2]
  exact h
theorem RMl_f {A J : List Nat} {M M' : Mem} {o : Option (List Ln)} (h : RMl M o) (hf : FrM A J M M') (ha : (A.contains 68 || A.contains 69 || A.contains 70 || A.contains 71 || A.contains 72) = false) (hj : J.contains 28 = false) : RMl M' o := by
  simp only [Bool.or_eq_false_iff] at ha
  exact RMl_e h (FrM_c hf (by decide) ha.1.1.2) (FrM_c hf (by decide) ha.1.1.1.1) (FrM_c hf (by decide) ha.1.1.1.2) (FrM_c hf (by decide) ha.1.2) (FrM_c hf (by decide) ha.2) (FrM_j hf 28 hj)
theorem m_rick {d : Nat} {M : Mem} {s : St} (h : RM M s) (hv : inv s) : Call (d + 1) 162 [.ref 55] M (if (sK s).length = 4 then QP M (.int (cI (-3))) s else QP M (.int (nI (sK s).length)) ((sK s ++ [[]], s.1.2), s.2)) := by
  obtain ⟨h1, h2, h3, h4, h5, h6, h7, h8, h9, h10⟩ := id h
  have hl := hv.1.1
  have e := nI_v (n := (sK s).length) (by omega)
  refine call_run 400 rfl rfl (fun B Cl Z hZ hB hC => ?_)
  (conv => whnf); refine ⟨fun b => ?_, fun b => ?_⟩
  · replace b : cnd .ne (M.1 55 1) (cI 4) := b
    rw [h1.1, c_ne, e, kv_4] at b
    rw [if_neg (by omega)] at hZ
    have vr0 : vp_in (M.1 55 1) 4 := by rw [h1.1]; exact nI_vp (by omega) (by decide)
    (conv => whnf)
    refine ⟨vr0, ?_⟩
    (conv => whnf)
    show Z (some (.int (M.1 55 1 + cI 1 - cI 1))) (mI (mI M 56 (M.1 55 1).toNatClampNeg (cI 0)) 55 1 (M.1 55 1 + cI 1))
    rw [h1.1, nI_c (by omega)]
    have hf : FrM [56] [1] M (mI (mI M 56 (sK s).length (cI 0)) 55 1 (nI (sK s).length + cI 1)) := FrM_s (FrM_a FrM_refl (by decide) (by decide)) (by decide)
    refine hZ _ _ ⟨v_eq (Int32.add_sub_cancel _ _), RM_st h hf ⟨?_, fun r hr => ⟨?_, fun l q hq j hj => ?_⟩⟩ (RMn_f h2 hf (by decide)) (RMd_f h4 hf (by decide)) (RMi_f h5 hf (by decide) (by decide)) (RMt_f h6 hf (by decide) (by decide)) (RMb_f h7 hf (by decide) (by decide)) (RMr_f h8 hf (by decide) (by decide)) (RMs_f h9 hf (by decide)) (RMc_f h10 hf (by decide) (by decide)) (RMl_f h3 hf (by decide) (by decide)), Fr_sub hf.1 (by decide)⟩
    · rw [mI_1]
      show _ = nI (sK s ++ [[]]).length
      rw [List.length_append]
      exact nI_1 _
    · show (mI (mI M 56 (sK s).length (cI 0)) 55 1 (nI (sK s).length + cI 1)).1 56 r = nI (hgt (sK s ++ [[]]) r)
      rw [mI_ne _ _ _ (by decide), mI_at, hgt_snoc]
      replace hr : r < (sK s ++ [[]]).length := hr
      rw [List.length_append] at hr
      simp at hr
      by_cases z : r = (sK s).length
      · rw [if_pos ⟨rfl, z⟩, hgt_ge (by omega)]; rfl
      · rw [if_neg (fun y => z y.2)]; exact (h1.2 r (by omega)).1
    · replace hq : ((sK s ++ [[]]).getD r [])[l]? = some q := hq
      rw [getD_snoc] at hq
      rw [mI_ne _ _ _ (by omega), mI_ne _ _ _ (by omega)]
      exact (h1.2 r (hgt_lt (ly_lt hq))).2 l q hq j hj
  · replace b : ¬ cnd .ne (M.1 55 1) (cI 4) := b
    rw [h1.1, c_ne, e, kv_4] at b
    rw [if_pos (by omega)] at hZ
    conv => whnf
    exact hZ _ _ (QP_same h FrM_refl)
theorem put_at {rk : Rk} {r r' l : Nat} {q q' : Lyr} (hr : r < rk.length) (h : ((put rk r q).getD r' [])[l]? = some q') : (r' = r ∧ l = hgt rk r ∧ q' = q) ∨ ((rk.getD r' [])[l]? = some q' ∧ l < hgt rk r') := by
  unfold put at h
  rw [getD_set hr] at h
  split at h
  · next z =>
    subst z
    rcases Nat.lt_or_ge l (rk.getD r' []).length with y | y
    · rw [List.getElem?_append_left y] at h
      exact Or.inr ⟨h, y⟩
    · rw [List.getElem?_append_right y] at h
      rcases Nat.eq_zero_or_pos (l - (rk.getD r' []).length) with x | x
      · rw [x] at h
        cases h
        exact Or.inl ⟨rfl, by show l = (rk.getD r' []).length; omega, rfl⟩
      · rw [List.getElem?_eq_none (by show 1 ≤ _; omega)] at h
        cases h
  · exact Or.inr ⟨h, ly_lt h⟩
theorem m_addLayer {d r w f m : Nat} {M : Mem} {s : St} (h : RM M s) (hv : inv s) (hr : r < (sK s).length) (hh : hgt (sK s) r < 12) : Call (d + 1) 164 [.ref 55, .int (nI r), .int (nI w), .int (nI f), .int (nI m)] M (QP M (.int (nI (hgt (sK s) r))) (layS s r (w, f, m, 0))) := by
  obtain ⟨h1, h2, h3, h4, h5, h6, h7, h8, h9, h10⟩ := id h
  have hl := hv.1.1
  have eP : cI 12 * nI r + nI (hgt (sK s) r) = nI (12 * r + hgt (sK s) r) := by rw [show cI 12 = nI 12 from rfl, nI_mul, nI_add]
  have hm := (h1.2 r hr).1
  have vp : vp_in (cI 12 * nI r + M.1 56 (nI r).toNatClampNeg) 48 := by rw [nI_c (by omega), hm, eP]; exact nI_vp (by omega) (by decide)
  have vr : vp_in (nI r) 4 := nI_vp (by omega) (by decide)
  refine call_run 400 rfl rfl (fun B Cl Z hZ hB hC => ?_)
  (conv => whnf)
  refine ⟨vr, ?_⟩
  (conv => whnf)
  refine ⟨vp, ?_⟩
  (conv => whnf)
  refine ⟨vp, ?_⟩
  (conv => whnf)
  refine ⟨vp, ?_⟩
  (conv => whnf)
  refine ⟨vp, ?_⟩
  (conv => whnf)
  refine ⟨vr, ?_⟩
  (conv => whnf)
  refine ⟨vr, ?_⟩
  (conv => whnf)
  refine ⟨nI_vp (c := 0) (by decide) (by decide), ?_⟩
  (conv => whnf)
  refine ⟨nI_vp (c := 0) (by decide) (by decide), ?_⟩
  (conv => whnf)
  refine ⟨vr, ?_⟩
  (conv => whnf)
  rw [nI_c (n := r) (by omega), hm, eP, nI_c (n := 12 * r + hgt (sK s) r) (by omega), kc_0]
  show Z (some (.int ((mI (mI (mI (mI (mI (mI M 57 (12 * r + hgt (sK s) r) (nI w)) 58 (12 * r + hgt (sK s) r) (nI f)) 59 (12 * r + hgt (sK s) r) (nI m)) 60 (12 * r + hgt (sK s) r) (cI 0)) 56 r (M.1 56 r + cI 1)) 86 0 (M.1 86 0 + cI 1)).1 56 r - cI 1))) (mI (mI (mI (mI (mI (mI M 57 (12 * r + hgt (sK s) r) (nI w)) 58 (12 * r + hgt (sK s) r) (nI f)) 59 (12 * r + hgt (sK s) r) (nI m)) 60 (12 * r + hgt (sK s) r) (cI 0)) 56 r (M.1 56 r + cI 1)) 86 0 (M.1 86 0 + cI 1))
  generalize hM : (mI (mI (mI (mI (mI (mI M 57 (12 * r + hgt (sK s) r) (nI w)) 58 (12 * r + hgt (sK s) r) (nI f)) 59 (12 * r + hgt (sK s) r) (nI m)) 60 (12 * r + hgt (sK s) r) (cI 0)) 56 r (M.1 56 r + cI 1)) 86 0 (M.1 86 0 + cI 1)) = M1
  have hf : FrM [57, 58, 59, 60, 56, 86] [] M M1 := by
    rw [← hM]
    exact FrM_a (FrM_a (FrM_a (FrM_a (FrM_a (FrM_a FrM_refl (by decide) (by decide)) (by decide) (by decide)) (by decide) (by decide)) (by decide) (by decide)) (by decide) (by decide)) (by decide) (by decide)
  have e56 : M1.1 56 = upd (M.1 56) r (M.1 56 r + cI 1) := by rw [← hM]; rfl
  have e86 : M1.1 86 = upd (M.1 86) 0 (M.1 86 0 + cI 1) := by rw [← hM]; rfl
  have e4 : ∀ j, j < 4 → M1.1 (56 + 1 + j) = upd (M.1 (56 + 1 + j)) (12 * r + hgt (sK s) r) (nI (lyF (w, f, m, 0) j)) := by
    intro j hj
    rw [← hM]
    match j, hj with
    | 0, _ => rfl
    | 1, _ => rfl
    | 2, _ => rfl
    | 3, _ => rfl
  have ev : M1.1 56 r - cI 1 = nI (hgt (sK s) r) := by
    rw [e56]
    show (if r = r then M.1 56 r + cI 1 else _) - cI 1 = _
    rw [if_pos rfl, hm]
    exact Int32.add_sub_cancel _ _
  rw [ev]
  refine hZ _ _ ⟨rfl, RM_st h hf ⟨by show _ = nI (put (sK s) r _).length; rw [put_len, FrM_j hf 1 (by decide)]; exact h1.1, fun r' hr' => ⟨?_, fun l q hq j hj => ?_⟩⟩ (RMn_f h2 hf (by decide)) (fun i hi => ?_) (RMi_f h5 hf (by decide) (by decide)) (RMt_f h6 hf (by decide) (by decide)) (RMb_f h7 hf (by decide) (by decide)) (RMr_f h8 hf (by decide) (by decide)) (RMs_f h9 hf (by decide)) (RMc_f h10 hf (by decide) (by decide)) (RMl_f h3 hf (by decide) (by decide)), Fr_sub hf.1 (by decide)⟩
  · replace hr' : r' < (put (sK s) r (w, f, m, 0)).length := hr'
    rw [put_len] at hr'
    show M1.1 56 r' = nI (hgt (put (sK s) r (w, f, m, 0)) r')
    rw [e56, hgt_put hr]
    unfold upd
    split
    · next z => rw [hm]; exact nI_1 _
    · exact (h1.2 r' hr').1
  · have hq2 := put_at hr hq
    rw [e4 j hj]
    unfold upd
    rcases hq2 with ⟨rfl, rfl, rfl⟩ | ⟨q1, q2⟩
    · rw [if_pos rfl]
    · have b1 := hv.1.2.1 r'
      rw [if_neg (fun z => by
        have : r' = r := by omega
        subst this
        omega)]
      exact (h1.2 r' (hgt_lt q2)).2 l q q1 j hj
  · show M1.1 86 i = upD (sDe s) 0 (sDe s 0 + cI 1) i
    rw [e86]
    unfold upd upD
    rw [h4 0 (by decide), h4 i hi]
theorem m_lay {d : Nat} {M : Mem} {s : St} {r x : Int32} (h : RM M s) (hv : inv s) : Call (d + 3) 165 [.ref 55, .int r, .int x] M (QP M (.int (aLay s r x).1) (aLay s r x).2) := by
  have h1 := h.1
  have h4 := hv.1.1
  refine call_run 400 rfl rfl (fun B Cl Z hZ hB hC => ?_)
  (conv => whnf); refine ret_k hC (m_isRick h1.1 h4) ?_
  (conv => whnf); refine ⟨fun a => ?_, fun a => ?_⟩
  · rw [b2_z] at a
    have e9 : aLay s r x = (cI (-1), s) := if_neg (fun z => a z.1)
    rw [e9] at hZ
    conv => whnf
    exact hZ _ _ (QP_same h FrM_refl)
  rw [b2_z] at a
  have a := Classical.not_not.mp a
  (conv => whnf); refine ⟨fun b => ?_, fun b => ?_⟩
  · simp only [c_lt, c_gt, c_le, c_ge, c_eq, c_ne, b2_z, b2_nz, b2_i, Classical.not_not, t0, t1, Nat.reduceMod, Nat.reduceDiv, Int.reduceAdd, Int.reduceNeg, Nat.reduceAdd, kv_m3, kv_m1, kv_10, kv_12, kv_100, kc_10, kc_12, kc_100] at b
    have e9 : aLay s r x = (cI (-1), s) := if_neg (fun z => by have := z.2.1; omega)
    rw [e9] at hZ
    conv => whnf
    exact hZ _ _ (QP_same h FrM_refl)
  simp only [c_lt, c_gt, c_le, c_ge, c_eq, c_ne, b2_z, b2_nz, b2_i, Classical.not_not, t0, t1, Nat.reduceMod, Nat.reduceDiv, Int.reduceAdd, Int.reduceNeg, Nat.reduceAdd, kv_m3, kv_m1, kv_10, kv_12, kv_100, kc_10, kc_12, kc_100] at b
  obtain ⟨i, rfl, ei, hi⟩ := to_nI a.1
  obtain ⟨n, rfl, en, hn⟩ := to_nI (x := x) (by omega)
  have y1 : nI n / cI 10 = nI (n / 10) := nI_div (b := 10) hn (by decide)
  have y2 : nI (n / 10) - nI (n / 10) / cI 10 * cI 10 = nI (n / 10 % 10) := nI_rem (b := 10) (by omega) (by decide)
  have y3 : nI n / cI 100 = nI (n / 100) := nI_div (b := 100) hn (by decide)
  have y4 : nI n - nI n / cI 10 * cI 10 = nI (n % 10) := nI_rem (b := 10) hn (by decide)
  have f1 := nI_v (n := n / 10 % 10) (by omega)
  have f2 := nI_v (n := n / 100) (by omega)
  have f3 := nI_v (n := n % 10) (by omega)
  rw [y1] at y4
  have hz : hrZ (n : Int) ↔ lyZ ((n / 10 % 10 : Nat) : Int) ((n / 100 : Nat) : Int) ((n % 10 : Nat) : Int) := by
    unfold hrZ lyZ
    rw [show ((n : Int)).toNat = n from rfl]
    omega
  have e8 : aLay s (nI i) (nI n) = if hrZ (n : Int) then (if hgt (sK s) i = 12 then (cI (-3), s) else (nI (hgt (sK s) i), layS s i (lyN n))) else (cI (-1), s) := by
    unfold aLay
    rw [ei, en]
    by_cases z : hrZ (n : Int)
    · rw [if_pos ⟨⟨by omega, by omega⟩, z⟩, if_pos z]; rfl
    · rw [if_neg (fun y => z y.2), if_neg z]
  rw [e8] at hZ
  (conv => whnf)
  refine ⟨by decide, ?_⟩
  (conv => whnf)
  refine ⟨by decide, ?_⟩
  (conv => whnf)
  refine ⟨by decide, ?_⟩
  (conv => whnf)
  refine ⟨by decide, ?_⟩
  (conv => whnf)
  rw [y1, y2, y3, y4]
  refine ret_k hC (m_areLayer) ?_
  rw [f1, f2, f3]
  (conv => whnf); refine ⟨fun g => ?_, fun g => ?_⟩
  · rw [b2_nz, ← hz] at g
    rw [if_pos g] at hZ
    have hm := (h1.2 i (by omega)).1
    have h12 := hv.1.2.1 i
    have eh := nI_v (n := hgt (sK s) i) (by omega)
    (conv => whnf)
    refine ⟨nI_vp (by omega) (by decide), ?_⟩
    (conv => whnf); refine ⟨fun k => ?_, fun k => ?_⟩
    · replace k : cnd .ne (M.1 56 (nI i).toNatClampNeg) (cI 12) := k
      rw [nI_c hi, hm, c_ne, eh, kv_12] at k
      rw [if_neg (by omega)] at hZ
      (conv => whnf)
      refine ⟨by decide, ?_⟩
      (conv => whnf)
      refine ⟨by decide, ?_⟩
      (conv => whnf)
      refine ⟨by decide, ?_⟩
      (conv => whnf)
      refine ⟨by decide, ?_⟩
      (conv => whnf)
      rw [y1, y2, y3, y4]
      refine hC _ _ _ _ _ (m_addLayer h hv (by omega) (by omega)) (fun v M1 p => ?_)
      obtain ⟨rfl, p2, p3⟩ := p
      conv => whnf
      exact hZ _ _ ⟨rfl, p2, p3⟩
    · replace k : ¬ cnd .ne (M.1 56 (nI i).toNatClampNeg) (cI 12) := k
      rw [nI_c hi, hm, c_ne, eh, kv_12] at k
      rw [if_pos (by omega)] at hZ
      conv => whnf
      exact hZ _ _ (QP_same h FrM_refl)
  · rw [b2_nz, ← hz] at g
    rw [if_neg g] at hZ
    conv => whnf
    exact hZ _ _ (QP_same h FrM_refl)
