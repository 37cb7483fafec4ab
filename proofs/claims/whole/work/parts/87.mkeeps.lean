/-! the reference: keeps, lean, hours; cuts in the copy -/
theorem NOWx {M M' : Mem} (h : FrM [75, 76, 77, 78, 79] [] M M') : FrM XM XJ M M' := FrM_sub h (by decide) (by decide)
theorem KJx {M M' : Mem} (h : FrM KJ [] M M') : FrM XM XJ M M' := FrM_sub h (by decide) (by decide)
theorem m_keeps {d : Nat} {M : Mem} {s : St} {x : Int32} (h : RM M s) (hv : inv s) : Call (d + 6) 209 [.ref 55, .int x] M (QP M (.int (aKeeps s x)) s) := by
  refine call_run 400 rfl rfl (fun B Cl Z hZ hB hC => ?_)
  (conv => whnf); refine ret_k hC (m_isLayer h.1 hv.1) ?_
  (conv => whnf); refine ⟨fun b => ?_, fun b => ?_⟩
  case' refine_2 =>
    rw [b2_nz] at b
    have e9 : aKeeps s x = cI (-1) := by unfold aKeeps; rw [lyA_n b]
    rw [e9] at hZ
    conv => whnf
    exact hZ _ _ (QP_same h FrM_refl)
  rw [b2_nz] at b
  obtain ⟨q, n, rfl, hn, e, hq, ha⟩ := lyA_s b
  have y1 : nI n / cI 16 = nI (n / 16) := nI_div (b := 16) hn (by decide)
  have y2 : nI n - nI n / cI 16 * cI 16 = nI (n % 16) := nI_rem (b := 16) hn (by decide)
  have e9 : aKeeps s (nI n) = kp (envS s) (sK s) (n / 16) (n % 16) q := by unfold aKeeps; rw [ha, e]; rfl
  rw [e9] at hZ
  (conv => whnf)
  refine hC _ _ _ _ _ (m_layNow h.1 hv.1) (fun v M1 p => ?_)
  obtain ⟨rfl, p2, p3⟩ := p
  (conv => whnf)
  refine ⟨by decide, ?_⟩
  (conv => whnf)
  refine ⟨by decide, ?_⟩
  (conv => whnf)
  rw [y2, y1]
  refine hC _ _ _ _ _ (m_keptAt (RM_x h (NOWx p2)) hv p3 hv.1 hq) (fun v M2 y => ?_)
  obtain ⟨rfl, y2⟩ := y
  conv => whnf
  exact hZ _ _ (QP_same h (FrM_trans (NOWx p2) (KJx y2)))
theorem kt_2 : (nth (0, 0, 0, 0) ktL 2).2.2.1 = voidI := by decide +kernel
theorem m_lean {d : Nat} {M : Mem} {s : St} {r w : Int32} (h : RM M s) (hv : inv s) : Call (d + 9) 210 [.ref 55, .int r, .int w] M (QP M (.int (aLean s r w)) s) := by
  have out : ¬ ((0 ≤ r.toInt ∧ r.toInt < ((sK s).length : Int)) ∧ 0 ≤ w.toInt ∧ w.toInt ≤ 2) → aLean s r w = voidI := fun z => if_neg z
  refine call_run 400 rfl rfl (fun B Cl Z hZ hB hC => ?_)
  (conv => whnf); refine ret_k hC (m_isRick h.1.1 hv.1.1) ?_
  (conv => whnf); refine ⟨fun a => ?_, fun a => ?_⟩
  · rw [b2_z] at a
    rw [out (fun z => a z.1)] at hZ
    conv => whnf
    rw [kt_2]
    exact hZ _ _ (QP_same h FrM_refl)
  rw [b2_z] at a
  have a := Classical.not_not.mp a
  (conv => whnf); refine ret_k hC (m_in) ?_
  rw [kv_0, kv_2]
  (conv => whnf); refine ⟨fun b => ?_, fun b => ?_⟩
  case' refine_2 =>
    rw [b2_nz] at b
    rw [out (fun z => b z.2)] at hZ
    conv => whnf
    rw [kt_2]
    exact hZ _ _ (QP_same h FrM_refl)
  rw [b2_nz] at b
  obtain ⟨i, rfl, ei, hi⟩ := to_nI a.1
  have e8 : aLean s (nI i) w = (if w.toInt = 0 then lX (envS s) (sK s) i else if w.toInt = 1 then lY (envS s) (sK s) i else b2 (lM (envS s) (sK s) i ≤ (envS s).2.2.1)) := by
    unfold aLean
    rw [if_pos ⟨a, b⟩, ei]
    rfl
  rw [e8] at hZ
  have hir : i < (sK s).length := by omega
  (conv => whnf)
  refine hC _ _ _ _ _ (m_layNow h.1 hv.1) (fun v M1 p => ?_)
  obtain ⟨rfl, p2, p3⟩ := p
  have h1 := RM_x h (NOWx p2)
  (conv => whnf); refine ⟨fun g => ?_, fun g => ?_⟩
  · simp only [c_lt, c_gt, c_le, c_ge, c_eq, c_ne, b2_z, b2_nz, b2_i, Classical.not_not, t0, t1, Nat.reduceMod, Nat.reduceDiv, Int.reduceAdd, Int.reduceNeg, Nat.reduceAdd, kv_0, kv_1, kv_2, kc_0, kc_1, kc_2] at g
    rw [if_neg g] at hZ
    (conv => whnf); refine ⟨fun k => ?_, fun k => ?_⟩
    · simp only [c_lt, c_gt, c_le, c_ge, c_eq, c_ne, b2_z, b2_nz, b2_i, Classical.not_not, t0, t1, Nat.reduceMod, Nat.reduceDiv, Int.reduceAdd, Int.reduceNeg, Nat.reduceAdd, kv_0, kv_1, kv_2, kc_0, kc_1, kc_2] at k
      rw [if_neg k] at hZ
      (conv => whnf)
      refine hC _ _ _ _ _ (m_standsNow h1 hv p3 hv.1 hir) (fun v M2 y => ?_)
      obtain ⟨rfl, y2⟩ := y
      have hF := FrM_trans (NOWx p2) (KJx y2)
      (conv => whnf); refine ⟨fun u => ?_, fun u => ?_⟩
      · rw [b2_z] at u
        rw [b2_f u] at hZ
        conv => whnf
        exact hZ _ _ (QP_same h hF)
      · rw [b2_z] at u
        rw [b2_t (Classical.not_not.mp u)] at hZ
        conv => whnf
        exact hZ _ _ (QP_same h hF)
    · simp only [c_lt, c_gt, c_le, c_ge, c_eq, c_ne, b2_z, b2_nz, b2_i, Classical.not_not, t0, t1, Nat.reduceMod, Nat.reduceDiv, Int.reduceAdd, Int.reduceNeg, Nat.reduceAdd, kv_0, kv_1, kv_2, kc_0, kc_1, kc_2] at k
      rw [if_pos k] at hZ
      (conv => whnf)
      refine hC _ _ _ _ _ (m_leanY h1 hv p3 hv.1 hir) (fun v M2 y => ?_)
      obtain ⟨rfl, y2⟩ := y
      conv => whnf
      exact hZ _ _ (QP_same h (FrM_trans (NOWx p2) (KJx y2)))
  · simp only [c_lt, c_gt, c_le, c_ge, c_eq, c_ne, b2_z, b2_nz, b2_i, Classical.not_not, t0, t1, Nat.reduceMod, Nat.reduceDiv, Int.reduceAdd, Int.reduceNeg, Nat.reduceAdd, kv_0, kv_1, kv_2, kc_0, kc_1, kc_2] at g
    rw [if_pos g] at hZ
    (conv => whnf)
    refine hC _ _ _ _ _ (m_leanX h1 hv p3 hv.1 hir) (fun v M2 y => ?_)
    obtain ⟨rfl, y2⟩ := y
    conv => whnf
    exact hZ _ _ (QP_same h (FrM_trans (NOWx p2) (KJx y2)))
theorem m_hours {d : Nat} {M : Mem} {s : St} {x n : Int32} (h : RM M s) (hv : inv s) : Call (d + 6) 234 [.ref 55, .int x, .int n] M (QP M (.int (aHours s x n)) s) := by
  refine call_run 400 rfl rfl (fun B Cl Z hZ hB hC => ?_)
  (conv => whnf); refine ret_k hC (m_isLayer h.1 hv.1) ?_
  (conv => whnf); refine ⟨fun b => ?_, fun b => ?_⟩
  · rw [b2_z] at b
    have e9 : aHours s x n = cI (-1) := by unfold aHours; rw [lyA_n b]
    rw [e9] at hZ
    conv => whnf
    exact hZ _ _ (QP_same h FrM_refl)
  rw [b2_z] at b
  obtain ⟨q, m, rfl, hm, e, hq, ha⟩ := lyA_s (Classical.not_not.mp b)
  have y1 : nI m / cI 16 = nI (m / 16) := nI_div (b := 16) hm (by decide)
  have y2 : nI m - nI m / cI 16 * cI 16 = nI (m % 16) := nI_rem (b := 16) hm (by decide)
  have e8 : aHours s (nI m) n = if 0 ≤ n.toInt ∧ n.toInt ≤ 99 then n / (cI 1 + kp (envS s) (sK s) (m / 16) (m % 16) q) else cI (-1) := by unfold aHours; rw [ha, e]; rfl
  rw [e8] at hZ
  (conv => whnf); refine ret_k hC (m_in) ?_
  rw [kv_0, kv_99]
  (conv => whnf); refine ⟨fun g => ?_, fun g => ?_⟩
  · rw [b2_nz] at g
    rw [if_pos g] at hZ
    (conv => whnf)
    refine hC _ _ _ _ _ (m_layNow h.1 hv.1) (fun v M1 p => ?_)
    obtain ⟨rfl, p2, p3⟩ := p
    (conv => whnf)
    refine ⟨by decide, ?_⟩
    (conv => whnf)
    refine ⟨by decide, ?_⟩
    (conv => whnf)
    rw [y2, y1]
    refine hC _ _ _ _ _ (m_keptAt (RM_x h (NOWx p2)) hv p3 hv.1 hq) (fun v M2 y => ?_)
    obtain ⟨rfl, z2⟩ := y
    (conv => whnf)
    refine ⟨kp1 (envS s) (sK s) (m / 16) (m % 16) q, ?_⟩
    conv => whnf
    exact hZ _ _ (QP_same h (FrM_trans (NOWx p2) (KJx z2)))
  · rw [b2_nz] at g
    rw [if_neg g] at hZ
    conv => whnf
    exact hZ _ _ (QP_same h FrM_refl)
/-- a layer out of the copy -/
theorem okR_cut {w : Rk} {r l : Nat} (ho : okR w) (hl : l < hgt w r) : okR (cutR w r l) := by
  refine ⟨by unfold cutR; rw [List.length_set]; exact ho.1, fun r' => ?_, fun r' l' q hq => ?_⟩
  · rw [cutR_hgt hl]
    have := ho.2.1 r
    have := ho.2.1 r'
    split <;> omega
  · unfold cutR at hq
    rw [getD_set (hgt_lt hl)] at hq
    split at hq
    · rw [List.getElem?_eraseIdx] at hq
      split at hq
      · exact ho.2.2 _ _ _ hq
      · exact ho.2.2 _ _ _ hq
    · exact ho.2.2 _ _ _ hq
theorem cutR_at {w : Rk} {r l r' l' : Nat} {q : Lyr} (hl : l < hgt w r) (hq : ((cutR w r l).getD r' [])[l']? = some q) : (w.getD r' [])[if r' = r ∧ l ≤ l' then l' + 1 else l']? = some q := by
  unfold cutR at hq
  rw [getD_set (hgt_lt hl)] at hq
  split at hq
  · next z =>
    subst z
    rw [List.getElem?_eraseIdx] at hq
    split at hq
    · next y => rw [if_neg (by omega)]; exact hq
    · next y => rw [if_pos ⟨rfl, by omega⟩]; exact hq
  · next z => rw [if_neg (fun y => z y.1)]; exact hq
theorem YM_cut {M M' : Mem} {a r l : Nat} {w : Rk} (h : YM M a w) (ho : okR w) (hl : l < hgt w r) (h0 : M'.1 a = upd (M.1 a) r (nI (hgt w r - 1))) (h4 : ∀ j, j < 4 → ∀ i, M'.1 (a + 1 + j) i = if 12 * r + l ≤ i ∧ i < 12 * r + hgt w r - 1 then M.1 (a + 1 + j) (i + 1) else M.1 (a + 1 + j) i) : YM M' a (cutR w r l) := by
  intro r' hr'
  have hr'2 : r' < w.length := by unfold cutR at hr'; rw [List.length_set] at hr'; exact hr'
  refine ⟨?_, fun l' q hq j hj => ?_⟩
  · rw [h0, cutR_hgt hl]
    unfold upd
    split
    · rfl
    · exact (h r' hr'2).1
  · have hl' := ly_lt hq
    rw [cutR_hgt hl] at hl'
    have q2 := cutR_at hl hq
    have q3 := (h r' hr'2).2 _ q q2 j hj
    have b1 := ho.2.1 r
    have b2 := ho.2.1 r'
    rw [h4 j hj]
    by_cases z : r' = r
    · subst z
      rw [if_pos rfl] at hl'
      by_cases y : l ≤ l'
      · rw [if_pos ⟨rfl, y⟩] at q3
        rw [if_pos (by omega)]
        exact q3
      · rw [if_neg (by omega)] at q3
        rw [if_neg (by omega)]
        exact q3
    · rw [if_neg z] at hl'
      rw [if_neg (fun y => z y.1)] at q3
      rw [if_neg (by omega)]
      exact q3
theorem cutN_loop {d r l : Nat} {M0 : Mem} {w : Rk} (h : YM M0 75 w) (ho : okR w) (hl : l < hgt w r) : ∀ (n i : Nat) (M : Mem), i + n = 12 * r + hgt w r - 1 → 12 * r + l ≤ i → FrM [76, 77, 78, 79] [] M0 M → (∀ j, j < 4 → ∀ p, M.1 (76 + j) p = if 12 * r + l ≤ p ∧ p < i then M0.1 (76 + j) (p + 1) else M0.1 (76 + j) p) →
    BodyK (d + 1) 207 7 [(0, .ref 55), (1, .int (nI r)), (2, .int (nI l)), (3, .int (nI i))] [] M (fun v M' => v = none ∧ FrM [75, 76, 77, 78, 79] [] M0 M' ∧ YM M' 75 (cutR w r l)) := by
  have hr := hgt_lt hl
  have b1 := ho.1
  have b2x := ho.2.1 r
  have cr := nI_c (n := r) (by omega)
  have vr : vp_in (nI r) 4 := nI_vp (by omega) (by decide)
  have eE : cI 12 * nI r + nI (hgt w r) - cI 1 = nI (12 * r + hgt w r - 1) := by
    rw [show cI 12 = nI 12 from rfl, nI_mul, nI_add]
    exact nI_sub (b := 1) (by omega)
  have evE := nI_v (n := 12 * r + hgt w r - 1) (by omega)
  intro n
  induction n with
  | zero =>
    intro i M hi hli hf h4
    obtain rfl : i = 12 * r + hgt w r - 1 := by omega
    have m0 : M.1 75 = M0.1 75 := FrM_c hf (by decide) (by decide)
    have mr : M.1 75 r = nI (hgt w r) := by rw [m0]; exact (h r hr).1
    refine body_run 400 rfl (fun B Cl Z hZ hB hC => ?_)
    (conv => whnf)
    refine ⟨vr, ?_⟩
    (conv => whnf); refine ⟨fun b => ?_, fun b => ?_⟩
    case' refine_2 =>
      replace b : ¬ cnd .ge (nI (12 * r + hgt w r - 1)) (cI 12 * nI r + M.1 75 (nI r).toNatClampNeg - cI 1) := b
      rw [cr, mr, eE, c_ge] at b
      omega
    (conv => whnf)
    refine ⟨vr, ?_⟩
    (conv => whnf)
    refine ⟨vr, ?_⟩
    (conv => whnf)
    rw [cr, mr, show nI (hgt w r) - cI 1 = nI (hgt w r - 1) from nI_sub (b := 1) (by omega)]
    refine hZ _ _ ⟨rfl, FrM_a (FrM_sub hf (by decide) (by decide)) (by decide) (by decide), YM_cut h ho hl ?_ (fun j hj p => ?_)⟩
    · rw [mI_same, m0]
    · have hne : (75 + 1 + j : Nat) ≠ 75 := by omega
      exact (congrFun (mI_ne _ _ _ hne) p).trans (h4 j hj p)
  | succ n ih =>
    intro i M hi hli hf h4
    have ei := nI_v (n := i) (by omega)
    have ci := nI_c (n := i) (by omega)
    have ci1 := nI_c (n := i + 1) (by omega)
    have vi : vp_in (nI i) 48 := nI_vp (by omega) (by decide)
    have vi1 : vp_in (nI i + cI 1) 48 := by rw [nI_i1]; exact nI_vp (by omega) (by decide)
    have mr : M.1 75 r = nI (hgt w r) := by rw [FrM_c hf (by decide) (by decide)]; exact (h r hr).1
    refine body_run 400 rfl (fun B Cl Z hZ hB hC => ?_)
    (conv => whnf)
    refine ⟨vr, ?_⟩
    (conv => whnf); refine ⟨fun b => ?_, fun b => ?_⟩
    · replace b : cnd .ge (nI i) (cI 12 * nI r + M.1 75 (nI r).toNatClampNeg - cI 1) := b
      rw [cr, mr, eE, c_ge, evE, ei] at b
      omega
    (conv => whnf)
    refine ⟨vi1, ?_⟩
    (conv => whnf)
    refine ⟨vi, ?_⟩
    (conv => whnf)
    refine ⟨vi1, ?_⟩
    (conv => whnf)
    refine ⟨vi, ?_⟩
    (conv => whnf)
    refine ⟨vi1, ?_⟩
    (conv => whnf)
    refine ⟨vi, ?_⟩
    (conv => whnf)
    refine ⟨vi1, ?_⟩
    (conv => whnf)
    refine ⟨vi, ?_⟩
    (conv => whnf)
    rw [nI_i1 i, ci, ci1]
    show B 7 _ _ (mI (mI (mI (mI M 76 i (M.1 76 (i + 1))) 77 i (M.1 77 (i + 1))) 78 i (M.1 78 (i + 1))) 79 i (M.1 79 (i + 1)))
    have hf2 : FrM [76, 77, 78, 79] [] M0 (mI (mI (mI (mI M 76 i (M.1 76 (i + 1))) 77 i (M.1 77 (i + 1))) 78 i (M.1 78 (i + 1))) 79 i (M.1 79 (i + 1))) := FrM_a (FrM_a (FrM_a (FrM_a hf (by decide) (by decide)) (by decide) (by decide)) (by decide) (by decide)) (by decide) (by decide)
    have h42 : ∀ j, j < 4 → (mI (mI (mI (mI M 76 i (M.1 76 (i + 1))) 77 i (M.1 77 (i + 1))) 78 i (M.1 78 (i + 1))) 79 i (M.1 79 (i + 1))).1 (76 + j) = upd (M.1 (76 + j)) i (M.1 (76 + j) (i + 1)) := fun j hj => by
      match j, hj with
      | 0, _ => rfl
      | 1, _ => rfl
      | 2, _ => rfl
      | 3, _ => rfl
    generalize (mI (mI (mI (mI M 76 i (M.1 76 (i + 1))) 77 i (M.1 77 (i + 1))) 78 i (M.1 78 (i + 1))) 79 i (M.1 79 (i + 1))) = M2 at hf2 h42 ⊢
    refine hB _ _ _ _ (Body_lv (ih (i + 1) M2 (by omega) (by omega) hf2 (fun j hj p => ?_)) ⟨rfl, rfl, rfl, rfl, trivial⟩)
    rw [h42 j hj]
    unfold upd
    by_cases z : p = i
    · rw [if_pos z, if_pos (by omega), h4 j hj, if_neg (by omega), z]
    · rw [if_neg z, h4 j hj]
      by_cases y : 12 * r + l ≤ p ∧ p < i
      · rw [if_pos y, if_pos (by omega)]
      · rw [if_neg y, if_neg (by omega)]
theorem m_cutNow {d r l : Nat} {M : Mem} {w : Rk} (h : YM M 75 w) (ho : okR w) (hl : l < hgt w r) : Call (d + 1) 207 [.ref 55, .int (nI r), .int (nI l)] M (fun v M' => v = none ∧ FrM [75, 76, 77, 78, 79] [] M M' ∧ YM M' 75 (cutR w r l)) := by
  have eS : cI 12 * nI r + nI l = nI (12 * r + l) := by rw [show cI 12 = nI 12 from rfl, nI_mul, nI_add]
  refine call_run 400 rfl rfl (fun B Cl Z hZ hB hC => ?_)
  conv => whnf
  exact hB _ _ _ _ (Body_lv (cutN_loop (d := d) h ho hl (hgt w r - 1 - l) (12 * r + l) M (by omega) (Nat.le_refl _) FrM_refl (fun j hj p => by rw [if_neg (by omega)])) ⟨rfl, rfl, rfl, v_eq eS, trivial⟩)
