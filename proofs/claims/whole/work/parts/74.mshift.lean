/-! the reference: rows shifted, bodies, the tape fed, counts -/
theorem ix60k (a b k : Nat) : cI 60 * nI a + nI b + nI k = nI (60 * a + b + k) := by rw [ix60, nI_add]
section SH
variable {d a b i j n : Nat}
theorem sh2_loop (ha : a < 6) (hb : b < 6) (hj : j + n ≤ 60) : ∀ (m k : Nat) (M : Mem), k + m = n → BodyK (d + 1) 270 150 [(0, .ref 55), (1, .int (nI a)), (2, .int (nI i)), (3, .int (nI b)), (4, .int (nI j)), (5, .int (nI n)), (6, .int (nI k))] [] M (fun v M' => v = some (.int (nI n)) ∧ FrM [97] [] M M' ∧ ∀ p, M'.2 97 p = if 60 * b + j + k ≤ p ∧ p < 60 * b + j + n then M.2 98 (p - (60 * b + j)) else M.2 97 p) := by
  have en := nI_v (n := n) (by omega)
  intro m
  induction m with
  | zero =>
    intro k M hk
    obtain rfl : k = n := by omega
    refine body_run 400 rfl (fun B Cl Z hZ hB hC => ?_)
    (conv => whnf); refine ⟨fun c => ?_, fun c => ?_⟩
    · conv => whnf
      exact hZ _ _ ⟨rfl, FrM_refl, fun p => by rw [if_neg (by omega)]⟩
    · simp only [c_lt, c_gt, c_le, c_ge, c_eq, c_ne, b2_z, b2_nz, b2_i, Classical.not_not, t0, t1, Nat.reduceMod, Nat.reduceDiv, Int.reduceAdd, Int.reduceNeg, Nat.reduceAdd, kv_m13, kv_m12, kv_m11, kv_m1, kv_0, kv_1, kv_60, kc_0, kc_1, kc_60, en] at c
      omega
  | succ m ih =>
    intro k M hk
    have ek := nI_v (n := k) (by omega)
    have e1 := ix60k b j k
    refine body_run 400 rfl (fun B Cl Z hZ hB hC => ?_)
    (conv => whnf); refine ⟨fun c => ?_, fun c => ?_⟩
    · simp only [c_lt, c_gt, c_le, c_ge, c_eq, c_ne, b2_z, b2_nz, b2_i, Classical.not_not, t0, t1, Nat.reduceMod, Nat.reduceDiv, Int.reduceAdd, Int.reduceNeg, Nat.reduceAdd, kv_m13, kv_m12, kv_m11, kv_m1, kv_0, kv_1, kv_60, kc_0, kc_1, kc_60, en, ek] at c
      omega
    (conv => whnf)
    refine ⟨nI_vp (by omega) (by decide), ?_⟩
    (conv => whnf)
    rw [e1]
    refine ⟨nI_vp (by omega) (by decide), ?_⟩
    (conv => whnf)
    rw [nI_c (n := k) (by omega), nI_c (n := 60 * b + j + k) (by omega)]
    refine hB _ _ _ _ (Body_lv (Body_mono (ih (k + 1) (mL M 97 (60 * b + j + k) (M.2 98 k)) (by omega)) (fun v M' q => ?_)) ⟨rfl, rfl, rfl, rfl, rfl, rfl, v_eq (nI_i1 k), trivial⟩)
    obtain ⟨rfl, q2, q3⟩ := q
    refine ⟨rfl, FrM_trans (FrM_l FrM_refl (by decide)) q2, fun p => ?_⟩
    have e98 : (mL M 97 (60 * b + j + k) (M.2 98 k)).2 98 = M.2 98 := rfl
    rw [q3, mL_same, e98]
    show (if _ then _ else if p = 60 * b + j + k then _ else M.2 97 p) = _
    by_cases z : 60 * b + j + (k + 1) ≤ p ∧ p < 60 * b + j + n
    · rw [if_pos z, if_pos (by omega)]
    · rw [if_neg z]
      by_cases y : p = 60 * b + j + k
      · rw [if_pos y, if_pos (by omega), show p - (60 * b + j) = k by omega]
      · rw [if_neg y, if_neg (by omega)]
theorem sh1_loop (ha : a < 6) (hb : b < 6) (hi : i + n ≤ 60) (hj : j + n ≤ 60) : ∀ (m k : Nat) (M0 M : Mem), k + m = n → FrM [98] [] M0 M → (∀ p, p < k → M.2 98 p = M0.2 97 (60 * a + i + p)) → BodyK (d + 1) 270 113 [(0, .ref 55), (1, .int (nI a)), (2, .int (nI i)), (3, .int (nI b)), (4, .int (nI j)), (5, .int (nI n)), (6, .int (nI k))] [] M (fun v M' => v = some (.int (nI n)) ∧ FrM [97, 98] [] M0 M' ∧ ∀ p, M'.2 97 p = if 60 * b + j ≤ p ∧ p < 60 * b + j + n then M0.2 97 (60 * a + i + (p - (60 * b + j))) else M0.2 97 p) := by
  have en := nI_v (n := n) (by omega)
  intro m
  induction m with
  | zero =>
    intro k M0 M hk hf hp
    obtain rfl : k = n := by omega
    refine body_run 400 rfl (fun B Cl Z hZ hB hC => ?_)
    (conv => whnf); refine ⟨fun c => ?_, fun c => ?_⟩
    · (conv => whnf)
      refine hB _ _ _ _ (Body_lv (Body_mono (sh2_loop (d := d) (i := i) (n := k) ha hb hj k 0 M (by omega)) (fun v M' q => ?_)) ⟨rfl, rfl, rfl, rfl, rfl, rfl, rfl, trivial⟩)
      obtain ⟨rfl, q2, q3⟩ := q
      refine ⟨rfl, FrM_trans (FrM_sub hf (by decide) (by decide)) (FrM_sub q2 (by decide) (by decide)), fun p => ?_⟩
      rw [q3, FrM_2 hf 97 (by decide)]
      by_cases z : 60 * b + j ≤ p ∧ p < 60 * b + j + k
      · rw [if_pos (by omega), if_pos z, hp _ (by omega)]
      · rw [if_neg (by omega), if_neg z]
    · simp only [c_lt, c_gt, c_le, c_ge, c_eq, c_ne, b2_z, b2_nz, b2_i, Classical.not_not, t0, t1, Nat.reduceMod, Nat.reduceDiv, Int.reduceAdd, Int.reduceNeg, Nat.reduceAdd, kv_m13, kv_m12, kv_m11, kv_m1, kv_0, kv_1, kv_60, kc_0, kc_1, kc_60, en] at c
      omega
  | succ m ih =>
    intro k M0 M hk hf hp
    have ek := nI_v (n := k) (by omega)
    have e1 := ix60k a i k
    refine body_run 400 rfl (fun B Cl Z hZ hB hC => ?_)
    (conv => whnf); refine ⟨fun c => ?_, fun c => ?_⟩
    · simp only [c_lt, c_gt, c_le, c_ge, c_eq, c_ne, b2_z, b2_nz, b2_i, Classical.not_not, t0, t1, Nat.reduceMod, Nat.reduceDiv, Int.reduceAdd, Int.reduceNeg, Nat.reduceAdd, kv_m13, kv_m12, kv_m11, kv_m1, kv_0, kv_1, kv_60, kc_0, kc_1, kc_60, en, ek] at c
      omega
    (conv => whnf)
    rw [e1]
    refine ⟨nI_vp (by omega) (by decide), ?_⟩
    (conv => whnf)
    refine ⟨nI_vp (by omega) (by decide), ?_⟩
    (conv => whnf)
    rw [nI_c (n := k) (by omega), nI_c (n := 60 * a + i + k) (by omega)]
    refine hB _ _ _ _ (Body_lv (ih (k + 1) M0 (mL M 98 k (M.2 97 (60 * a + i + k))) (by omega) (FrM_l hf (by decide)) (fun p hp2 => ?_)) ⟨rfl, rfl, rfl, rfl, rfl, rfl, v_eq (nI_i1 k), trivial⟩)
    rw [mL_same]
    show (if p = k then _ else M.2 98 p) = _
    split
    · next z => rw [z, FrM_2 hf 97 (by decide)]
    · exact hp p (by omega)
end SH
theorem hold_eq {t u : Nat} (ht : t < 5) (hu : u < 5) : ((cI (-2) - nI t).toInt = (cI (-2) - nI u).toInt) = (t = u) := by
  rw [hold_v ht, hold_v hu]
  exact propext ⟨fun h => by omega, fun h => by omega⟩
set_option maxHeartbeats 1000000 in
theorem m_shift {d : Nat} {M : Mem} {s : St} {x i y j n : Int32} (h : RM M s) (hv : inv s) : Call (d + 3) 270 [.ref 55, .int x, .int i, .int y, .int j, .int n] M (QP M (.int (aShift s x i y j n).1) (aShift s x i y j n).2) := by
  obtain ⟨h1, h2, h3, h4, h5, h6, h7, h8, h9, h10⟩ := id h
  have out : ¬ ((0 ≤ x.toInt ∧ x.toInt < 6) ∧ 0 ≤ y.toInt ∧ y.toInt < 6) → aShift s x i y j n = (cI (-1), s) := fun z => if_neg z
  refine call_run 400 rfl rfl (fun B Cl Z hZ hB hC => ?_)
  (conv => whnf); refine ret_k hC (m_isShelf) ?_
  (conv => whnf); refine ⟨fun a => ?_, fun a => ?_⟩
  · rw [b2_z] at a
    rw [out (fun z => a z.1)] at hZ
    conv => whnf
    exact hZ _ _ (QP_same h FrM_refl)
  rw [b2_z] at a
  have a := Classical.not_not.mp a
  (conv => whnf); refine ret_k hC (m_isShelf) ?_
  (conv => whnf); refine ⟨fun b => ?_, fun b => ?_⟩
  case' refine_2 =>
    rw [b2_nz] at b
    rw [out (fun z => b z.2)] at hZ
    conv => whnf
    exact hZ _ _ (QP_same h FrM_refl)
  rw [b2_nz] at b
  obtain ⟨xi, rfl, exi, hxi⟩ := to_nI a.1
  obtain ⟨yi, rfl, eyi, hyi⟩ := to_nI b.1
  have e8 : aShift s (nI xi) i (nI yi) j n = shf2 s (sSh s) yi (sSh s xi) (sSh s yi) i j n := by
    unfold aShift
    rw [if_pos ⟨a, b⟩, exi, eyi]
    rfl
  rw [e8] at hZ hB
  have vx : vp_in (nI xi) 6 := nI_vp (by omega) (by decide)
  have vy : vp_in (nI yi) 6 := nI_vp (by omega) (by decide)
  have cx := nI_c hxi
  have cy := nI_c hyi
  have X := hv.sv h (show xi < 6 by omega)
  have Y := hv.sv h (show yi < 6 by omega)
  (conv => whnf)
  refine ⟨vx, ?_⟩
  (conv => whnf); refine ⟨fun g => ?_, fun g => ?_⟩
  · replace g : cnd .eq (M.1 95 (nI xi).toNatClampNeg) (cI (-1)) := g
    rw [cx, c_eq, kv_m1] at g
    rcases X with ⟨q1, q2⟩ | ⟨bb, q1, q2, q3, q4⟩ | ⟨t, l, q1, q2, q3, q4, q5, q6⟩
    · rw [q1] at hZ
      conv => whnf
      exact hZ _ _ (QP_same h FrM_refl)
    · omega
    · omega
  replace g : ¬ cnd .eq (M.1 95 (nI xi).toNatClampNeg) (cI (-1)) := g
  rw [cx, c_eq, kv_m1] at g
  (conv => whnf)
  refine ⟨vy, ?_⟩
  (conv => whnf); refine ⟨fun k => ?_, fun k => ?_⟩
  case' refine_2 =>
    replace k : ¬ cnd .ne (M.1 95 (nI yi).toNatClampNeg) (cI (-1)) := k
    rw [cy, c_ne, kv_m1] at k
    rcases Y with ⟨q1, q2⟩ | ⟨bb, q1, q2, q3, q4⟩ | ⟨t, l, q1, q2, q3, q4, q5, q6⟩
    · have e9 : shf2 s (sSh s) yi (sSh s xi) none i j n = (cI (-11), s) := by cases sSh s xi <;> rfl
      rw [q1, e9] at hZ
      conv => whnf
      exact hZ _ _ (QP_same h FrM_refl)
    · omega
    · omega
  replace k : cnd .ne (M.1 95 (nI yi).toNatClampNeg) (cI (-1)) := k
  rw [cy, c_ne, kv_m1] at k
  (conv => whnf)
  refine ⟨vx, ?_⟩
  rcases X with ⟨q1, q2⟩ | ⟨bb, q1, q2, q3, q4⟩ | ⟨t, l, q1, q2, q3, q4, q5, q6⟩
  · omega
  · have e9 : ∀ w, ¬ w = none → shf2 s (sSh s) yi (some (.inl bb)) w i j n = (cI (-12), s) := fun w hw => by
      cases w with
      | none => exact absurd rfl hw
      | some w => rfl
    have hw : ¬ sSh s yi = none := by
      rcases Y with ⟨r1, r2⟩ | ⟨b2, r1, -⟩ | ⟨t, l, r1, -⟩
      · omega
      · rw [r1]; exact ne_none
      · rw [r1]; exact ne_none
    rw [q1, e9 _ hw] at hZ
    (conv => whnf); refine ⟨fun u => ?_, fun u => ?_⟩
    · conv => whnf
      exact hZ _ _ (QP_same h FrM_refl)
    · replace u : ¬ cnd .ge (M.1 95 (nI xi).toNatClampNeg) 0 := u
      rw [cx, c_ge, q4, t0] at u
      omega
  rw [q1] at hZ hB
  (conv => whnf); refine ⟨fun u => ?_, fun u => ?_⟩
  · replace u : cnd .ge (M.1 95 (nI xi).toNatClampNeg) 0 := u
    rw [cx, c_ge, q5, t0] at u
    omega
  (conv => whnf)
  refine ⟨vx, ?_⟩
  (conv => whnf)
  refine ⟨vy, ?_⟩
  rcases Y with ⟨r1, r2⟩ | ⟨b2, r1, r2, r3, r4⟩ | ⟨t2, l2, r1, r2, r3, r4, r5, r6⟩
  · omega
  · rw [r1] at hZ
    (conv => whnf); refine ⟨fun w => ?_, fun w => ?_⟩
    · replace w : cnd .eq (M.1 95 (nI xi).toNatClampNeg) (M.1 95 (nI yi).toNatClampNeg) := w
      rw [cx, cy, c_eq, q5, r4] at w
      omega
    · conv => whnf
      exact hZ _ _ (QP_same h FrM_refl)
  rw [r1] at hZ hB
  (conv => whnf); refine ⟨fun w => ?_, fun w => ?_⟩
  case' refine_2 =>
    replace w : ¬ cnd .eq (M.1 95 (nI xi).toNatClampNeg) (M.1 95 (nI yi).toNatClampNeg) := w
    rw [cx, cy, c_eq, q5, r5] at w
    have e9 : shf2 s (sSh s) yi (some (.inr (t, l))) (some (.inr (t2, l2))) i j n = (cI (-12), s) := by
      unfold shf2
      dsimp only
      rw [if_neg (by omega)]
    rw [e9] at hZ
    conv => whnf
    exact hZ _ _ (QP_same h FrM_refl)
  replace w : cnd .eq (M.1 95 (nI xi).toNatClampNeg) (M.1 95 (nI yi).toNatClampNeg) := w
  rw [cx, cy, c_eq, q5, r5] at w
  obtain rfl : t = t2 := by omega
  have no : ¬ ((0 ≤ i.toInt ∧ 0 ≤ n.toInt ∧ i.toInt ≤ (l.length : Int) - n.toInt) ∧ 0 ≤ j.toInt ∧ 0 ≤ n.toInt ∧ j.toInt ≤ (l2.length : Int) - n.toInt) → shf2 s (sSh s) yi (some (.inr (t, l))) (some (.inr (t, l2))) i j n = (cI (-13), s) := fun z => by
    unfold shf2
    dsimp only
    rw [if_pos rfl, if_neg z]
  (conv => whnf); refine ⟨fun p1 => ?_, fun p1 => ?_⟩
  · simp only [c_lt, c_gt, c_le, c_ge, c_eq, c_ne, b2_z, b2_nz, b2_i, Classical.not_not, t0, t1, Nat.reduceMod, Nat.reduceDiv, Int.reduceAdd, Int.reduceNeg, Nat.reduceAdd, kv_m13, kv_m12, kv_m11, kv_m1, kv_0, kv_1, kv_60, kc_0, kc_1, kc_60] at p1
    rw [no (by omega)] at hZ
    conv => whnf
    exact hZ _ _ (QP_same h FrM_refl)
  simp only [c_lt, c_gt, c_le, c_ge, c_eq, c_ne, b2_z, b2_nz, b2_i, Classical.not_not, t0, t1, Nat.reduceMod, Nat.reduceDiv, Int.reduceAdd, Int.reduceNeg, Nat.reduceAdd, kv_m13, kv_m12, kv_m11, kv_m1, kv_0, kv_1, kv_60, kc_0, kc_1, kc_60] at p1
  (conv => whnf); refine ⟨fun p2 => ?_, fun p2 => ?_⟩
  · simp only [c_lt, c_gt, c_le, c_ge, c_eq, c_ne, b2_z, b2_nz, b2_i, Classical.not_not, t0, t1, Nat.reduceMod, Nat.reduceDiv, Int.reduceAdd, Int.reduceNeg, Nat.reduceAdd, kv_m13, kv_m12, kv_m11, kv_m1, kv_0, kv_1, kv_60, kc_0, kc_1, kc_60] at p2
    rw [no (by omega)] at hZ
    conv => whnf
    exact hZ _ _ (QP_same h FrM_refl)
  simp only [c_lt, c_gt, c_le, c_ge, c_eq, c_ne, b2_z, b2_nz, b2_i, Classical.not_not, t0, t1, Nat.reduceMod, Nat.reduceDiv, Int.reduceAdd, Int.reduceNeg, Nat.reduceAdd, kv_m13, kv_m12, kv_m11, kv_m1, kv_0, kv_1, kv_60, kc_0, kc_1, kc_60] at p2
  (conv => whnf); refine ⟨fun p3 => ?_, fun p3 => ?_⟩
  · simp only [c_lt, c_gt, c_le, c_ge, c_eq, c_ne, b2_z, b2_nz, b2_i, Classical.not_not, t0, t1, Nat.reduceMod, Nat.reduceDiv, Int.reduceAdd, Int.reduceNeg, Nat.reduceAdd, kv_m13, kv_m12, kv_m11, kv_m1, kv_0, kv_1, kv_60, kc_0, kc_1, kc_60] at p3
    rw [no (by omega)] at hZ
    conv => whnf
    exact hZ _ _ (QP_same h FrM_refl)
  simp only [c_lt, c_gt, c_le, c_ge, c_eq, c_ne, b2_z, b2_nz, b2_i, Classical.not_not, t0, t1, Nat.reduceMod, Nat.reduceDiv, Int.reduceAdd, Int.reduceNeg, Nat.reduceAdd, kv_m13, kv_m12, kv_m11, kv_m1, kv_0, kv_1, kv_60, kc_0, kc_1, kc_60] at p3
  obtain ⟨n', rfl, en, hn⟩ := to_nI (x := n) (by omega)
  obtain ⟨i', rfl, ei, hi⟩ := to_nI (x := i) (by omega)
  obtain ⟨j', rfl, ej, hj⟩ := to_nI (x := j) (by omega)
  have sb : ∀ z : Nat, z ≤ 60 → (nI z - nI n').toInt = (z : Int) - (n' : Int) := fun z hz => by
    rw [sb_v (by rw [nI_v (by omega), en]; omega) (by rw [nI_v (by omega), en]; omega), nI_v (by omega), en]
  (conv => whnf)
  refine ⟨vx, ?_⟩
  (conv => whnf); refine ⟨fun p4 => ?_, fun p4 => ?_⟩
  · replace p4 : cnd .gt (nI i') (M.1 96 (nI xi).toNatClampNeg - nI n') := p4
    rw [cx, q6, c_gt, sb _ q3, ei] at p4
    rw [no (by omega)] at hZ
    conv => whnf
    exact hZ _ _ (QP_same h FrM_refl)
  replace p4 : ¬ cnd .gt (nI i') (M.1 96 (nI xi).toNatClampNeg - nI n') := p4
  rw [cx, q6, c_gt, sb _ q3, ei] at p4
  (conv => whnf)
  refine ⟨vy, ?_⟩
  (conv => whnf); refine ⟨fun p5 => ?_, fun p5 => ?_⟩
  case' refine_2 =>
    replace p5 : ¬ cnd .le (nI j') (M.1 96 (nI yi).toNatClampNeg - nI n') := p5
    rw [cy, r6, c_le, sb _ r3, ej] at p5
    rw [no (by omega)] at hZ
    conv => whnf
    exact hZ _ _ (QP_same h FrM_refl)
  replace p5 : cnd .le (nI j') (M.1 96 (nI yi).toNatClampNeg - nI n') := p5
  rw [cy, r6, c_le, sb _ r3, ej] at p5
  have e9 : shf2 s (sSh s) yi (some (.inr (t, l))) (some (.inr (t, l2))) (nI i') (nI j') (nI n') = (nI n', wSh s (upD (sSh s) yi (some (.inr (t, cpd l2 l i' j' n'))))) := by
    unfold shf2
    dsimp only
    rw [if_pos rfl, if_pos (by omega), ei, ej, en]
    rfl
  rw [e9] at hB
  (conv => whnf)
  refine hB _ _ _ _ (Body_lv (Body_mono (sh1_loop (d := d + 2) (a := xi) (b := yi) (i := i') (j := j') (n := n') (by omega) (by omega) (by omega) (by omega) n' 0 M M (by omega) FrM_refl (fun p hp => absurd hp (Nat.not_lt_zero p))) (fun v M2 q => ?_)) ⟨rfl, rfl, rfl, rfl, rfl, rfl, rfl, trivial⟩)
  obtain ⟨rfl, f2, f3⟩ := q
  have sx := h9 xi (by omega)
  have sy := h9 yi (by omega)
  rw [q1] at sx
  rw [r1] at sy
  refine ⟨rfl, RM_st h f2 (RMk_fr h1 f2 (by decide) (by decide)) (RMn_f h2 f2 (by decide)) (RMd_f h4 f2 (by decide)) (RMi_f h5 f2 (by decide) (by decide)) (RMt_f h6 f2 (by decide) (by decide)) (RMb_f h7 f2 (by decide) (by decide)) (RMr_f h8 f2 (by decide) (by decide)) (RMs_set h9 (fun j hj => (hv.2.2.2.1 j hj).2) (fun j _ z => by rw [FrM_c f2 (by decide) (by decide)]) (fun j _ z => by rw [FrM_c f2 (by decide) (by decide)]) (fun j _ z k hk => ?_) ⟨?_, ?_, fun p x q => ?_⟩) (RMc_f h10 f2 (by decide) (by decide)) (RMl_f h3 f2 (by decide) (by decide)), Fr_sub f2.1 (by decide)⟩
  · rw [f3, if_neg (by omega)]
  · rw [FrM_c f2 (by decide) (by decide)]; exact sy.1
  · rw [FrM_c f2 (by decide) (by decide)]
    unfold cpd
    rw [List.length_mapIdx]
    exact sy.2.1
  · unfold cpd at q
    rw [List.getElem?_mapIdx] at q
    obtain ⟨x0, q0, q7⟩ := Option.map_eq_some_iff.mp q
    have hpl : p < l2.length := by
      rcases Nat.lt_or_ge p l2.length with w | w
      · exact w
      · rw [List.getElem?_eq_none w] at q0; cases q0
    rw [f3]
    by_cases z : j' ≤ p ∧ p < j' + n'
    · rw [if_pos z] at q7
      rw [if_pos (by omega), ← q7]
      have := sx.2.2 (i' + (p - j')) _ (get_d (by omega))
      rw [show 60 * xi + i' + (60 * yi + p - (60 * yi + j')) = 60 * xi + (i' + (p - j')) by omega]
      exact this
    · rw [if_neg z] at q7
      rw [if_neg (by omega), ← q7]
      exact sy.2.2 p x0 q0
