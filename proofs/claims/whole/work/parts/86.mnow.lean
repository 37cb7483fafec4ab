/-! the reference: ricks as they are now, in a copy; how they lean -/
theorem now2 {d : Nat} {M0 : Mem} {Q : Po} (fin : ∀ M, FrM [76, 77, 78, 79] [] M0 M → (∀ j, j < 4 → ∀ i, i < 48 → M.1 (76 + j) i = M0.1 (57 + j) i) → Q none M) : ∀ (n k : Nat) (M : Mem), k + n = 48 → FrM [76, 77, 78, 79] [] M0 M → (∀ j, j < 4 → ∀ i, i < k → M.1 (76 + j) i = M0.1 (57 + j) i) →
    BodyK (d + 2) 198 30 [(0, .ref 55), (1, .int (nI k))] [] M Q := by
  intro n
  induction n with
  | zero =>
    intro k M hk hf h4
    obtain rfl : k = 48 := by omega
    refine body_run 400 rfl (fun B Cl Z hZ hB hC => ?_)
    (conv => whnf); refine ⟨fun b => ?_, fun b => absurd (show cnd .ge (nI 48) (cI 48) by rw [c_ge]; decide) b⟩
    conv => whnf
    exact hZ _ _ (fin M hf h4)
  | succ n ih =>
    intro k M hk hf h4
    have ek := nI_v (n := k) (by omega)
    have ck := nI_c (n := k) (by omega)
    have vk : vp_in (nI k) 48 := nI_vp (by omega) (by decide)
    refine body_run 400 rfl (fun B Cl Z hZ hB hC => ?_)
    (conv => whnf); refine ⟨fun b => ?_, fun b => ?_⟩
    · replace b : cnd .ge (nI k) (cI 48) := b
      rw [c_ge, ek, kv_48] at b
      omega
    (conv => whnf)
    refine ⟨vk, ?_⟩
    (conv => whnf)
    refine ⟨vk, ?_⟩
    (conv => whnf)
    refine ⟨vk, ?_⟩
    (conv => whnf)
    refine ⟨vk, ?_⟩
    (conv => whnf)
    refine ⟨vk, ?_⟩
    (conv => whnf)
    refine ⟨vk, ?_⟩
    (conv => whnf)
    refine ⟨vk, ?_⟩
    (conv => whnf)
    refine ⟨vk, ?_⟩
    (conv => whnf)
    rw [ck]
    show B 30 _ _ (mI (mI (mI (mI M 76 k (M.1 57 k)) 77 k (M.1 58 k)) 78 k (M.1 59 k)) 79 k (M.1 60 k))
    have e4 : ∀ j, j < 4 → M.1 (57 + j) = M0.1 (57 + j) := fun j hj => by
      match j, hj with
      | 0, _ => exact FrM_c hf (by decide) (by decide)
      | 1, _ => exact FrM_c hf (by decide) (by decide)
      | 2, _ => exact FrM_c hf (by decide) (by decide)
      | 3, _ => exact FrM_c hf (by decide) (by decide)
    have hf2 : FrM [76, 77, 78, 79] [] M0 (mI (mI (mI (mI M 76 k (M.1 57 k)) 77 k (M.1 58 k)) 78 k (M.1 59 k)) 79 k (M.1 60 k)) := FrM_a (FrM_a (FrM_a (FrM_a hf (by decide) (by decide)) (by decide) (by decide)) (by decide) (by decide)) (by decide) (by decide)
    have h42 : ∀ j, j < 4 → (mI (mI (mI (mI M 76 k (M.1 57 k)) 77 k (M.1 58 k)) 78 k (M.1 59 k)) 79 k (M.1 60 k)).1 (76 + j) = upd (M.1 (76 + j)) k (M.1 (57 + j) k) := fun j hj => by
      match j, hj with
      | 0, _ => rfl
      | 1, _ => rfl
      | 2, _ => rfl
      | 3, _ => rfl
    generalize (mI (mI (mI (mI M 76 k (M.1 57 k)) 77 k (M.1 58 k)) 78 k (M.1 59 k)) 79 k (M.1 60 k)) = M1 at hf2 h42 ⊢
    refine hB _ _ _ _ (Body_lv (ih (k + 1) M1 (by omega) hf2 (fun j hj i hi => ?_)) ⟨rfl, v_eq (nI_i1 k), trivial⟩)
    rw [h42 j hj, e4 j hj]
    unfold upd
    by_cases z : i = k
    · rw [if_pos z, z]
    · rw [if_neg z]; exact h4 j hj i (by omega)
theorem now1 {d len : Nat} {M0 : Mem} {Q : Po} (hl : len ≤ 4) (h1 : M0.1 55 1 = nI len) (tl : ∀ M, FrM [75] [] M0 M → (∀ i, i < len → M.1 75 i = M0.1 56 i) → BodyK (d + 2) 198 30 [(0, .ref 55), (1, .int (nI 0))] [] M Q) : ∀ (n k : Nat) (M : Mem), k + n = len → FrM [75] [] M0 M → (∀ i, i < k → M.1 75 i = M0.1 56 i) →
    BodyK (d + 2) 198 2 [(0, .ref 55), (1, .int (nI k))] [] M Q := by
  have el := nI_v (n := len) (by omega)
  intro n
  induction n with
  | zero =>
    intro k M hk hf h4
    obtain rfl : k = len := by omega
    have hm : M.1 55 1 = nI k := by rw [FrM_j hf 1 (by decide)]; exact h1
    refine body_run 400 rfl (fun B Cl Z hZ hB hC => ?_)
    (conv => whnf); refine ⟨fun b => ?_, fun b => absurd (show cnd .ge (nI k) (M.1 55 1) by rw [hm, c_ge]; omega) b⟩
    (conv => whnf)
    exact hB _ _ _ _ (Body_lv (tl M hf h4) ⟨rfl, rfl, trivial⟩)
  | succ n ih =>
    intro k M hk hf h4
    have ek := nI_v (n := k) (by omega)
    have ck := nI_c (n := k) (by omega)
    have hm : M.1 55 1 = nI len := by rw [FrM_j hf 1 (by decide)]; exact h1
    have vk : vp_in (nI k) 4 := nI_vp (by omega) (by decide)
    refine body_run 400 rfl (fun B Cl Z hZ hB hC => ?_)
    (conv => whnf); refine ⟨fun b => ?_, fun b => ?_⟩
    · replace b : cnd .ge (nI k) (M.1 55 1) := b
      rw [hm, c_ge, ek, el] at b
      omega
    (conv => whnf)
    refine ⟨vk, ?_⟩
    (conv => whnf)
    refine ⟨vk, ?_⟩
    (conv => whnf)
    rw [ck]
    have e : M.1 56 = M0.1 56 := FrM_c hf (by decide) (by decide)
    refine hB _ _ _ _ (Body_lv (ih (k + 1) (mI M 75 k (M.1 56 k)) (by omega) (FrM_a hf (by decide) (by decide)) (fun i hi => ?_)) ⟨rfl, v_eq (nI_i1 k), trivial⟩)
    rw [mI_at, e]
    by_cases z : i = k
    · rw [if_pos ⟨rfl, z⟩, z]
    · rw [if_neg (fun y => z y.2)]; exact h4 i (by omega)
theorem m_layNow {d : Nat} {M : Mem} {rk : Rk} (h : RMk M rk) (ho : okR rk) : Call (d + 2) 198 [.ref 55] M (fun v M' => v = none ∧ FrM [75, 76, 77, 78, 79] [] M M' ∧ YM M' 75 rk) := by
  refine call_run 400 rfl rfl (fun B Cl Z hZ hB hC => ?_)
  conv => whnf
  refine hB _ _ _ _ (Body_lv (now1 (d := d) (len := rk.length) (M0 := M) ho.1 h.1 (fun M2 f2 p2 => now2 (M0 := M2) (fun M3 f3 p3 => ?_) 48 0 M2 rfl FrM_refl (fun j hj i hi => absurd hi (Nat.not_lt_zero i))) rk.length 0 M (by omega) FrM_refl (fun i hi => absurd hi (Nat.not_lt_zero i))) ⟨rfl, rfl, trivial⟩)
  refine ⟨rfl, FrM_trans (FrM_sub f2 (by decide) (by decide)) (FrM_sub f3 (by decide) (by decide)), fun r hr => ⟨?_, fun l q hq j hj => ?_⟩⟩
  · rw [FrM_c f3 (by decide) (by decide), p2 r hr]
    exact (h.2 r hr).1
  · have hr' := hgt_lt (ly_lt hq)
    have b1 := ho.2.1 r
    have b2 := ho.1
    have b3 := ly_lt hq
    show M3.1 (75 + 1 + j) _ = _
    rw [show 75 + 1 + j = 76 + j by omega, p3 j hj _ (by omega)]
    have e : M2.1 (57 + j) = M.1 (57 + j) := by
      match j, hj with
      | 0, _ => rw [FrM_c f2 (by decide) (by decide)]
      | 1, _ => rw [FrM_c f2 (by decide) (by decide)]
      | 2, _ => rw [FrM_c f2 (by decide) (by decide)]
      | 3, _ => rw [FrM_c f2 (by decide) (by decide)]
    rw [e]
    exact (h.2 r hr').2 l q hq j hj
theorem YM_f {A J : List Nat} {M M' : Mem} {rk : Rk} (h : YM M 75 rk) (hf : FrM A J M M') (ha : (A.contains 75 || A.contains 76 || A.contains 77 || A.contains 78 || A.contains 79) = false) : YM M' 75 rk := by
  simp only [Bool.or_eq_false_iff] at ha
  exact YM_fr h (FrM_c hf (by decide) ha.1.1.1.1) (FrM_c hf (by decide) ha.1.1.1.2) (FrM_c hf (by decide) ha.1.1.2) (FrM_c hf (by decide) ha.1.2) (FrM_c hf (by decide) ha.2)
theorem m_keptAt {d r l : Nat} {M : Mem} {s : St} {w : Rk} {q : Lyr} (h : RM M s) (hv : inv s) (hw : YM M 75 w) (ho : okR w) (hq : (w.getD r [])[l]? = some q) : Call (d + 5) 199 [.ref 55, .int (nI r), .int (nI l)] M (fun v M' => v = some (.int (kp (envS s) w r l q)) ∧ FrM KJ [] M M') := by
  have hl := ly_lt hq
  have hr := hgt_lt hl
  have b1 := ho.1
  have b2x := ho.2.1 r
  obtain ⟨y0, y1, y2, y3, y4⟩ := YM_at hw hq
  have eP : cI 12 * nI r + nI l = nI (12 * r + l) := by rw [show cI 12 = nI 12 from rfl, nI_mul, nI_add]
  have vP : vp_in (cI 12 * nI r + nI l) 48 := by rw [eP]; exact nI_vp (by omega) (by decide)
  have cP : (cI 12 * nI r + nI l).toNatClampNeg = 12 * r + l := by rw [eP]; exact nI_c (by omega)
  have cr := nI_c (n := r) (by omega)
  have eA : nI (hgt w r) - cI 1 - nI l = nI (hgt w r - 1 - l) := by
    rw [show nI (hgt w r) - cI 1 = nI (hgt w r - 1) from nI_sub (b := 1) (by omega), nI_sub (by omega)]
  refine call_run 400 rfl rfl (fun B Cl Z hZ hB hC => ?_)
  (conv => whnf)
  refine ⟨vP, ?_⟩
  (conv => whnf)
  refine ⟨vP, ?_⟩
  (conv => whnf)
  refine ⟨nI_vp (by omega) (by decide), ?_⟩
  (conv => whnf)
  refine ⟨vP, ?_⟩
  (conv => whnf)
  show Cl 197 [.ref 55, .int (M.1 77 (cI 12 * nI r + nI l).toNatClampNeg), .int (M.1 79 (cI 12 * nI r + nI l).toNatClampNeg), .int (M.1 75 (nI r).toNatClampNeg - cI 1 - nI l), .int (M.1 78 (cI 12 * nI r + nI l).toNatClampNeg), .int (nI l)] M _
  rw [cP, cr, y0, eA, show M.1 77 (12 * r + l) = nI q.2.1 from y2, show M.1 79 (12 * r + l) = nI q.2.2.2 from y4, show M.1 78 (12 * r + l) = nI q.2.2.1 from y3]
  refine hC _ _ _ _ _ (m_keptBy h hv) (fun v M1 p => ?_)
  obtain ⟨rfl, p2⟩ := p
  conv => whnf
  exact hZ _ _ ⟨rfl, p2⟩
theorem RM_KJ {M M' : Mem} {s : St} (h : RM M s) (hf : FrM KJ [] M M') : RM M' s := RM_x h (FrM_sub hf (by decide) (by decide))
theorem mX_loop {d r : Nat} {s : St} {w : Rk} (hv : inv s) (ho : okR w) (hr : r < w.length) : ∀ (n i : Nat) (a : Int32) (M : Mem), i + n = hgt w r → RM M s → YM M 75 w → BodyK (d + 6) 202 4 [(0, .ref 55), (1, .int (nI r)), (2, .int a), (3, .int (nI i))] [] M (fun v M' => v = some (.int (lnX rgt (kp (envS s) w r) ((w.getD r []).drop i) i a)) ∧ FrM KJ [] M M') := by
  have b1 := ho.1
  have b2x := ho.2.1 r
  have eh := nI_v (n := hgt w r) (by omega)
  have cr := nI_c (n := r) (by omega)
  have vr : vp_in (nI r) 4 := nI_vp (by omega) (by decide)
  intro n
  induction n with
  | zero =>
    intro i a M hi h hw
    obtain rfl : i = hgt w r := by omega
    have hd : (w.getD r []).drop (hgt w r) = [] := List.drop_eq_nil_of_le (Nat.le_refl _)
    rw [hd]
    refine body_run 400 rfl (fun B Cl Z hZ hB hC => ?_)
    (conv => whnf)
    refine ⟨vr, ?_⟩
    (conv => whnf); refine ⟨fun k => ?_, fun k => ?_⟩
    · conv => whnf
      exact hZ _ _ ⟨rfl, FrM_refl⟩
    · replace k : ¬ cnd .ge (nI (hgt w r)) (M.1 75 (nI r).toNatClampNeg) := k
      rw [cr, (hw r hr).1, c_ge] at k
      omega
  | succ n ih =>
    intro i a M hi h hw
    have ei := nI_v (n := i) (by omega)
    obtain ⟨q, hq⟩ := ly_at (rk := w) (r := r) (l := i) (by omega)
    rw [drop_at hq]
    have q8 := (ho.2.2 r i q hq).1
    obtain ⟨y0, y1, -⟩ := YM_at hw hq
    have eP : cI 12 * nI r + nI i = nI (12 * r + i) := by rw [show cI 12 = nI 12 from rfl, nI_mul, nI_add]
    have vP : vp_in (cI 12 * nI r + nI i) 48 := by rw [eP]; exact nI_vp (by omega) (by decide)
    have cP : (cI 12 * nI r + nI i).toNatClampNeg = 12 * r + i := by rw [eP]; exact nI_c (by omega)
    have eL : lnX rgt (kp (envS s) w r) (q :: (w.getD r []).drop (i + 1)) i a = lnX rgt (kp (envS s) w r) ((w.getD r []).drop (i + 1)) (i + 1) (a + rgt q.1 * kp (envS s) w r i q) := by
      rw [Int32.mul_comm (rgt q.1)]
      rfl
    rw [eL]
    refine body_run 400 rfl (fun B Cl Z hZ hB hC => ?_)
    (conv => whnf)
    refine ⟨vr, ?_⟩
    (conv => whnf); refine ⟨fun k => ?_, fun k => ?_⟩
    · replace k : cnd .ge (nI i) (M.1 75 (nI r).toNatClampNeg) := k
      rw [cr, (hw r hr).1, c_ge, eh, ei] at k
      omega
    (conv => whnf)
    refine ⟨vP, ?_⟩
    (conv => whnf)
    rw [cP, show M.1 76 (12 * r + i) = nI q.1 from y1]
    refine ret_k hC (m_alongX q8) ?_
    (conv => whnf)
    refine hC _ _ _ _ _ (m_keptAt h hv hw ho hq) (fun v M1 p => ?_)
    obtain ⟨rfl, p2⟩ := p
    (conv => whnf)
    exact hB _ _ _ _ (Body_lv (Body_mono (ih (i + 1) _ M1 (by omega) (RM_KJ h p2) (YM_f hw p2 (by decide))) (fun v M' y => ⟨y.1, FrM_trans p2 y.2⟩)) ⟨rfl, rfl, rfl, v_eq (nI_i1 i), trivial⟩)
theorem mY_loop {d r : Nat} {s : St} {w : Rk} (hv : inv s) (ho : okR w) (hr : r < w.length) : ∀ (n i : Nat) (a : Int32) (M : Mem), i + n = hgt w r → RM M s → YM M 75 w → BodyK (d + 6) 203 4 [(0, .ref 55), (1, .int (nI r)), (2, .int a), (3, .int (nI i))] [] M (fun v M' => v = some (.int (lnX dwn (kp (envS s) w r) ((w.getD r []).drop i) i a)) ∧ FrM KJ [] M M') := by
  have b1 := ho.1
  have b2x := ho.2.1 r
  have eh := nI_v (n := hgt w r) (by omega)
  have cr := nI_c (n := r) (by omega)
  have vr : vp_in (nI r) 4 := nI_vp (by omega) (by decide)
  intro n
  induction n with
  | zero =>
    intro i a M hi h hw
    obtain rfl : i = hgt w r := by omega
    have hd : (w.getD r []).drop (hgt w r) = [] := List.drop_eq_nil_of_le (Nat.le_refl _)
    rw [hd]
    refine body_run 400 rfl (fun B Cl Z hZ hB hC => ?_)
    (conv => whnf)
    refine ⟨vr, ?_⟩
    (conv => whnf); refine ⟨fun k => ?_, fun k => ?_⟩
    · conv => whnf
      exact hZ _ _ ⟨rfl, FrM_refl⟩
    · replace k : ¬ cnd .ge (nI (hgt w r)) (M.1 75 (nI r).toNatClampNeg) := k
      rw [cr, (hw r hr).1, c_ge] at k
      omega
  | succ n ih =>
    intro i a M hi h hw
    have ei := nI_v (n := i) (by omega)
    obtain ⟨q, hq⟩ := ly_at (rk := w) (r := r) (l := i) (by omega)
    rw [drop_at hq]
    have q8 := (ho.2.2 r i q hq).1
    obtain ⟨y0, y1, -⟩ := YM_at hw hq
    have eP : cI 12 * nI r + nI i = nI (12 * r + i) := by rw [show cI 12 = nI 12 from rfl, nI_mul, nI_add]
    have vP : vp_in (cI 12 * nI r + nI i) 48 := by rw [eP]; exact nI_vp (by omega) (by decide)
    have cP : (cI 12 * nI r + nI i).toNatClampNeg = 12 * r + i := by rw [eP]; exact nI_c (by omega)
    have eL : lnX dwn (kp (envS s) w r) (q :: (w.getD r []).drop (i + 1)) i a = lnX dwn (kp (envS s) w r) ((w.getD r []).drop (i + 1)) (i + 1) (a + dwn q.1 * kp (envS s) w r i q) := by
      rw [Int32.mul_comm (dwn q.1)]
      rfl
    rw [eL]
    refine body_run 400 rfl (fun B Cl Z hZ hB hC => ?_)
    (conv => whnf)
    refine ⟨vr, ?_⟩
    (conv => whnf); refine ⟨fun k => ?_, fun k => ?_⟩
    · replace k : cnd .ge (nI i) (M.1 75 (nI r).toNatClampNeg) := k
      rw [cr, (hw r hr).1, c_ge, eh, ei] at k
      omega
    (conv => whnf)
    refine ⟨vP, ?_⟩
    (conv => whnf)
    rw [cP, show M.1 76 (12 * r + i) = nI q.1 from y1]
    refine ret_k hC (m_alongY q8) ?_
    (conv => whnf)
    refine hC _ _ _ _ _ (m_keptAt h hv hw ho hq) (fun v M1 p => ?_)
    obtain ⟨rfl, p2⟩ := p
    (conv => whnf)
    exact hB _ _ _ _ (Body_lv (Body_mono (ih (i + 1) _ M1 (by omega) (RM_KJ h p2) (YM_f hw p2 (by decide))) (fun v M' y => ⟨y.1, FrM_trans p2 y.2⟩)) ⟨rfl, rfl, rfl, v_eq (nI_i1 i), trivial⟩)
theorem m_leanX {d r : Nat} {M : Mem} {s : St} {w : Rk} (h : RM M s) (hv : inv s) (hw : YM M 75 w) (ho : okR w) (hr : r < w.length) : Call (d + 6) 202 [.ref 55, .int (nI r)] M (fun v M' => v = some (.int (lX (envS s) w r)) ∧ FrM KJ [] M M') := by
  refine call_run 400 rfl rfl (fun B Cl Z hZ hB hC => ?_)
  conv => whnf
  exact hB _ _ _ _ (Body_lv (mX_loop (d := d) hv ho hr (hgt w r) 0 (cI 0) M (by omega) h hw) ⟨rfl, rfl, rfl, rfl, trivial⟩)
theorem m_leanY {d r : Nat} {M : Mem} {s : St} {w : Rk} (h : RM M s) (hv : inv s) (hw : YM M 75 w) (ho : okR w) (hr : r < w.length) : Call (d + 6) 203 [.ref 55, .int (nI r)] M (fun v M' => v = some (.int (lY (envS s) w r)) ∧ FrM KJ [] M M') := by
  refine call_run 400 rfl rfl (fun B Cl Z hZ hB hC => ?_)
  conv => whnf
  exact hB _ _ _ _ (Body_lv (mY_loop (d := d) hv ho hr (hgt w r) 0 (cI 0) M (by omega) h hw) ⟨rfl, rfl, rfl, rfl, trivial⟩)
theorem max_g (x y : Int32) : maxI x y = if y.toInt < x.toInt then x else y := by
  unfold maxI
  by_cases h : x < y
  · rw [if_pos h]
    rw [lt_i] at h
    rw [if_neg (by omega)]
  · rw [if_neg h]
    rw [lt_i] at h
    by_cases g : y.toInt < x.toInt
    · rw [if_pos g]
    · rw [if_neg g]
      exact Int32.toInt_inj.mp (by omega)
theorem m_leanMost {d r : Nat} {M : Mem} {s : St} {w : Rk} (h : RM M s) (hv : inv s) (hw : YM M 75 w) (ho : okR w) (hr : r < w.length) : Call (d + 7) 205 [.ref 55, .int (nI r)] M (fun v M' => v = some (.int (lM (envS s) w r)) ∧ FrM KJ [] M M') := by
  have em : lM (envS s) w r = if (absI (lY (envS s) w r)).toInt < (absI (lX (envS s) w r)).toInt then absI (lX (envS s) w r) else absI (lY (envS s) w r) := max_g _ _
  rw [em]
  refine call_run 400 rfl rfl (fun B Cl Z hZ hB hC => ?_)
  (conv => whnf)
  refine hC _ _ _ _ _ (m_leanX h hv hw ho hr) (fun v M1 p => ?_)
  obtain ⟨rfl, p2⟩ := p
  (conv => whnf); refine ret_k hC (m_plain) ?_
  (conv => whnf)
  refine hC _ _ _ _ _ (m_leanY (RM_KJ h p2) hv (YM_f hw p2 (by decide)) ho hr) (fun v M2 q => ?_)
  obtain ⟨rfl, q2⟩ := q
  (conv => whnf); refine ret_k hC (m_plain) ?_
  have hF := FrM_trans p2 q2
  (conv => whnf); refine ⟨fun a => ?_, fun a => ?_⟩
  · rw [c_le] at a
    rw [if_neg (by omega)] at hZ
    conv => whnf
    exact hZ _ _ ⟨rfl, hF⟩
  · rw [c_le] at a
    rw [if_pos (by omega)] at hZ
    conv => whnf
    exact hZ _ _ ⟨rfl, hF⟩
theorem m_standsNow {d r : Nat} {M : Mem} {s : St} {w : Rk} (h : RM M s) (hv : inv s) (hw : YM M 75 w) (ho : okR w) (hr : r < w.length) : Call (d + 8) 206 [.ref 55, .int (nI r)] M (fun v M' => v = some (.int (b2 (lM (envS s) w r ≤ (envS s).2.2.1))) ∧ FrM KJ [] M M') := by
  refine call_run 400 rfl rfl (fun B Cl Z hZ hB hC => ?_)
  (conv => whnf)
  refine hC _ _ _ _ _ (m_leanMost h hv hw ho hr) (fun v M1 p => ?_)
  obtain ⟨rfl, p2⟩ := p
  have e1 : M1.1 61 1 = (envS s).2.2.1 := by rw [FrM_c p2 (by decide) (by decide)]; exact h.2.1.2.1
  (conv => whnf)
  refine ⟨nI_vp (c := 1) (by decide) (by decide), ?_⟩
  (conv => whnf); refine ⟨fun a => ?_, fun a => ?_⟩
  · replace a : cnd .gt (lM (envS s) w r) (M1.1 61 1) := a
    rw [e1, c_gt] at a
    conv => whnf
    exact ⟨Or.inl rfl, hZ _ _ ⟨v_eq (b2_0 (by rw [le_i]; omega)), p2⟩⟩
  · replace a : ¬ cnd .gt (lM (envS s) w r) (M1.1 61 1) := a
    rw [e1, c_gt] at a
    conv => whnf
    exact ⟨Or.inr rfl, hZ _ _ ⟨v_eq (b2_1 (by rw [le_i]; omega)), p2⟩⟩
