/-! the reference: back to the image -/
theorem bak3 {d : Nat} {M0 : Mem} {Q : Po} {g : List AChg} {n0 : Nat} {rk : Rk} (hv : chOk rk g n0) (hc : ∀ M, FrM [57, 58, 59, 60, 86] [] M0 M → RMc M g n0) (fin : ∀ M, FrM [57, 58, 59, 60, 86] [] M0 M → (∀ j, j < 4 → ∀ i, i < 48 → M.1 (57 + j) i = M0.1 (88 + j) i) → (∀ i, i < 5 → M.1 86 i = M0.1 92 i) → ∀ M1, FrM [64] [] M M1 → RMc M1 (g.map deadC) n0 → Q (some (.int (M1.1 61 2))) M1) : ∀ (n k : Nat) (M : Mem), k + n = 5 → FrM [57, 58, 59, 60, 86] [] M0 M → (∀ j, j < 4 → ∀ i, i < 48 → M.1 (57 + j) i = M0.1 (88 + j) i) → (∀ i, i < k → M.1 86 i = M0.1 92 i) →
    BodyK (d + 2) 244 124 [(0, .ref 55), (1, .int (nI k))] [] M Q := by
  intro n
  induction n with
  | zero =>
    intro k M hk hf h4 h5
    obtain rfl : k = 5 := by omega
    have fin2 := fin M hf h4 h5
    have dead := m_dead (d := d) (hc M hf) hv
    refine body_run 400 rfl (fun B Cl Z hZ hB hC => ?_)
    (conv => whnf); refine ⟨fun b => ?_, fun b => absurd (show cnd .ge (nI 5) (cI 5) by rw [c_ge]; decide) b⟩
    (conv => whnf)
    refine hC _ _ _ _ _ dead (fun v M1 p => ?_)
    obtain ⟨rfl, p2, p3⟩ := p
    (conv => whnf)
    refine ⟨nI_vp (c := 2) (by decide) (by decide), ?_⟩
    conv => whnf
    exact hZ _ _ (fin2 M1 p2 p3)
  | succ n ih =>
    intro k M hk hf h4 h5
    have ek := nI_v (n := k) (by omega)
    have ck := nI_c (n := k) (by omega)
    refine body_run 400 rfl (fun B Cl Z hZ hB hC => ?_)
    (conv => whnf); refine ⟨fun b => ?_, fun b => ?_⟩
    · replace b : cnd .ge (nI k) (cI 5) := b
      rw [c_ge, ek, kv_5] at b
      omega
    (conv => whnf)
    refine ⟨nI_vp (by omega) (by decide), ?_⟩
    (conv => whnf)
    refine ⟨nI_vp (by omega) (by decide), ?_⟩
    (conv => whnf)
    rw [ck]
    have e : M.1 92 = M0.1 92 := FrM_c hf (by decide) (by decide)
    refine hB _ _ _ _ (Body_lv (ih (k + 1) (mI M 86 k (M.1 92 k)) (by omega) (FrM_a hf (by decide) (by decide)) (fun j hj i hi => ?_) (fun i hi => ?_)) ⟨rfl, v_eq (nI_i1 k), trivial⟩)
    · rw [mI_ne _ _ _ (by omega)]; exact h4 j hj i hi
    · rw [mI_at, e]
      by_cases z : i = k
      · rw [if_pos ⟨rfl, z⟩, z]
      · rw [if_neg (fun y => z y.2)]; exact h5 i (by omega)
theorem bak2 {d : Nat} {M0 : Mem} {Q : Po} (tl : ∀ M, FrM [57, 58, 59, 60, 86] [] M0 M → (∀ j, j < 4 → ∀ i, i < 48 → M.1 (57 + j) i = M0.1 (88 + j) i) → BodyK (d + 2) 244 124 [(0, .ref 55), (1, .int (nI 0))] [] M Q) : ∀ (n k : Nat) (M : Mem), k + n = 48 → FrM [57, 58, 59, 60, 86] [] M0 M → (∀ j, j < 4 → ∀ i, i < k → M.1 (57 + j) i = M0.1 (88 + j) i) →
    BodyK (d + 2) 244 62 [(0, .ref 55), (1, .int (nI k))] [] M Q := by
  intro n
  induction n with
  | zero =>
    intro k M hk hf h4
    obtain rfl : k = 48 := by omega
    refine body_run 400 rfl (fun B Cl Z hZ hB hC => ?_)
    (conv => whnf); refine ⟨fun b => ?_, fun b => absurd (show cnd .ge (nI 48) (cI 48) by rw [c_ge]; decide) b⟩
    (conv => whnf)
    exact hB _ _ _ _ (Body_lv (tl M hf h4) ⟨rfl, rfl, trivial⟩)
  | succ n ih =>
    intro k M hk hf h4
    have ek := nI_v (n := k) (by omega)
    have ck := nI_c (n := k) (by omega)
    have vk : vp_in (nI k) 48 := nI_vp (by omega) (by decide)
    refine body_run 400 rfl (fun B Cl Z hZ hB hC => ?_)
    (conv => whnf); refine ⟨fun b => ?_, fun b => ?_⟩
    · replace b : cnd .ge (nI k) (cI 48) := b
      rw [c_ge, ek, kv_48] at b
      omega
    (conv => whnf)
    refine ⟨vk, ?_⟩
    (conv => whnf)
    refine ⟨vk, ?_⟩
    (conv => whnf)
    refine ⟨vk, ?_⟩
    (conv => whnf)
    refine ⟨vk, ?_⟩
    (conv => whnf)
    refine ⟨vk, ?_⟩
    (conv => whnf)
    refine ⟨vk, ?_⟩
    (conv => whnf)
    refine ⟨vk, ?_⟩
    (conv => whnf)
    refine ⟨vk, ?_⟩
    (conv => whnf)
    rw [ck]
    show B 62 _ _ (mI (mI (mI (mI M 57 k (M.1 88 k)) 58 k (M.1 89 k)) 59 k (M.1 90 k)) 60 k (M.1 91 k))
    have e4 : ∀ j, j < 4 → M.1 (88 + j) = M0.1 (88 + j) := fun j hj => by
      match j, hj with
      | 0, _ => exact FrM_c hf (by decide) (by decide)
      | 1, _ => exact FrM_c hf (by decide) (by decide)
      | 2, _ => exact FrM_c hf (by decide) (by decide)
      | 3, _ => exact FrM_c hf (by decide) (by decide)
    have hf2 : FrM [57, 58, 59, 60, 86] [] M0 (mI (mI (mI (mI M 57 k (M.1 88 k)) 58 k (M.1 89 k)) 59 k (M.1 90 k)) 60 k (M.1 91 k)) := FrM_a (FrM_a (FrM_a (FrM_a hf (by decide) (by decide)) (by decide) (by decide)) (by decide) (by decide)) (by decide) (by decide)
    have h42 : ∀ j, j < 4 → (mI (mI (mI (mI M 57 k (M.1 88 k)) 58 k (M.1 89 k)) 59 k (M.1 90 k)) 60 k (M.1 91 k)).1 (57 + j) = upd (M.1 (57 + j)) k (M.1 (88 + j) k) := fun j hj => by
      match j, hj with
      | 0, _ => rfl
      | 1, _ => rfl
      | 2, _ => rfl
      | 3, _ => rfl
    generalize (mI (mI (mI (mI M 57 k (M.1 88 k)) 58 k (M.1 89 k)) 59 k (M.1 90 k)) 60 k (M.1 91 k)) = M1 at hf2 h42 ⊢
    refine hB _ _ _ _ (Body_lv (ih (k + 1) M1 (by omega) hf2 (fun j hj i hi => ?_)) ⟨rfl, v_eq (nI_i1 k), trivial⟩)
    rw [h42 j hj, e4 j hj]
    unfold upd
    by_cases z : i = k
    · rw [if_pos z, z]
    · rw [if_neg z]; exact h4 j hj i (by omega)
theorem bak1 {d len kr : Nat} {M0 : Mem} {Q : Po} (hl : len ≤ 4) (hk : kr ≤ 4) (h1 : M0.1 55 1 = nI len) (h2 : M0.1 55 50 = nI kr) (tl : ∀ M, FrM [56] [] M0 M → (∀ i, i < len → M.1 56 i = if i < kr then M0.1 87 i else 0) → BodyK (d + 2) 244 62 [(0, .ref 55), (1, .int (nI 0))] [] M Q) : ∀ (n k : Nat) (M : Mem), k + n = len → FrM [56] [] M0 M → (∀ i, i < k → M.1 56 i = if i < kr then M0.1 87 i else 0) →
    BodyK (d + 2) 244 22 [(0, .ref 55), (1, .int (nI k))] [] M Q := by
  have el := nI_v (n := len) (by omega)
  have er := nI_v (n := kr) (by omega)
  intro n
  induction n with
  | zero =>
    intro k M hk hf h4
    obtain rfl : k = len := by omega
    have hm : M.1 55 1 = nI k := by rw [FrM_j hf 1 (by decide)]; exact h1
    refine body_run 400 rfl (fun B Cl Z hZ hB hC => ?_)
    (conv => whnf); refine ⟨fun b => ?_, fun b => absurd (show cnd .ge (nI k) (M.1 55 1) by rw [hm, c_ge]; omega) b⟩
    (conv => whnf)
    exact hB _ _ _ _ (Body_lv (tl M hf h4) ⟨rfl, rfl, trivial⟩)
  | succ n ih =>
    intro k M hk hf h4
    have ek := nI_v (n := k) (by omega)
    have ck := nI_c (n := k) (by omega)
    have hm : M.1 55 1 = nI len := by rw [FrM_j hf 1 (by decide)]; exact h1
    have hm2 : M.1 55 50 = nI kr := by rw [FrM_j hf 50 (by decide)]; exact h2
    have vk : vp_in (nI k) 4 := nI_vp (by omega) (by decide)
    have e : M.1 87 = M0.1 87 := FrM_c hf (by decide) (by decide)
    have step : ∀ v, v = (if k < kr then M0.1 87 k else 0) → ∀ i, i < k + 1 → (mI M 56 k v).1 56 i = if i < kr then M0.1 87 i else 0 := by
      intro v hv i hi
      rw [mI_at]
      by_cases z : i = k
      · rw [if_pos ⟨rfl, z⟩, z, hv]
      · rw [if_neg (fun y => z y.2)]; exact h4 i (by omega)
    refine body_run 400 rfl (fun B Cl Z hZ hB hC => ?_)
    (conv => whnf); refine ⟨fun b => ?_, fun b => ?_⟩
    · replace b : cnd .ge (nI k) (M.1 55 1) := b
      rw [hm, c_ge, ek, el] at b
      omega
    (conv => whnf); refine ⟨fun g => ?_, fun g => ?_⟩
    · replace g : cnd .ge (nI k) (M.1 55 50) := g
      rw [hm2, c_ge, ek, er] at g
      (conv => whnf)
      refine ⟨vk, ?_⟩
      (conv => whnf)
      rw [ck]
      refine hB _ _ _ _ (Body_lv (ih (k + 1) (mI M 56 k 0) (by omega) (FrM_a hf (by decide) (by decide)) (step 0 (by rw [if_neg (by omega)]))) ⟨rfl, v_eq (nI_i1 k), trivial⟩)
    · replace g : ¬ cnd .ge (nI k) (M.1 55 50) := g
      rw [hm2, c_ge, ek, er] at g
      (conv => whnf)
      refine ⟨vk, ?_⟩
      (conv => whnf)
      refine ⟨vk, ?_⟩
      (conv => whnf)
      rw [ck]
      refine hB _ _ _ _ (Body_lv (ih (k + 1) (mI M 56 k (M.1 87 k)) (by omega) (FrM_a hf (by decide) (by decide)) (step _ (by rw [if_pos (by omega), e]))) ⟨rfl, v_eq (nI_i1 k), trivial⟩)
theorem m_back {d : Nat} {M : Mem} {s : St} (h : RM M s) (hv : inv s) : Call (d + 2) 244 [.ref 55] M (QP M (.int (aBack s).1) (aBack s).2) := by
  obtain ⟨h1, h2, h3, h4, h5, h6, h7, h8, h9, h10⟩ := id h
  have hv9 := hv.2.2.2.2.2.2.2.2
  have hv8 := hv.2.2.2.2.2.2.2.1
  have hv1 := hv.1
  refine call_run 400 rfl rfl (fun B Cl Z hZ hB hC => ?_)
  generalize him : sIm s = im at h5 hv9
  rcases im with _ | ⟨irk, de, dy⟩
  · have e9 : aBack s = (cI (-5), s) := by unfold aBack; rw [him]
    rw [e9] at hZ
    replace h5 : M.1 55 49 = 0 := h5
    (conv => whnf); refine ⟨fun b => ?_, fun b => ?_⟩
    · replace b : cnd .ne (M.1 55 49) 0 := b
      rw [h5] at b
      exact absurd rfl b
    · conv => whnf
      exact hZ _ _ (QP_same h FrM_refl)
  have e9 : aBack s = (nI dy, backS s irk de dy) := by unfold aBack; rw [him]
  rw [e9] at hB
  obtain ⟨i1, i2, i3, i4, i5⟩ := h5
  obtain ⟨k1, k2, k3⟩ := hv9
  (conv => whnf); refine ⟨fun b => ?_, fun b => ?_⟩
  case' refine_2 =>
    replace b : ¬ cnd .ne (M.1 55 49) 0 := b
    rw [i1, c_ne] at b
    exact absurd (show ¬ (1 : Int32).toInt = (0 : Int32).toInt by decide) b
  (conv => whnf)
  refine ⟨nI_vp (c := 2) (by decide) (by decide), ?_⟩
  (conv => whnf)
  show B 22 _ _ (mI M 61 2 (M.1 55 51))
  have hf0 : FrM [61] [] M (mI M 61 2 (M.1 55 51)) := FrM_a FrM_refl (by decide) (by decide)
  have e61 : (mI M 61 2 (M.1 55 51)).1 61 = upd (M.1 61) 2 (M.1 55 51) := rfl
  generalize (mI M 61 2 (M.1 55 51)) = M1 at hf0 e61 ⊢
  have q1 : M1.1 55 1 = nI (sK s).length := by rw [FrM_j hf0 1 (by decide)]; exact h1.1
  have q2 : M1.1 55 50 = nI irk.length := by rw [FrM_j hf0 50 (by decide)]; exact i2
  have a61 : ∀ Mx, FrM [56, 57, 58, 59, 60, 86, 64] [] M1 Mx → ∀ i, Mx.1 61 i = if i = 2 then nI dy else M.1 61 i := by
    intro Mx hx i
    rw [FrM_c hx (by decide) (by decide), e61]
    unfold upd
    by_cases z : i = 2
    · rw [if_pos z, if_pos z]; exact i3
    · rw [if_neg z, if_neg z]
  refine hB _ _ _ _ (Body_lv (bak1 (d := d) (len := (sK s).length) (kr := irk.length) (M0 := M1) hv1.1 k1.1 q1 q2 (fun M2 f2 p2 => bak2 (M0 := M2) (fun M3 f3 p3 => bak3 (M0 := M2) (g := sCg s) (n0 := sN s) (rk := sK s) hv8 (fun Mx hx => RMc_f (RMc_f (RMc_f h10 hf0 (by decide) (by decide)) f2 (by decide) (by decide)) hx (by decide) (by decide)) (fun M4 f4 p4 p5 M5 f5 p6 => ?_) 5 0 M3 rfl f3 p3 (fun i hi => absurd hi (Nat.not_lt_zero i))) 48 0 M2 rfl FrM_refl (fun j hj i hi => absurd hi (Nat.not_lt_zero i))) (sK s).length 0 M1 (by omega) FrM_refl (fun i hi => absurd hi (Nat.not_lt_zero i))) ⟨rfl, rfl, trivial⟩)
  have hG : FrM [56, 57, 58, 59, 60, 86, 64] [] M1 M5 := FrM_trans (FrM_sub f2 (by decide) (by decide)) (FrM_trans (FrM_sub f4 (by decide) (by decide)) (FrM_sub f5 (by decide) (by decide)))
  have hF : FrM [61, 56, 57, 58, 59, 60, 86, 64] [] M M5 := FrM_trans (FrM_sub hf0 (by decide) (by decide)) (FrM_sub hG (by decide) (by decide))
  have hlen : (bkR irk (sK s).length).length = (sK s).length := bkR_len k2
  refine ⟨by rw [a61 M5 hG, if_pos rfl], RM_st h hF ⟨?_, fun r hr => ⟨?_, fun l q hq j hj => ?_⟩⟩ ⟨?_, ?_, ?_, fun w hw => ?_⟩ (fun i hi => ?_) (RMi_f (by show RMi M (sIm s); rw [him]; exact h.2.2.2.2.1 |> (fun z => by rw [him] at z; exact z)) hF (by decide) (by decide)) (RMt_f h6 hF (by decide) (by decide)) (RMb_f h7 hF (by decide) (by decide)) (RMr_f h8 hF (by decide) (by decide)) (RMs_f h9 hF (by decide)) p6 (RMl_f h3 hF (by decide) (by decide)), Fr_sub hF.1 (by decide)⟩
  · show M5.1 55 1 = nI (bkR irk (sK s).length).length
    rw [hlen, FrM_j hF 1 (by decide)]; exact h1.1
  · replace hr : r < (bkR irk (sK s).length).length := hr
    rw [hlen] at hr
    show M5.1 56 r = nI (hgt (bkR irk (sK s).length) r)
    rw [bkR_hgt, FrM_c f5 (by decide) (by decide), FrM_c f4 (by decide) (by decide), p2 r hr]
    by_cases z : r < irk.length
    · rw [if_pos z, FrM_c hf0 (by decide) (by decide)]
      exact (i4 r z).1
    · rw [if_neg z, hgt_ge (by omega)]; rfl
  · replace hq : ((bkR irk (sK s).length).getD r [])[l]? = some q := hq
    rw [bkR_at] at hq
    have hr' := hgt_lt (ly_lt hq)
    have b1 := k1.2.1 r
    have b2 := k1.1
    have b3 := ly_lt hq
    show M5.1 (57 + j) (12 * r + l) = _
    have e : M5.1 (57 + j) = M4.1 (57 + j) := by
      match j, hj with
      | 0, _ => exact FrM_c f5 (by decide) (by decide)
      | 1, _ => exact FrM_c f5 (by decide) (by decide)
      | 2, _ => exact FrM_c f5 (by decide) (by decide)
      | 3, _ => exact FrM_c f5 (by decide) (by decide)
    have e2 : M2.1 (88 + j) = M.1 (88 + j) := by
      match j, hj with
      | 0, _ => rw [FrM_c f2 (by decide) (by decide), FrM_c hf0 (by decide) (by decide)]
      | 1, _ => rw [FrM_c f2 (by decide) (by decide), FrM_c hf0 (by decide) (by decide)]
      | 2, _ => rw [FrM_c f2 (by decide) (by decide), FrM_c hf0 (by decide) (by decide)]
      | 3, _ => rw [FrM_c f2 (by decide) (by decide), FrM_c hf0 (by decide) (by decide)]
    rw [e, p4 j hj _ (by omega), e2]
    exact (i4 r hr').2 l q hq j hj
  · show M5.1 61 0 = _
    rw [a61 M5 hG, if_neg (by decide)]; exact h2.1
  · show M5.1 61 1 = _
    rw [a61 M5 hG, if_neg (by decide)]; exact h2.2.1
  · show M5.1 61 2 = nI dy
    rw [a61 M5 hG, if_pos rfl]
  · show M5.1 62 w = _
    rw [FrM_c hF (by decide) (by decide)]; exact h2.2.2.2 w hw
  · show M5.1 86 i = de i
    rw [FrM_c f5 (by decide) (by decide), p5 i hi, FrM_c f2 (by decide) (by decide), FrM_c hf0 (by decide) (by decide)]
    exact i5 i hi
