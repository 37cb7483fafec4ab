/-! the reference: the image kept, come back -/
theorem img3 {d : Nat} {M0 : Mem} {Q : Po} (fin : ∀ M, FrM [88, 89, 90, 91, 92] [] M0 M → (∀ j, j < 4 → ∀ i, i < 48 → M.1 (88 + j) i = M0.1 (57 + j) i) → (∀ i, i < 5 → M.1 92 i = M0.1 86 i) → Q (some (.int (M.1 61 2))) M) : ∀ (n k : Nat) (M : Mem), k + n = 5 → FrM [88, 89, 90, 91, 92] [] M0 M → (∀ j, j < 4 → ∀ i, i < 48 → M.1 (88 + j) i = M0.1 (57 + j) i) → (∀ i, i < k → M.1 92 i = M0.1 86 i) →
    BodyK (d + 2) 243 115 [(0, .ref 55), (1, .int (nI k))] [] M Q := by
  intro n
  induction n with
  | zero =>
    intro k M hk hf h4 h5
    obtain rfl : k = 5 := by omega
    have fin2 := fin M hf h4 h5
    refine body_run 400 rfl (fun B Cl Z hZ hB hC => ?_)
    (conv => whnf); refine ⟨fun b => ?_, fun b => absurd (show cnd .ge (nI 5) (cI 5) by rw [c_ge]; decide) b⟩
    (conv => whnf)
    refine ⟨nI_vp (c := 2) (by decide) (by decide), ?_⟩
    conv => whnf
    exact hZ _ _ fin2
  | succ n ih =>
    intro k M hk hf h4 h5
    have ek := nI_v (n := k) (by omega)
    have ck := nI_c (n := k) (by omega)
    refine body_run 400 rfl (fun B Cl Z hZ hB hC => ?_)
    (conv => whnf); refine ⟨fun b => ?_, fun b => ?_⟩
    · replace b : cnd .ge (nI k) (cI 5) := b
      rw [c_ge, ek, kv_5] at b
      omega
    (conv => whnf)
    refine ⟨nI_vp (by omega) (by decide), ?_⟩
    (conv => whnf)
    refine ⟨nI_vp (by omega) (by decide), ?_⟩
    (conv => whnf)
    rw [ck]
    have e : M.1 86 = M0.1 86 := FrM_c hf (by decide) (by decide)
    refine hB _ _ _ _ (Body_lv (ih (k + 1) (mI M 92 k (M.1 86 k)) (by omega) (FrM_a hf (by decide) (by decide)) (fun j hj i hi => ?_) (fun i hi => ?_)) ⟨rfl, v_eq (nI_i1 k), trivial⟩)
    · rw [mI_ne _ _ _ (by omega)]; exact h4 j hj i hi
    · rw [mI_at, e]
      by_cases z : i = k
      · rw [if_pos ⟨rfl, z⟩, z]
      · rw [if_neg (fun y => z y.2)]; exact h5 i (by omega)
theorem img2 {d : Nat} {M0 : Mem} {Q : Po} (tl : ∀ M, FrM [88, 89, 90, 91, 92] [] M0 M → (∀ j, j < 4 → ∀ i, i < 48 → M.1 (88 + j) i = M0.1 (57 + j) i) → BodyK (d + 2) 243 115 [(0, .ref 55), (1, .int (nI 0))] [] M Q) : ∀ (n k : Nat) (M : Mem), k + n = 48 → FrM [88, 89, 90, 91, 92] [] M0 M → (∀ j, j < 4 → ∀ i, i < k → M.1 (88 + j) i = M0.1 (57 + j) i) →
    BodyK (d + 2) 243 53 [(0, .ref 55), (1, .int (nI k))] [] M Q := by
  intro n
  induction n with
  | zero =>
    intro k M hk hf h4
    obtain rfl : k = 48 := by omega
    refine body_run 400 rfl (fun B Cl Z hZ hB hC => ?_)
    (conv => whnf); refine ⟨fun b => ?_, fun b => absurd (show cnd .ge (nI 48) (cI 48) by rw [c_ge]; decide) b⟩
    (conv => whnf)
    exact hB _ _ _ _ (Body_lv (tl M hf h4) ⟨rfl, rfl, trivial⟩)
  | succ n ih =>
    intro k M hk hf h4
    have ek := nI_v (n := k) (by omega)
    have ck := nI_c (n := k) (by omega)
    have vk : vp_in (nI k) 48 := nI_vp (by omega) (by decide)
    refine body_run 400 rfl (fun B Cl Z hZ hB hC => ?_)
    (conv => whnf); refine ⟨fun b => ?_, fun b => ?_⟩
    · replace b : cnd .ge (nI k) (cI 48) := b
      rw [c_ge, ek, kv_48] at b
      omega
    (conv => whnf)
    refine ⟨vk, ?_⟩
    (conv => whnf)
    refine ⟨vk, ?_⟩
    (conv => whnf)
    refine ⟨vk, ?_⟩
    (conv => whnf)
    refine ⟨vk, ?_⟩
    (conv => whnf)
    refine ⟨vk, ?_⟩
    (conv => whnf)
    refine ⟨vk, ?_⟩
    (conv => whnf)
    refine ⟨vk, ?_⟩
    (conv => whnf)
    refine ⟨vk, ?_⟩
    (conv => whnf)
    rw [ck]
    show B 53 _ _ (mI (mI (mI (mI M 88 k (M.1 57 k)) 89 k (M.1 58 k)) 90 k (M.1 59 k)) 91 k (M.1 60 k))
    have e4 : ∀ j, j < 4 → M.1 (57 + j) = M0.1 (57 + j) := fun j hj => by
      match j, hj with
      | 0, _ => exact FrM_c hf (by decide) (by decide)
      | 1, _ => exact FrM_c hf (by decide) (by decide)
      | 2, _ => exact FrM_c hf (by decide) (by decide)
      | 3, _ => exact FrM_c hf (by decide) (by decide)
    have hf2 : FrM [88, 89, 90, 91, 92] [] M0 (mI (mI (mI (mI M 88 k (M.1 57 k)) 89 k (M.1 58 k)) 90 k (M.1 59 k)) 91 k (M.1 60 k)) := FrM_a (FrM_a (FrM_a (FrM_a hf (by decide) (by decide)) (by decide) (by decide)) (by decide) (by decide)) (by decide) (by decide)
    have h42 : ∀ j, j < 4 → (mI (mI (mI (mI M 88 k (M.1 57 k)) 89 k (M.1 58 k)) 90 k (M.1 59 k)) 91 k (M.1 60 k)).1 (88 + j) = upd (M.1 (88 + j)) k (M.1 (57 + j) k) := fun j hj => by
      match j, hj with
      | 0, _ => rfl
      | 1, _ => rfl
      | 2, _ => rfl
      | 3, _ => rfl
    generalize (mI (mI (mI (mI M 88 k (M.1 57 k)) 89 k (M.1 58 k)) 90 k (M.1 59 k)) 91 k (M.1 60 k)) = M1 at hf2 h42 ⊢
    refine hB _ _ _ _ (Body_lv (ih (k + 1) M1 (by omega) hf2 (fun j hj i hi => ?_)) ⟨rfl, v_eq (nI_i1 k), trivial⟩)
    rw [h42 j hj, e4 j hj]
    unfold upd
    by_cases z : i = k
    · rw [if_pos z, z]
    · rw [if_neg z]; exact h4 j hj i (by omega)
theorem img1 {d len : Nat} {M0 : Mem} {Q : Po} (hl : len ≤ 4) (h1 : M0.1 55 1 = nI len) (tl : ∀ M, FrM [87] [] M0 M → (∀ i, i < len → M.1 87 i = M0.1 56 i) → BodyK (d + 2) 243 53 [(0, .ref 55), (1, .int (nI 0))] [] M Q) : ∀ (n k : Nat) (M : Mem), k + n = len → FrM [87] [] M0 M → (∀ i, i < k → M.1 87 i = M0.1 56 i) →
    BodyK (d + 2) 243 25 [(0, .ref 55), (1, .int (nI k))] [] M Q := by
  have el := nI_v (n := len) (by omega)
  intro n
  induction n with
  | zero =>
    intro k M hk hf h4
    obtain rfl : k = len := by omega
    have hm : M.1 55 1 = nI k := by rw [FrM_j hf 1 (by decide)]; exact h1
    refine body_run 400 rfl (fun B Cl Z hZ hB hC => ?_)
    (conv => whnf); refine ⟨fun b => ?_, fun b => absurd (show cnd .ge (nI k) (M.1 55 1) by rw [hm, c_ge]; omega) b⟩
    (conv => whnf)
    exact hB _ _ _ _ (Body_lv (tl M hf h4) ⟨rfl, rfl, trivial⟩)
  | succ n ih =>
    intro k M hk hf h4
    have ek := nI_v (n := k) (by omega)
    have ck := nI_c (n := k) (by omega)
    have hm : M.1 55 1 = nI len := by rw [FrM_j hf 1 (by decide)]; exact h1
    have vk : vp_in (nI k) 4 := nI_vp (by omega) (by decide)
    refine body_run 400 rfl (fun B Cl Z hZ hB hC => ?_)
    (conv => whnf); refine ⟨fun b => ?_, fun b => ?_⟩
    · replace b : cnd .ge (nI k) (M.1 55 1) := b
      rw [hm, c_ge, ek, el] at b
      omega
    (conv => whnf)
    refine ⟨vk, ?_⟩
    (conv => whnf)
    refine ⟨vk, ?_⟩
    (conv => whnf)
    rw [ck]
    have e : M.1 56 = M0.1 56 := FrM_c hf (by decide) (by decide)
    refine hB _ _ _ _ (Body_lv (ih (k + 1) (mI M 87 k (M.1 56 k)) (by omega) (FrM_a hf (by decide) (by decide)) (fun i hi => ?_)) ⟨rfl, v_eq (nI_i1 k), trivial⟩)
    rw [mI_at, e]
    by_cases z : i = k
    · rw [if_pos ⟨rfl, z⟩, z]
    · rw [if_neg (fun y => z y.2)]; exact h4 i (by omega)
theorem m_image {d : Nat} {M : Mem} {s : St} (h : RM M s) (hv : inv s) : Call (d + 2) 243 [.ref 55] M (QP M (.int (nI (sDy s))) (aImage s)) := by
  obtain ⟨h1, h2, h3, h4, h5, h6, h7, h8, h9, h10⟩ := id h
  refine call_run 400 rfl rfl (fun B Cl Z hZ hB hC => ?_)
  (conv => whnf)
  refine ⟨Or.inr rfl, ?_⟩
  (conv => whnf)
  refine ⟨nI_vp (c := 2) (by decide) (by decide), ?_⟩
  (conv => whnf)
  show B 25 _ _ (mI (mI (mI M 55 49 (cI 1)) 55 50 (M.1 55 1)) 55 51 (M.1 61 2))
  have hf0 : FrM [] [49, 50, 51] M (mI (mI (mI M 55 49 (cI 1)) 55 50 (M.1 55 1)) 55 51 (M.1 61 2)) := FrM_s (FrM_s (FrM_s FrM_refl (by decide)) (by decide)) (by decide)
  have e49 : (mI (mI (mI M 55 49 (cI 1)) 55 50 (M.1 55 1)) 55 51 (M.1 61 2)).1 55 49 = 1 := rfl
  have e50 : (mI (mI (mI M 55 49 (cI 1)) 55 50 (M.1 55 1)) 55 51 (M.1 61 2)).1 55 50 = M.1 55 1 := rfl
  have e51 : (mI (mI (mI M 55 49 (cI 1)) 55 50 (M.1 55 1)) 55 51 (M.1 61 2)).1 55 51 = M.1 61 2 := rfl
  generalize (mI (mI (mI M 55 49 (cI 1)) 55 50 (M.1 55 1)) 55 51 (M.1 61 2)) = M1 at hf0 e49 e50 e51 ⊢
  have q1 : M1.1 55 1 = nI (sK s).length := by rw [FrM_j hf0 1 (by decide)]; exact h1.1
  refine hB _ _ _ _ (Body_lv (img1 (d := d) (len := (sK s).length) (M0 := M1) hv.1.1 q1 (fun M2 f2 p2 => img2 (M0 := M2) (fun M3 f3 p3 => img3 (M0 := M2) (fun M4 f4 p4 p5 => ?_) 5 0 M3 rfl f3 p3 (fun i hi => absurd hi (Nat.not_lt_zero i))) 48 0 M2 rfl FrM_refl (fun j hj i hi => absurd hi (Nat.not_lt_zero i))) (sK s).length 0 M1 (by omega) FrM_refl (fun i hi => absurd hi (Nat.not_lt_zero i))) ⟨rfl, rfl, trivial⟩)
  have hF : FrM [87, 88, 89, 90, 91, 92] [49, 50, 51] M M4 := FrM_trans (FrM_sub hf0 (by decide) (by decide)) (FrM_trans (FrM_sub f2 (by decide) (by decide)) (FrM_sub f4 (by decide) (by decide)))
  have hG : FrM [87, 88, 89, 90, 91, 92] [] M1 M4 := FrM_trans (FrM_sub f2 (by decide) (by decide)) (FrM_sub f4 (by decide) (by decide))
  have e2 : M4.1 61 2 = nI (sDy s) := by rw [FrM_c hF (by decide) (by decide)]; exact h2.2.2.1
  refine ⟨by rw [e2], RM_st h hF (RMk_fr h1 hF (by decide) (by decide)) (RMn_f h2 hF (by decide)) (RMd_f h4 hF (by decide)) ⟨?_, ?_, ?_, fun r hr => ⟨?_, fun l q hq j hj => ?_⟩, fun i hi => ?_⟩ (RMt_f h6 hF (by decide) (by decide)) (RMb_f h7 hF (by decide) (by decide)) (RMr_f h8 hF (by decide) (by decide)) (RMs_f h9 hF (by decide)) (RMc_f h10 hF (by decide) (by decide)) (RMl_f h3 hF (by decide) (by decide)), Fr_sub hF.1 (by decide)⟩
  · rw [FrM_j hG 49 (by decide)]; exact e49
  · rw [FrM_j hG 50 (by decide), e50]; exact h1.1
  · rw [FrM_j hG 51 (by decide), e51]; exact h2.2.2.1
  · have b1 : M4.1 87 r = M2.1 87 r := by
      rw [FrM_c f4 (by decide) (by decide)]
    rw [b1, p2 r hr, FrM_c hf0 (by decide) (by decide)]
    exact (h1.2 r hr).1
  · have hr' := hgt_lt (ly_lt hq)
    have b1 := hv.1.2.1 r
    have b2 := hv.1.1
    have b3 := ly_lt hq
    rw [p4 j hj _ (by omega)]
    have e : M2.1 (57 + j) = M.1 (57 + j) := by
      match j, hj with
      | 0, _ => rw [FrM_c f2 (by decide) (by decide), FrM_c hf0 (by decide) (by decide)]
      | 1, _ => rw [FrM_c f2 (by decide) (by decide), FrM_c hf0 (by decide) (by decide)]
      | 2, _ => rw [FrM_c f2 (by decide) (by decide), FrM_c hf0 (by decide) (by decide)]
      | 3, _ => rw [FrM_c f2 (by decide) (by decide), FrM_c hf0 (by decide) (by decide)]
    rw [e]
    exact (h1.2 r hr').2 l q hq j hj
  · rw [p5 i hi, FrM_c f2 (by decide) (by decide), FrM_c hf0 (by decide) (by decide)]
    exact h4 i hi
