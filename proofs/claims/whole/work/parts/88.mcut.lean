/-! the reference: a cut in deed -/
section MCUT
variable {d r l : Nat} {M0 Mb : Mem} {s : St} {k : Int32} {wy : Nat}
def cutB (M0 Mb : Mem) (s : St) (r l : Nat) (k : Int32) (wy : Nat) : Prop := FrM [73, 74, 75, 76, 77, 78, 79, 56, 86] [] M0 Mb ∧ YM Mb 75 (cutR (sK s) r l) ∧ Mb.1 56 = upd (M0.1 56) r (nI (hgt (sK s) r - 1)) ∧ ∀ i, i < 5 → Mb.1 86 i = if (envS s).2.2.2 wy ≤ k ∧ i = 3 then sDe s 3 + cI 1 else sDe s i
theorem cut_fin (h : RM M0 s) (hv : inv s) (hl : l < hgt (sK s) r) (hb : cutB M0 Mb s r l k wy) {M : Mem} (hf : FrM [57, 58, 59, 60] [] Mb M) (h4 : ∀ j, j < 4 → ∀ p, M.1 (57 + j) p = if 12 * r ≤ p ∧ p < 12 * r + hgt (sK s) r - 1 then Mb.1 (76 + j) p else Mb.1 (57 + j) p) {M2 : Mem} (hf2 : FrM [64] [] M M2) (hc : RMc M2 ((sCg s).map (cutC (16 * r + l))) (sN s)) : QP M0 (.int k) (cutS s r l k wy) (some (.int k)) (mI (mI M2 86 1 (M2.1 86 1 + cI 1)) 86 2 (M2.1 86 2 + k)) := by
  obtain ⟨b1, b2, b3, b4⟩ := hb
  obtain ⟨h1, h2, h3, h4', h5, h6, h7, h8, h9, h10⟩ := id h
  have hr := hgt_lt hl
  have hF2 : FrM [73, 74, 75, 76, 77, 78, 79, 56, 86, 57, 58, 59, 60, 64] [] M0 M2 := FrM_trans (FrM_sub b1 (by decide) (by decide)) (FrM_trans (FrM_sub hf (by decide) (by decide)) (FrM_sub hf2 (by decide) (by decide)))
  have hF : FrM [73, 74, 75, 76, 77, 78, 79, 56, 86, 57, 58, 59, 60, 64] [] M0 (mI (mI M2 86 1 (M2.1 86 1 + cI 1)) 86 2 (M2.1 86 2 + k)) := FrM_a (FrM_a hF2 (by decide) (by decide)) (by decide) (by decide)
  have hG : FrM [86] [] M2 (mI (mI M2 86 1 (M2.1 86 1 + cI 1)) 86 2 (M2.1 86 2 + k)) := FrM_a (FrM_a FrM_refl (by decide) (by decide)) (by decide) (by decide)
  have e86 : M2.1 86 = Mb.1 86 := by rw [FrM_c hf2 (by decide) (by decide), FrM_c hf (by decide) (by decide)]
  refine ⟨rfl, RM_st h hF ⟨?_, fun r' hr' => ⟨?_, fun l' q hq j hj => ?_⟩⟩ (RMn_f h2 hF (by decide)) (fun i hi => ?_) (RMi_f h5 hF (by decide) (by decide)) (RMt_f h6 hF (by decide) (by decide)) (RMb_f h7 hF (by decide) (by decide)) (RMr_f h8 hF (by decide) (by decide)) (RMs_f h9 hF (by decide)) (RMc_f hc hG (by decide) (by decide)) (RMl_f h3 hF (by decide) (by decide)), Fr_sub hF.1 (by decide)⟩
  · rw [FrM_j hF 1 (by decide)]
    show _ = nI (cutR (sK s) r l).length
    unfold cutR
    rw [List.length_set]
    exact h1.1
  · replace hr' : r' < (cutR (sK s) r l).length := hr'
    have hr'2 : r' < (sK s).length := by unfold cutR at hr'; rw [List.length_set] at hr'; exact hr'
    show _ = nI (hgt (cutR (sK s) r l) r')
    rw [FrM_c hG (by decide) (by decide), FrM_c hf2 (by decide) (by decide), FrM_c hf (by decide) (by decide), b3, cutR_hgt hl]
    unfold upd
    split
    · rfl
    · exact (h1.2 r' hr'2).1
  · replace hq : ((cutR (sK s) r l).getD r' [])[l']? = some q := hq
    have hl' := ly_lt hq
    have hlen := hgt_lt hl'
    have hc0 := hl'
    rw [cutR_hgt hl] at hl'
    have c1 := hv.1.2.1 r
    have c2 := hv.1.2.1 r'
    have e : (mI (mI M2 86 1 (M2.1 86 1 + cI 1)) 86 2 (M2.1 86 2 + k)).1 (57 + j) = M.1 (57 + j) := by
      match j, hj with
      | 0, _ => rw [FrM_c hG (by decide) (by decide), FrM_c hf2 (by decide) (by decide)]
      | 1, _ => rw [FrM_c hG (by decide) (by decide), FrM_c hf2 (by decide) (by decide)]
      | 2, _ => rw [FrM_c hG (by decide) (by decide), FrM_c hf2 (by decide) (by decide)]
      | 3, _ => rw [FrM_c hG (by decide) (by decide), FrM_c hf2 (by decide) (by decide)]
    have e0 : Mb.1 (57 + j) = M0.1 (57 + j) := by
      match j, hj with
      | 0, _ => exact FrM_c b1 (by decide) (by decide)
      | 1, _ => exact FrM_c b1 (by decide) (by decide)
      | 2, _ => exact FrM_c b1 (by decide) (by decide)
      | 3, _ => exact FrM_c b1 (by decide) (by decide)
    show (mI (mI M2 86 1 (M2.1 86 1 + cI 1)) 86 2 (M2.1 86 2 + k)).1 (57 + j) _ = _
    rw [e, h4 j hj]
    by_cases z : r' = r
    · subst z
      rw [if_pos rfl] at hl'
      rw [if_pos (by omega)]
      have := (b2 r' hlen).2 l' q hq j hj
      rw [show 75 + 1 + j = 76 + j by omega] at this
      exact this
    · rw [if_neg z] at hl'
      have q2 := cutR_at hl hq
      rw [if_neg (fun y => z y.1)] at q2
      rw [if_neg (by omega), e0]
      exact (h1.2 r' (hgt_lt (ly_lt q2))).2 l' q q2 j hj
  · show (mI (mI M2 86 1 (M2.1 86 1 + cI 1)) 86 2 (M2.1 86 2 + k)).1 86 i = cutD s k wy i
    have b40 : Mb.1 86 0 = sDe s 0 := by rw [b4 0 (by decide), if_neg (fun w => absurd w.2 (by decide))]
    have b41 : Mb.1 86 1 = sDe s 1 := by rw [b4 1 (by decide), if_neg (fun w => absurd w.2 (by decide))]
    have b42 : Mb.1 86 2 = sDe s 2 := by rw [b4 2 (by decide), if_neg (fun w => absurd w.2 (by decide))]
    have b44 : Mb.1 86 4 = sDe s 4 := by rw [b4 4 (by decide), if_neg (fun w => absurd w.2 (by decide))]
    have b43 : Mb.1 86 3 = if (envS s).2.2.2 wy ≤ k then sDe s 3 + cI 1 else sDe s 3 := by
      rw [b4 3 (by decide)]
      by_cases z : (envS s).2.2.2 wy ≤ k
      · rw [if_pos ⟨z, rfl⟩, if_pos z]
      · rw [if_neg (fun w => z w.1), if_neg z]
    unfold cutD
    by_cases z : (envS s).2.2.2 wy ≤ k
    · rw [if_pos z] at b43 ⊢
      match i, hi with
      | 0, _ => simp [mI_at, upD, e86, b40]
      | 1, _ => simp [mI_at, upD, e86, b41]
      | 2, _ => simp [mI_at, upD, e86, b42]
      | 3, _ => simp [mI_at, upD, e86, b43]
      | 4, _ => simp [mI_at, upD, e86, b44]
    · rw [if_neg z] at b43 ⊢
      match i, hi with
      | 0, _ => simp [mI_at, upD, e86, b40]
      | 1, _ => simp [mI_at, upD, e86, b41]
      | 2, _ => simp [mI_at, upD, e86, b42]
      | 3, _ => simp [mI_at, upD, e86, b43]
      | 4, _ => simp [mI_at, upD, e86, b44]
theorem cutc_loop (h : RM M0 s) (hv : inv s) (hl : l < hgt (sK s) r) (hb : cutB M0 Mb s r l k wy) : ∀ (n i : Nat) (M : Mem), i + n = 12 * r + hgt (sK s) r - 1 → 12 * r ≤ i → FrM [57, 58, 59, 60] [] Mb M → (∀ j, j < 4 → ∀ p, M.1 (57 + j) p = if 12 * r ≤ p ∧ p < i then Mb.1 (76 + j) p else Mb.1 (57 + j) p) →
    BodyK (d + 2) 240 82 [(0, .ref 55), (1, .int (nI (16 * r + l))), (2, .int (nI r)), (3, .int k), (4, .int (nI i))] [] M (QP M0 (.int k) (cutS s r l k wy)) := by
  have hr := hgt_lt hl
  have c1 := hv.1.1
  have c2 := hv.1.2.1 r
  have cr := nI_c (n := r) (by omega)
  have vr : vp_in (nI r) 4 := nI_vp (by omega) (by decide)
  have mr : ∀ M, FrM [57, 58, 59, 60] [] Mb M → M.1 56 (nI r).toNatClampNeg = nI (hgt (sK s) r - 1) := fun M hf => by
    rw [cr, FrM_c hf (by decide) (by decide), hb.2.2.1]
    exact if_pos rfl
  have eE : cI 12 * nI r + nI (hgt (sK s) r - 1) = nI (12 * r + hgt (sK s) r - 1) := by
    rw [show cI 12 = nI 12 from rfl, nI_mul, nI_add]
    congr 1
    omega
  have evE := nI_v (n := 12 * r + hgt (sK s) r - 1) (by omega)
  intro n
  induction n with
  | zero =>
    intro i M hi hli hf h4
    obtain rfl : i = 12 * r + hgt (sK s) r - 1 := by omega
    have m1 := mr M hf
    have hc : RMc M (sCg s) (sN s) := RMc_f (RMc_f h.2.2.2.2.2.2.2.2.2 hb.1 (by decide) (by decide)) hf (by decide) (by decide)
    refine body_run 400 rfl (fun B Cl Z hZ hB hC => ?_)
    (conv => whnf)
    refine ⟨vr, ?_⟩
    (conv => whnf); refine ⟨fun b => ?_, fun b => ?_⟩
    case' refine_2 =>
      replace b : ¬ cnd .ge (nI (12 * r + hgt (sK s) r - 1)) (cI 12 * nI r + M.1 56 (nI r).toNatClampNeg) := b
      rw [m1, eE, c_ge] at b
      omega
    (conv => whnf)
    refine hC _ _ _ _ _ (m_cutCh hc hv.2.2.2.2.2.2.2.1 hv.1 (show 16 * r + l < 64 by omega)) (fun v M2 q => ?_)
    obtain ⟨rfl, q2, q3⟩ := q
    have fin := cut_fin h hv hl hb hf h4 q2 q3
    (conv => whnf)
    refine ⟨nI_vp (c := 1) (by decide) (by decide), ?_⟩
    (conv => whnf)
    refine ⟨nI_vp (c := 1) (by decide) (by decide), ?_⟩
    (conv => whnf)
    refine ⟨nI_vp (c := 2) (by decide) (by decide), ?_⟩
    (conv => whnf)
    refine ⟨nI_vp (c := 2) (by decide) (by decide), ?_⟩
    conv => whnf
    exact hZ _ _ fin
  | succ n ih =>
    intro i M hi hli hf h4
    have ei := nI_v (n := i) (by omega)
    have ci := nI_c (n := i) (by omega)
    have vi : vp_in (nI i) 48 := nI_vp (by omega) (by decide)
    have m1 := mr M hf
    refine body_run 400 rfl (fun B Cl Z hZ hB hC => ?_)
    (conv => whnf)
    refine ⟨vr, ?_⟩
    (conv => whnf); refine ⟨fun b => ?_, fun b => ?_⟩
    · replace b : cnd .ge (nI i) (cI 12 * nI r + M.1 56 (nI r).toNatClampNeg) := b
      rw [m1, eE, c_ge, evE, ei] at b
      omega
    (conv => whnf)
    refine ⟨vi, ?_⟩
    (conv => whnf)
    refine ⟨vi, ?_⟩
    (conv => whnf)
    refine ⟨vi, ?_⟩
    (conv => whnf)
    refine ⟨vi, ?_⟩
    (conv => whnf)
    refine ⟨vi, ?_⟩
    (conv => whnf)
    refine ⟨vi, ?_⟩
    (conv => whnf)
    refine ⟨vi, ?_⟩
    (conv => whnf)
    refine ⟨vi, ?_⟩
    (conv => whnf)
    rw [ci]
    show B 82 _ _ (mI (mI (mI (mI M 57 i (M.1 76 i)) 58 i (M.1 77 i)) 59 i (M.1 78 i)) 60 i (M.1 79 i))
    have hf2 : FrM [57, 58, 59, 60] [] Mb (mI (mI (mI (mI M 57 i (M.1 76 i)) 58 i (M.1 77 i)) 59 i (M.1 78 i)) 60 i (M.1 79 i)) := FrM_a (FrM_a (FrM_a (FrM_a hf (by decide) (by decide)) (by decide) (by decide)) (by decide) (by decide)) (by decide) (by decide)
    have h42 : ∀ j, j < 4 → (mI (mI (mI (mI M 57 i (M.1 76 i)) 58 i (M.1 77 i)) 59 i (M.1 78 i)) 60 i (M.1 79 i)).1 (57 + j) = upd (M.1 (57 + j)) i (Mb.1 (76 + j) i) := fun j hj => by
      match j, hj with
      | 0, _ => rw [← FrM_c hf (a := 76 + 0) (by decide) (by decide)]; rfl
      | 1, _ => rw [← FrM_c hf (a := 76 + 1) (by decide) (by decide)]; rfl
      | 2, _ => rw [← FrM_c hf (a := 76 + 2) (by decide) (by decide)]; rfl
      | 3, _ => rw [← FrM_c hf (a := 76 + 3) (by decide) (by decide)]; rfl
    generalize (mI (mI (mI (mI M 57 i (M.1 76 i)) 58 i (M.1 77 i)) 59 i (M.1 78 i)) 60 i (M.1 79 i)) = M2 at hf2 h42 ⊢
    refine hB _ _ _ _ (Body_lv (ih (i + 1) M2 (by omega) (by omega) hf2 (fun j hj p => ?_)) ⟨rfl, rfl, rfl, rfl, v_eq (nI_i1 i), trivial⟩)
    rw [h42 j hj]
    unfold upd
    by_cases z : p = i
    · rw [if_pos z, if_pos (by omega), z]
    · rw [if_neg z, h4 j hj]
      by_cases y : 12 * r ≤ p ∧ p < i
      · rw [if_pos y, if_pos (by omega)]
      · rw [if_neg y, if_neg (by omega)]
end MCUT
theorem m_cut {d : Nat} {M : Mem} {s : St} {x : Int32} (h : RM M s) (hv : inv s) : Call (d + 6) 240 [.ref 55, .int x] M (QP M (.int (aCut s x).1) (aCut s x).2) := by
  refine call_run 400 rfl rfl (fun B Cl Z hZ hB hC => ?_)
  (conv => whnf); refine ret_k hC (m_isLayer h.1 hv.1) ?_
  (conv => whnf); refine ⟨fun b => ?_, fun b => ?_⟩
  case' refine_2 =>
    rw [b2_nz] at b
    have e9 : aCut s x = (cI (-1), s) := by unfold aCut; rw [lyA_n b]
    rw [e9] at hZ
    conv => whnf
    exact hZ _ _ (QP_same h FrM_refl)
  rw [b2_nz] at b
  obtain ⟨q, m, rfl, hm, e, hq, ha⟩ := lyA_s b
  have y1 : nI m / cI 16 = nI (m / 16) := nI_div (b := 16) hm (by decide)
  have y2 : nI m - nI m / cI 16 * cI 16 = nI (m % 16) := nI_rem (b := 16) hm (by decide)
  have hl := ly_lt hq
  have hr := hgt_lt hl
  obtain ⟨p64, pr, p48⟩ := pos_b hv.1 hl
  have hq1 : q.1 < 8 := (hv.1.2.2 _ _ _ hq).1
  have em : 16 * (m / 16) + m % 16 = m := by omega
  have e8 : aCut s (nI m) = (kp (envS s) (sK s) (m / 16) (m % 16) q, cutS s (m / 16) (m % 16) (kp (envS s) (sK s) (m / 16) (m % 16) q) q.1) := by unfold aCut; rw [ha, e]; rfl
  rw [e8] at hB
  rw [y1] at y2
  (conv => whnf)
  refine hC _ _ _ _ _ (m_layNow h.1 hv.1) (fun v M1 p => ?_)
  obtain ⟨rfl, p2, p3⟩ := p
  have h1 := RM_x h (NOWx p2)
  (conv => whnf)
  refine ⟨by decide, ?_⟩
  (conv => whnf)
  refine ⟨by decide, ?_⟩
  (conv => whnf)
  rw [y1, y2]
  refine hC _ _ _ _ _ (m_keptAt h1 hv p3 hv.1 hq) (fun v M2 z => ?_)
  obtain ⟨rfl, z2⟩ := z
  have h2 := RM_x h1 (KJx z2)
  have hw2 : YM M2 75 (sK s) := YM_f p3 z2 (by decide)
  have hF2 : FrM [73, 74, 75, 76, 77, 78, 79] [] M M2 := FrM_trans (FrM_sub p2 (by decide) (by decide)) (FrM_sub z2 (by decide) (by decide))
  generalize kp (envS s) (sK s) (m / 16) (m % 16) q = k at hB ⊢
  have hway := (h2.1.2 (m / 16) hr).2 (m % 16) q hq 0 (by decide)
  replace hway : M2.1 57 (12 * (m / 16) + m % 16) = nI q.1 := hway
  have hdoor : M2.1 62 q.1 = (envS s).2.2.2 q.1 := h2.2.1.2.2.2 q.1 hq1
  (conv => whnf); refine ret_k hC (m_at12 hm) ?_
  (conv => whnf)
  refine ⟨nI_vp p48 (by decide), ?_⟩
  (conv => whnf)
  rw [nI_c (n := 12 * (m / 16) + m % 16) (by omega), hway]
  refine ⟨nI_vp hq1 (by decide), ?_⟩
  have cr := nI_c (n := m / 16) (by omega)
  have vr : vp_in (nI (m / 16)) 4 := nI_vp (by have := hv.1.1; omega) (by decide)
  have rest : ∀ (M3 : Mem) (lv : Lv), FrM [73, 74, 75, 76, 77, 78, 79, 86] [] M M3 → YM M3 75 (cutR (sK s) (m / 16) (m % 16)) → (∀ i, i < 5 → M3.1 86 i = if (envS s).2.2.2 q.1 ≤ k ∧ i = 3 then sDe s 3 + cI 1 else sDe s i) → lkp lv 0 = some (.ref 55) → lkp lv 1 = some (.int (nI m)) → lkp lv 2 = some (.int (nI (m / 16))) → lkp lv 3 = some (.int k) → lkp lv 4 = some (.int (cI 12 * nI (m / 16))) → B 82 lv [] (mI M3 56 (m / 16) (M3.1 56 (m / 16) - cI 1)) := by
    intro M3 lv f3 w3 d3 l0 l1 l2 l3 l4
    have m56 : M3.1 56 = M.1 56 := FrM_c f3 (by decide) (by decide)
    have e1 : M3.1 56 (m / 16) - cI 1 = nI (hgt (sK s) (m / 16) - 1) := by
      rw [m56, (h.1.2 (m / 16) hr).1]
      exact nI_sub (b := 1) (by omega)
    rw [e1]
    have hb : cutB M (mI M3 56 (m / 16) (nI (hgt (sK s) (m / 16) - 1))) s (m / 16) (m % 16) k q.1 := ⟨FrM_a (FrM_sub f3 (by decide) (by decide)) (by decide) (by decide), YM_f (A := [56]) (J := []) w3 (FrM_a FrM_refl (by decide) (by decide)) (by decide), by rw [mI_same, m56], fun i hi => by rw [mI_ne _ _ _ (by decide)]; exact d3 i hi⟩
    refine hB _ _ _ _ (Body_lv (cutc_loop (d := d + 4) h hv hl hb (hgt (sK s) (m / 16) - 1) (12 * (m / 16)) _ (by omega) (Nat.le_refl _) FrM_refl (fun j hj p => by rw [if_neg (by omega)])) ⟨l0, by rw [em]; exact l1, l2, l3, ?_, trivial⟩)
    rw [l4]
    exact v_eq (by rw [show cI 12 = nI 12 from rfl, nI_mul])
  (conv => whnf); refine ⟨fun t => ?_, fun t => ?_⟩
  · replace t : cnd .lt k (M2.1 62 (nI q.1).toNatClampNeg) := t
    rw [nI_c (by omega), hdoor, c_lt] at t
    (conv => whnf)
    refine ⟨by decide, ?_⟩
    (conv => whnf)
    rw [y1, y2]
    refine hC _ _ _ _ _ (m_cutNow hw2 hv.1 hl) (fun v M3 x => ?_)
    obtain ⟨rfl, x2, x3⟩ := x
    (conv => whnf)
    refine ⟨vr, ?_⟩
    (conv => whnf)
    refine ⟨vr, ?_⟩
    (conv => whnf)
    rw [cr]
    refine rest M3 _ (FrM_trans (FrM_sub hF2 (by decide) (by decide)) (FrM_sub x2 (by decide) (by decide))) x3 (fun i hi => ?_) rfl rfl rfl rfl rfl
    rw [FrM_c x2 (by decide) (by decide), h2.2.2.2.1 i hi, if_neg (fun w => by have := w.1; rw [le_i] at this; omega)]
  · replace t : ¬ cnd .lt k (M2.1 62 (nI q.1).toNatClampNeg) := t
    rw [nI_c (by omega), hdoor, c_lt] at t
    (conv => whnf)
    refine ⟨nI_vp (c := 3) (by decide) (by decide), ?_⟩
    (conv => whnf)
    refine ⟨nI_vp (c := 3) (by decide) (by decide), ?_⟩
    (conv => whnf)
    refine ⟨by decide, ?_⟩
    (conv => whnf)
    rw [y1, y2]
    show Cl 207 [.ref 55, .int (nI (m / 16)), .int (nI (m % 16))] (mI M2 86 3 (M2.1 86 3 + cI 1)) _
    refine hC _ _ _ _ _ (m_cutNow (YM_f (A := [86]) (J := []) hw2 (FrM_a FrM_refl (by decide) (by decide)) (by decide)) hv.1 hl) (fun v M3 x => ?_)
    obtain ⟨rfl, x2, x3⟩ := x
    (conv => whnf)
    refine ⟨vr, ?_⟩
    (conv => whnf)
    refine ⟨vr, ?_⟩
    (conv => whnf)
    rw [cr]
    refine rest M3 _ (FrM_trans (FrM_a (FrM_sub hF2 (by decide) (by decide)) (by decide) (by decide)) (FrM_sub x2 (by decide) (by decide))) x3 (fun i hi => ?_) rfl rfl rfl rfl rfl
    rw [FrM_c x2 (by decide) (by decide), mI_at, h2.2.2.2.1 3 (by decide), h2.2.2.2.1 i hi]
    by_cases z : i = 3
    · rw [if_pos ⟨rfl, z⟩, if_pos ⟨by rw [le_i]; omega, z⟩]
    · rw [if_neg (fun w => z w.2), if_neg (fun w => z w.2)]
