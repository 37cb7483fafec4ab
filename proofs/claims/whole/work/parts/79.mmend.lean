/-! the reference: of, mend, undo, redo -/
theorem setA_22 {s : St} {w : Nat} {p : Option Nat} {v : Nat} : (setA s w p v).2.2 = s.2.2 ∧ sL (setA s w p v) = sL s := by
  unfold setA
  repeat' split
  all_goals exact ⟨rfl, rfl⟩
theorem RM_tell {M0 M M' : Mem} {s : St} {g : List AChg} {n what v : Nat} {p : Option Nat} {A J : List Nat} (h : RM M0 s) (hf : FrM A J M0 M) (hA : A.all (fun a => [63, 64, 65, 66].contains a) = true) (hJ : J.all (fun a => [9, 10].contains a) = true) (hc : RMc M g n) (hf2 : FrM TL [] M M') (hk : RMk M' (sK (setA (wC s g n) what p v))) (hn : RMn M' (setA (wC s g n) what p v)) : RM M' (setA (wC s g n) what p v) ∧ Fr MA M0 M' := by
  obtain ⟨h1, h2, h3, h4, h5, h6, h7, h8, h9, h10⟩ := id h
  have f1 : FrM [63, 64, 65, 66] [9, 10] M0 M := FrM_sub hf hA hJ
  have hF : FrM [57, 58, 59, 60, 61, 62, 63, 64, 65, 66] [9, 10] M0 M' := FrM_trans (FrM_sub f1 (by decide) (by decide)) (FrM_sub hf2 (by decide) (by decide))
  have e22 : (setA (wC s g n) what p v).2.2 = s.2.2 := setA_22.1
  have eL : sL (setA (wC s g n) what p v) = sL s := setA_22.2
  have eN : (setA (wC s g n) what p v).1.2 = (g, n) := setA_N
  refine ⟨RM_st h hF hk hn ?_ ?_ ?_ ?_ ?_ ?_ ?_ ?_, Fr_sub hF.1 (by decide)⟩
  · show ∀ i, i < 5 → M'.1 86 i = (setA (wC s g n) what p v).2.2.1.1 i
    rw [e22]; exact RMd_f h4 hF (by decide)
  · show RMi M' (setA (wC s g n) what p v).2.2.1.2
    rw [e22]; exact RMi_f h5 hF (by decide) (by decide)
  · show RMt M' (setA (wC s g n) what p v).2.2.2.1
    rw [e22]; exact RMt_f h6 hF (by decide) (by decide)
  · show RMb M' (setA (wC s g n) what p v).2.2.2.2.1.1
    rw [e22]; exact RMb_f h7 hF (by decide) (by decide)
  · show RMr M' (setA (wC s g n) what p v).2.2.2.2.1.2
    rw [e22]; exact RMr_f h8 hF (by decide) (by decide)
  · show ∀ i, i < 6 → RMs1 M' i ((setA (wC s g n) what p v).2.2.2.2.2 i)
    rw [e22]; exact RMs_f h9 hF (by decide)
  · show RMc M' (setA (wC s g n) what p v).1.2.1 (setA (wC s g n) what p v).1.2.2
    rw [eN]; exact RMc_f hc hf2 (by decide) (by decide)
  · rw [eL]; exact RMl_f h3 hF (by decide) (by decide)
theorem ch_at {s : St} (hv : inv s) {i : Nat} {a : AChg} (ha : (sCg s)[i]? = some a) : a.1 < 8 ∧ whOk (sK s) a.1 a.2.1 := by
  obtain ⟨b1, b2, b3, b4⟩ := hv.2.2.2.2.2.2.2.1.2.2 i a ha
  exact ⟨b1, b4⟩
theorem cgA_pos (a : AChg) : cgA a = posI a.2.1 := by unfold cgA posI; rfl
theorem m_undo {d : Nat} {M : Mem} {s : St} (h : RM M s) (hv : inv s) : Call (d + 3) 170 [.ref 55] M (QP M (.int (aUndo s).1) (aUndo s).2) := by
  have h10 := h.2.2.2.2.2.2.2.2.2
  obtain ⟨hn1, hn2, -⟩ := hv.2.2.2.2.2.2.2.1
  have e := nI_v (n := sN s) (by omega)
  refine call_run 400 rfl rfl (fun B Cl Z hZ hB hC => ?_)
  (conv => whnf); refine ⟨fun b => ?_, fun b => ?_⟩
  case' refine_2 =>
    replace b : ¬ cnd .ne (M.1 55 9) 0 := b
    rw [h10.1, c_ne, e, t0] at b
    have e9 : aUndo s = (cI (-5), s) := if_pos (by omega)
    rw [e9] at hZ
    conv => whnf
    exact hZ _ _ (QP_same h FrM_refl)
  replace b : cnd .ne (M.1 55 9) 0 := b
  rw [h10.1, c_ne, e, t0] at b
  have hlt : sN s - 1 < (sCg s).length := by omega
  have ha := List.getElem?_eq_getElem hlt
  have e9 : aUndo s = (nI (sN s - 1), setA (wC s (sCg s) (sN s - 1)) ((sCg s)[sN s - 1]).1 ((sCg s)[sN s - 1]).2.1 ((sCg s)[sN s - 1]).2.2.1) := by
    unfold aUndo
    rw [if_neg (by omega), ha]
  rw [e9] at hZ
  generalize haa : (sCg s)[sN s - 1] = a at ha hZ
  obtain ⟨c1, c2⟩ := ch_at hv ha
  obtain ⟨r1, r2, r3, r4⟩ := h10.2.2 _ a ha
  have em : M.1 55 9 - cI 1 = nI (sN s - 1) := by rw [h10.1]; exact nI_sub (b := 1) (by omega)
  have en : M.1 55 10 + cI 1 = nI ((sCg s).length - (sN s - 1)) := by
    rw [h10.2.1, nI_i1]
    congr 1
    omega
  have vp : vp_in (M.1 55 9 - cI 1) 40 := by rw [em]; exact nI_vp (by omega) (by decide)
  have cc : (M.1 55 9 - cI 1).toNatClampNeg = sN s - 1 := by rw [em]; exact nI_c (by omega)
  have hM2 : FrM [] [9, 10] M (mI (mI M 55 9 (M.1 55 9 - cI 1)) 55 10 (M.1 55 10 + cI 1)) := FrM_s (FrM_s FrM_refl (by decide)) (by decide)
  have hc2 : RMc (mI (mI M 55 9 (M.1 55 9 - cI 1)) 55 10 (M.1 55 10 + cI 1)) (sCg s) (sN s - 1) := ⟨em, en, h10.2.2⟩
  have hk2 : RMk (mI (mI M 55 9 (M.1 55 9 - cI 1)) 55 10 (M.1 55 10 + cI 1)) (sK s) := RMk_fr h.1 hM2 (by decide) (by decide)
  have hn2' : RMn (mI (mI M 55 9 (M.1 55 9 - cI 1)) 55 10 (M.1 55 10 + cI 1)) s := RMn_f h.2.1 hM2 (by decide)
  (conv => whnf)
  refine ⟨vp, ?_⟩
  (conv => whnf)
  refine ⟨vp, ?_⟩
  (conv => whnf)
  refine ⟨vp, ?_⟩
  (conv => whnf)
  show Cl 168 [.ref 55, .int (M.1 63 (M.1 55 9 - cI 1).toNatClampNeg), .int (M.1 64 (M.1 55 9 - cI 1).toNatClampNeg), .int (M.1 65 (M.1 55 9 - cI 1).toNatClampNeg)] (mI (mI M 55 9 (M.1 55 9 - cI 1)) 55 10 (M.1 55 10 + cI 1)) _
  rw [cc, r1, r2, r3, cgA_pos]
  generalize (mI (mI M 55 9 (M.1 55 9 - cI 1)) 55 10 (M.1 55 10 + cI 1)) = M1 at hM2 hc2 hk2 hn2' ⊢
  refine hC _ _ _ _ _ (m_lays (s := wC s (sCg s) (sN s - 1)) (p := a.2.1) (v := a.2.2.1) hk2 hn2' hv.1 c1 c2) (fun v M2 q => ?_)
  obtain ⟨rfl, f2, f3, f4⟩ := q
  have := RM_tell h hM2 (by decide) (by decide) hc2 f2 f3 f4
  (conv => whnf)
  show Z (some (.int (M2.1 55 9))) M2
  have e5 : M2.1 55 9 = nI (sN s - 1) := by rw [FrM_j f2 9 (by decide)]; exact hc2.1
  rw [e5]
  exact hZ _ _ ⟨rfl, this.1, this.2⟩
theorem m_redo {d : Nat} {M : Mem} {s : St} (h : RM M s) (hv : inv s) : Call (d + 3) 171 [.ref 55] M (QP M (.int (aRedo s).1) (aRedo s).2) := by
  have h10 := h.2.2.2.2.2.2.2.2.2
  obtain ⟨hn1, hn2, -⟩ := hv.2.2.2.2.2.2.2.1
  have e := nI_v (n := (sCg s).length - sN s) (by omega)
  refine call_run 400 rfl rfl (fun B Cl Z hZ hB hC => ?_)
  (conv => whnf); refine ⟨fun b => ?_, fun b => ?_⟩
  case' refine_2 =>
    replace b : ¬ cnd .ne (M.1 55 10) 0 := b
    rw [h10.2.1, c_ne, e, t0] at b
    have e9 : aRedo s = (cI (-5), s) := by
      unfold aRedo
      rw [List.getElem?_eq_none (by omega)]
    rw [e9] at hZ
    conv => whnf
    exact hZ _ _ (QP_same h FrM_refl)
  replace b : cnd .ne (M.1 55 10) 0 := b
  rw [h10.2.1, c_ne, e, t0] at b
  have hlt : sN s < (sCg s).length := by omega
  have ha := List.getElem?_eq_getElem hlt
  have e9 : aRedo s = (nI ((sCg s).length - (sN s + 1)), setA (wC s (sCg s) (sN s + 1)) ((sCg s)[sN s]).1 ((sCg s)[sN s]).2.1 ((sCg s)[sN s]).2.2.2) := by
    unfold aRedo
    rw [ha]
  rw [e9] at hZ
  generalize haa : (sCg s)[sN s] = a at ha hZ
  obtain ⟨c1, c2⟩ := ch_at hv ha
  obtain ⟨r1, r2, r3, r4⟩ := h10.2.2 _ a ha
  have vp : vp_in (M.1 55 9) 40 := by rw [h10.1]; exact nI_vp (by omega) (by decide)
  have cc : (M.1 55 9).toNatClampNeg = sN s := by rw [h10.1]; exact nI_c (by omega)
  (conv => whnf)
  refine ⟨vp, ?_⟩
  (conv => whnf)
  refine ⟨vp, ?_⟩
  (conv => whnf)
  refine ⟨vp, ?_⟩
  (conv => whnf)
  show Cl 168 [.ref 55, .int (M.1 63 (M.1 55 9).toNatClampNeg), .int (M.1 64 (M.1 55 9).toNatClampNeg), .int (M.1 66 (M.1 55 9).toNatClampNeg)] M _
  rw [cc, r1, r2, r4, cgA_pos]
  refine hC _ _ _ _ _ (m_lays (s := wC s (sCg s) (sN s + 1)) (p := a.2.1) (v := a.2.2.2) h.1 h.2.1 hv.1 c1 c2) (fun v M2 q => ?_)
  obtain ⟨rfl, f2, f3, f4⟩ := q
  have x9 : M2.1 55 9 + cI 1 = nI (sN s + 1) := by rw [FrM_j f2 9 (by decide), h10.1, nI_i1]
  have x10 : M2.1 55 10 - cI 1 = nI ((sCg s).length - (sN s + 1)) := by
    rw [FrM_j f2 10 (by decide), h10.2.1, show cI 1 = nI 1 from rfl, nI_sub (by omega)]
    congr 1
  (conv => whnf)
  show Z (some (.int (M2.1 55 10 - cI 1))) (mI (mI M2 55 9 (M2.1 55 9 + cI 1)) 55 10 (M2.1 55 10 - cI 1))
  rw [x9, x10]
  have hF3 : FrM [] [9, 10] M2 (mI (mI M2 55 9 (nI (sN s + 1))) 55 10 (nI ((sCg s).length - (sN s + 1)))) := FrM_s (FrM_s FrM_refl (by decide)) (by decide)
  have k9 : (mI (mI M2 55 9 (nI (sN s + 1))) 55 10 (nI ((sCg s).length - (sN s + 1)))).1 55 9 = nI (sN s + 1) := rfl
  have k10 : (mI (mI M2 55 9 (nI (sN s + 1))) 55 10 (nI ((sCg s).length - (sN s + 1)))).1 55 10 = nI ((sCg s).length - (sN s + 1)) := rfl
  generalize (mI (mI M2 55 9 (nI (sN s + 1))) 55 10 (nI ((sCg s).length - (sN s + 1)))) = M3 at hF3 k9 k10 ⊢
  obtain ⟨h1, h2, h3, h4, h5, h6, h7, h8, h9, -⟩ := id h
  have hF : FrM TL [9, 10] M M3 := FrM_trans (FrM_sub f2 (by decide) (by decide)) (FrM_sub hF3 (by decide) (by decide))
  have e22 : (setA (wC s (sCg s) (sN s + 1)) a.1 a.2.1 a.2.2.2).2.2 = s.2.2 := setA_22.1
  have eL : sL (setA (wC s (sCg s) (sN s + 1)) a.1 a.2.1 a.2.2.2) = sL s := setA_22.2
  have eN : (setA (wC s (sCg s) (sN s + 1)) a.1 a.2.1 a.2.2.2).1.2 = (sCg s, sN s + 1) := setA_N
  refine hZ _ _ ⟨rfl, RM_st h hF (RMk_fr f3 hF3 (by decide) (by decide)) (RMn_f f4 hF3 (by decide)) ?_ ?_ ?_ ?_ ?_ ?_ ?_ ?_, Fr_sub hF.1 (by decide)⟩
  · show ∀ i, i < 5 → M3.1 86 i = (setA (wC s (sCg s) (sN s + 1)) a.1 a.2.1 a.2.2.2).2.2.1.1 i
    rw [e22]; exact RMd_f h4 hF (by decide)
  · show RMi M3 (setA (wC s (sCg s) (sN s + 1)) a.1 a.2.1 a.2.2.2).2.2.1.2
    rw [e22]; exact RMi_f h5 hF (by decide) (by decide)
  · show RMt M3 (setA (wC s (sCg s) (sN s + 1)) a.1 a.2.1 a.2.2.2).2.2.2.1
    rw [e22]; exact RMt_f h6 hF (by decide) (by decide)
  · show RMb M3 (setA (wC s (sCg s) (sN s + 1)) a.1 a.2.1 a.2.2.2).2.2.2.2.1.1
    rw [e22]; exact RMb_f h7 hF (by decide) (by decide)
  · show RMr M3 (setA (wC s (sCg s) (sN s + 1)) a.1 a.2.1 a.2.2.2).2.2.2.2.1.2
    rw [e22]; exact RMr_f h8 hF (by decide) (by decide)
  · show ∀ i, i < 6 → RMs1 M3 i ((setA (wC s (sCg s) (sN s + 1)) a.1 a.2.1 a.2.2.2).2.2.2.2.2 i)
    rw [e22]; exact RMs_f h9 hF (by decide)
  · show RMc M3 (setA (wC s (sCg s) (sN s + 1)) a.1 a.2.1 a.2.2.2).1.2.1 (setA (wC s (sCg s) (sN s + 1)) a.1 a.2.1 a.2.2.2).1.2.2
    rw [eN]
    refine ⟨k9, k10, fun i x hx => ?_⟩
    rw [FrM_c hF (by decide) (by decide), FrM_c hF (by decide) (by decide), FrM_c hF (by decide) (by decide), FrM_c hF (by decide) (by decide)]
    exact h10.2.2 i x hx
  · rw [eL]; exact RMl_f h3 hF (by decide) (by decide)
