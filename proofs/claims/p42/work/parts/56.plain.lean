/-! days, deeds, image, acts, counts -/
theorem RNm_hgt {c : Nat} {M : Mem} {rk rk' : Rk} {ch : List AChg} {n : Nat} (h : RNm c M rk ch n) (e : ∀ r, hgt rk' r = hgt rk r) : RNm c M rk' ch n := by
  unfold RNm chR at h ⊢
  simp only [e]
  exact h
def aLed (s : St) (x : Int32) : Int32 := if 0 ≤ x.toInt ∧ x.toInt < 5 then sDe s x.toInt.toNat else cI (-1)
theorem n5 : (nI 5).toInt = 5 := nI_v (by decide)
theorem pb_led {d c : Nat} {M : Mem} {s : St} {x : Int32} (h : RC c M s) : Call (d + 1) 95 [.ref 0, .int x] M (RP c M (.int (aLed s x)) s) := by
  refine call_run 400 rfl rfl (fun B Cl Z hZ hB hC => ?_)
  (conv => whnf); refine ⟨fun a => ?_, fun a => ?_⟩
  · simp only [c_lt, c_gt, c_le, c_ge, c_eq, c_ne, b2_z, b2_nz, b2_i, Classical.not_not, t0, t1, Nat.reduceMod, Nat.reduceDiv, Int.reduceAdd, Int.reduceNeg, Nat.reduceAdd, kv_m1] at a
    have e9 : aLed s x = cI (-1) := if_neg (by omega)
    rw [e9] at hZ
    conv => whnf
    exact hZ _ _ (RP_same h Fr_refl)
  simp only [c_lt, c_gt, c_le, c_ge, c_eq, c_ne, b2_z, b2_nz, b2_i, Classical.not_not, t0, t1, Nat.reduceMod, Nat.reduceDiv, Int.reduceAdd, Int.reduceNeg, Nat.reduceAdd, kv_m1] at a
  obtain ⟨i, rfl, ei, hi⟩ := to_nI (x := x) (by omega)
  (conv => whnf); refine ⟨fun b => ?_, fun b => ?_⟩
  · simp only [c_lt, c_gt, c_le, c_ge, c_eq, c_ne, b2_z, b2_nz, b2_i, Classical.not_not, t0, t1, Nat.reduceMod, Nat.reduceDiv, Int.reduceAdd, Int.reduceNeg, Nat.reduceAdd, kv_m1, ei, n5] at b
    have e9 : aLed s (nI i) = cI (-1) := if_neg (by omega)
    rw [e9] at hZ
    conv => whnf
    exact hZ _ _ (RP_same h Fr_refl)
  · simp only [c_lt, c_gt, c_le, c_ge, c_eq, c_ne, b2_z, b2_nz, b2_i, Classical.not_not, t0, t1, Nat.reduceMod, Nat.reduceDiv, Int.reduceAdd, Int.reduceNeg, Nat.reduceAdd, kv_m1, ei, n5] at b
    have e9 : aLed s (nI i) = sDe s i := by
      unfold aLed
      rw [if_pos (by omega), ei]
      rfl
    rw [e9] at hZ
    (conv => whnf)
    refine ⟨nI_vp (by omega) (by decide), ?_⟩
    (conv => whnf)
    rw [nI_c hi]
    refine hZ _ _ ?_
    rw [h.2.2.2.2.2.1 i (by omega)]
    exact RP_same h Fr_refl
def dyN (n : Nat) : Nat := if n + 1 < 99 then n + 1 else 99
def aDay (s : St) : St := wDe (wDy (wK s (older (sK s))) (dyN (sDy s))) (upD (sDe s) 4 (sDe s 4 + cI 1))
theorem pb_day {d c : Nat} {M : Mem} {s : St} (h : RC c M s) : Call (d + 2) 94 [.ref 0] M (RP c M (.int (nI (dyN (sDy s)))) (aDay s)) := by
  obtain ⟨h1, h2, h3, h4, h5, h6, h7, h8, h9, h10, h11, h12, h13⟩ := id h
  have hd : dyN (sDy s) ≤ 99 := by unfold dyN; split <;> omega
  refine call_run 400 rfl rfl (fun B Cl Z hZ hB hC => ?_)
  (conv => whnf)
  refine hC _ _ _ _ _ (sp_growOlder h1) (fun v M1 p => ?_)
  obtain ⟨rfl, p2, p3⟩ := p
  (conv => whnf)
  refine ⟨nI_vp (c := 4) (by decide) (by decide), ?_⟩
  (conv => whnf)
  refine ⟨nI_vp (c := 4) (by decide) (by decide), ?_⟩
  (conv => whnf)
  have em : minI (cI 99) (M1.1 0 13 + cI 1) = nI (dyN (sDy s)) := by
    rw [Fr_1 p2 0 (by decide), h5]
    exact minI_n (a := sDy s) (by have := h4.2.2.2; omega)
  show Z (some (.int ((mI (mI M1 0 13 (minI (cI 99) (M1.1 0 13 + cI 1))) 53 4 (M1.1 53 4 + cI 1)).1 0 13))) (mI (mI M1 0 13 (minI (cI 99) (M1.1 0 13 + cI 1))) 53 4 (M1.1 53 4 + cI 1))
  rw [em]
  have hf0 : Fr [0, 53] M1 (mI (mI M1 0 13 (nI (dyN (sDy s)))) 53 4 (M1.1 53 4 + cI 1)) := Fr_mI (Fr_mI Fr_refl (by decide)) (by decide)
  have e13 : (mI (mI M1 0 13 (nI (dyN (sDy s)))) 53 4 (M1.1 53 4 + cI 1)).1 0 13 = nI (dyN (sDy s)) := rfl
  have e0 : ∀ j, ¬ j = 13 → (mI (mI M1 0 13 (nI (dyN (sDy s)))) 53 4 (M1.1 53 4 + cI 1)).1 0 j = M.1 0 j := fun j hj => by rw [mI_ne _ _ _ (by decide : (0 : Nat) ≠ 53), mI_2 _ _ hj, Fr_1 p2 0 (by decide)]
  have e53 : ∀ j, (mI (mI M1 0 13 (nI (dyN (sDy s)))) 53 4 (M1.1 53 4 + cI 1)).1 53 j = upD (M1.1 53) 4 (M1.1 53 4 + cI 1) j := fun j => by rw [mI_at]; unfold upD; simp; rfl
  rw [e13]
  generalize (mI (mI M1 0 13 (nI (dyN (sDy s)))) 53 4 (M1.1 53 4 + cI 1)) = M2 at hf0 e13 e0 e53 ⊢
  have hF : Fr [0, 53, 11] M M2 := Fr_trans (Fr_sub p2 (by decide)) (Fr_sub hf0 (by decide))
  refine hZ _ _ ⟨rfl, ⟨RY_fr p3 hf0 (by decide), RE_fr h2 hF (by decide), h3, ⟨h4.1, h4.2.1, h4.2.2.1, hd⟩, e13, fun i hi => ?_, RIm_e h7 (by show _ ≤ (older (sK s)).length; unfold older; rw [List.length_map]; exact Nat.le_refl _) (e0 12 (by decide)) (e0 14 (by decide)) (Fr_1 hF 14 (by decide)) (Fr_1 hF 15 (by decide)) (Fr_1 hF 17 (by decide)) (Fr_1 hF 54 (by decide)), RT0_fr (A := []) h8 (by rw [Fr_1 hF 2 (by decide)]) (Fr_1 hF 39 (by decide)), RK_fr h9 (by rw [Fr_1 hF 7 (by decide)]) (Fr_1 hF 42 (by decide)), RT_e h10 (by rw [Fr_1 hF 7 (by decide)]) (Fr_1 hF 43 (by decide)), RS_all h11 hF (by decide), h12, ?_⟩, Fr_sub hF (by decide)⟩
  · rw [e53, Fr_1 p2 53 (by decide)]
    show upD (M.1 53) 4 _ i = upD (sDe s) 4 _ i
    unfold upD
    rw [h6 4 (by decide), h6 i hi]
  · exact RNm_hgt (RNm_up (RNm_fr h13 (Fr_1 hF 6 (by decide)) (Fr_1 hF 41 (by decide)) (e0 15 (by decide)) (Fr_1 hF 12 (by decide)))) (fun r => older_hgt)
def aImage (s : St) : St := wIm s (some (sK s, sDe s, sDy s))
theorem pb_image {d c : Nat} {M : Mem} {s : St} (h : RC c M s) : Call (d + 2) 96 [.ref 0] M (RP c M (.int (nI (sDy s))) (aImage s)) := by
  obtain ⟨h1, h2, h3, h4, h5, h6, h7, h8, h9, h10, h11, h12, h13⟩ := id h
  refine call_run 400 rfl rfl (fun B Cl Z hZ hB hC => ?_)
  (conv => whnf)
  refine hC _ _ _ _ _ (sp_become (Or.inl ⟨rfl, rfl⟩) h1) (fun v M1 p => ?_)
  obtain ⟨rfl, p2, p3⟩ := p
  (conv => whnf)
  refine hC _ _ _ _ _ (sp_copyDeeds (Or.inl ⟨rfl, rfl⟩)) (fun v M2 q => ?_)
  obtain ⟨rfl, q2, q3⟩ := q
  (conv => whnf)
  refine ⟨Or.inr rfl, ?_⟩
  (conv => whnf)
  have hg : Fr [14, 15, 16, 17, 54] M M2 := Fr_trans (Fr_sub p2 (by decide)) (Fr_sub q2 (by decide))
  show Z (some (.int ((mI (mI M2 0 14 (M2.1 0 13)) 0 12 (cI 1)).1 0 13))) (mI (mI M2 0 14 (M2.1 0 13)) 0 12 (cI 1))
  have hf0 : Fr [0] M2 (mI (mI M2 0 14 (M2.1 0 13)) 0 12 (cI 1)) := Fr_mI (Fr_mI Fr_refl (by decide)) (by decide)
  have e12 : (mI (mI M2 0 14 (M2.1 0 13)) 0 12 (cI 1)).1 0 12 = cI 1 := rfl
  have e14 : (mI (mI M2 0 14 (M2.1 0 13)) 0 12 (cI 1)).1 0 14 = M.1 0 13 := (show _ = M2.1 0 13 from rfl).trans (by rw [Fr_1 hg 0 (by decide)])
  have e0 : ∀ j, ¬ j = 12 → ¬ j = 14 → (mI (mI M2 0 14 (M2.1 0 13)) 0 12 (cI 1)).1 0 j = M.1 0 j := fun j hj hj2 => by rw [mI_2 _ _ hj, mI_2 _ _ hj2, Fr_1 hg 0 (by decide)]
  generalize (mI (mI M2 0 14 (M2.1 0 13)) 0 12 (cI 1)) = M3 at hf0 e12 e14 e0 ⊢
  have hF : Fr [0, 14, 15, 16, 17, 54] M M3 := Fr_trans (Fr_sub hg (by decide)) (Fr_sub hf0 (by decide))
  rw [e0 13 (by decide) (by decide), h5]
  refine hZ _ _ ⟨rfl, ⟨RY_fr h1 hF (by decide), RE_fr h2 hF (by decide), h3, h4, by rw [e0 13 (by decide) (by decide)]; exact h5, fun i hi => by rw [Fr_1 hF 53 (by decide)]; exact h6 i hi, ⟨e12, RY_fr p3 (A := [54, 0]) (Fr_trans (Fr_sub q2 (by decide)) (Fr_sub hf0 (by decide))) (by decide), Nat.le_refl _, fun i hi => ?_, by rw [e14]; exact h5, h4.2.2.2⟩, RT0_fr (A := []) h8 (by rw [Fr_1 hF 2 (by decide)]) (Fr_1 hF 39 (by decide)), RK_fr h9 (by rw [Fr_1 hF 7 (by decide)]) (Fr_1 hF 42 (by decide)), RT_e h10 (by rw [Fr_1 hF 7 (by decide)]) (Fr_1 hF 43 (by decide)), RS_all h11 hF (by decide), h12, RNm_up (RNm_fr h13 (Fr_1 hF 6 (by decide)) (Fr_1 hF 41 (by decide)) (e0 15 (by decide) (by decide)) (Fr_1 hF 12 (by decide)))⟩, Fr_sub hF (by decide)⟩
  rw [Fr_1 hf0 54 (by decide), q3 i hi, Fr_1 p2 53 (by decide)]
  exact h6 i hi
def aTrace (s : St) (x : Int32) : Int32 := if 0 ≤ x.toInt ∧ x.toInt < ((sTr s).length : Int) then nI ((sTr s).getD x.toInt.toNat 0) else cI (-1)
def aAct (s : St) (b w x : Int32) : Int32 × St := ((actF (sKs s) b w x).1, wTr s (actF (sKs s) b w x).2)
def aBody (s : St) (x : Int32) : Int32 × St := if 0 ≤ x.toInt ∧ x.toInt < 8 then (if (sKs s).length = 50 then (cI (-3), s) else (nI (sKs s).length, wKs s (sKs s ++ [x.toInt.toNat]))) else (cI (-1), s)
def aCount (s : St) (x : Int32) : Int32 :=
  if x.toInt = 0 then nI (sK s).length else if x.toInt = 1 then nI (sH (sK s) 0 4) else if x.toInt = 2 then nI (sTp s).length else if x.toInt = 3 then nI (sN s)
  else if x.toInt = 4 then nI (sKs s).length else if x.toInt = 5 then nI (sTr s).length else cI (-1)
theorem pb_count {d c : Nat} {M : Mem} {s : St} {x : Int32} (h : RC c M s) : Call (d + 4) 100 [.ref 0, .int x] M (RP c M (.int (aCount s x)) s) := by
  obtain ⟨h1, h2, h3, h4, h5, h6, h7, h8, h9, h10, h11, h12, h13⟩ := id h
  obtain ⟨cs, nm, ev, hcs, -⟩ := h13
  refine call_run 400 rfl rfl (fun B Cl Z hZ hB hC => ?_)
  repeat' (first | ((conv => whnf); refine ⟨fun _ => ?_, fun _ => ?_⟩) | ((conv => whnf); refine ⟨?_, ?_⟩) | ((conv => whnf); refine ret_k hC (sp_layersOfAll h1) ?_) | ((conv => whnf); refine ret_k hC (sp_tlength h8) ?_) | ((conv => whnf); refine ret_k hC (sp_done hcs) ?_) | ((conv => whnf); refine ret_k hC (sp_bodies h9) ?_) | ((conv => whnf); refine ret_k hC (sp_ranN h10) ?_) | fail)
  all_goals (try (conv => whnf))
  all_goals (try simp only [c_lt, c_gt, c_le, c_ge, c_eq, c_ne, b2_z, b2_nz, b2_i, Classical.not_not, t0, t1, Nat.reduceMod, Nat.reduceDiv, Int.reduceAdd, Int.reduceNeg, Nat.reduceAdd, kv_m1, kv_0, kv_1, kv_2, kv_3, kv_4, kv_5, kc_0, kc_1, kc_2, kc_3, kc_4, kc_5, x_eq] at *)
  all_goals refine hZ _ _ ?_
  all_goals unfold aCount
  all_goals repeat' first | rw [if_pos (by omega)] | rw [if_neg (by omega)] | fail
  all_goals first | exact RP_same h Fr_refl | (rw [h1.1]; exact RP_same h Fr_refl)
