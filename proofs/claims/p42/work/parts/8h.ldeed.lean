/-! the law: all the cuts in deed -/
section LAW
variable {L : Nat} {xs : Nat → Int32} {Bd : Nat → Lv → List Value → JSt → Prop} {E : EnvK} {rk0 : Rk} {de0 : Nat → Int32}
set_option maxRecDepth 100000 in
set_option maxHeartbeats 4000000 in
theorem seg_deed (H : JOk L xs 12 (jcl L xs 12) Bd (fun x _ => x = 1)) (h4 : rk0.length ≤ 4) {G g len : Nat} {yf : Nat → Nat} {fv : Nat → Int32} {T : Tm} {vs : List Int64} {W : Wst} {v3 v10 : Int32} (hlen : len ≤ 10) (hfy : ∀ j, j < len → fv j = nI (yf j) ∧ yf j < 64 ∧ yf j / 16 < rk0.length ∧ yf j % 16 < 6)
    (hvs : ∀ j, j < len → vs.drop j = lN (yf j) :: vs.drop (j + 1)) (hvl : vs.length = len) (hlk : lkT T 3038 = some (true, len, fv))
    (next : ∀ M s c3, RX G M s → Wm E rk0 de0 len s W c3 → Bd 460 (lvE rk0.length v3 W.2.1 W.2.2.1 W.2.2.2.1 W.2.2.2.2.1 v10 W.2.1 len) [] (M, T, g)) :
    ∀ (m k : Nat) (M : Mem) (s : St) (w : Wst) (c3 : Nat), k + m = len → RX (9 * m + G) M s → Wm E rk0 de0 k s w c3 → wrun E (vs.drop k) k w = W → Bd 221 (lvE rk0.length v3 W.2.1 W.2.2.1 W.2.2.2.1 W.2.2.2.2.1 v10 w.2.1 k) [] (M, T, g) := by
  have el := nI_v (n := len) (by omega)
  intro m
  induction m with
  | zero =>
    intro k M s w c3 hk hR hw hW
    obtain rfl : k = len := by omega
    have e9 : vs.drop k = [] := List.drop_of_length_le (by omega)
    rw [e9] at hW
    have hW : w = W := hW
    subst hW
    refine H.1 400 _ _ _ _ (fun B vc sc Z hBB hV hS hZ => ?_)
    (conv => whnf)
    refine ⟨true, k, fv, hlk, ?_⟩
    (conv => whnf); refine ⟨fun q => ?_, fun q => ?_⟩
    · exact hBB _ _ _ _ (Jsub H _ _ (sL_cons rfl (sL_cons rfl (sL_cons rfl (sL_cons rfl (sL_cons rfl (sL_cons rfl (sL_cons rfl (sL_cons rfl (sL_cons rfl (sL_cons rfl (sL_cons rfl (sL_cons rfl (sL_cons rfl (sL_nil)))))))))))))) (List.Sublist.refl _) (next M s c3 (RX_le hR (by omega)) hw))
    · simp only [c_lt, c_gt, c_le, c_ge, c_eq, c_ne, b2_z, b2_nz, b2_i, Classical.not_not, t0, t1, Nat.reduceMod, Nat.reduceDiv, Int.reduceAdd, Int.reduceNeg, Nat.reduceAdd, kv_m1, kv_0, kv_1, kv_2, kv_3, kv_4, kv_5, kv_6, kv_7, kv_8, kv_9, kv_10, kv_12, kv_13, kv_14, kv_15, kv_16, kv_19, kv_24, kv_100, kv_500, kc_0, kc_1, kc_2, kc_3, kc_4, kc_5, kc_6, kc_7, kc_8, kc_9, kc_10, kc_12, kc_13, kc_14, kc_15, kc_16, kc_19, kc_24, kc_100, kc_500] at q
      omega
  | succ m ih =>
    intro k M s w c3 hk hR hw hW
    have ek := nI_v (n := k) (by omega)
    have hkl : k < len := by omega
    obtain ⟨hf1, hy, hyr, hyp⟩ := hfy k hkl
    have hv := hvs k hkl
    generalize yf k = y at hf1 hy hyr hyp hv
    obtain ⟨a1, a2, a3, a4, a5, a6, a7, a8, a9⟩ := id hw
    have hsl : (sK s).length = rk0.length := a1.2.2
    have hwl : w.1.length = rk0.length := by rw [← a2]; exact hsl
    rw [hv, wrun_at hy (by omega) (by omega)] at hW
    obtain ⟨cp, th, hth, hWm, hthi, hkeep, hcut, hcut9, hdid, hle, hiff, hfa, hfb⟩ := wm_s (l := vs.drop (k + 1)) hw h4 hy hyr hyp (by omega) (by rw [List.length_drop]; omega)
    rw [hW] at hiff hfa hfb
    have hcp := hWm.2.2.2.2.2.2.1
    have hcp3 := hWm.2.2.2.2.2.1
    have l3 : aLed s (cI 3) = nI c3 := by unfold aLed; rw [kv_3, if_pos (by omega)]; exact a6
    have hof := of_h (s := s) (r := y / 16) (by omega) (by omega)
    have hdv : nI y / cI 16 = nI (y / 16) := nI_div (b := 16) (by omega) (by omega)
    have hrm : nI y - nI y / cI 16 * cI 16 = nI (y % 16) := rem_n (b := 16) (by omega) (by omega)
    have hh12 : hgt (sK s) (y / 16) ≤ 12 := hR.ok.2.1 _
    have e1 := nI_v (n := y % 16) (by omega)
    have e2 := nI_v (n := hgt (sK s) (y / 16)) (by omega)
    have e3 : nI k + cI 1 = nI (k + 1) := nI_add k 1
    have go : ∀ M, RX (5 + 9 * m + G) M (aCut s (nI y)).2 → Bd 325 ((13, .int (nI (y / 16))) :: (14, .int (nI th)) :: (15, .int (nI c3)) :: lvE rk0.length v3 W.2.1 W.2.2.1 W.2.2.2.1 W.2.2.2.2.1 v10 w.2.1 k) [] (M, T, g) := by
      intro M hR
      refine seg_door H (G := 2 + 9 * m + G) (s := (aCut s (nI y)).2) (cp := cp) (by omega) hth (by omega) (by omega) hcp3 hle hiff (RX_le hR (by omega)) (fun M hR => ?_)
      refine seg_fell H (G := 9 * m + G) (s := (aCut s (nI y)).2) (by omega) hth hfa hfb (RX_le hR (by omega)) (fun M hR => ?_)
      have h9 := ih (k + 1) M (aCut s (nI y)).2 (wstp E w y k) cp (by omega) hR hWm hW
      rw [hdid] at h9
      refine H.1 400 _ _ _ _ (fun B vc sc Z hBB hV hS hZ => ?_)
      (conv => whnf)
      rw [e3]
      exact hBB _ _ _ _ (Jsub H _ _ (sL_cons rfl (sL_cons rfl (sL_cons rfl (sL_cons rfl (sL_cons rfl (sL_cons rfl (sL_cons rfl (sL_cons rfl (sL_cons rfl (sL_cons rfl (sL_cons rfl (sL_cons rfl (sL_cons rfl (sL_nil)))))))))))))) (List.Sublist.refl _) h9)
    refine H.1 400 _ _ _ _ (fun B vc sc Z hBB hV hS hZ => ?_)
    (conv => whnf)
    refine ⟨true, len, fv, hlk, ?_⟩
    (conv => whnf); refine ⟨fun q => ?_, fun q => ?_⟩
    · simp only [c_lt, c_gt, c_le, c_ge, c_eq, c_ne, b2_z, b2_nz, b2_i, Classical.not_not, t0, t1, Nat.reduceMod, Nat.reduceDiv, Int.reduceAdd, Int.reduceNeg, Nat.reduceAdd, kv_m1, kv_0, kv_1, kv_2, kv_3, kv_4, kv_5, kv_6, kv_7, kv_8, kv_9, kv_10, kv_12, kv_13, kv_14, kv_15, kv_16, kv_19, kv_24, kv_100, kv_500, kc_0, kc_1, kc_2, kc_3, kc_4, kc_5, kc_6, kc_7, kc_8, kc_9, kc_10, kc_12, kc_13, kc_14, kc_15, kc_16, kc_19, kc_24, kc_100, kc_500] at q
      rw [ek, el] at q
      omega
    · (conv => whnf)
      refine ⟨true, len, fv, hlk, nI_vp (by omega) (by omega), ?_⟩
      rw [nI_c (by omega), hf1]
      (conv => whnf)
      refine ⟨by decide, ?_⟩
      rw [hdv]
      (conv => whnf)
      refine ⟨true, len, fv, hlk, nI_vp (by omega) (by omega), ?_⟩
      rw [nI_c (by omega), hf1]
      (conv => whnf)
      refine ⟨by decide, ?_⟩
      rw [hrm]
      (conv => whnf); refine hV _ _ _ _ _ (v_of (g := 8 + 9 * m + G) (RX_le hR (by omega))) (fun r M' e => ?_); obtain ⟨rfl, hR⟩ := e
      rw [hof]
      (conv => whnf); refine ⟨fun q1 => ?_, fun q1 => ?_⟩
      · simp only [c_lt, c_gt, c_le, c_ge, c_eq, c_ne, b2_z, b2_nz, b2_i, Classical.not_not, t0, t1, Nat.reduceMod, Nat.reduceDiv, Int.reduceAdd, Int.reduceNeg, Nat.reduceAdd, kv_m1, kv_0, kv_1, kv_2, kv_3, kv_4, kv_5, kv_6, kv_7, kv_8, kv_9, kv_10, kv_12, kv_13, kv_14, kv_15, kv_16, kv_19, kv_24, kv_100, kv_500, kc_0, kc_1, kc_2, kc_3, kc_4, kc_5, kc_6, kc_7, kc_8, kc_9, kc_10, kc_12, kc_13, kc_14, kc_15, kc_16, kc_19, kc_24, kc_100, kc_500] at q1
        rw [e1, e2] at q1
        obtain rfl : th = 0 := by omega
        (conv => whnf); refine hV _ _ _ _ _ (v_led (g := 7 + 9 * m + G) (RX_le hR (by omega))) (fun r M' e => ?_); obtain ⟨rfl, hR⟩ := e
        rw [l3]
        (conv => whnf)
        refine ⟨true, len, fv, hlk, nI_vp (by omega) (by omega), ?_⟩
        rw [nI_c (by omega), hf1]
        (conv => whnf); refine hV _ _ _ _ _ (v_keeps (g := 6 + 9 * m + G) (RX_le hR (by omega))) (fun r M' e => ?_); obtain ⟨rfl, hR⟩ := e
        rw [hkeep]
        (conv => whnf)
        refine ⟨true, len, fv, hlk, nI_vp (by omega) (by omega), ?_⟩
        rw [nI_c (by omega), hf1]
        (conv => whnf); refine hV _ _ _ _ _ (v_cut (g := 5 + 9 * m + G) (RX_le hR (by omega))) (fun r M' e => ?_); obtain ⟨rfl, hR⟩ := e
        (conv => whnf); refine ⟨fun q2 => ?_, fun q2 => ?_⟩
        · (conv => whnf)
          refine ⟨fun q => absurd rfl q, fun _ => ?_⟩
          (conv => whnf)
          refine ⟨fun q => absurd rfl q, fun _ => ?_⟩
          (conv => whnf); refine ⟨fun q5 => ?_, fun q5 => ?_⟩
          · (conv => whnf)
            exact hBB _ _ _ _ (Jsub H _ _ (sL_cons rfl (sL_cons rfl (sL_cons rfl (sL_cons rfl (sL_cons rfl (sL_cons rfl (sL_cons rfl (sL_cons rfl (sL_cons rfl (sL_cons rfl (sL_cons rfl (sL_cons rfl (sL_cons rfl (sL_cons rfl (sL_cons rfl (sL_cons rfl (sL_nil))))))))))))))))) (List.Sublist.refl _) (go M' hR))
          · simp only [c_lt, c_gt, c_le, c_ge, c_eq, c_ne, b2_z, b2_nz, b2_i, Classical.not_not, t0, t1, Nat.reduceMod, Nat.reduceDiv, Int.reduceAdd, Int.reduceNeg, Nat.reduceAdd, kv_m1, kv_0, kv_1, kv_2, kv_3, kv_4, kv_5, kv_6, kv_7, kv_8, kv_9, kv_10, kv_12, kv_13, kv_14, kv_15, kv_16, kv_19, kv_24, kv_100, kv_500, kc_0, kc_1, kc_2, kc_3, kc_4, kc_5, kc_6, kc_7, kc_8, kc_9, kc_10, kc_12, kc_13, kc_14, kc_15, kc_16, kc_19, kc_24, kc_100, kc_500] at q5
            omega
        · simp only [c_lt, c_gt, c_le, c_ge, c_eq, c_ne, b2_z, b2_nz, b2_i, Classical.not_not, t0, t1, Nat.reduceMod, Nat.reduceDiv, Int.reduceAdd, Int.reduceNeg, Nat.reduceAdd, kv_m1, kv_0, kv_1, kv_2, kv_3, kv_4, kv_5, kv_6, kv_7, kv_8, kv_9, kv_10, kv_12, kv_13, kv_14, kv_15, kv_16, kv_19, kv_24, kv_100, kv_500, kc_0, kc_1, kc_2, kc_3, kc_4, kc_5, kc_6, kc_7, kc_8, kc_9, kc_10, kc_12, kc_13, kc_14, kc_15, kc_16, kc_19, kc_24, kc_100, kc_500] at q2
          omega
      · simp only [c_lt, c_gt, c_le, c_ge, c_eq, c_ne, b2_z, b2_nz, b2_i, Classical.not_not, t0, t1, Nat.reduceMod, Nat.reduceDiv, Int.reduceAdd, Int.reduceNeg, Nat.reduceAdd, kv_m1, kv_0, kv_1, kv_2, kv_3, kv_4, kv_5, kv_6, kv_7, kv_8, kv_9, kv_10, kv_12, kv_13, kv_14, kv_15, kv_16, kv_19, kv_24, kv_100, kv_500, kc_0, kc_1, kc_2, kc_3, kc_4, kc_5, kc_6, kc_7, kc_8, kc_9, kc_10, kc_12, kc_13, kc_14, kc_15, kc_16, kc_19, kc_24, kc_100, kc_500] at q1
        rw [e1, e2] at q1
        obtain rfl : th = 1 := by omega
        (conv => whnf); refine hV _ _ _ _ _ (v_led (g := 7 + 9 * m + G) (RX_le hR (by omega))) (fun r M' e => ?_); obtain ⟨rfl, hR⟩ := e
        rw [l3]
        (conv => whnf)
        refine ⟨true, len, fv, hlk, nI_vp (by omega) (by omega), ?_⟩
        rw [nI_c (by omega), hf1]
        (conv => whnf); refine hV _ _ _ _ _ (v_keeps (g := 6 + 9 * m + G) (RX_le hR (by omega))) (fun r M' e => ?_); obtain ⟨rfl, hR⟩ := e
        rw [hkeep]
        (conv => whnf)
        refine ⟨true, len, fv, hlk, nI_vp (by omega) (by omega), ?_⟩
        rw [nI_c (by omega), hf1]
        (conv => whnf); refine hV _ _ _ _ _ (v_cut (g := 5 + 9 * m + G) (RX_le hR (by omega))) (fun r M' e => ?_); obtain ⟨rfl, hR⟩ := e
        (conv => whnf); refine ⟨fun q2 => ?_, fun q2 => ?_⟩
        · simp only [c_lt, c_gt, c_le, c_ge, c_eq, c_ne, b2_z, b2_nz, b2_i, Classical.not_not, t0, t1, Nat.reduceMod, Nat.reduceDiv, Int.reduceAdd, Int.reduceNeg, Nat.reduceAdd, kv_m1, kv_0, kv_1, kv_2, kv_3, kv_4, kv_5, kv_6, kv_7, kv_8, kv_9, kv_10, kv_12, kv_13, kv_14, kv_15, kv_16, kv_19, kv_24, kv_100, kv_500, kc_0, kc_1, kc_2, kc_3, kc_4, kc_5, kc_6, kc_7, kc_8, kc_9, kc_10, kc_12, kc_13, kc_14, kc_15, kc_16, kc_19, kc_24, kc_100, kc_500] at q2
          omega
        · (conv => whnf)
          refine ⟨fun q => absurd rfl q, fun _ => ?_⟩
          (conv => whnf)
          refine ⟨fun q => absurd rfl q, fun _ => ?_⟩
          (conv => whnf); refine ⟨fun q5 => ?_, fun q5 => ?_⟩
          · (conv => whnf)
            exact hBB _ _ _ _ (Jsub H _ _ (sL_cons rfl (sL_cons rfl (sL_cons rfl (sL_cons rfl (sL_cons rfl (sL_cons rfl (sL_cons rfl (sL_cons rfl (sL_cons rfl (sL_cons rfl (sL_cons rfl (sL_cons rfl (sL_cons rfl (sL_cons rfl (sL_cons rfl (sL_cons rfl (sL_nil))))))))))))))))) (List.Sublist.refl _) (go M' hR))
          · simp only [c_lt, c_gt, c_le, c_ge, c_eq, c_ne, b2_z, b2_nz, b2_i, Classical.not_not, t0, t1, Nat.reduceMod, Nat.reduceDiv, Int.reduceAdd, Int.reduceNeg, Nat.reduceAdd, kv_m1, kv_0, kv_1, kv_2, kv_3, kv_4, kv_5, kv_6, kv_7, kv_8, kv_9, kv_10, kv_12, kv_13, kv_14, kv_15, kv_16, kv_19, kv_24, kv_100, kv_500, kc_0, kc_1, kc_2, kc_3, kc_4, kc_5, kc_6, kc_7, kc_8, kc_9, kc_10, kc_12, kc_13, kc_14, kc_15, kc_16, kc_19, kc_24, kc_100, kc_500] at q5
            omega
end LAW
