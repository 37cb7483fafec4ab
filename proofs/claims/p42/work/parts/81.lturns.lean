/-! the law's last part, of each rick: byTurns -/
section LAW
variable {L : Nat} {xs : Nat → Int32} {Bd : Nat → Lv → List Value → JSt → Prop} {E : EnvK} {rk0 : Rk} {de0 : Nat → Int32}
theorem i500 {w : Nat} : cI 500 + cI 10 * nI w = nI (500 + 10 * w) := by rw [cn_500, cn_10, nI_mul, nI_add]
/-- a lay of force 5 in a way, from the base: what it answers, how the rick leans then -/
theorem lay5 {s : St} {r w : Nat} (hB : Base E rk0 de0 s) (hr : r < rk0.length) (h4 : rk0.length ≤ 4) (hh : hgt rk0 r < 12) (hw : w < 8) :
    (aLay s (nI r) (nI (500 + 10 * w))).1 = nI (hgt rk0 r) ∧ Away E rk0 de0 (aLay s (nI r) (nI (500 + 10 * w))).2 ∧ maxI (absI (aLean (aLay s (nI r) (nI (500 + 10 * w))).2 (nI r) (cI 0))) (absI (aLean (aLay s (nI r) (nI (500 + 10 * w))).2 (nI r) (cI 1))) = tV E (rk0.getD r []) w := by
  obtain ⟨b1, b2, b3, b4⟩ := id hB
  subst b1
  obtain ⟨e1, e2, e3⟩ := lay_ok hB.away hr h4 (way5 hw).1 hh
  have hl : (sK (aLay s (nI r) (nI (500 + 10 * w))).2).length = (sK s).length := e2.2.2
  refine ⟨e1, e2, ?_⟩
  rw [lean_x (by omega) (by omega), lean_y (by omega) (by omega), e2.1]
  have h5 := lM_lay5 (E := E) (rk := sK (aLay s (nI r) (nI (500 + 10 * w))).2) (r := r) (w := w) (ls := (sK s).getD r []) (by rw [e3, put_get hr, (way5 hw).2])
  exact h5
set_option maxRecDepth 100000 in
set_option maxHeartbeats 4000000 in
theorem seg_turns (H : JOk L xs 12 (jcl L xs 12) Bd (fun x _ => x = 1)) {lv0 : Lv} {M : Mem} {T : Tm} {s : St} {r g G : Nat} {v2 v3 : Int32} (hR : RX (50 + G) M s) (hB : Base E rk0 de0 s) (hr : r < rk0.length) (h4 : rk0.length ≤ 4) (h12 : hgt rk0 r ≤ 12)
    (next : ∀ (M : Mem) (s : St), RX G M s → Base E rk0 de0 s → Bd 1629 [(0, .ref 950), (1, .ref 0), (2, .int v2), (3, .int v3), (12, .int (nI r))] [] (M, T, g)) :
    Bd 1447 [(0, .ref 950), (1, .ref 0), (2, .int v2), (3, .int v3), (12, .int (nI r)), (13, .int (nI (hgt rk0 r)))] [] (M, T, g) := by
  have hl12 : (rk0.getD r []).length ≤ 12 := h12
  have esz := nI_v (n := hgt rk0 r) (by omega)
  obtain ⟨b1, b2, b3, b4⟩ := id hB
  have loop : ∀ (m w : Nat) (M : Mem) (s : St) (one : Int32), w + m = 8 → hgt rk0 r < 12 → (∀ w, w < 8 → one.toInt ≤ (tV E (rk0.getD r []) w).toInt) → RX (5 * m + G) M s → Base E rk0 de0 s → Bd 1559 [(0, .ref 950), (1, .ref 0), (2, .int v2), (3, .int v3), (12, .int (nI r)), (13, .int (nI (hgt rk0 r))), (17, .int one), (19, .int (nI w))] [] (M, T, g) := by
    intro m
    induction m with
    | zero =>
      intro w M s one hw hh hone hR hB
      have ew := nI_v (n := w) (by omega)
      refine H.1 400 _ _ _ _ (fun B vc sc Z hBB hV hS hZ => ?_)
      (conv => whnf); refine ⟨fun q => ?_, fun q => ?_⟩
      · exact hBB _ _ _ _ (Jsub H _ _ (sL_cons rfl (sL_cons rfl (sL_cons rfl (sL_cons rfl (sL_cons rfl sL_nil))))) (List.Sublist.refl _) (next _ _ (RX_le hR (by omega)) hB))
      · simp only [c_lt, c_gt, c_le, c_ge, c_eq, c_ne, b2_z, b2_nz, b2_i, Classical.not_not, t0, t1, Nat.reduceMod, Nat.reduceDiv, Int.reduceAdd, Int.reduceNeg, Nat.reduceAdd, kv_m1, kv_0, kv_1, kv_2, kv_3, kv_4, kv_5, kv_6, kv_7, kv_8, kv_9, kv_10, kv_12, kv_13, kv_14, kv_15, kv_16, kv_19, kv_24, kv_100, kv_500, kc_0, kc_1, kc_2, kc_3, kc_4, kc_5, kc_6, kc_7, kc_8, kc_9, kc_10, kc_12, kc_13, kc_14, kc_15, kc_16, kc_19, kc_24, kc_100, kc_500] at q
        rw [ew] at q
        omega
    | succ m ih =>
      intro w M s one hw hh hone hR hB
      have ew := nI_v (n := w) (by omega)
      obtain ⟨e1, e2, e3⟩ := lay5 hB hr h4 hh (w := w) (by omega)
      refine H.1 400 _ _ _ _ (fun B vc sc Z hBB hV hS hZ => ?_)
      (conv => whnf); refine ⟨fun q => ?_, fun q => ?_⟩
      · simp only [c_lt, c_gt, c_le, c_ge, c_eq, c_ne, b2_z, b2_nz, b2_i, Classical.not_not, t0, t1, Nat.reduceMod, Nat.reduceDiv, Int.reduceAdd, Int.reduceNeg, Nat.reduceAdd, kv_m1, kv_0, kv_1, kv_2, kv_3, kv_4, kv_5, kv_6, kv_7, kv_8, kv_9, kv_10, kv_12, kv_13, kv_14, kv_15, kv_16, kv_19, kv_24, kv_100, kv_500, kc_0, kc_1, kc_2, kc_3, kc_4, kc_5, kc_6, kc_7, kc_8, kc_9, kc_10, kc_12, kc_13, kc_14, kc_15, kc_16, kc_19, kc_24, kc_100, kc_500] at q
        rw [ew] at q
        omega
      · (conv => whnf)
        rw [i500]
        refine hV _ _ _ _ _ (v_lay (g := 5 * m + 4 + G) (RX_le hR (by omega))) (fun v M' e => ?_)
        obtain ⟨rfl, hR⟩ := e
        rw [e1]
        (conv => whnf); refine ⟨fun q2 => ?_, fun q2 => ?_⟩
        · exact absurd rfl q2
        · (conv => whnf); refine hV _ _ _ _ _ (v_lean (g := 5 * m + 3 + G) (RX_le hR (by omega))) (fun r M' e => ?_); obtain ⟨rfl, hR⟩ := e
          (conv => whnf); refine hV _ _ _ _ _ (v_lean (g := 5 * m + 2 + G) (RX_le hR (by omega))) (fun r M' e => ?_); obtain ⟨rfl, hR⟩ := e
          (conv => whnf)
          refine ⟨fun q3 => ?_, fun q3 => ?_⟩
          · exfalso
            have q4 : cnd .lt (tV E (rk0.getD r []) w) one := by rw [← e3]; exact q3
            simp only [c_lt, c_gt, c_le, c_ge, c_eq, c_ne, b2_z, b2_nz, b2_i, Classical.not_not, t0, t1, Nat.reduceMod, Nat.reduceDiv, Int.reduceAdd, Int.reduceNeg, Nat.reduceAdd, kv_m1, kv_0, kv_1, kv_2, kv_3, kv_4, kv_5, kv_6, kv_7, kv_8, kv_9, kv_10, kv_12, kv_13, kv_14, kv_15, kv_16, kv_19, kv_24, kv_100, kv_500, kc_0, kc_1, kc_2, kc_3, kc_4, kc_5, kc_6, kc_7, kc_8, kc_9, kc_10, kc_12, kc_13, kc_14, kc_15, kc_16, kc_19, kc_24, kc_100, kc_500] at q4
            have := hone w (by omega)
            omega
          · (conv => whnf); refine hV _ _ _ _ _ (v_back (g := 5 * m + 1 + G) (RX_le hR (by omega))) (fun r M' e => ?_); obtain ⟨rfl, hR⟩ := e
            obtain ⟨f1, f2, -, -⟩ := back_at e2
            rw [f1]
            have e5 : nI w + cI 1 = nI (w + 1) := nI_add w 1
            (conv => whnf); refine ⟨fun q5 => ?_, fun q5 => ?_⟩
            · (conv => whnf)
              rw [e5]
              exact hBB _ _ _ _ (Jsub H _ _ (sL_cons rfl (sL_cons rfl (sL_cons rfl (sL_cons rfl (sL_cons rfl (sL_cons rfl (sL_cons rfl (sL_cons rfl sL_nil)))))))) (List.Sublist.refl _) (ih (w + 1) _ _ one (by omega) hh hone (RX_le hR (by omega)) f2))
            · exact absurd rfl q5
  subst b1
  refine H.1 400 _ _ _ _ (fun B vc sc Z hBB hV hS hZ => ?_)
  (conv => whnf); refine hV _ _ _ _ _ (v_byTurns (g := 49 + G) (RX_le hR (by omega))) (fun r M' e => ?_); obtain ⟨rfl, hR⟩ := e
  rcases Nat.lt_or_ge (hgt (sK s) r) 12 with hh | hh
  · rw [turns_0 hr h4 hh, b2]
    obtain ⟨t1, t2, t3⟩ := tres_ok (E := E) hl12
    have hv := (tV_v (E := E) (w := (tres E ((sK s).getD r []) 1).2) hl12)
    rw [t2] at t3 ⊢
    have e0 : (0 : Int32).toInt = 0 := rfl
    generalize hone : tV E ((sK s).getD r []) (tres E ((sK s).getD r []) 1).2 = one at hv t3 ⊢
    (conv => whnf); refine ⟨fun q => ?_, fun q => ?_⟩
    · simp only [c_lt, c_gt, c_le, c_ge, c_eq, c_ne, b2_z, b2_nz, b2_i, Classical.not_not, t0, t1, Nat.reduceMod, Nat.reduceDiv, Int.reduceAdd, Int.reduceNeg, Nat.reduceAdd, kv_m1, kv_0, kv_1, kv_2, kv_3, kv_4, kv_5, kv_6, kv_7, kv_8, kv_9, kv_10, kv_12, kv_13, kv_14, kv_15, kv_16, kv_19, kv_24, kv_100, kv_500, kc_0, kc_1, kc_2, kc_3, kc_4, kc_5, kc_6, kc_7, kc_8, kc_9, kc_10, kc_12, kc_13, kc_14, kc_15, kc_16, kc_19, kc_24, kc_100, kc_500] at q
      rw [esz] at q
      omega
    · (conv => whnf); refine ⟨fun q2 => ?_, fun q2 => ?_⟩
      · simp only [c_lt, c_gt, c_le, c_ge, c_eq, c_ne, b2_z, b2_nz, b2_i, Classical.not_not, t0, t1, Nat.reduceMod, Nat.reduceDiv, Int.reduceAdd, Int.reduceNeg, Nat.reduceAdd, kv_m1, kv_0, kv_1, kv_2, kv_3, kv_4, kv_5, kv_6, kv_7, kv_8, kv_9, kv_10, kv_12, kv_13, kv_14, kv_15, kv_16, kv_19, kv_24, kv_100, kv_500, kc_0, kc_1, kc_2, kc_3, kc_4, kc_5, kc_6, kc_7, kc_8, kc_9, kc_10, kc_12, kc_13, kc_14, kc_15, kc_16, kc_19, kc_24, kc_100, kc_500] at q2
        omega
      · (conv => whnf); refine ⟨fun q3 => ?_, fun q3 => ?_⟩
        · (conv => whnf); refine ⟨fun q4 => ?_, fun q4 => ?_⟩
          · simp only [c_lt, c_gt, c_le, c_ge, c_eq, c_ne, b2_z, b2_nz, b2_i, Classical.not_not, t0, t1, Nat.reduceMod, Nat.reduceDiv, Int.reduceAdd, Int.reduceNeg, Nat.reduceAdd, kv_m1, kv_0, kv_1, kv_2, kv_3, kv_4, kv_5, kv_6, kv_7, kv_8, kv_9, kv_10, kv_12, kv_13, kv_14, kv_15, kv_16, kv_19, kv_24, kv_100, kv_500, kc_0, kc_1, kc_2, kc_3, kc_4, kc_5, kc_6, kc_7, kc_8, kc_9, kc_10, kc_12, kc_13, kc_14, kc_15, kc_16, kc_19, kc_24, kc_100, kc_500] at q4
            omega
          · (conv => whnf); refine hV _ _ _ _ _ (v_byTurns (g := 48 + G) (RX_le hR (by omega))) (fun r M' e => ?_); obtain ⟨rfl, hR⟩ := e
            rw [turns_1 hr h4 hh, b2]
            obtain ⟨e1, e2, e3⟩ := lay5 hB hr h4 hh t1
            (conv => whnf)
            rw [i500]
            refine hV _ _ _ _ _ (v_lay (g := 47 + G) (RX_le hR (by omega))) (fun v M' e => ?_)
            obtain ⟨rfl, hR⟩ := e
            rw [e1]
            (conv => whnf); refine ⟨fun q5 => ?_, fun q5 => ?_⟩
            · exact absurd rfl q5
            · (conv => whnf); refine hV _ _ _ _ _ (v_lean (g := 46 + G) (RX_le hR (by omega))) (fun r M' e => ?_); obtain ⟨rfl, hR⟩ := e
              (conv => whnf); refine hV _ _ _ _ _ (v_lean (g := 45 + G) (RX_le hR (by omega))) (fun r M' e => ?_); obtain ⟨rfl, hR⟩ := e
              (conv => whnf)
              refine ⟨fun q6 => ?_, fun q6 => ?_⟩
              · exfalso
                refine q6 ?_
                rw [← hone, ← e3]
                rfl
              · (conv => whnf); refine hV _ _ _ _ _ (v_back (g := 44 + G) (RX_le hR (by omega))) (fun r M' e => ?_); obtain ⟨rfl, hR⟩ := e
                obtain ⟨f1, f2, -, -⟩ := back_at e2
                rw [f1]
                (conv => whnf); refine ⟨fun q7 => ?_, fun q7 => ?_⟩
                · conv => whnf
                  exact hBB _ _ _ _ (Jsub H _ _ (sL_cons rfl (sL_cons rfl (sL_cons rfl (sL_cons rfl (sL_cons rfl (sL_cons rfl (sL_cons rfl (sL_cons rfl sL_nil)))))))) (List.Sublist.refl _) (loop 8 0 _ _ one (by omega) hh t3 (RX_le hR (by omega)) f2))
                · exact absurd rfl q7
        · exact absurd rfl q3
  · have hh : hgt (sK s) r = 12 := by omega
    rw [turns_f hr h4 hh]
    (conv => whnf); refine ⟨fun q => ?_, fun q => ?_⟩
    · (conv => whnf); refine ⟨fun q2 => ?_, fun q2 => ?_⟩
      · (conv => whnf); refine ⟨fun q3 => ?_, fun q3 => ?_⟩
        · (conv => whnf); refine ⟨fun q4 => ?_, fun q4 => ?_⟩
          · exact hBB _ _ _ _ (Jsub H _ _ (sL_cons rfl (sL_cons rfl (sL_cons rfl (sL_cons rfl (sL_cons rfl sL_nil))))) (List.Sublist.refl _) (next _ _ (RX_le hR (by omega)) hB))
          · simp only [c_lt, c_gt, c_le, c_ge, c_eq, c_ne, b2_z, b2_nz, b2_i, Classical.not_not, t0, t1, Nat.reduceMod, Nat.reduceDiv, Int.reduceAdd, Int.reduceNeg, Nat.reduceAdd, kv_m1, kv_0, kv_1, kv_2, kv_3, kv_4, kv_5, kv_6, kv_7, kv_8, kv_9, kv_10, kv_12, kv_13, kv_14, kv_15, kv_16, kv_19, kv_24, kv_100, kv_500, kc_0, kc_1, kc_2, kc_3, kc_4, kc_5, kc_6, kc_7, kc_8, kc_9, kc_10, kc_12, kc_13, kc_14, kc_15, kc_16, kc_19, kc_24, kc_100, kc_500] at q4
            rw [kv_m2] at q4
            omega
        · exact absurd rfl q3
      · simp only [c_lt, c_gt, c_le, c_ge, c_eq, c_ne, b2_z, b2_nz, b2_i, Classical.not_not, t0, t1, Nat.reduceMod, Nat.reduceDiv, Int.reduceAdd, Int.reduceNeg, Nat.reduceAdd, kv_m1, kv_0, kv_1, kv_2, kv_3, kv_4, kv_5, kv_6, kv_7, kv_8, kv_9, kv_10, kv_12, kv_13, kv_14, kv_15, kv_16, kv_19, kv_24, kv_100, kv_500, kc_0, kc_1, kc_2, kc_3, kc_4, kc_5, kc_6, kc_7, kc_8, kc_9, kc_10, kc_12, kc_13, kc_14, kc_15, kc_16, kc_19, kc_24, kc_100, kc_500] at q2
        rw [kv_m2] at q2
        omega
    · simp only [c_lt, c_gt, c_le, c_ge, c_eq, c_ne, b2_z, b2_nz, b2_i, Classical.not_not, t0, t1, Nat.reduceMod, Nat.reduceDiv, Int.reduceAdd, Int.reduceNeg, Nat.reduceAdd, kv_m1, kv_0, kv_1, kv_2, kv_3, kv_4, kv_5, kv_6, kv_7, kv_8, kv_9, kv_10, kv_12, kv_13, kv_14, kv_15, kv_16, kv_19, kv_24, kv_100, kv_500, kc_0, kc_1, kc_2, kc_3, kc_4, kc_5, kc_6, kc_7, kc_8, kc_9, kc_10, kc_12, kc_13, kc_14, kc_15, kc_16, kc_19, kc_24, kc_100, kc_500] at q
      rw [esz] at q
      omega
end LAW
