/-! the law: the loop over the ricks -/
section LAW
variable {L : Nat} {xs : Nat → Int32} {Bd : Nat → Lv → List Value → JSt → Prop} {E : EnvK} {rk0 : Rk} {de0 : Nat → Int32}
set_option maxRecDepth 100000 in
set_option maxHeartbeats 4000000 in
theorem seg_order (H : JOk L xs 12 (jcl L xs 12) Bd (fun x _ => x = 1)) {r h g G : Nat} {v2 : Int32} {M : Mem} {s : St} {f : Nat → Int32} (hr : r < rk0.length) (h4 : rk0.length ≤ 4) (h12 : hgt rk0 r ≤ 12) (hh : h ≤ 4) (hf : ∀ j, j < h → okH (f j)) (hE : 0 ≤ E.2.2.1.toInt ∧ E.2.2.1.toInt ≤ 99) (hR : RX (60 + G) M s) (hB : Base E rk0 de0 s)
    (next : ∀ (M : Mem) (s : St) (T : Tm) (g' : Nat), RX G M s → Base E rk0 de0 s → g ≤ g' → Bd 942 (lvW v2 E.2.2.1 r (hgt rk0 r)) [] (M, T, g')) :
    Bd 693 ((14, .ref 3623) :: lvW v2 E.2.2.1 r (hgt rk0 r)) [] (M, [(3623, true, h, f)], g + 1) := by
  have esz := nI_v (n := hgt rk0 r) (by omega)
  have hys : ∃ ys : Nat → Nat, ∀ j, j < h → f j = nI (ys j) ∧ hrZ (ys j : Int) := ⟨fun j => (f j).toInt.toNat, fun j hj => by
    obtain ⟨y, e1, e2⟩ := hf j hj
    have := e2.2.1
    show f j = nI (f j).toInt.toNat ∧ hrZ ((f j).toInt.toNat : Int)
    rw [e1, nI_v (by omega), Int.toNat_natCast]
    exact ⟨rfl, e2⟩⟩
  obtain ⟨ys, hys⟩ := hys
  have hy : ∀ j, j < h → hrZ (ys j : Int) := fun j hj => (hys j hj).2
  have hput := js_put (L := L) (xs := xs) (M := M) (s := s) (a := 3623) (i := 1) (t := 1) (w := true) (f := f) (vs := hvL h ys) (g := 40 + G) (RX_le hR (by rw [hvL_len]; omega)) (by rw [hvL_len]; omega) (by omega) (by omega) (fun j v hj => by
      obtain ⟨h1, rfl⟩ := hvL_at hj
      rw [(hys j h1).1]
      exact nl_64 _ (by have := (hy j h1).2.1; omega)) (fun v hv => by
      obtain ⟨j, hj⟩ := List.getElem?_of_mem hv
      obtain ⟨h1, rfl⟩ := hvL_at hj
      exact nrw_1 _ (by have := (hy j h1).2.1; omega)) (by omega) (by omega)
  rw [hvL_len] at hput
  refine H.1 400 _ _ _ _ (fun B vc sc Z hBB hV hS hZ => ?_)
  (conv => whnf)
  refine hS 10 [.ref 0, .int (nI 1), .int (nI 1), .ref 3623] (M, [(3623, true, h, f)], g + 1) _ _ (jc_of1 (S := (M, [(3623, true, h, f)], g + 1)) hput (List.Sublist.refl _) rfl) (fun x M' e => ?_)
  obtain ⟨rfl, hR⟩ := e
  have hB2 : Base E rk0 de0 (wSh s (upD (sSh s) 1 (some (.inr (1, hvL h ys))))) := hB
  have hs2 : sSh (wSh s (upD (sSh s) 1 (some (.inr (1, hvL h ys))))) 1 = some (.inr (1, hvL h ys)) := by
    exact if_pos (e := sSh s 1) (show (1 : Nat) = 1 from rfl)
  generalize wSh s (upD (sSh s) 1 (some (.inr (1, hvL h ys)))) = s1 at hR hB2 hs2
  obtain ⟨b1, b2, b3, b4⟩ := id hB2
  have hw := order_a (s := s1) (r := r) (h := h) (ys := ys) (by rw [b1]; exact hr) (by rw [b1]; exact h4) hh hs2 hy (cI (-1)) (by rw [kv_m1]; omega)
  rw [b1, b2] at hw
  (conv => whnf); refine ⟨fun q => ?_, fun q => ?_⟩
  · (conv => whnf); refine hV _ _ _ _ _ (v_order (g := 39 + G) (RX_le hR (by omega))) (fun r M' e => ?_); obtain ⟨rfl, hR⟩ := e
    rw [hw]
    by_cases hroom : 12 < hgt rk0 r + h
    · rw [if_pos hroom]
      (conv => whnf); refine ⟨fun q2 => ?_, fun q2 => ?_⟩
      · exact hBB _ _ _ _ (Jsub H _ _ (sL_cons rfl (sL_cons rfl (sL_cons rfl (sL_cons rfl (sL_cons rfl (sL_cons rfl (sL_nil))))))) (List.Sublist.refl _) (next M' s1 _ (g + 1) (RX_le hR (by omega)) hB2 (Nat.le_succ g)))
      · exact absurd (show cnd .lt (cI (-2)) 0 by rw [c_lt, kv_m2, t0]; omega) q2
    · rw [if_neg hroom]
      by_cases hle : (dres E (lsH rk0 r h ys) (hgt rk0 r) h).1 ≤ E.2.2.1
      · rw [if_pos hle, if_pos (by rw [kv_m1]; omega)]
        have hle2 := hle
        rw [Int32.le_iff_toInt_le] at hle2
        obtain ⟨p1, p2, p3, p4⟩ := dres_good (E := E) (ls := lsH rk0 r h ys) (base := hgt rk0 r) (n := h) (fun e => by
          rw [e, ad_v (by rw [kv_1]; omega) (by rw [kv_1]; omega), kv_1] at hle2
          omega)
        (conv => whnf); refine ⟨fun q2 => ?_, fun q2 => ?_⟩
        · exact hBB _ _ _ _ (Jsub H _ _ (sL_cons rfl (sL_cons rfl (sL_cons rfl (sL_cons rfl (sL_cons rfl (sL_cons rfl (sL_nil))))))) (List.Sublist.refl _) (next M' s1 _ (g + 1) (RX_le hR (by omega)) hB2 (Nat.le_succ g)))
        · (conv => whnf); refine ⟨fun q3 => ?_, fun q3 => ?_⟩
          · exfalso
            rw [c_gt] at q3
            rw [Int32.le_iff_toInt_le] at hle
            omega
          · have ehh : nI (hgt rk0 r) + nI h = nI (hgt rk0 r + h) := nI_add _ _
            have ehn := nI_v (n := hgt rk0 r + h) (by omega)
            have eh := nI_v (n := h) (by omega)
            (conv => whnf)
            refine ⟨true, h, f, rfl, ?_⟩
            (conv => whnf)
            rw [ehh]
            refine ⟨fun q4 => ?_, fun q4 => ?_⟩
            · (conv => whnf)
              refine ⟨true, h, f, rfl, ?_⟩
              (conv => whnf)
              refine ⟨⟨by rw [Int32.lt_iff_toInt_lt, eh]; show ¬ (h : Int) < (0 : Int32).toInt; rw [show (0 : Int32).toInt = 0 from rfl]; omega, by rw [nI_c (by omega)]; omega⟩, ?_⟩
              (conv => whnf)
              rw [nI_c (by omega)]
              have hord := seg_ord H (E := E) (de0 := de0) (rk0 := rk0) (r := r) (h := h) (g := g) (G := 4 * h + 2 + G) (v2 := v2) (v3 := E.2.2.1) (least := (dres E (lsH rk0 r h ys) (hgt rk0 r) h).1) (ys := ys) (f := f) hr h4 hh hy (by omega) hle (sz := hgt rk0 r) ?_ h 0 M' s1 (fun _ => 0) (by omega) (RX_le hR (by omega)) hB2 hs2 (fun j hj => absurd hj (Nat.not_lt_zero _))
              · exact hBB _ _ _ _ (Jsub H _ _ (sL_cons rfl (sL_cons rfl (sL_cons rfl (sL_cons rfl (sL_cons rfl (sL_cons rfl (sL_cons rfl (sL_cons rfl (sL_cons rfl (sL_cons rfl (sL_nil))))))))))) (List.Sublist.refl _) hord)
              · intro M s f2 hR hB hf2
                refine H.1 400 _ _ _ _ (fun B vc sc Z hBB hV hS hZ => ?_)
                conv => whnf
                have hlaid := seg_laid H (E := E) (de0 := de0) (rk0 := rk0) (r := r) (h := h) (g := g) (G := 2 + G) (v2 := v2) (v3 := E.2.2.1) (least := (dres E (lsH rk0 r h ys) (hgt rk0 r) h).1) (ys := ys) (f := f) (f2 := f2) (path := (dres E (lsH rk0 r h ys) (hgt rk0 r) h).2) hr h4 hh hy (by omega) (fun j hj => (hys j hj).1) hf2 p1 p2 p3 (by rw [← p4]; exact hle2) ?_ h 0 0 M s (by omega) (RX_le hR (by omega)) (laid_0 hB) (by omega) (fun i hi => by rw [Nat.zero_testBit, List.take_zero]; simp)
                · exact hBB _ _ _ _ (Jsub H _ _ (sL_cons rfl (sL_cons rfl (sL_cons rfl (sL_cons rfl (sL_cons rfl (sL_cons rfl (sL_cons rfl (sL_cons rfl (sL_cons rfl (sL_cons rfl (sL_cons rfl (sL_cons rfl (sL_nil))))))))))))) (List.Sublist.refl _) hlaid)
                · intro M s hR hA
                  rw [← p4]
                  refine H.1 400 _ _ _ _ (fun B vc sc Z hBB hV hS hZ => ?_)
                  (conv => whnf); refine ⟨fun q5 => ?_, fun q5 => ?_⟩
                  · exact absurd rfl q5
                  · (conv => whnf); refine hV _ _ _ _ _ (v_back (g := 1 + G) (RX_le hR (by omega))) (fun r M' e => ?_); obtain ⟨rfl, hR⟩ := e
                    obtain ⟨f1, f2, -, -⟩ := back_at hA
                    rw [f1]
                    (conv => whnf); refine ⟨fun q6 => ?_, fun q6 => ?_⟩
                    · exact absurd rfl q6
                    · (conv => whnf); refine hV _ _ _ _ _ (v_of (g := G) (RX_le hR (by omega))) (fun r M' e => ?_); obtain ⟨rfl, hR⟩ := e
                      have hof := of_h (s := (aBack s).2) (r := r) (by rw [f2.1]; exact hr) (by rw [f2.1]; exact h4)
                      rw [f2.1] at hof
                      rw [hof]
                      (conv => whnf); refine ⟨fun q7 => ?_, fun q7 => ?_⟩
                      · exact hBB _ _ _ _ (Jsub H _ _ (sL_cons rfl (sL_cons rfl (sL_cons rfl (sL_cons rfl (sL_cons rfl (sL_cons rfl (sL_nil))))))) (List.Sublist.refl _) (next _ _ _ g hR f2 (Nat.le_refl _)))
                      · exact absurd rfl q7
            · exfalso
              rw [c_le, ehn, kv_12] at q4
              omega
      · rw [if_neg hle]
        (conv => whnf); refine ⟨fun q2 => ?_, fun q2 => ?_⟩
        · exact hBB _ _ _ _ (Jsub H _ _ (sL_cons rfl (sL_cons rfl (sL_cons rfl (sL_cons rfl (sL_cons rfl (sL_cons rfl (sL_nil))))))) (List.Sublist.refl _) (next M' s1 _ (g + 1) (RX_le hR (by omega)) hB2 (Nat.le_succ g)))
        · exact absurd (show cnd .lt (cI (-2)) 0 by rw [c_lt, kv_m2, t0]; omega) q2
  · exact absurd (show ¬ (1 : Int32) = 0 by decide) q
end LAW
