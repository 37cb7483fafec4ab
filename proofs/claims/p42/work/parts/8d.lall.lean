/-! the law: the whole loop over the ricks -/
section LAW
variable {L : Nat} {xs : Nat → Int32} {Bd : Nat → Lv → List Value → JSt → Prop} {E : EnvK} {rk0 : Rk} {de0 : Nat → Int32}
set_option maxRecDepth 100000 in
set_option maxHeartbeats 4000000 in
theorem seg_ricks (H : JOk L xs 12 (jcl L xs 12) Bd (fun x _ => x = 1)) (hL : L ≤ 260) (h4 : rk0.length ≤ 4) (h12 : ∀ r, hgt rk0 r ≤ 12) (hok : ∀ (r l : Nat) (q : Lyr), (rk0.getD r [])[l]? = some q → okL q) (hE : 0 ≤ E.2.2.1.toInt ∧ E.2.2.1.toInt ≤ 99) :
    ∀ (m r : Nat) (M : Mem) (s : St) (T : Tm) (g : Nat), r + m = rk0.length → RX (600 * m) M s → Base E rk0 de0 s → 10 * m ≤ g → Bd 596 [(0, .ref 950), (1, .ref 0), (2, .int (nI rk0.length)), (3, .int E.2.2.1), (12, .int (nI r))] [] (M, T, g) := by
  have en := nI_v (n := rk0.length) (by omega)
  intro m
  induction m with
  | zero =>
    intro r M s T g hr hR hB hg
    have er := nI_v (n := r) (by omega)
    refine H.1 400 _ _ _ _ (fun B vc sc Z hBB hV hS hZ => ?_)
    (conv => whnf); refine ⟨fun q => ?_, fun q => ?_⟩
    · have hend : Bd 1635 [] [] (M, T, g) := by
        refine H.1 400 _ _ _ _ (fun B vc sc Z hBB hV hS hZ => ?_)
        conv => whnf
        exact ⟨Or.inr rfl, hZ _ _ rfl⟩
      exact hBB _ _ _ _ (Jsub H _ _ sL_nil (List.Sublist.refl _) hend)
    · simp only [c_lt, c_gt, c_le, c_ge, c_eq, c_ne, b2_z, b2_nz, b2_i, Classical.not_not, t0, t1, Nat.reduceMod, Nat.reduceDiv, Int.reduceAdd, Int.reduceNeg, Nat.reduceAdd, kv_m1, kv_0, kv_1, kv_2, kv_3, kv_4, kv_5, kv_6, kv_7, kv_8, kv_9, kv_10, kv_12, kv_13, kv_14, kv_15, kv_16, kv_19, kv_24, kv_100, kv_500, kc_0, kc_1, kc_2, kc_3, kc_4, kc_5, kc_6, kc_7, kc_8, kc_9, kc_10, kc_12, kc_13, kc_14, kc_15, kc_16, kc_19, kc_24, kc_100, kc_500] at q
      rw [er, en] at q
      omega
  | succ m ih =>
    intro r M s T g hr hR hB hg
    have er := nI_v (n := r) (by omega)
    have hr4 : r < rk0.length := by omega
    have hh12 := h12 r
    have hl12 : (rk0.getD r []).length ≤ 12 := hh12
    have hokr : ∀ q ∈ rk0.getD r [], okL q := fun q hq => by
      obtain ⟨l, hl⟩ := List.getElem?_of_mem hq
      exact hok r l q hl
    have hcl := cN_lt (L := L) (xs := xs) (i := 15 + r) (by omega)
    obtain ⟨g1, rfl⟩ : ∃ g1, g = g1 + 1 + 1 := ⟨g - 2, by omega⟩
    obtain ⟨b1, b2, b3, b4⟩ := id hB
    have hof := of_h (s := s) (r := r) (by rw [b1]; exact hr4) (by rw [b1]; exact h4)
    rw [b1] at hof
    have hrm := rem_n (a := cN L xs (15 + r)) (b := 5) (by omega) (by decide)
    generalize hh : cN L xs (15 + r) % 5 = h at hrm
    have hh4 : h ≤ 4 := by omega
    have eh := nI_v (n := h) (by omega)
    have fin : ∀ (M : Mem) (s : St) (T : Tm) (g' : Nat), RX (600 * m) M s → Base E rk0 de0 s → 10 * m ≤ g' → Bd 1629 [(0, .ref 950), (1, .ref 0), (2, .int (nI rk0.length)), (3, .int E.2.2.1), (12, .int (nI r))] [] (M, T, g') := by
      intro M s T g' hR hB hg'
      have e3 : nI r + cI 1 = nI (r + 1) := nI_add r 1
      refine H.1 400 _ _ _ _ (fun B vc sc Z hBB hV hS hZ => ?_)
      (conv => whnf)
      rw [e3]
      exact hBB _ _ _ _ (Jsub H _ _ (sL_cons rfl (sL_cons rfl (sL_cons rfl (sL_cons rfl (sL_cons rfl (sL_nil)))))) (List.Sublist.refl _) (ih (r + 1) M s T g' (by omega) hR hB hg'))
    have worth : ∀ (M : Mem) (s : St) (T : Tm) (g' : Nat), RX (56 + (50 + 600 * m)) M s → Base E rk0 de0 s → 10 * m + 4 ≤ g' → Bd 1250 (lvW (nI rk0.length) E.2.2.1 r (hgt rk0 r)) [] (M, T, g') := by
      intro M s T g' hR hB hg'
      obtain ⟨g2, rfl⟩ : ∃ g2, g' = g2 + 4 := ⟨g' - 4, by omega⟩
      refine H.1 400 _ _ _ _ (fun B vc sc Z hBB hV hS hZ => ?_)
      conv => whnf
      have hw := seg_worth H (E := E) (de0 := de0) (rk0 := rk0) (r := r) (G := 50 + 600 * m) (g := g2) (v2 := nI rk0.length) (v3 := E.2.2.1) hr4 h4 hh12 hokr (fun M s T g' hR hB hg2 => seg_turns H (lv0 := []) (v2 := nI rk0.length) (v3 := E.2.2.1) hR hB hr4 h4 hh12 (fun M s hR hB => fin M s T g' hR hB (by omega))) 4 0 M s T (cI 0) (by omega) (RX_le hR (by omega)) hB (fun h => by rw [kv_0]; exact (sres_ok (E := E) hl12 h).2.2.2)
      exact hBB _ _ _ _ (Jsub H _ _ (sL_cons rfl (sL_cons rfl (sL_cons rfl (sL_cons rfl (sL_cons rfl (sL_cons rfl (sL_cons rfl (sL_cons rfl (sL_nil))))))))) (List.Sublist.refl _) hw)
    have marks : ∀ (M : Mem) (s : St) (T : Tm) (g' : Nat), RX (360 + (56 + (50 + 600 * m))) M s → Base E rk0 de0 s → 10 * m + 8 ≤ g' → Bd 942 (lvW (nI rk0.length) E.2.2.1 r (hgt rk0 r)) [] (M, T, g') := by
      intro M s T g' hR hB hg'
      refine Jsub H _ [] (fun i v h => h) (List.nil_sublist _) ?_
      refine H.1 400 _ _ _ _ (fun B vc sc Z hBB hV hS hZ => ?_)
      conv => whnf
      have hm := seg_marks H (E := E) (de0 := de0) (rk0 := rk0) (r := r) (G := 56 + (50 + 600 * m)) (g := 10 * m + 4) (v2 := nI rk0.length) (v3 := E.2.2.1) hr4 h4 hl12 hokr (sz := hgt rk0 r) (fun M s g' hR hB hg2 => worth M s [] g' hR hB (by omega)) 4 0 M s g' (by omega) (RX_le hR (by omega)) hB (by omega)
      exact hBB _ _ _ _ (Jsub H _ _ (sL_cons rfl (sL_cons rfl (sL_cons rfl (sL_cons rfl (sL_cons rfl (sL_cons rfl (sL_cons rfl (sL_nil)))))))) (List.Sublist.refl _) hm)
    refine Jsub H _ [] (fun i v h => h) (List.nil_sublist _) ?_
    refine H.1 400 _ _ _ _ (fun B vc sc Z hBB hV hS hZ => ?_)
    (conv => whnf); refine ⟨fun q => ?_, fun q => ?_⟩
    · simp only [c_lt, c_gt, c_le, c_ge, c_eq, c_ne, b2_z, b2_nz, b2_i, Classical.not_not, t0, t1, Nat.reduceMod, Nat.reduceDiv, Int.reduceAdd, Int.reduceNeg, Nat.reduceAdd, kv_m1, kv_0, kv_1, kv_2, kv_3, kv_4, kv_5, kv_6, kv_7, kv_8, kv_9, kv_10, kv_12, kv_13, kv_14, kv_15, kv_16, kv_19, kv_24, kv_100, kv_500, kc_0, kc_1, kc_2, kc_3, kc_4, kc_5, kc_6, kc_7, kc_8, kc_9, kc_10, kc_12, kc_13, kc_14, kc_15, kc_16, kc_19, kc_24, kc_100, kc_500] at q
      rw [er, en] at q
      omega
    · (conv => whnf); refine hV _ _ _ _ _ (v_of (g := 599 + 600 * m) (RX_le hR (by omega))) (fun r M' e => ?_); obtain ⟨rfl, hR⟩ := e
      rw [hof]
      (conv => whnf)
      rw [cn_15, nI_add]
      (conv => whnf); refine hS _ _ _ _ _ (jc_of (js_cell (i := 15 + r) hL (by omega)) rfl) (fun x M' e => ?_); obtain ⟨rfl, rfl⟩ := e
      (conv => whnf)
      refine ⟨by decide, ?_⟩
      (conv => whnf)
      rw [show cI 5 = nI 5 from rfl, hrm]
      refine ⟨⟨by rw [Int32.lt_iff_toInt_lt, eh]; show ¬ (h : Int) < (0 : Int32).toInt; rw [show (0 : Int32).toInt = 0 from rfl]; omega, by rw [nI_c (by omega)]; omega⟩, ?_⟩
      (conv => whnf)
      rw [nI_c (by omega)]
      have hhrs := seg_hours H (r := r) (h := h) (g := g1 + 1) (v2 := nI rk0.length) (v3 := E.2.2.1) (M := M') hL (by omega) hh4 (sz := hgt rk0 r) (fun f hf => seg_order H (E := E) (de0 := de0) (rk0 := rk0) (r := r) (h := h) (g := g1) (G := 360 + (56 + (50 + 600 * m))) (v2 := nI rk0.length) (s := s) hr4 h4 hh12 hh4 hf hE (RX_le hR (by omega)) hB (fun M s T g' hR hB hg2 => marks M s T g' hR hB (by omega))) h 0 (fun _ => 0) (by omega) (fun j hj => absurd hj (Nat.not_lt_zero _))
      exact hBB _ _ _ _ (Jsub H _ _ (sL_cons rfl (sL_cons rfl (sL_cons rfl (sL_cons rfl (sL_cons rfl (sL_cons rfl (sL_cons rfl (sL_cons rfl (sL_nil))))))))) (List.Sublist.refl _) hhrs)
end LAW
