/-! the law: of each rick, each mark -/
section LAW
variable {L : Nat} {xs : Nat → Int32} {Bd : Nat → Lv → List Value → JSt → Prop} {E : EnvK} {rk0 : Rk} {de0 : Nat → Int32}
set_option maxRecDepth 100000 in
set_option maxHeartbeats 4000000 in
theorem seg_fill (H : JOk L xs 12 (jcl L xs 12) Bd (fun x _ => x = 1)) {r t g G mk set c : Nat} {cm : Nat → Nat} {v2 v3 : Int32} (hr : r < rk0.length) (h4 : rk0.length ≤ 4) (h12 : (rk0.getD r []).length ≤ 12) (hm : 1 ≤ mk ∧ mk ≤ 7) (hn : lres E (rk0.getD r []) mk = some (set, c, cm)) (ht : (rk0.getD r []).length - pcn set 12 + 1 = t) {sz : Nat}
    (next : ∀ (M : Mem) (s : St) (f : Nat → Int32), RX G M s → Base E rk0 de0 s → (∀ j, j < t → f j = nI ((kcl cm (2 ^ (rk0.getD r []).length - 1) t c set).getD j 0)) → Bd 1005 ((18, .ref 3970) :: (16, .int (nI mk)) :: (17, .int (nI t)) :: lvW v2 v3 r sz) [] (M, [(3970, true, t, f)], g)) :
    ∀ (m k : Nat) (M : Mem) (s : St) (f : Nat → Int32), k + m = t → RX (m + G) M s → Base E rk0 de0 s → (∀ j, j < k → f j = nI ((kcl cm (2 ^ (rk0.getD r []).length - 1) t c set).getD j 0)) → Bd 977 (lvC v2 v3 r sz mk t k) [] (M, [(3970, true, t, f)], g) := by
  have et := nI_v (n := t) (by omega)
  intro m
  induction m with
  | zero =>
    intro k M s f hk hR hB hf
    have ek := nI_v (n := k) (by omega)
    obtain rfl : k = t := by omega
    refine H.1 400 _ _ _ _ (fun B vc sc Z hBB hV hS hZ => ?_)
    (conv => whnf); refine ⟨fun q => ?_, fun q => ?_⟩
    · exact hBB _ _ _ _ (Jsub H _ _ (sL_cons rfl (sL_cons rfl (sL_cons rfl (sL_cons rfl (sL_cons rfl (sL_cons rfl (sL_cons rfl (sL_cons rfl (sL_cons rfl (sL_nil)))))))))) (List.Sublist.refl _) (next M s f (RX_le hR (by omega)) hB hf))
    · simp only [c_lt, c_gt, c_le, c_ge, c_eq, c_ne, b2_z, b2_nz, b2_i, Classical.not_not, t0, t1, Nat.reduceMod, Nat.reduceDiv, Int.reduceAdd, Int.reduceNeg, Nat.reduceAdd, kv_m1, kv_0, kv_1, kv_2, kv_3, kv_4, kv_5, kv_6, kv_7, kv_8, kv_9, kv_10, kv_12, kv_13, kv_14, kv_15, kv_16, kv_19, kv_24, kv_100, kv_500, kc_0, kc_1, kc_2, kc_3, kc_4, kc_5, kc_6, kc_7, kc_8, kc_9, kc_10, kc_12, kc_13, kc_14, kc_15, kc_16, kc_19, kc_24, kc_100, kc_500] at q
      rw [ek] at q
      omega
  | succ m ih =>
    intro k M s f hk hR hB hf
    have ek := nI_v (n := k) (by omega)
    obtain ⟨b1, b2, b3, b4⟩ := id hB
    have hw := letOut_k (s := s) (r := r) (mk := mk) (k := k) (by rw [b1]; exact hr) (by rw [b1]; exact h4) hm (by rw [b1, b2]; exact hn) (by rw [b1]; omega) (by rw [b1]; exact h12)
    rw [b1, ht] at hw
    have e3 : nI k + cI 1 = nI (k + 1) := nI_add k 1
    refine H.1 400 _ _ _ _ (fun B vc sc Z hBB hV hS hZ => ?_)
    (conv => whnf); refine ⟨fun q => ?_, fun q => ?_⟩
    · simp only [c_lt, c_gt, c_le, c_ge, c_eq, c_ne, b2_z, b2_nz, b2_i, Classical.not_not, t0, t1, Nat.reduceMod, Nat.reduceDiv, Int.reduceAdd, Int.reduceNeg, Nat.reduceAdd, kv_m1, kv_0, kv_1, kv_2, kv_3, kv_4, kv_5, kv_6, kv_7, kv_8, kv_9, kv_10, kv_12, kv_13, kv_14, kv_15, kv_16, kv_19, kv_24, kv_100, kv_500, kc_0, kc_1, kc_2, kc_3, kc_4, kc_5, kc_6, kc_7, kc_8, kc_9, kc_10, kc_12, kc_13, kc_14, kc_15, kc_16, kc_19, kc_24, kc_100, kc_500] at q
      rw [ek, et] at q
      omega
    · (conv => whnf); refine hV _ _ _ _ _ (v_letOut (g := m + G) (RX_le hR (by omega))) (fun r M' e => ?_); obtain ⟨rfl, hR⟩ := e
      rw [hw]
      (conv => whnf)
      refine ⟨t, f, rfl, nI_vp (by omega) (by omega), ?_⟩
      (conv => whnf)
      rw [e3, nI_c (by omega)]
      refine hBB _ _ _ _ (Jsub H _ _ (sL_cons rfl (sL_cons rfl (sL_cons rfl (sL_cons rfl (sL_cons rfl (sL_cons rfl (sL_cons rfl (sL_cons rfl (sL_cons rfl (sL_cons rfl (sL_nil))))))))))) (List.Sublist.refl _) (ih (k + 1) _ _ (upd f k (nI ((kcl cm (2 ^ (rk0.getD r []).length - 1) t c set).getD k 0))) (by omega) (RX_le hR (by omega)) hB (fun j hj => ?_)))
      unfold upd
      by_cases e : j = k
      · subst e; rw [if_pos rfl]
      · rw [if_neg e]; exact hf j (by omega)
set_option maxRecDepth 100000 in
set_option maxHeartbeats 4000000 in
theorem seg_marks (H : JOk L xs 12 (jcl L xs 12) Bd (fun x _ => x = 1)) {r G g : Nat} {v2 v3 : Int32} (hr : r < rk0.length) (h4 : rk0.length ≤ 4) (h12 : (rk0.getD r []).length ≤ 12) (hok : ∀ q ∈ rk0.getD r [], okL q) {sz : Nat}
    (next : ∀ (M : Mem) (s : St) (g' : Nat), RX G M s → Base E rk0 de0 s → g ≤ g' → Bd 1250 (lvW v2 v3 r sz) [] (M, [], g')) :
    ∀ (m i : Nat) (M : Mem) (s : St) (g' : Nat), i + m = 4 → RX (90 * m + G) M s → Base E rk0 de0 s → g + m ≤ g' → Bd 945 ((16, .int (nI (2 * i + 1))) :: lvW v2 v3 r sz) [] (M, [], g') := by
  intro m
  induction m with
  | zero =>
    intro i M s g' hi hR hB hg
    obtain rfl : i = 4 := by omega
    refine H.1 400 _ _ _ _ (fun B vc sc Z hBB hV hS hZ => ?_)
    (conv => whnf); refine ⟨fun q => ?_, fun q => ?_⟩
    · exact hBB _ _ _ _ (Jsub H _ _ (sL_cons rfl (sL_cons rfl (sL_cons rfl (sL_cons rfl (sL_cons rfl (sL_cons rfl (sL_nil))))))) (List.Sublist.refl _) (next M s g' (RX_le hR (by omega)) hB (by omega)))
    · simp only [c_lt, c_gt, c_le, c_ge, c_eq, c_ne, b2_z, b2_nz, b2_i, Classical.not_not, t0, t1, Nat.reduceMod, Nat.reduceDiv, Int.reduceAdd, Int.reduceNeg, Nat.reduceAdd, kv_m1, kv_0, kv_1, kv_2, kv_3, kv_4, kv_5, kv_6, kv_7, kv_8, kv_9, kv_10, kv_12, kv_13, kv_14, kv_15, kv_16, kv_19, kv_24, kv_100, kv_500, kc_0, kc_1, kc_2, kc_3, kc_4, kc_5, kc_6, kc_7, kc_8, kc_9, kc_10, kc_12, kc_13, kc_14, kc_15, kc_16, kc_19, kc_24, kc_100, kc_500] at q
      rw [nI_v (by omega)] at q
      omega
  | succ m ih =>
    intro i M s g' hi hR hB hg
    obtain ⟨g9, rfl⟩ : ∃ g9, g' = g9 + 1 := ⟨g' - 1, by omega⟩
    have hm : 1 ≤ 2 * i + 1 ∧ 2 * i + 1 ≤ 7 := by omega
    have emk := nI_v (n := 2 * i + 1) (by omega)
    obtain ⟨b1, b2, b3, b4⟩ := id hB
    have hcm := cM_le2 (mk := 2 * i + 1) (rk0.getD r [])
    have hup : nI (2 * i + 1) + cI 2 = nI (2 * (i + 1) + 1) := by rw [cn_2, nI_add]; congr 1
    have lik : ∀ (M : Mem) (s : St) (few : Int32) (T : Tm) (g3 : Nat), RX (30 + 90 * m + G) M s → Base E rk0 de0 s → g9 ≤ g3 → (few.toInt ≤ 0 ∨ 1 ≤ cM (2 * i + 1) (rk0.getD r [])) → Bd 1151 (lvL v2 v3 r sz (2 * i + 1) few) [] (M, T, g3) := by
      intro M s few T g3 hR hB hg3 hfew
      refine Jsub H _ [] (fun i v h => h) (List.nil_sublist _) ?_
      refine H.1 400 _ _ _ _ (fun B vc sc Z hBB hV hS hZ => ?_)
      conv => whnf
      have hl := seg_likely H (E := E) (de0 := de0) (rk0 := rk0) (r := r) (mk := 2 * i + 1) (G := 90 * m + G) (v2 := v2) (v3 := v3) (few := few) (S := ([], g3)) hr h4 h12 hm (sz := sz) ?_ 13 0 M s (by omega) (RX_le hR (by omega)) hB
      · exact hBB _ _ _ _ (Jsub H _ _ (sL_cons rfl (sL_cons rfl (sL_cons rfl (sL_cons rfl (sL_cons rfl (sL_cons rfl (sL_cons rfl (sL_cons rfl (sL_cons rfl (sL_cons rfl (sL_nil))))))))))) (List.Sublist.refl _) hl)
      · intro M s hR hB
        have cont : Bd 945 ((16, .int (nI (2 * (i + 1) + 1))) :: lvW v2 v3 r sz) [] (M, [], g3) := ih (i + 1) M s g3 (by omega) (RX_le hR (by omega)) hB (by omega)
        refine H.1 400 _ _ _ _ (fun B vc sc Z hBB hV hS hZ => ?_)
        (conv => whnf); refine ⟨fun q => ?_, fun q => ?_⟩
        · (conv => whnf)
          rw [hup]
          exact hBB _ _ _ _ (Jsub H _ _ (sL_cons rfl (sL_cons rfl (sL_cons rfl (sL_cons rfl (sL_cons rfl (sL_cons rfl (sL_cons rfl (sL_nil)))))))) (List.Sublist.refl _) cont)
        · simp only [c_lt, c_gt, c_le, c_ge, c_eq, c_ne, b2_z, b2_nz, b2_i, Classical.not_not, t0, t1, Nat.reduceMod, Nat.reduceDiv, Int.reduceAdd, Int.reduceNeg, Nat.reduceAdd, kv_m1, kv_0, kv_1, kv_2, kv_3, kv_4, kv_5, kv_6, kv_7, kv_8, kv_9, kv_10, kv_12, kv_13, kv_14, kv_15, kv_16, kv_19, kv_24, kv_100, kv_500, kc_0, kc_1, kc_2, kc_3, kc_4, kc_5, kc_6, kc_7, kc_8, kc_9, kc_10, kc_12, kc_13, kc_14, kc_15, kc_16, kc_19, kc_24, kc_100, kc_500] at q
          have hc1 : 1 ≤ cM (2 * i + 1) (rk0.getD r []) := hfew.resolve_left (by omega)
          have hend := lk_end h12 hcm hc1
          (conv => whnf)
          rw [hend]
          refine ⟨fun q2 => ?_, fun q2 => absurd rfl q2⟩
          (conv => whnf)
          rw [hup]
          exact hBB _ _ _ _ (Jsub H _ _ (sL_cons rfl (sL_cons rfl (sL_cons rfl (sL_cons rfl (sL_cons rfl (sL_cons rfl (sL_cons rfl (sL_nil)))))))) (List.Sublist.refl _) cont)
    refine H.1 400 _ _ _ _ (fun B vc sc Z hBB hV hS hZ => ?_)
    (conv => whnf); refine ⟨fun q => ?_, fun q => ?_⟩
    · simp only [c_lt, c_gt, c_le, c_ge, c_eq, c_ne, b2_z, b2_nz, b2_i, Classical.not_not, t0, t1, Nat.reduceMod, Nat.reduceDiv, Int.reduceAdd, Int.reduceNeg, Nat.reduceAdd, kv_m1, kv_0, kv_1, kv_2, kv_3, kv_4, kv_5, kv_6, kv_7, kv_8, kv_9, kv_10, kv_12, kv_13, kv_14, kv_15, kv_16, kv_19, kv_24, kv_100, kv_500, kc_0, kc_1, kc_2, kc_3, kc_4, kc_5, kc_6, kc_7, kc_8, kc_9, kc_10, kc_12, kc_13, kc_14, kc_15, kc_16, kc_19, kc_24, kc_100, kc_500] at q
      rw [emk] at q
      omega
    · (conv => whnf); refine hV _ _ _ _ _ (v_letOut (g := 90 * m + 89 + G) (RX_le hR (by omega))) (fun r M' e => ?_); obtain ⟨rfl, hR⟩ := e
      cases hn : lres E (rk0.getD r []) (2 * i + 1) with
      | none =>
        have hw := letOut_n (s := s) (r := r) (mk := 2 * i + 1) (by rw [b1]; exact hr) (by rw [b1]; exact h4) hm (by rw [b1, b2]; exact hn) (cI (-1)) (by rw [kv_m1]; omega)
        rw [hw]
        (conv => whnf); refine ⟨fun q2 => ?_, fun q2 => ?_⟩
        · exact hBB _ _ _ _ (Jsub H _ _ (sL_cons rfl (sL_cons rfl (sL_cons rfl (sL_cons rfl (sL_cons rfl (sL_cons rfl (sL_cons rfl (sL_cons rfl (sL_nil))))))))) (List.Sublist.refl _) (lik M' s (cI (-2)) [] (g9 + 1) (RX_le hR (by omega)) hB (by omega) (Or.inl (by rw [kv_m2]; omega))))
        · simp only [c_lt, c_gt, c_le, c_ge, c_eq, c_ne, b2_z, b2_nz, b2_i, Classical.not_not, t0, t1, Nat.reduceMod, Nat.reduceDiv, Int.reduceAdd, Int.reduceNeg, Nat.reduceAdd, kv_m1, kv_0, kv_1, kv_2, kv_3, kv_4, kv_5, kv_6, kv_7, kv_8, kv_9, kv_10, kv_12, kv_13, kv_14, kv_15, kv_16, kv_19, kv_24, kv_100, kv_500, kc_0, kc_1, kc_2, kc_3, kc_4, kc_5, kc_6, kc_7, kc_8, kc_9, kc_10, kc_12, kc_13, kc_14, kc_15, kc_16, kc_19, kc_24, kc_100, kc_500] at q2
          rw [kv_m2] at q2
          omega
      | some z =>
        obtain ⟨set, c, cm⟩ := z
        have hw := letOut_s (s := s) (r := r) (mk := 2 * i + 1) (by rw [b1]; exact hr) (by rw [b1]; exact h4) hm (by rw [b1, b2]; exact hn)
        rw [b1] at hw
        rw [hw]
        obtain ⟨hP, q9, hq9, hq8⟩ := out_ok h12 hn
        generalize ht : (rk0.getD r []).length - pcn set 12 + 1 = t at hP ⊢
        have ht13 : t ≤ 13 := by omega
        have et := nI_v (n := t) (by omega)
        have hc1 : 1 ≤ cM (2 * i + 1) (rk0.getD r []) := cM_pos hq9 hq8
        have hpos : 0 < 2 ^ (rk0.getD r []).length := Nat.two_pow_pos _
        have hp : ∀ p ∈ kcl cm (2 ^ (rk0.getD r []).length - 1) t c set, p < 12 := by
          intro p hp
          obtain ⟨j, hj⟩ := List.getElem?_of_mem hp
          have hb := okC_get hP.2.1 hj
          obtain ⟨f1, -⟩ := lft_pcn h12 ((kcl cm (2 ^ (rk0.getD r []).length - 1) t c set).take j) (2 ^ (rk0.getD r []).length - 1) (by omega) (okC_take hP.2.1)
          have := testBit_lt f1 hb
          omega
        (conv => whnf); refine ⟨fun q2 => ?_, fun q2 => ?_⟩
        · simp only [c_lt, c_gt, c_le, c_ge, c_eq, c_ne, b2_z, b2_nz, b2_i, Classical.not_not, t0, t1, Nat.reduceMod, Nat.reduceDiv, Int.reduceAdd, Int.reduceNeg, Nat.reduceAdd, kv_m1, kv_0, kv_1, kv_2, kv_3, kv_4, kv_5, kv_6, kv_7, kv_8, kv_9, kv_10, kv_12, kv_13, kv_14, kv_15, kv_16, kv_19, kv_24, kv_100, kv_500, kc_0, kc_1, kc_2, kc_3, kc_4, kc_5, kc_6, kc_7, kc_8, kc_9, kc_10, kc_12, kc_13, kc_14, kc_15, kc_16, kc_19, kc_24, kc_100, kc_500] at q2
          rw [et] at q2
          omega
        · (conv => whnf)
          refine ⟨⟨by rw [Int32.lt_iff_toInt_lt, et]; show ¬ (t : Int) < (0 : Int32).toInt; rw [show (0 : Int32).toInt = 0 from rfl]; omega, by rw [nI_c (by omega)]; omega⟩, ?_⟩
          (conv => whnf)
          have hfill := seg_fill H (E := E) (de0 := de0) (rk0 := rk0) (r := r) (t := t) (g := g9) (G := 3 * t + 31 + 90 * m + G) (mk := 2 * i + 1) (v2 := v2) (v3 := v3) hr h4 h12 hm hn ht (sz := sz) ?_ t 0 M' s (fun _ => 0) (by omega) (RX_le hR (by omega)) hB (fun j hj => absurd hj (Nat.not_lt_zero _))
          · rw [nI_c (by omega)]
            exact hBB _ _ _ _ (Jsub H _ _ (sL_cons rfl (sL_cons rfl (sL_cons rfl (sL_cons rfl (sL_cons rfl (sL_cons rfl (sL_cons rfl (sL_cons rfl (sL_cons rfl (sL_cons rfl (sL_nil))))))))))) (List.Sublist.refl _) hfill)
          · intro M s f hR hB hf
            refine H.1 400 _ _ _ _ (fun B vc sc Z hBB hV hS hZ => ?_)
            conv => whnf
            have hcuts := seg_cuts H (E := E) (de0 := de0) (rk0 := rk0) (r := r) (t := t) (g := g9) (G := 31 + 90 * m + G) (mk := 2 * i + 1) (v2 := v2) (v3 := v3) (f := f) hr h4 h12 ht13 (by omega) hm hok hP hf hp (sz := sz) ?_ t 0 M s (by omega) (RX_le hR (by omega)) (cutd_0 hB)
            · exact hBB _ _ _ _ (Jsub H _ _ (sL_cons rfl (sL_cons rfl (sL_cons rfl (sL_cons rfl (sL_cons rfl (sL_cons rfl (sL_cons rfl (sL_cons rfl (sL_cons rfl (sL_cons rfl (sL_nil))))))))))) (List.Sublist.refl _) hcuts)
            · intro M s hR hA
              refine H.1 400 _ _ _ _ (fun B vc sc Z hBB hV hS hZ => ?_)
              (conv => whnf); refine hV _ _ _ _ _ (v_back (g := 30 + 90 * m + G) (RX_le hR (by omega))) (fun r M' e => ?_); obtain ⟨rfl, hR⟩ := e
              obtain ⟨f1, f2, -, -⟩ := back_at hA
              rw [f1]
              (conv => whnf); refine ⟨fun q5 => ?_, fun q5 => ?_⟩
              · exact hBB _ _ _ _ (Jsub H _ _ (sL_cons rfl (sL_cons rfl (sL_cons rfl (sL_cons rfl (sL_cons rfl (sL_cons rfl (sL_cons rfl (sL_cons rfl (sL_nil))))))))) (List.Sublist.refl _) (lik M' _ (nI t) _ g9 (RX_le hR (by omega)) f2 (Nat.le_refl _) (Or.inr hc1)))
              · exact absurd rfl q5
end LAW
