/-! the law's part on letOut -/
section LAW
variable {L : Nat} {xs : Nat → Int32} {Bd : Nat → Lv → List Value → JSt → Prop} {E : EnvK} {rk0 : Rk} {de0 : Nat → Int32}
abbrev lvC (v2 v3 : Int32) (r sz mk m k : Nat) : Lv := (18, .ref 3970) :: (19, .int (nI k)) :: (16, .int (nI mk)) :: (17, .int (nI m)) :: lvW v2 v3 r sz
set_option maxRecDepth 100000 in
set_option maxHeartbeats 4000000 in
theorem seg_at2 (H : JOk L xs 12 (jcl L xs 12) Bd (fun x _ => x = 1)) {r g k c t mk : Nat} {v2 v3 : Int32} {f : Nat → Int32} {path : List Nat} {M : Mem} (h12 : (rk0.getD r []).length ≤ 12) (ht : t ≤ 13) (hc : okC (2 ^ (rk0.getD r []).length - 1) path) (hl : path.length = t) (hf : ∀ j, j < t → f j = nI (path.getD j 0)) (hp : ∀ p ∈ path, p < 12) (hk : path[k]? = some c) {sz : Nat}
    (next : Bd 1061 ((20, .int (nI (pcn (lft (2 ^ (rk0.getD r []).length - 1) (path.take k)) c))) :: lvC v2 v3 r sz mk t k) [] (M, [(3970, true, t, f)], g)) :
    ∀ (m e : Nat), e + m = k → Bd 1025 ((20, .int (nI (pcn (lft (2 ^ (rk0.getD r []).length - 1) (path.take e)) c))) :: (21, .int (nI e)) :: lvC v2 v3 r sz mk t k) [] (M, [(3970, true, t, f)], g) := by
  have hkl : k < path.length := (List.getElem?_eq_some_iff.mp hk).1
  have ek := nI_v (n := k) (by omega)
  have hfk : f k = nI c := by rw [hf k (by omega), List.getD_eq_getElem?_getD, hk]; rfl
  have hc12 := hp c (List.mem_of_getElem? hk)
  intro m
  induction m with
  | zero =>
    intro e he
    obtain rfl : e = k := by omega
    refine H.1 400 _ _ _ _ (fun B vc sc Z hBB hV hS hZ => ?_)
    (conv => whnf); refine ⟨fun q => ?_, fun q => ?_⟩
    · exact hBB _ _ _ _ (Jsub H _ _ (sL_cons rfl (sL_cons rfl (sL_cons rfl (sL_cons rfl (sL_cons rfl (sL_cons rfl (sL_cons rfl (sL_cons rfl (sL_cons rfl (sL_cons rfl (sL_cons rfl (sL_nil)))))))))))) (List.Sublist.refl _) next)
    · simp only [c_lt, c_gt, c_le, c_ge, c_eq, c_ne, b2_z, b2_nz, b2_i, Classical.not_not, t0, t1, Nat.reduceMod, Nat.reduceDiv, Int.reduceAdd, Int.reduceNeg, Nat.reduceAdd, kv_m1, kv_0, kv_1, kv_2, kv_3, kv_4, kv_5, kv_6, kv_7, kv_8, kv_9, kv_10, kv_12, kv_13, kv_14, kv_15, kv_16, kv_19, kv_24, kv_100, kv_500, kc_0, kc_1, kc_2, kc_3, kc_4, kc_5, kc_6, kc_7, kc_8, kc_9, kc_10, kc_12, kc_13, kc_14, kc_15, kc_16, kc_19, kc_24, kc_100, kc_500] at q
      rw [ek] at q
      omega
  | succ m ih =>
    intro e he
    have ee := nI_v (n := e) (by omega)
    obtain ⟨c0, hc0⟩ : ∃ c0, path[e]? = some c0 := ⟨_, List.getElem?_eq_getElem (by omega)⟩
    have hfe : f e = nI c0 := by rw [hf e (by omega), List.getD_eq_getElem?_getD, hc0]; rfl
    have hc02 := hp c0 (List.mem_of_getElem? hc0)
    have hpl := place_s (c := c) h12 hc hc0
    have e1 := nI_v (n := c0) (by omega)
    have e2 := nI_v (n := c) (by omega)
    have e3 : nI e + cI 1 = nI (e + 1) := nI_add e 1
    refine H.1 400 _ _ _ _ (fun B vc sc Z hBB hV hS hZ => ?_)
    (conv => whnf); refine ⟨fun q => ?_, fun q => ?_⟩
    · simp only [c_lt, c_gt, c_le, c_ge, c_eq, c_ne, b2_z, b2_nz, b2_i, Classical.not_not, t0, t1, Nat.reduceMod, Nat.reduceDiv, Int.reduceAdd, Int.reduceNeg, Nat.reduceAdd, kv_m1, kv_0, kv_1, kv_2, kv_3, kv_4, kv_5, kv_6, kv_7, kv_8, kv_9, kv_10, kv_12, kv_13, kv_14, kv_15, kv_16, kv_19, kv_24, kv_100, kv_500, kc_0, kc_1, kc_2, kc_3, kc_4, kc_5, kc_6, kc_7, kc_8, kc_9, kc_10, kc_12, kc_13, kc_14, kc_15, kc_16, kc_19, kc_24, kc_100, kc_500] at q
      rw [ee, ek] at q
      omega
    · (conv => whnf)
      refine ⟨true, t, f, rfl, nI_vp (by omega) (by omega), ?_⟩
      (conv => whnf)
      refine ⟨true, t, f, rfl, nI_vp (by omega) (by omega), ?_⟩
      rw [nI_c (by omega), nI_c (by omega), hfe, hfk]
      (conv => whnf); refine ⟨fun q2 => ?_, fun q2 => ?_⟩
      · simp only [c_lt, c_gt, c_le, c_ge, c_eq, c_ne, b2_z, b2_nz, b2_i, Classical.not_not, t0, t1, Nat.reduceMod, Nat.reduceDiv, Int.reduceAdd, Int.reduceNeg, Nat.reduceAdd, kv_m1, kv_0, kv_1, kv_2, kv_3, kv_4, kv_5, kv_6, kv_7, kv_8, kv_9, kv_10, kv_12, kv_13, kv_14, kv_15, kv_16, kv_19, kv_24, kv_100, kv_500, kc_0, kc_1, kc_2, kc_3, kc_4, kc_5, kc_6, kc_7, kc_8, kc_9, kc_10, kc_12, kc_13, kc_14, kc_15, kc_16, kc_19, kc_24, kc_100, kc_500] at q2
        rw [e1, e2] at q2
        rw [if_neg (by omega)] at hpl
        (conv => whnf)
        rw [show cI 0 = nI 0 from rfl, hpl, e3]
        exact hBB _ _ _ _ (Jsub H _ _ (sL_cons rfl (sL_cons rfl (sL_cons rfl (sL_cons rfl (sL_cons rfl (sL_cons rfl (sL_cons rfl (sL_cons rfl (sL_cons rfl (sL_cons rfl (sL_cons rfl (sL_cons rfl (sL_nil))))))))))))) (List.Sublist.refl _) (ih (e + 1) (by omega)))
      · simp only [c_lt, c_gt, c_le, c_ge, c_eq, c_ne, b2_z, b2_nz, b2_i, Classical.not_not, t0, t1, Nat.reduceMod, Nat.reduceDiv, Int.reduceAdd, Int.reduceNeg, Nat.reduceAdd, kv_m1, kv_0, kv_1, kv_2, kv_3, kv_4, kv_5, kv_6, kv_7, kv_8, kv_9, kv_10, kv_12, kv_13, kv_14, kv_15, kv_16, kv_19, kv_24, kv_100, kv_500, kc_0, kc_1, kc_2, kc_3, kc_4, kc_5, kc_6, kc_7, kc_8, kc_9, kc_10, kc_12, kc_13, kc_14, kc_15, kc_16, kc_19, kc_24, kc_100, kc_500] at q2
        rw [e1, e2] at q2
        rw [if_pos (by omega)] at hpl
        (conv => whnf)
        rw [e3, show cI 1 = nI 1 from rfl, hpl]
        exact hBB _ _ _ _ (Jsub H _ _ (sL_cons rfl (sL_cons rfl (sL_cons rfl (sL_cons rfl (sL_cons rfl (sL_cons rfl (sL_cons rfl (sL_cons rfl (sL_cons rfl (sL_cons rfl (sL_cons rfl (sL_cons rfl (sL_nil))))))))))))) (List.Sublist.refl _) (ih (e + 1) (by omega)))
set_option maxRecDepth 100000 in
set_option maxHeartbeats 4000000 in
theorem seg_cuts (H : JOk L xs 12 (jcl L xs 12) Bd (fun x _ => x = 1)) {r t g G mk : Nat} {v2 v3 : Int32} {f : Nat → Int32} {path : List Nat} (hr : r < rk0.length) (h4 : rk0.length ≤ 4) (h12 : (rk0.getD r []).length ≤ 12) (ht : t ≤ 13) (ht1 : 1 ≤ t) (hm : 1 ≤ mk ∧ mk ≤ 7) (hok : ∀ q ∈ rk0.getD r [], okL q) (hP : OutP E (rk0.getD r []) mk t path) (hf : ∀ j, j < t → f j = nI (path.getD j 0)) (hp : ∀ p ∈ path, p < 12) {sz : Nat}
    (next : ∀ (M : Mem) (s : St), RX G M s → Away E rk0 de0 s → Bd 1142 ((16, .int (nI mk)) :: (17, .int (nI t)) :: lvW v2 v3 r sz) [] (M, [(3970, true, t, f)], g)) :
    ∀ (m k : Nat) (M : Mem) (s : St), k + m = t → RX (3 * m + G) M s → Cutd E rk0 de0 r path k s → Bd 1008 (lvC v2 v3 r sz mk t k) [] (M, [(3970, true, t, f)], g) := by
  have et := nI_v (n := t) (by omega)
  have emk := nI_v (n := mk) (by omega)
  intro m
  induction m with
  | zero =>
    intro k M s hk hR hCd
    have ek := nI_v (n := k) (by omega)
    refine H.1 400 _ _ _ _ (fun B vc sc Z hBB hV hS hZ => ?_)
    (conv => whnf); refine ⟨fun q => ?_, fun q => ?_⟩
    · exact hBB _ _ _ _ (Jsub H _ _ (sL_cons rfl (sL_cons rfl (sL_cons rfl (sL_cons rfl (sL_cons rfl (sL_cons rfl (sL_cons rfl (sL_cons rfl (sL_nil))))))))) (List.Sublist.refl _) (next M s (RX_le hR (by omega)) hCd.1))
    · simp only [c_lt, c_gt, c_le, c_ge, c_eq, c_ne, b2_z, b2_nz, b2_i, Classical.not_not, t0, t1, Nat.reduceMod, Nat.reduceDiv, Int.reduceAdd, Int.reduceNeg, Nat.reduceAdd, kv_m1, kv_0, kv_1, kv_2, kv_3, kv_4, kv_5, kv_6, kv_7, kv_8, kv_9, kv_10, kv_12, kv_13, kv_14, kv_15, kv_16, kv_19, kv_24, kv_100, kv_500, kc_0, kc_1, kc_2, kc_3, kc_4, kc_5, kc_6, kc_7, kc_8, kc_9, kc_10, kc_12, kc_13, kc_14, kc_15, kc_16, kc_19, kc_24, kc_100, kc_500] at q
      rw [ek, et] at q
      omega
  | succ m ih =>
    intro k M s hk hR hCd
    obtain ⟨hl, hc, hP3⟩ := id hP
    have ek := nI_v (n := k) (by omega)
    obtain ⟨c, hkc⟩ : ∃ c, path[k]? = some c := ⟨_, List.getElem?_eq_getElem (by omega)⟩
    have hfk : f k = nI c := by rw [hf k (by omega), List.getD_eq_getElem?_getD, hkc]; rfl
    obtain ⟨s1, s2, s3, s4, s5⟩ := cutd_s h12 hr h4 hCd hP hkc hok
    have hmk := (hP3 k c hkc).1
    have emc := nI_v (n := mkA (rk0.getD r []) c) (by omega)
    have hpos : 0 < 2 ^ (rk0.getD r []).length := Nat.two_pow_pos _
    have hc12 := hp c (List.mem_of_getElem? hkc)
    have hpc0 : pcn (lft (2 ^ (rk0.getD r []).length - 1) (path.take 0)) c = c := by
      rw [List.take_zero]
      show pcn (2 ^ (rk0.getD r []).length - 1) c = c
      have hb := okC_get hc hkc
      obtain ⟨f1, -⟩ := lft_pcn h12 (path.take k) (2 ^ (rk0.getD r []).length - 1) (by omega) (okC_take hc)
      exact pcn_all c (by have := testBit_lt f1 hb; omega)
    have hpl := pcn_le (lft (2 ^ (rk0.getD r []).length - 1) (path.take k)) c
    have epl := nI_v (n := pcn (lft (2 ^ (rk0.getD r []).length - 1) (path.take k)) c) (by omega)
    have e16 : cI 16 * nI r + nI (pcn (lft (2 ^ (rk0.getD r []).length - 1) (path.take k)) c) = nI (16 * r + pcn (lft (2 ^ (rk0.getD r []).length - 1) (path.take k)) c) := by rw [cn_16, nI_mul, nI_add]
    have et1 : nI t - cI 1 = nI (t - 1) := nI_sub ht1
    have et2 := nI_v (n := t - 1) (by omega)
    refine H.1 400 _ _ _ _ (fun B vc sc Z hBB hV hS hZ => ?_)
    (conv => whnf); refine ⟨fun q => ?_, fun q => ?_⟩
    · simp only [c_lt, c_gt, c_le, c_ge, c_eq, c_ne, b2_z, b2_nz, b2_i, Classical.not_not, t0, t1, Nat.reduceMod, Nat.reduceDiv, Int.reduceAdd, Int.reduceNeg, Nat.reduceAdd, kv_m1, kv_0, kv_1, kv_2, kv_3, kv_4, kv_5, kv_6, kv_7, kv_8, kv_9, kv_10, kv_12, kv_13, kv_14, kv_15, kv_16, kv_19, kv_24, kv_100, kv_500, kc_0, kc_1, kc_2, kc_3, kc_4, kc_5, kc_6, kc_7, kc_8, kc_9, kc_10, kc_12, kc_13, kc_14, kc_15, kc_16, kc_19, kc_24, kc_100, kc_500] at q
      rw [ek, et] at q
      omega
    · (conv => whnf)
      refine ⟨true, t, f, rfl, nI_vp (by omega) (by omega), ?_⟩
      rw [nI_c (by omega), hfk]
      conv => whnf
      have hat := seg_at2 H (r := r) (t := t) (g := g) (k := k) (c := c) (mk := mk) (v2 := v2) (v3 := v3) (f := f) (path := path) (M := M) h12 ht hc hl hf hp hkc (sz := sz) ?_ k 0 (by omega)
      · rw [hpc0] at hat
        exact hBB _ _ _ _ (Jsub H _ _ (sL_cons rfl (sL_cons rfl (sL_cons rfl (sL_cons rfl (sL_cons rfl (sL_cons rfl (sL_cons rfl (sL_cons rfl (sL_cons rfl (sL_cons rfl (sL_cons rfl (sL_cons rfl (sL_nil))))))))))))) (List.Sublist.refl _) hat)
      · have fin : ∀ (M' : Mem), RX (3 * m + 2 + G) M' s → Bd 1108 ((20, .int (nI (pcn (lft (2 ^ (rk0.getD r []).length - 1) (path.take k)) c))) :: lvC v2 v3 r sz mk t k) [] (M', [(3970, true, t, f)], g) := by
          intro M' hR
          refine H.1 400 _ _ _ _ (fun B vc sc Z hBB hV hS hZ => ?_)
          (conv => whnf)
          rw [e16]
          refine hV _ _ _ _ _ (v_cut (g := 3 * m + 1 + G) (RX_le hR (by omega))) (fun v M' e => ?_)
          obtain ⟨rfl, hR⟩ := e
          (conv => whnf); refine ⟨fun q2 => ?_, fun q2 => ?_⟩
          · simp only [c_lt, c_gt, c_le, c_ge, c_eq, c_ne, b2_z, b2_nz, b2_i, Classical.not_not, t0, t1, Nat.reduceMod, Nat.reduceDiv, Int.reduceAdd, Int.reduceNeg, Nat.reduceAdd, kv_m1, kv_0, kv_1, kv_2, kv_3, kv_4, kv_5, kv_6, kv_7, kv_8, kv_9, kv_10, kv_12, kv_13, kv_14, kv_15, kv_16, kv_19, kv_24, kv_100, kv_500, kc_0, kc_1, kc_2, kc_3, kc_4, kc_5, kc_6, kc_7, kc_8, kc_9, kc_10, kc_12, kc_13, kc_14, kc_15, kc_16, kc_19, kc_24, kc_100, kc_500] at q2
            omega
          · (conv => whnf); refine hV _ _ _ _ _ (v_lean (g := 3 * m + G) (RX_le hR (by omega))) (fun r M' e => ?_); obtain ⟨rfl, hR⟩ := e
            rw [s4]
            have e3 : nI k + cI 1 = nI (k + 1) := nI_add k 1
            (conv => whnf); refine ⟨fun q3 => ?_, fun q3 => ?_⟩
            · (conv => whnf)
              rw [e3]
              exact hBB _ _ _ _ (Jsub H _ _ (sL_cons rfl (sL_cons rfl (sL_cons rfl (sL_cons rfl (sL_cons rfl (sL_cons rfl (sL_cons rfl (sL_cons rfl (sL_cons rfl (sL_cons rfl (sL_nil))))))))))) (List.Sublist.refl _) (ih (k + 1) _ _ (by omega) (RX_le hR (by omega)) s5))
            · exact absurd rfl q3
        refine H.1 400 _ _ _ _ (fun B vc sc Z hBB hV hS hZ => ?_)
        (conv => whnf); refine ⟨fun q2 => ?_, fun q2 => ?_⟩
        · simp only [c_lt, c_gt, c_le, c_ge, c_eq, c_ne, b2_z, b2_nz, b2_i, Classical.not_not, t0, t1, Nat.reduceMod, Nat.reduceDiv, Int.reduceAdd, Int.reduceNeg, Nat.reduceAdd, kv_m1, kv_0, kv_1, kv_2, kv_3, kv_4, kv_5, kv_6, kv_7, kv_8, kv_9, kv_10, kv_12, kv_13, kv_14, kv_15, kv_16, kv_19, kv_24, kv_100, kv_500, kc_0, kc_1, kc_2, kc_3, kc_4, kc_5, kc_6, kc_7, kc_8, kc_9, kc_10, kc_12, kc_13, kc_14, kc_15, kc_16, kc_19, kc_24, kc_100, kc_500] at q2
          rw [epl] at q2
          omega
        · (conv => whnf)
          rw [e16]
          refine hV _ _ _ _ _ (v_of (g := 3 * m + 2 + G) (RX_le hR (by omega))) (fun v M' e => ?_)
          obtain ⟨rfl, hR⟩ := e
          rw [s1]
          (conv => whnf); refine ⟨fun q3 => ?_, fun q3 => ?_⟩
          · simp only [c_lt, c_gt, c_le, c_ge, c_eq, c_ne, b2_z, b2_nz, b2_i, Classical.not_not, t0, t1, Nat.reduceMod, Nat.reduceDiv, Int.reduceAdd, Int.reduceNeg, Nat.reduceAdd, kv_m1, kv_0, kv_1, kv_2, kv_3, kv_4, kv_5, kv_6, kv_7, kv_8, kv_9, kv_10, kv_12, kv_13, kv_14, kv_15, kv_16, kv_19, kv_24, kv_100, kv_500, kc_0, kc_1, kc_2, kc_3, kc_4, kc_5, kc_6, kc_7, kc_8, kc_9, kc_10, kc_12, kc_13, kc_14, kc_15, kc_16, kc_19, kc_24, kc_100, kc_500] at q3
            rw [emc, emk] at q3
            have hne : ¬ mkA (rk0.getD r []) c = mk := fun z => q3 (by omega)
            (conv => whnf)
            rw [et1]
            (conv => whnf); refine ⟨fun q4 => ?_, fun q4 => ?_⟩
            · (conv => whnf); refine ⟨fun q5 => ?_, fun q5 => ?_⟩
              · exact hBB _ _ _ _ (fin _ hR)
              · exact absurd rfl q5
            · simp only [c_lt, c_gt, c_le, c_ge, c_eq, c_ne, b2_z, b2_nz, b2_i, Classical.not_not, t0, t1, Nat.reduceMod, Nat.reduceDiv, Int.reduceAdd, Int.reduceNeg, Nat.reduceAdd, kv_m1, kv_0, kv_1, kv_2, kv_3, kv_4, kv_5, kv_6, kv_7, kv_8, kv_9, kv_10, kv_12, kv_13, kv_14, kv_15, kv_16, kv_19, kv_24, kv_100, kv_500, kc_0, kc_1, kc_2, kc_3, kc_4, kc_5, kc_6, kc_7, kc_8, kc_9, kc_10, kc_12, kc_13, kc_14, kc_15, kc_16, kc_19, kc_24, kc_100, kc_500] at q4
              rw [ek, et2] at q4
              exact absurd (hmk.mpr (by omega)) hne
          · simp only [c_lt, c_gt, c_le, c_ge, c_eq, c_ne, b2_z, b2_nz, b2_i, Classical.not_not, t0, t1, Nat.reduceMod, Nat.reduceDiv, Int.reduceAdd, Int.reduceNeg, Nat.reduceAdd, kv_m1, kv_0, kv_1, kv_2, kv_3, kv_4, kv_5, kv_6, kv_7, kv_8, kv_9, kv_10, kv_12, kv_13, kv_14, kv_15, kv_16, kv_19, kv_24, kv_100, kv_500, kc_0, kc_1, kc_2, kc_3, kc_4, kc_5, kc_6, kc_7, kc_8, kc_9, kc_10, kc_12, kc_13, kc_14, kc_15, kc_16, kc_19, kc_24, kc_100, kc_500] at q3
            rw [emc, emk] at q3
            have heq : mkA (rk0.getD r []) c = mk := by omega
            (conv => whnf)
            rw [et1]
            (conv => whnf); refine ⟨fun q4 => ?_, fun q4 => ?_⟩
            · simp only [c_lt, c_gt, c_le, c_ge, c_eq, c_ne, b2_z, b2_nz, b2_i, Classical.not_not, t0, t1, Nat.reduceMod, Nat.reduceDiv, Int.reduceAdd, Int.reduceNeg, Nat.reduceAdd, kv_m1, kv_0, kv_1, kv_2, kv_3, kv_4, kv_5, kv_6, kv_7, kv_8, kv_9, kv_10, kv_12, kv_13, kv_14, kv_15, kv_16, kv_19, kv_24, kv_100, kv_500, kc_0, kc_1, kc_2, kc_3, kc_4, kc_5, kc_6, kc_7, kc_8, kc_9, kc_10, kc_12, kc_13, kc_14, kc_15, kc_16, kc_19, kc_24, kc_100, kc_500] at q4
              rw [ek, et2] at q4
              have := hmk.mp heq
              omega
            · (conv => whnf); refine ⟨fun q5 => ?_, fun q5 => ?_⟩
              · exact hBB _ _ _ _ (fin _ hR)
              · exact absurd rfl q5
end LAW
