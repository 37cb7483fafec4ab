/-! the law's part on worth: what is sold is paid; more sold pays no less -/
section LAW
variable {L : Nat} {xs : Nat → Int32} {Bd : Nat → Lv → List Value → JSt → Prop} {E : EnvK} {rk0 : Rk} {de0 : Nat → Int32}
set_option maxRecDepth 100000 in
set_option maxHeartbeats 4000000 in
theorem seg_paid (H : JOk L xs 12 (jcl L xs 12) Bd (fun x _ => x = 1)) {r t g G : Nat} {v2 v3 : Int32} {f : Nat → Int32} {path : List Nat} {w : Int32} (hr : r < rk0.length) (h4 : rk0.length ≤ 4) (h12 : (rk0.getD r []).length ≤ 12) (ht : t ≤ 4) (hc : okC (2 ^ (rk0.getD r []).length - 1) path) (hl : path.length = t) (hf : ∀ j, j < t → f j = nI (path.getD j 0)) (hp : ∀ p ∈ path, p < 12) {sz : Nat}
    (next : ∀ (M : Mem) (s : St), RX G M s → Away E rk0 de0 s → Bd 1425 ((20, .int (pay E (rk0.getD r []) (2 ^ (rk0.getD r []).length - 1) path (cI 0))) :: (16, .int w) :: (17, .int (nI t)) :: (18, .int w) :: lvW v2 v3 r sz) [] (M, [(4295, true, t, f)], g)) :
    ∀ (m k : Nat) (M : Mem) (s : St), k + m = t → RX (2 * m + G) M s → Sold E rk0 de0 r path k s → Bd 1336 (lvP v2 v3 r sz t w (pay E (rk0.getD r []) (2 ^ (rk0.getD r []).length - 1) (path.take k) (cI 0)) k) [] (M, [(4295, true, t, f)], g) := by
  have et := nI_v (n := t) (by omega)
  intro m
  induction m with
  | zero =>
    intro k M s hk hR hSd
    have ek := nI_v (n := k) (by omega)
    refine H.1 400 _ _ _ _ (fun B vc sc Z hBB hV hS hZ => ?_)
    (conv => whnf); refine ⟨fun q => ?_, fun q => ?_⟩
    · have hn := next M s (RX_le hR (by omega)) hSd.1
      rw [List.take_of_length_le (by omega)]
      exact hBB _ _ _ _ (Jsub H _ _ (sL_cons rfl (sL_cons rfl (sL_cons rfl (sL_cons rfl (sL_cons rfl (sL_cons rfl (sL_cons rfl (sL_cons rfl (sL_cons rfl (sL_cons rfl (sL_nil))))))))))) (List.Sublist.refl _) hn)
    · simp only [c_lt, c_gt, c_le, c_ge, c_eq, c_ne, b2_z, b2_nz, b2_i, Classical.not_not, t0, t1, Nat.reduceMod, Nat.reduceDiv, Int.reduceAdd, Int.reduceNeg, Nat.reduceAdd, kv_m1, kv_0, kv_1, kv_2, kv_3, kv_4, kv_5, kv_6, kv_7, kv_8, kv_9, kv_10, kv_12, kv_13, kv_14, kv_15, kv_16, kv_19, kv_24, kv_100, kv_500, kc_0, kc_1, kc_2, kc_3, kc_4, kc_5, kc_6, kc_7, kc_8, kc_9, kc_10, kc_12, kc_13, kc_14, kc_15, kc_16, kc_19, kc_24, kc_100, kc_500] at q
      rw [ek, et] at q
      omega
  | succ m ih =>
    intro k M s hk hR hSd
    have ek := nI_v (n := k) (by omega)
    obtain ⟨c, hkc⟩ : ∃ c, path[k]? = some c := ⟨_, List.getElem?_eq_getElem (by omega)⟩
    have hfk : f k = nI c := by rw [hf k (by omega), List.getD_eq_getElem?_getD, hkc]; rfl
    obtain ⟨s1, s2, s3⟩ := sold_s h12 hr h4 hSd hc hkc (by omega)
    have hpos : 0 < 2 ^ (rk0.getD r []).length := Nat.two_pow_pos _
    have hc12 := hp c (List.mem_of_getElem? hkc)
    have hpc0 : pcn (lft (2 ^ (rk0.getD r []).length - 1) (path.take 0)) c = c := by
      rw [List.take_zero]
      show pcn (2 ^ (rk0.getD r []).length - 1) c = c
      have hb := okC_get hc hkc
      obtain ⟨f1, -⟩ := lft_pcn h12 (path.take k) (2 ^ (rk0.getD r []).length - 1) (by omega) (okC_take hc)
      exact pcn_all c (by have := testBit_lt f1 hb; omega)
    refine H.1 400 _ _ _ _ (fun B vc sc Z hBB hV hS hZ => ?_)
    (conv => whnf); refine ⟨fun q => ?_, fun q => ?_⟩
    · simp only [c_lt, c_gt, c_le, c_ge, c_eq, c_ne, b2_z, b2_nz, b2_i, Classical.not_not, t0, t1, Nat.reduceMod, Nat.reduceDiv, Int.reduceAdd, Int.reduceNeg, Nat.reduceAdd, kv_m1, kv_0, kv_1, kv_2, kv_3, kv_4, kv_5, kv_6, kv_7, kv_8, kv_9, kv_10, kv_12, kv_13, kv_14, kv_15, kv_16, kv_19, kv_24, kv_100, kv_500, kc_0, kc_1, kc_2, kc_3, kc_4, kc_5, kc_6, kc_7, kc_8, kc_9, kc_10, kc_12, kc_13, kc_14, kc_15, kc_16, kc_19, kc_24, kc_100, kc_500] at q
      rw [ek, et] at q
      omega
    · (conv => whnf)
      refine ⟨true, t, f, rfl, nI_vp (by omega) (by omega), ?_⟩
      rw [nI_c (by omega), hfk]
      conv => whnf
      have hat := seg_at H (r := r) (t := t) (g := g) (k := k) (c := c) (v2 := v2) (v3 := v3) (f := f) (path := path) (M := M) (w := w) (paid := pay E (rk0.getD r []) (2 ^ (rk0.getD r []).length - 1) (path.take k) (cI 0)) h12 ht hc hl hf hp hkc (sz := sz) ?_ k 0 (by omega)
      · rw [hpc0] at hat
        exact hBB _ _ _ _ (Jsub H _ _ (sL_cons rfl (sL_cons rfl (sL_cons rfl (sL_cons rfl (sL_cons rfl (sL_cons rfl (sL_cons rfl (sL_cons rfl (sL_cons rfl (sL_cons rfl (sL_cons rfl (sL_cons rfl (sL_cons rfl (sL_cons rfl (sL_nil))))))))))))))) (List.Sublist.refl _) hat)
      · refine H.1 400 _ _ _ _ (fun B vc sc Z hBB hV hS hZ => ?_)
        (conv => whnf)
        rw [cn_16, nI_mul, nI_add]
        refine hV _ _ _ _ _ (v_cut (g := 2 * m + 1 + G) (RX_le hR (by omega))) (fun v M' e => ?_)
        obtain ⟨rfl, hR⟩ := e
        rw [s1]
        (conv => whnf); refine hV _ _ _ _ _ (v_day (g := 2 * m + G) (RX_le hR (by omega))) (fun r M' e => ?_); obtain ⟨rfl, hR⟩ := e
        have e3 : nI k + cI 1 = nI (k + 1) := nI_add k 1
        have e4 : dyN k = k + 1 := by unfold dyN; rw [if_pos (by omega)]
        rw [s2, e4]
        (conv => whnf)
        rw [e3]
        refine ⟨fun q2 => ?_, fun q2 => absurd rfl q2⟩
        (conv => whnf)
        rw [e3, ← pay_snoc hkc]
        exact hBB _ _ _ _ (Jsub H _ _ (sL_cons rfl (sL_cons rfl (sL_cons rfl (sL_cons rfl (sL_cons rfl (sL_cons rfl (sL_cons rfl (sL_cons rfl (sL_cons rfl (sL_cons rfl (sL_cons rfl (sL_cons rfl (sL_nil))))))))))))) (List.Sublist.refl _) (ih (k + 1) _ _ (by omega) (RX_le hR (by omega)) s3))
set_option maxRecDepth 100000 in
set_option maxHeartbeats 4000000 in
theorem seg_sold (H : JOk L xs 12 (jcl L xs 12) Bd (fun x _ => x = 1)) {r t g G : Nat} {v2 v3 : Int32} {w : Int32} (hr : r < rk0.length) (h4 : rk0.length ≤ 4) (ht : t ≤ 4) (hth : t ≤ hgt rk0 r) {sz : Nat}
    (next : ∀ (M : Mem) (s : St) (f : Nat → Int32), RX G M s → Base E rk0 de0 s → (∀ j, j < t → f j = nI ((sres E (rk0.getD r []) t).2.getD j 0)) → Bd 1330 ((19, .ref 4295) :: (16, .int w) :: (17, .int (nI t)) :: (18, .int w) :: lvW v2 v3 r sz) [] (M, [(4295, true, t, f)], g)) :
    ∀ (m k : Nat) (M : Mem) (s : St) (f : Nat → Int32), k + m = t → RX (m + G) M s → Base E rk0 de0 s → (∀ j, j < k → f j = nI ((sres E (rk0.getD r []) t).2.getD j 0)) → Bd 1302 ((20, .int (nI k)) :: (19, .ref 4295) :: (16, .int w) :: (17, .int (nI t)) :: (18, .int w) :: lvW v2 v3 r sz) [] (M, [(4295, true, t, f)], g) := by
  have et := nI_v (n := t) (by omega)
  intro m
  induction m with
  | zero =>
    intro k M s f hk hR hB hf
    have ek := nI_v (n := k) (by omega)
    obtain rfl : k = t := by omega
    refine H.1 400 _ _ _ _ (fun B vc sc Z hBB hV hS hZ => ?_)
    (conv => whnf); refine ⟨fun q => ?_, fun q => ?_⟩
    · exact hBB _ _ _ _ (Jsub H _ _ (sL_cons rfl (sL_cons rfl (sL_cons rfl (sL_cons rfl (sL_cons rfl (sL_cons rfl (sL_cons rfl (sL_cons rfl (sL_cons rfl (sL_cons rfl (sL_nil))))))))))) (List.Sublist.refl _) (next M s f (RX_le hR (by omega)) hB hf))
    · simp only [c_lt, c_gt, c_le, c_ge, c_eq, c_ne, b2_z, b2_nz, b2_i, Classical.not_not, t0, t1, Nat.reduceMod, Nat.reduceDiv, Int.reduceAdd, Int.reduceNeg, Nat.reduceAdd, kv_m1, kv_0, kv_1, kv_2, kv_3, kv_4, kv_5, kv_6, kv_7, kv_8, kv_9, kv_10, kv_12, kv_13, kv_14, kv_15, kv_16, kv_19, kv_24, kv_100, kv_500, kc_0, kc_1, kc_2, kc_3, kc_4, kc_5, kc_6, kc_7, kc_8, kc_9, kc_10, kc_12, kc_13, kc_14, kc_15, kc_16, kc_19, kc_24, kc_100, kc_500] at q
      rw [ek] at q
      omega
  | succ m ih =>
    intro k M s f hk hR hB hf
    have ek := nI_v (n := k) (by omega)
    obtain ⟨b1, b2, b3, b4⟩ := id hB
    have hw := worth_k (s := s) (r := r) (t := t) (k := k) (by rw [b1]; exact hr) (by rw [b1]; exact h4) ht (by rw [b1]; exact hth) (by omega)
    rw [b1, b2] at hw
    have e3 : nI k + cI 1 = nI (k + 1) := nI_add k 1
    refine H.1 400 _ _ _ _ (fun B vc sc Z hBB hV hS hZ => ?_)
    (conv => whnf); refine ⟨fun q => ?_, fun q => ?_⟩
    · simp only [c_lt, c_gt, c_le, c_ge, c_eq, c_ne, b2_z, b2_nz, b2_i, Classical.not_not, t0, t1, Nat.reduceMod, Nat.reduceDiv, Int.reduceAdd, Int.reduceNeg, Nat.reduceAdd, kv_m1, kv_0, kv_1, kv_2, kv_3, kv_4, kv_5, kv_6, kv_7, kv_8, kv_9, kv_10, kv_12, kv_13, kv_14, kv_15, kv_16, kv_19, kv_24, kv_100, kv_500, kc_0, kc_1, kc_2, kc_3, kc_4, kc_5, kc_6, kc_7, kc_8, kc_9, kc_10, kc_12, kc_13, kc_14, kc_15, kc_16, kc_19, kc_24, kc_100, kc_500] at q
      rw [ek, et] at q
      omega
    · (conv => whnf); refine hV _ _ _ _ _ (v_worth (g := m + G) (RX_le hR (by omega))) (fun r M' e => ?_); obtain ⟨rfl, hR⟩ := e
      rw [hw]
      (conv => whnf)
      refine ⟨t, f, rfl, nI_vp (by omega) (by omega), ?_⟩
      (conv => whnf)
      rw [e3, nI_c (by omega)]
      refine hBB _ _ _ _ (Jsub H _ _ (sL_cons rfl (sL_cons rfl (sL_cons rfl (sL_cons rfl (sL_cons rfl (sL_cons rfl (sL_cons rfl (sL_cons rfl (sL_cons rfl (sL_cons rfl (sL_cons rfl (sL_nil)))))))))))) (List.Sublist.refl _) (ih (k + 1) _ _ (upd f k (nI ((sres E (rk0.getD r []) t).2.getD k 0))) (by omega) (RX_le hR (by omega)) hB (fun j hj => ?_)))
      unfold upd
      by_cases e : j = k
      · subst e; rw [if_pos rfl]
      · rw [if_neg e]; exact hf j (by omega)
set_option maxRecDepth 100000 in
set_option maxHeartbeats 4000000 in
theorem seg_worth (H : JOk L xs 12 (jcl L xs 12) Bd (fun x _ => x = 1)) {r G g : Nat} {v2 v3 : Int32} (hr : r < rk0.length) (h4 : rk0.length ≤ 4) (h12 : hgt rk0 r ≤ 12) (hok : ∀ q ∈ rk0.getD r [], okL q)
    (next : ∀ (M : Mem) (s : St) (T : Tm) (g' : Nat), RX G M s → Base E rk0 de0 s → g ≤ g' → Bd 1447 (lvW v2 v3 r (hgt rk0 r)) [] (M, T, g')) :
    ∀ (m t : Nat) (M : Mem) (s : St) (T : Tm) (bef : Int32), t + m = 4 → RX (14 * m + G) M s → Base E rk0 de0 s → (t ≤ hgt rk0 r → bef.toInt ≤ (sres E (rk0.getD r []) t).1.toInt) → Bd 1256 ((16, .int bef) :: (17, .int (nI t)) :: lvW v2 v3 r (hgt rk0 r)) [] (M, T, g + m) := by
  have esz := nI_v (n := hgt rk0 r) (by omega)
  intro m
  induction m with
  | zero =>
    intro t M s T bef ht hR hB hbef
    obtain rfl : t = 4 := by omega
    refine H.1 400 _ _ _ _ (fun B vc sc Z hBB hV hS hZ => ?_)
    (conv => whnf); refine ⟨fun q => ?_, fun q => ?_⟩
    · exact hBB _ _ _ _ (Jsub H _ _ (sL_cons rfl (sL_cons rfl (sL_cons rfl (sL_cons rfl (sL_cons rfl (sL_cons rfl (sL_nil))))))) (List.Sublist.refl _) (next M s T _ (RX_le hR (by omega)) hB (Nat.le_refl _)))
    · exact absurd q (by rw [c_ge]; simp only [kv_4]; show ¬ ¬ (4 : Int) ≤ 4; omega)
  | succ m ih =>
    intro t M s T bef ht hR hB hbef
    have et := nI_v (n := t) (by omega)
    obtain ⟨b1, b2, b3, b4⟩ := id hB
    refine Jsub H _ [] (fun i v h => h) (List.nil_sublist _) ?_
    refine H.1 400 _ _ _ _ (fun B vc sc Z hBB hV hS hZ => ?_)
    (conv => whnf); refine ⟨fun q => ?_, fun q => ?_⟩
    · simp only [c_lt, c_gt, c_le, c_ge, c_eq, c_ne, b2_z, b2_nz, b2_i, Classical.not_not, t0, t1, Nat.reduceMod, Nat.reduceDiv, Int.reduceAdd, Int.reduceNeg, Nat.reduceAdd, kv_m1, kv_0, kv_1, kv_2, kv_3, kv_4, kv_5, kv_6, kv_7, kv_8, kv_9, kv_10, kv_12, kv_13, kv_14, kv_15, kv_16, kv_19, kv_24, kv_100, kv_500, kc_0, kc_1, kc_2, kc_3, kc_4, kc_5, kc_6, kc_7, kc_8, kc_9, kc_10, kc_12, kc_13, kc_14, kc_15, kc_16, kc_19, kc_24, kc_100, kc_500] at q
      rw [et] at q
      omega
    · (conv => whnf); refine ⟨fun q2 => ?_, fun q2 => ?_⟩
      · exact hBB _ _ _ _ (Jsub H _ _ (sL_cons rfl (sL_cons rfl (sL_cons rfl (sL_cons rfl (sL_cons rfl (sL_cons rfl (sL_nil))))))) (List.Sublist.refl _) (next M s [] _ (RX_le hR (by omega)) hB (by omega)))
      · simp only [c_lt, c_gt, c_le, c_ge, c_eq, c_ne, b2_z, b2_nz, b2_i, Classical.not_not, t0, t1, Nat.reduceMod, Nat.reduceDiv, Int.reduceAdd, Int.reduceNeg, Nat.reduceAdd, kv_m1, kv_0, kv_1, kv_2, kv_3, kv_4, kv_5, kv_6, kv_7, kv_8, kv_9, kv_10, kv_12, kv_13, kv_14, kv_15, kv_16, kv_19, kv_24, kv_100, kv_500, kc_0, kc_1, kc_2, kc_3, kc_4, kc_5, kc_6, kc_7, kc_8, kc_9, kc_10, kc_12, kc_13, kc_14, kc_15, kc_16, kc_19, kc_24, kc_100, kc_500] at q2
        rw [et, esz] at q2
        have hth : t ≤ hgt rk0 r := by omega
        have hl12 : (rk0.getD r []).length ≤ 12 := h12
        have hw := worth_v (s := s) (r := r) (t := t) (by rw [b1]; exact hr) (by rw [b1]; exact h4) (by omega) (by rw [b1]; exact hth) (Or.inr trivial)
        rw [b1, b2] at hw
        obtain ⟨w1, w2, w3, w4⟩ := sres_ok (E := E) (ls := rk0.getD r []) hl12 hth
        have hpos : 0 < 2 ^ (rk0.getD r []).length := Nat.two_pow_pos _
        have hp : ∀ p ∈ (sres E (rk0.getD r []) t).2, p < 12 := by
          intro p hp
          obtain ⟨j, hj⟩ := List.getElem?_of_mem hp
          have hb := okC_get w2 hj
          obtain ⟨f1, -⟩ := lft_pcn hl12 ((sres E (rk0.getD r []) t).2.take j) (2 ^ (rk0.getD r []).length - 1) (by omega) (okC_take w2)
          have := testBit_lt f1 hb
          omega
        (conv => whnf); refine hV _ _ _ _ _ (v_worth (g := 14 * m + 13 + G) (RX_le hR (by omega))) (fun r M' e => ?_); obtain ⟨rfl, hR⟩ := e
        rw [hw]
        (conv => whnf); refine ⟨fun q3 => ?_, fun q3 => ?_⟩
        · (conv => whnf)
          refine ⟨⟨by rw [Int32.lt_iff_toInt_lt, et]; show ¬ (t : Int) < (0 : Int32).toInt; rw [show (0 : Int32).toInt = 0 from rfl]; omega, by rw [nI_c (by omega)]; omega⟩, ?_⟩
          (conv => whnf)
          have hfill := seg_sold H (de0 := de0) (E := E) (rk0 := rk0) (r := r) (t := t) (g := g + m) (G := 2 * t + 1 + 14 * m + G) (v2 := v2) (v3 := v3) (w := (sres E (rk0.getD r []) t).1) hr h4 (by omega) hth (sz := hgt rk0 r) ?_ t 0 M' s (fun _ => 0) (by omega) (RX_le hR (by omega)) hB (fun j hj => absurd hj (Nat.not_lt_zero _))
          · rw [nI_c (by omega)]
            exact hBB _ _ _ _ (Jsub H _ _ (sL_cons rfl (sL_cons rfl (sL_cons rfl (sL_cons rfl (sL_cons rfl (sL_cons rfl (sL_cons rfl (sL_cons rfl (sL_cons rfl (sL_cons rfl (sL_cons rfl (sL_nil)))))))))))) (List.Sublist.refl _) hfill)
          · intro M s f hR hB hf
            refine H.1 400 _ _ _ _ (fun B vc sc Z hBB hV hS hZ => ?_)
            conv => whnf
            have hpaid := seg_paid H (E := E) (de0 := de0) (rk0 := rk0) (r := r) (t := t) (g := g + m) (G := 1 + 14 * m + G) (v2 := v2) (v3 := v3) (f := f) (path := (sres E (rk0.getD r []) t).2) (w := (sres E (rk0.getD r []) t).1) hr h4 hl12 (by omega) w2 w1 hf hp (sz := hgt rk0 r) ?_ t 0 M s (by omega) (RX_le hR (by omega)) (sold_0 hB hok)
            · exact hBB _ _ _ _ (Jsub H _ _ (sL_cons rfl (sL_cons rfl (sL_cons rfl (sL_cons rfl (sL_cons rfl (sL_cons rfl (sL_cons rfl (sL_cons rfl (sL_cons rfl (sL_cons rfl (sL_cons rfl (sL_cons rfl (sL_nil))))))))))))) (List.Sublist.refl _) hpaid)
            · intro M s hR hA
              rw [← w3]
              refine H.1 400 _ _ _ _ (fun B vc sc Z hBB hV hS hZ => ?_)
              (conv => whnf); refine ⟨fun q4 => ?_, fun q4 => ?_⟩
              · exact absurd rfl q4
              · (conv => whnf); refine hV _ _ _ _ _ (v_back (g := 14 * m + G) (RX_le hR (by omega))) (fun r M' e => ?_); obtain ⟨rfl, hR⟩ := e
                obtain ⟨f1, f2, -, -⟩ := back_at hA
                rw [f1]
                (conv => whnf); refine ⟨fun q5 => ?_, fun q5 => ?_⟩
                · have e3 : nI t + cI 1 = nI (t + 1) := nI_add t 1
                  (conv => whnf)
                  rw [e3]
                  refine hBB _ _ _ _ (Jsub H _ _ (sL_cons rfl (sL_cons rfl (sL_cons rfl (sL_cons rfl (sL_cons rfl (sL_cons rfl (sL_cons rfl (sL_cons rfl (sL_nil))))))))) (List.Sublist.refl _) (ih (t + 1) _ _ _ (sres E (rk0.getD r []) t).1 (by omega) (RX_le hR (by omega)) f2 (fun h => ?_)))
                  exact sres_up hl12 h
                · exact absurd rfl q5
        · simp only [c_lt, c_gt, c_le, c_ge, c_eq, c_ne, b2_z, b2_nz, b2_i, Classical.not_not, t0, t1, Nat.reduceMod, Nat.reduceDiv, Int.reduceAdd, Int.reduceNeg, Nat.reduceAdd, kv_m1, kv_0, kv_1, kv_2, kv_3, kv_4, kv_5, kv_6, kv_7, kv_8, kv_9, kv_10, kv_12, kv_13, kv_14, kv_15, kv_16, kv_19, kv_24, kv_100, kv_500, kc_0, kc_1, kc_2, kc_3, kc_4, kc_5, kc_6, kc_7, kc_8, kc_9, kc_10, kc_12, kc_13, kc_14, kc_15, kc_16, kc_19, kc_24, kc_100, kc_500] at q3
          have := hbef hth
          omega
end LAW
