/-! the law's part on order: laying in the order told -/
section LAW
variable {L : Nat} {xs : Nat → Int32} {Bd : Nat → Lv → List Value → JSt → Prop} {E : EnvK} {rk0 : Rk} {de0 : Nat → Int32}
abbrev TO (h : Nat) (f2 f : Nat → Int32) : Tm := [(3743, true, h, f2), (3623, true, h, f)]
abbrev lvH (v2 v3 : Int32) (r sz : Nat) (least : Int32) : Lv := (14, .ref 3623) :: (15, .int least) :: lvW v2 v3 r sz
set_option maxRecDepth 100000 in
set_option maxHeartbeats 4000000 in
theorem seg_ord (H : JOk L xs 12 (jcl L xs 12) Bd (fun x _ => x = 1)) {r h g G : Nat} {v2 v3 least : Int32} {ys : Nat → Nat} {f : Nat → Int32} (hr : r < rk0.length) (h4 : rk0.length ≤ 4) (hh : h ≤ 4) (hy : ∀ j, j < h → hrZ (ys j : Int)) (hroom : hgt rk0 r + h ≤ 12) (hle : (dres E (lsH rk0 r h ys) (hgt rk0 r) h).1 ≤ E.2.2.1) {sz : Nat}
    (next : ∀ (M : Mem) (s : St) (f2 : Nat → Int32), RX G M s → Base E rk0 de0 s → (∀ j, j < h → f2 j = nI ((dres E (lsH rk0 r h ys) (hgt rk0 r) h).2.getD j 0)) → Bd 778 ((16, .ref 3743) :: lvH v2 v3 r sz least) [] (M, TO h f2 f, g)) :
    ∀ (m k : Nat) (M : Mem) (s : St) (f2 : Nat → Int32), k + m = h → RX (m + G) M s → Base E rk0 de0 s → sSh s 1 = some (.inr (1, hvL h ys)) → (∀ j, j < k → f2 j = nI ((dres E (lsH rk0 r h ys) (hgt rk0 r) h).2.getD j 0)) → Bd 750 ((16, .ref 3743) :: (17, .int (nI k)) :: lvH v2 v3 r sz least) [] (M, TO h f2 f, g) := by
  have eh := nI_v (n := h) (by omega)
  intro m
  induction m with
  | zero =>
    intro k M s f2 hk hR hB hs hf
    have ek := nI_v (n := k) (by omega)
    obtain rfl : k = h := by omega
    refine H.1 400 _ _ _ _ (fun B vc sc Z hBB hV hS hZ => ?_)
    (conv => whnf)
    refine ⟨true, k, f2, rfl, ?_⟩
    (conv => whnf); refine ⟨fun q => ?_, fun q => ?_⟩
    · exact hBB _ _ _ _ (Jsub H _ _ (sL_cons rfl (sL_cons rfl (sL_cons rfl (sL_cons rfl (sL_cons rfl (sL_cons rfl (sL_cons rfl (sL_cons rfl (sL_cons rfl (sL_nil)))))))))) (List.Sublist.refl _) (next M s f2 (RX_le hR (by omega)) hB hf))
    · simp only [c_lt, c_gt, c_le, c_ge, c_eq, c_ne, b2_z, b2_nz, b2_i, Classical.not_not, t0, t1, Nat.reduceMod, Nat.reduceDiv, Int.reduceAdd, Int.reduceNeg, Nat.reduceAdd, kv_m1, kv_0, kv_1, kv_2, kv_3, kv_4, kv_5, kv_6, kv_7, kv_8, kv_9, kv_10, kv_12, kv_13, kv_14, kv_15, kv_16, kv_19, kv_24, kv_100, kv_500, kc_0, kc_1, kc_2, kc_3, kc_4, kc_5, kc_6, kc_7, kc_8, kc_9, kc_10, kc_12, kc_13, kc_14, kc_15, kc_16, kc_19, kc_24, kc_100, kc_500] at q
      rw [ek] at q
      omega
  | succ m ih =>
    intro k M s f2 hk hR hB hs hf
    have ek := nI_v (n := k) (by omega)
    obtain ⟨b1, b2, b3, b4⟩ := id hB
    have hw := order_a (s := s) (r := r) (h := h) (ys := ys) (by rw [b1]; exact hr) (by rw [b1]; exact h4) hh hs hy (nI k) (by rw [ek]; omega)
    rw [b1, b2, if_neg (by omega), if_pos hle, ek, if_neg (by omega), Int.toNat_natCast] at hw
    have e3 : nI k + cI 1 = nI (k + 1) := nI_add k 1
    refine H.1 400 _ _ _ _ (fun B vc sc Z hBB hV hS hZ => ?_)
    (conv => whnf)
    refine ⟨true, h, f2, rfl, ?_⟩
    (conv => whnf); refine ⟨fun q => ?_, fun q => ?_⟩
    · simp only [c_lt, c_gt, c_le, c_ge, c_eq, c_ne, b2_z, b2_nz, b2_i, Classical.not_not, t0, t1, Nat.reduceMod, Nat.reduceDiv, Int.reduceAdd, Int.reduceNeg, Nat.reduceAdd, kv_m1, kv_0, kv_1, kv_2, kv_3, kv_4, kv_5, kv_6, kv_7, kv_8, kv_9, kv_10, kv_12, kv_13, kv_14, kv_15, kv_16, kv_19, kv_24, kv_100, kv_500, kc_0, kc_1, kc_2, kc_3, kc_4, kc_5, kc_6, kc_7, kc_8, kc_9, kc_10, kc_12, kc_13, kc_14, kc_15, kc_16, kc_19, kc_24, kc_100, kc_500] at q
      rw [ek, eh] at q
      omega
    · (conv => whnf); refine hV _ _ _ _ _ (v_order (g := m + G) (RX_le hR (by omega))) (fun r M' e => ?_); obtain ⟨rfl, hR⟩ := e
      rw [hw]
      (conv => whnf)
      refine ⟨h, f2, rfl, nI_vp (by omega) (by omega), ?_⟩
      (conv => whnf)
      rw [e3, nI_c (by omega)]
      refine hBB _ _ _ _ (Jsub H _ _ (sL_cons rfl (sL_cons rfl (sL_cons rfl (sL_cons rfl (sL_cons rfl (sL_cons rfl (sL_cons rfl (sL_cons rfl (sL_cons rfl (sL_cons rfl (sL_nil))))))))))) (List.Sublist.refl _) (ih (k + 1) _ _ (upd f2 k (nI ((dres E (lsH rk0 r h ys) (hgt rk0 r) h).2.getD k 0))) (by omega) (RX_le hR (by omega)) hB hs (fun j hj => ?_)))
      unfold upd
      by_cases e : j = k
      · subst e; rw [if_pos rfl]
      · rw [if_neg e]; exact hf j (by omega)
abbrev lvH2 (v2 v3 : Int32) (r sz : Nat) (least most : Int32) (u k : Nat) : Lv := (16, .ref 3743) :: (17, .int (nI u)) :: (18, .int most) :: (19, .int (nI k)) :: lvH v2 v3 r sz least
set_option maxRecDepth 100000 in
set_option maxHeartbeats 4000000 in
theorem seg_laid (H : JOk L xs 12 (jcl L xs 12) Bd (fun x _ => x = 1)) {r h g G : Nat} {v2 v3 least : Int32} {ys : Nat → Nat} {f f2 : Nat → Int32} {path : List Nat} (hr : r < rk0.length) (h4 : rk0.length ≤ 4) (hh : h ≤ 4) (hy : ∀ j, j < h → hrZ (ys j : Int)) (hroom : hgt rk0 r + h ≤ 12) (hf : ∀ j, j < h → f j = nI (ys j)) (hf2 : ∀ j, j < h → f2 j = nI (path.getD j 0)) (hl : path.length = h) (hnd : path.Nodup) (hp : ∀ p ∈ path, p < h)
    (hst : (wst (gP E (lsH rk0 r h ys) (hgt rk0 r)) path h).toInt ≤ E.2.2.1.toInt)
    (next : ∀ (M : Mem) (s : St), RX G M s → Away E rk0 de0 s → Bd 913 ((18, .int (wst (gP E (lsH rk0 r h ys) (hgt rk0 r)) path h)) :: lvH v2 v3 r (hgt rk0 r) least) [] (M, TO h f2 f, g)) :
    ∀ (m k u : Nat) (M : Mem) (s : St), k + m = h → RX (4 * m + G) M s → Laid E rk0 de0 r h ys path k s → u < 4096 → (∀ i, i < h → (u.testBit i = true ↔ i ∈ path.take k)) → Bd 787 (lvH2 v2 v3 r (hgt rk0 r) least (wst (gP E (lsH rk0 r h ys) (hgt rk0 r)) path k) u k) [] (M, TO h f2 f, g) := by
  have eh := nI_v (n := h) (by omega)
  intro m
  induction m with
  | zero =>
    intro k u M s hk hR hLd hu hb
    have ek := nI_v (n := k) (by omega)
    obtain rfl : k = h := by omega
    refine H.1 400 _ _ _ _ (fun B vc sc Z hBB hV hS hZ => ?_)
    (conv => whnf)
    refine ⟨true, k, f2, rfl, ?_⟩
    (conv => whnf); refine ⟨fun q => ?_, fun q => ?_⟩
    · exact hBB _ _ _ _ (Jsub H _ _ (sL_cons rfl (sL_cons rfl (sL_cons rfl (sL_cons rfl (sL_cons rfl (sL_cons rfl (sL_cons rfl (sL_cons rfl (sL_cons rfl (sL_nil)))))))))) (List.Sublist.refl _) (next M s (RX_le hR (by omega)) hLd.1))
    · simp only [c_lt, c_gt, c_le, c_ge, c_eq, c_ne, b2_z, b2_nz, b2_i, Classical.not_not, t0, t1, Nat.reduceMod, Nat.reduceDiv, Int.reduceAdd, Int.reduceNeg, Nat.reduceAdd, kv_m1, kv_0, kv_1, kv_2, kv_3, kv_4, kv_5, kv_6, kv_7, kv_8, kv_9, kv_10, kv_12, kv_13, kv_14, kv_15, kv_16, kv_19, kv_24, kv_100, kv_500, kc_0, kc_1, kc_2, kc_3, kc_4, kc_5, kc_6, kc_7, kc_8, kc_9, kc_10, kc_12, kc_13, kc_14, kc_15, kc_16, kc_19, kc_24, kc_100, kc_500] at q
      rw [ek] at q
      omega
  | succ m ih =>
    intro k u M s hk hR hLd hu hb
    have ek := nI_v (n := k) (by omega)
    obtain ⟨p, hkp⟩ : ∃ p, path[k]? = some p := ⟨_, List.getElem?_eq_getElem (by omega)⟩
    have hp4 := hp p (List.mem_of_getElem? hkp)
    have hfk : f2 k = nI p := by rw [hf2 k (by omega), List.getD_eq_getElem?_getD, hkp]; rfl
    have hfp := hf p hp4
    have ep := nI_v (n := p) (by omega)
    have hnot : ¬ u.testBit p = true := by
      intro z
      have z := (hb p hp4).mp z
      obtain ⟨j, hj⟩ := List.getElem?_of_mem z
      have hjk : j < k := by
        have := (List.getElem?_eq_some_iff.mp hj).1
        rw [List.length_take] at this
        omega
      rw [List.getElem?_take_of_lt hjk] at hj
      obtain ⟨x1, x2⟩ := List.getElem?_eq_some_iff.mp hj
      obtain ⟨y1, y2⟩ := List.getElem?_eq_some_iff.mp hkp
      rw [List.nodup_iff_pairwise_ne, List.pairwise_iff_getElem] at hnd
      exact hnd j k x1 y1 hjk (by rw [x2, y2])
    obtain ⟨s1, s2, s3, s4, s5⟩ := laid_s hr h4 hy hLd hkp hp4 hl hroom
    have hge := wst_ge (g := gP E (lsH rk0 r h ys) (hgt rk0 r)) (pth := path) (k := k) (n := h) (by omega)
    have hle : gP E (lsH rk0 r h ys) (hgt rk0 r) (path.take (k + 1)) ≤ E.2.2.1 := by rw [Int32.le_iff_toInt_le]; omega
    rw [show b2 (gP E (lsH rk0 r h ys) (hgt rk0 r) (path.take (k + 1)) ≤ E.2.2.1) = cI 1 from if_pos hle] at s5
    have hhz := has_z hu (j := p) (by omega)
    rw [if_neg hnot] at hhz
    have hadd := add_i hu (i := p) (by omega)
    have esk : nI (hgt rk0 r) + nI k = nI (hgt rk0 r + k) := nI_add _ _
    have e3 : nI k + cI 1 = nI (k + 1) := nI_add k 1
    refine H.1 400 _ _ _ _ (fun B vc sc Z hBB hV hS hZ => ?_)
    (conv => whnf)
    refine ⟨true, h, f2, rfl, ?_⟩
    (conv => whnf); refine ⟨fun q => ?_, fun q => ?_⟩
    · simp only [c_lt, c_gt, c_le, c_ge, c_eq, c_ne, b2_z, b2_nz, b2_i, Classical.not_not, t0, t1, Nat.reduceMod, Nat.reduceDiv, Int.reduceAdd, Int.reduceNeg, Nat.reduceAdd, kv_m1, kv_0, kv_1, kv_2, kv_3, kv_4, kv_5, kv_6, kv_7, kv_8, kv_9, kv_10, kv_12, kv_13, kv_14, kv_15, kv_16, kv_19, kv_24, kv_100, kv_500, kc_0, kc_1, kc_2, kc_3, kc_4, kc_5, kc_6, kc_7, kc_8, kc_9, kc_10, kc_12, kc_13, kc_14, kc_15, kc_16, kc_19, kc_24, kc_100, kc_500] at q
      rw [ek, eh] at q
      omega
    · (conv => whnf)
      refine ⟨true, h, f2, rfl, nI_vp (by omega) (by omega), ?_⟩
      rw [nI_c (by omega), hfk]
      (conv => whnf); refine ⟨fun q2 => ?_, fun q2 => ?_⟩
      · simp only [c_lt, c_gt, c_le, c_ge, c_eq, c_ne, b2_z, b2_nz, b2_i, Classical.not_not, t0, t1, Nat.reduceMod, Nat.reduceDiv, Int.reduceAdd, Int.reduceNeg, Nat.reduceAdd, kv_m1, kv_0, kv_1, kv_2, kv_3, kv_4, kv_5, kv_6, kv_7, kv_8, kv_9, kv_10, kv_12, kv_13, kv_14, kv_15, kv_16, kv_19, kv_24, kv_100, kv_500, kc_0, kc_1, kc_2, kc_3, kc_4, kc_5, kc_6, kc_7, kc_8, kc_9, kc_10, kc_12, kc_13, kc_14, kc_15, kc_16, kc_19, kc_24, kc_100, kc_500] at q2
        rw [ep] at q2
        omega
      · (conv => whnf)
        refine ⟨true, h, f2, rfl, nI_vp (by omega) (by omega), ?_⟩
        rw [nI_c (by omega), hfk]
        (conv => whnf)
        refine ⟨true, h, f, rfl, ?_⟩
        (conv => whnf); refine ⟨fun q3 => ?_, fun q3 => ?_⟩
        · simp only [c_lt, c_gt, c_le, c_ge, c_eq, c_ne, b2_z, b2_nz, b2_i, Classical.not_not, t0, t1, Nat.reduceMod, Nat.reduceDiv, Int.reduceAdd, Int.reduceNeg, Nat.reduceAdd, kv_m1, kv_0, kv_1, kv_2, kv_3, kv_4, kv_5, kv_6, kv_7, kv_8, kv_9, kv_10, kv_12, kv_13, kv_14, kv_15, kv_16, kv_19, kv_24, kv_100, kv_500, kc_0, kc_1, kc_2, kc_3, kc_4, kc_5, kc_6, kc_7, kc_8, kc_9, kc_10, kc_12, kc_13, kc_14, kc_15, kc_16, kc_19, kc_24, kc_100, kc_500] at q3
          rw [ep, eh] at q3
          omega
        · (conv => whnf)
          refine ⟨true, h, f2, rfl, nI_vp (by omega) (by omega), ?_⟩
          rw [nI_c (by omega), hfk]
          (conv => whnf)
          rw [hhz]
          refine ⟨fun q4 => ?_, fun q4 => absurd (show ¬ nI 0 = cI 1 by decide) q4⟩
          (conv => whnf)
          refine ⟨true, h, f2, rfl, nI_vp (by omega) (by omega), ?_⟩
          rw [nI_c (by omega), hfk]
          (conv => whnf)
          rw [hadd]
          refine ⟨true, h, f2, rfl, nI_vp (by omega) (by omega), ?_⟩
          rw [nI_c (by omega), hfk]
          (conv => whnf)
          refine ⟨true, h, f, rfl, nI_vp (by omega) (by omega), ?_⟩
          rw [nI_c (by omega), hfp]
          (conv => whnf); refine hV _ _ _ _ _ (v_lay (g := 4 * m + 3 + G) (RX_le hR (by omega))) (fun r M' e => ?_); obtain ⟨rfl, hR⟩ := e
          rw [s1]
          (conv => whnf)
          rw [esk]
          refine ⟨fun q5 => absurd rfl q5, fun q5 => ?_⟩
          (conv => whnf); refine hV _ _ _ _ _ (v_lean (g := 4 * m + 2 + G) (RX_le hR (by omega))) (fun r M' e => ?_); obtain ⟨rfl, hR⟩ := e
          rw [s5]
          (conv => whnf); refine ⟨fun q6 => ?_, fun q6 => ?_⟩
          · (conv => whnf); refine hV _ _ _ _ _ (v_lean (g := 4 * m + 1 + G) (RX_le hR (by omega))) (fun r M' e => ?_); obtain ⟨rfl, hR⟩ := e
            (conv => whnf); refine hV _ _ _ _ _ (v_lean (g := 4 * m + G) (RX_le hR (by omega))) (fun r M' e => ?_); obtain ⟨rfl, hR⟩ := e
            (conv => whnf)
            rw [e3]
            have hmx : maxI (wst (gP E (lsH rk0 r h ys) (hgt rk0 r)) path k) (maxI (absI (aLean (aLay s (nI r) (nI (ys p))).2 (nI r) (cI 0))) (absI (aLean (aLay s (nI r) (nI (ys p))).2 (nI r) (cI 1)))) = wst (gP E (lsH rk0 r h ys) (hgt rk0 r)) path (k + 1) := by
              rw [s4]
              rfl
            have hgo := ih (k + 1) (u ||| 2 ^ p) M' (aLay s (nI r) (nI (ys p))).2 (by omega) (RX_le hR (by omega)) s2 (Nat.or_lt_two_pow (n := 12) hu (Nat.pow_lt_pow_right (by omega) (by omega))) (fun i hi => by
              rw [or_bit, Bool.or_eq_true, decide_eq_true_eq, hb i hi, take_snoc hkp, List.mem_append, List.mem_singleton]
              exact or_congr Iff.rfl eq_comm)
            rw [← hmx] at hgo
            exact hBB _ _ _ _ (Jsub H _ _ (sL_cons rfl (sL_cons rfl (sL_cons rfl (sL_cons rfl (sL_cons rfl (sL_cons rfl (sL_cons rfl (sL_cons rfl (sL_cons rfl (sL_cons rfl (sL_cons rfl (sL_cons rfl (sL_nil))))))))))))) (List.Sublist.refl _) hgo)
          · exact absurd rfl q6
end LAW
