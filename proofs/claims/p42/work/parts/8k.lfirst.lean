/-! the law from its beginning -/
section LAW
variable {L : Nat} {xs : Nat → Int32} {Bd : Nat → Lv → List Value → JSt → Prop}
set_option maxRecDepth 100000 in
set_option maxHeartbeats 4000000 in
theorem seg_told (H : JOk L xs 12 (jcl L xs 12) Bd (fun x _ => x = 1)) (hL : L ≤ 260) {len n g : Nat} {v3 : Int32} {M : Mem} (hlen : len ≤ 10) (hn4 : n ≤ 4) (hn : 0 < len → 0 < n)
    (next : ∀ f : Nat → Int32, (∀ j, j < len → ∃ y, f j = nI y ∧ y < 64 ∧ y / 16 < n ∧ y % 16 < 6) → Bd 91 [(0, .ref 950), (1, .ref 0), (2, .int (nI n)), (3, .int v3), (4, .ref 3038)] [] (M, [(3038, true, len, f)], g)) :
    ∀ (m k : Nat) (f : Nat → Int32), k + m = len → (∀ j, j < k → ∃ y, f j = nI y ∧ y < 64 ∧ y / 16 < n ∧ y % 16 < 6) → Bd 45 [(0, .ref 950), (1, .ref 0), (2, .int (nI n)), (3, .int v3), (4, .ref 3038), (5, .int (nI k))] [] (M, [(3038, true, len, f)], g) := by
  have el := nI_v (n := len) (by omega)
  have en := nI_v (n := n) (by omega)
  have hc1 := cN_lt (L := L) (xs := xs) (i := 13) (by omega)
  have hc2 := cN_lt (L := L) (xs := xs) (i := 14) (by omega)
  intro m
  induction m with
  | zero =>
    intro k f hk hf
    have ek := nI_v (n := k) (by omega)
    obtain rfl : k = len := by omega
    refine H.1 400 _ _ _ _ (fun B vc sc Z hBB hV hS hZ => ?_)
    (conv => whnf)
    refine ⟨true, k, f, rfl, ?_⟩
    (conv => whnf); refine ⟨fun q => ?_, fun q => ?_⟩
    · exact hBB _ _ _ _ (Jsub H _ _ (sL_cons rfl (sL_cons rfl (sL_cons rfl (sL_cons rfl (sL_cons rfl (sL_nil)))))) (List.Sublist.refl _) (next f hf))
    · simp only [c_lt, c_gt, c_le, c_ge, c_eq, c_ne, b2_z, b2_nz, b2_i, Classical.not_not, t0, t1, Nat.reduceMod, Nat.reduceDiv, Int.reduceAdd, Int.reduceNeg, Nat.reduceAdd, kv_m1, kv_0, kv_1, kv_2, kv_3, kv_4, kv_5, kv_6, kv_7, kv_8, kv_9, kv_10, kv_12, kv_13, kv_14, kv_15, kv_16, kv_19, kv_24, kv_100, kv_500, kc_0, kc_1, kc_2, kc_3, kc_4, kc_5, kc_6, kc_7, kc_8, kc_9, kc_10, kc_12, kc_13, kc_14, kc_15, kc_16, kc_19, kc_24, kc_100, kc_500] at q
      rw [ek] at q
      omega
  | succ m ih =>
    intro k f hk hf
    have ek := nI_v (n := k) (by omega)
    have e3 : nI k + cI 1 = nI (k + 1) := nI_add k 1
    have hn0 := hn (by omega)
    have hs1 := shr_n (c := cN L xs 13) (s := k) (by omega) (by omega)
    have hs2 := shr_n (c := cN L xs 14) (s := k) (by omega) (by omega)
    have hd1 : cN L xs 13 / 2 ^ k ≤ cN L xs 13 := Nat.div_le_self _ _
    have hd2 : cN L xs 14 / 2 ^ k ≤ cN L xs 14 := Nat.div_le_self _ _
    have hr1 := rem_n (a := cN L xs 13 / 2 ^ k) (b := n) (by omega) (by omega)
    have hr2 : nI (cN L xs 14 / 2 ^ k) - nI (cN L xs 14 / 2 ^ k) / cI 6 * cI 6 = nI (cN L xs 14 / 2 ^ k % 6) := rem_n (b := 6) (by omega) (by omega)
    have hm1 : cN L xs 13 / 2 ^ k % n < n := Nat.mod_lt _ hn0
    have hm2 : cN L xs 14 / 2 ^ k % 6 < 6 := Nat.mod_lt _ (by omega)
    generalize cN L xs 13 / 2 ^ k = p1 at hs1 hd1 hr1 hm1
    generalize cN L xs 14 / 2 ^ k = p2 at hs2 hd2 hr2 hm2
    generalize p1 % n = r1 at hr1 hm1
    generalize p2 % 6 = r2 at hr2 hm2
    refine H.1 400 _ _ _ _ (fun B vc sc Z hBB hV hS hZ => ?_)
    (conv => whnf)
    refine ⟨true, len, f, rfl, ?_⟩
    (conv => whnf); refine ⟨fun q => ?_, fun q => ?_⟩
    · simp only [c_lt, c_gt, c_le, c_ge, c_eq, c_ne, b2_z, b2_nz, b2_i, Classical.not_not, t0, t1, Nat.reduceMod, Nat.reduceDiv, Int.reduceAdd, Int.reduceNeg, Nat.reduceAdd, kv_m1, kv_0, kv_1, kv_2, kv_3, kv_4, kv_5, kv_6, kv_7, kv_8, kv_9, kv_10, kv_12, kv_13, kv_14, kv_15, kv_16, kv_19, kv_24, kv_100, kv_500, kc_0, kc_1, kc_2, kc_3, kc_4, kc_5, kc_6, kc_7, kc_8, kc_9, kc_10, kc_12, kc_13, kc_14, kc_15, kc_16, kc_19, kc_24, kc_100, kc_500] at q
      rw [ek, el] at q
      omega
    · (conv => whnf)
      rw [show cI 13 = nI 13 from rfl]
      (conv => whnf); refine hS _ _ _ _ _ (jc_of (js_cell (i := 13) hL (by omega)) rfl) (fun x M' e => ?_); obtain ⟨rfl, rfl⟩ := e
      (conv => whnf)
      refine ⟨fun z => ?_, ?_⟩
      · have z2 := congrArg Int32.toInt z
        rw [en] at z2
        have z3 : (n : Int) = 0 := z2
        omega
      · rw [hs1, hr1]
        (conv => whnf)
        rw [show cI 14 = nI 14 from rfl]
        (conv => whnf); refine hS _ _ _ _ _ (jc_of (js_cell (i := 14) hL (by omega)) rfl) (fun x M' e => ?_); obtain ⟨rfl, rfl⟩ := e
        (conv => whnf)
        refine ⟨by decide, ?_⟩
        rw [hs2, hr2]
        (conv => whnf)
        refine ⟨len, f, rfl, nI_vp (by omega) (by omega), ?_⟩
        (conv => whnf)
        rw [e3, nI_c (by omega), show cI 16 = nI 16 from rfl, nI_mul, nI_add]
        refine hBB _ _ _ _ (Jsub H _ _ (sL_cons rfl (sL_cons rfl (sL_cons rfl (sL_cons rfl (sL_cons rfl (sL_cons rfl (sL_nil))))))) (List.Sublist.refl _) (ih (k + 1) (upd f k (nI (16 * r1 + r2))) (by omega) (fun j hj => ?_)))
        unfold upd
        by_cases e : j = k
        · rw [if_pos e]
          exact ⟨16 * r1 + r2, rfl, by omega, by omega, by omega⟩
        · rw [if_neg e]
          exact hf j (by omega)
set_option maxRecDepth 100000 in
set_option maxHeartbeats 4000000 in
theorem law_walk0 (H : JOk L xs 12 (jcl L xs 12) Bd (fun x _ => x = 1)) (hD : JDue Bd) (hL : L ≤ 260) {g : Nat} {M : Mem} {s : St} (hR : RX 3200 M s) (hB : BT s 0 20 0) (hc : sCo s = 0) (hg : 50 ≤ g) : Bd 8 [(1, .ref 0), (0, .ref 950)] [] (M, [], g + 2) := by
  have hn4 : cN L xs 0 % 5 ≤ 4 := by omega
  have en := nI_v (n := cN L xs 0 % 5) (by omega)
  have k10 : (cI 10).toNatClampNeg = 10 := by decide +kernel
  have told : ∀ (M : Mem) (s1 : St) (len : Nat), len ≤ 10 → (0 < len → 0 < cN L xs 0 % 5) → RX 3000 M s1 → BF s1 (cN L xs 0 % 5) (sN0 L xs) → Bd 45 [(0, .ref 950), (1, .ref 0), (2, .int (nI (cN L xs 0 % 5))), (3, .int (nI (sN0 L xs))), (4, .ref 3038), (5, .int (nI 0))] [] (M, [(3038, true, len, fun _ => 0)], g) := by
    intro M s1 len hlen hn hR hF
    refine seg_told H hL hlen hn4 hn (fun f hf => ?_) len 0 (fun _ => 0) (by omega) (fun j hj => absurd hj (Nat.not_lt_zero _))
    refine seg_mid H hD hL (yf := fun j => (f j).toInt.toNat) hlen (fun j hj => ?_) hF sN0_le hR hg
    obtain ⟨y, y1, y2, y3, y4⟩ := hf j hj
    have e : (f j).toInt.toNat = y := by rw [y1, nI_v (by omega), Int.toNat_natCast]
    show f j = nI (f j).toInt.toNat ∧ (f j).toInt.toNat < 64 ∧ (f j).toInt.toNat / 16 < _ ∧ (f j).toInt.toNat % 16 < 6
    rw [e]
    exact ⟨y1, y2, y3, y4⟩
  refine H.1 400 _ _ _ _ (fun B vc sc Z hBB hV hS hZ => ?_)
  (conv => whnf)
  refine hS _ _ _ _ _ (jc_of (js_built hL (RX_le hR (by omega) : RX (200 + 3000) M s) hB hc) rfl) (fun x M' e => ?_)
  obtain ⟨rfl, s1, hR1, hF⟩ := e
  (conv => whnf)
  refine ⟨fun _ => ?_, fun q => absurd (show ¬ (1 : Int32) = 0 by decide) q⟩
  (conv => whnf); refine hS _ _ _ _ _ (jc_of (js_yard hL) rfl) (fun x M' e => ?_); obtain ⟨rfl, rfl⟩ := e
  (conv => whnf); refine hS _ _ _ _ _ (jc_of (js_stand hL) rfl) (fun x M' e => ?_); obtain ⟨rfl, rfl⟩ := e
  (conv => whnf); refine ⟨fun q => ?_, fun q => ?_⟩
  · simp only [c_lt, c_gt, c_le, c_ge, c_eq, c_ne, b2_z, b2_nz, b2_i, Classical.not_not, t0, t1, Nat.reduceMod, Nat.reduceDiv, Int.reduceAdd, Int.reduceNeg, Nat.reduceAdd, kv_m1, kv_0, kv_1, kv_2, kv_3, kv_4, kv_5, kv_6, kv_7, kv_8, kv_9, kv_10, kv_12, kv_13, kv_14, kv_15, kv_16, kv_19, kv_24, kv_100, kv_500, kc_0, kc_1, kc_2, kc_3, kc_4, kc_5, kc_6, kc_7, kc_8, kc_9, kc_10, kc_12, kc_13, kc_14, kc_15, kc_16, kc_19, kc_24, kc_100, kc_500] at q
    rw [en] at q
    (conv => whnf)
    refine ⟨⟨by decide, by decide⟩, ?_⟩
    rw [k10]
    (conv => whnf)
    exact hBB _ _ _ _ (Jsub H _ _ (sL_cons rfl (sL_cons rfl (sL_cons rfl (sL_cons rfl (sL_cons rfl (sL_cons rfl (sL_nil))))))) (List.Sublist.refl _) (told _ s1 10 (by omega) (by omega) hR1 hF))
  · (conv => whnf)
    refine ⟨⟨by decide, by decide⟩, ?_⟩
    rw [kc_0]
    (conv => whnf)
    exact hBB _ _ _ _ (Jsub H _ _ (sL_cons rfl (sL_cons rfl (sL_cons rfl (sL_cons rfl (sL_cons rfl (sL_cons rfl (sL_nil))))))) (List.Sublist.refl _) (told _ s1 0 (by omega) (by omega) hR1 hF))
end LAW
