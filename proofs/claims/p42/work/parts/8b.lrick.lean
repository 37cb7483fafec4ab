/-! the law: rick by rick -/
section LAW
variable {L : Nat} {xs : Nat → Int32} {Bd : Nat → Lv → List Value → JSt → Prop} {E : EnvK} {rk0 : Rk} {de0 : Nat → Int32}
theorem hour_ok {c : Nat} (hc : c < 16777216) : okH (cI 100 * (cI 1 + (nI c - nI c / cI 9 * cI 9)) + cI 10 * ((nI c >>> (cI 4 &&& 31)) &&& cI 7) + ((nI c >>> (cI 7 &&& 31)) &&& cI 7)) := by
  obtain ⟨a, a1, a2⟩ := and_n (nI c >>> (cI 4 &&& 31)) (m := 7) (by decide)
  obtain ⟨b, b1, b2⟩ := and_n (nI c >>> (cI 7 &&& 31)) (m := 7) (by decide)
  refine ⟨100 * (1 + c % 9) + 10 * a + b, ?_, hz_of ⟨by omega, by omega⟩ (by omega) (by omega)⟩
  rw [show cI 7 = nI 7 from rfl] at *
  rw [show (cI 4 : Int32) = nI 4 from rfl] at *
  rw [a1, b1, cn_100, cn_1, cn_9, cn_10, rem_n (by omega) (by decide), nI_add, nI_mul, nI_mul, nI_add, nI_add]
set_option maxRecDepth 100000 in
set_option maxHeartbeats 4000000 in
theorem seg_hours (H : JOk L xs 12 (jcl L xs 12) Bd (fun x _ => x = 1)) {r h g : Nat} {v2 v3 : Int32} {M : Mem} (hL : L ≤ 260) (hr : r < 4) (hh : h ≤ 4) {sz : Nat}
    (next : ∀ (f : Nat → Int32), (∀ j, j < h → okH (f j)) → Bd 693 ((14, .ref 3623) :: lvW v2 v3 r sz) [] (M, [(3623, true, h, f)], g)) :
    ∀ (m k : Nat) (f : Nat → Int32), k + m = h → (∀ j, j < k → okH (f j)) → Bd 630 ((14, .ref 3623) :: (15, .int (nI k)) :: lvW v2 v3 r sz) [] (M, [(3623, true, h, f)], g) := by
  have eh := nI_v (n := h) (by omega)
  have hcl := cN_lt (L := L) (xs := xs) (i := 19 + r) (by omega)
  intro m
  induction m with
  | zero =>
    intro k f hk hf
    have ek := nI_v (n := k) (by omega)
    obtain rfl : k = h := by omega
    refine H.1 400 _ _ _ _ (fun B vc sc Z hBB hV hS hZ => ?_)
    (conv => whnf)
    refine ⟨true, k, f, rfl, ?_⟩
    (conv => whnf); refine ⟨fun q => ?_, fun q => ?_⟩
    · exact hBB _ _ _ _ (Jsub H _ _ (sL_cons rfl (sL_cons rfl (sL_cons rfl (sL_cons rfl (sL_cons rfl (sL_cons rfl (sL_cons rfl (sL_nil)))))))) (List.Sublist.refl _) (next f hf))
    · simp only [c_lt, c_gt, c_le, c_ge, c_eq, c_ne, b2_z, b2_nz, b2_i, Classical.not_not, t0, t1, Nat.reduceMod, Nat.reduceDiv, Int.reduceAdd, Int.reduceNeg, Nat.reduceAdd, kv_m1, kv_0, kv_1, kv_2, kv_3, kv_4, kv_5, kv_6, kv_7, kv_8, kv_9, kv_10, kv_12, kv_13, kv_14, kv_15, kv_16, kv_19, kv_24, kv_100, kv_500, kc_0, kc_1, kc_2, kc_3, kc_4, kc_5, kc_6, kc_7, kc_8, kc_9, kc_10, kc_12, kc_13, kc_14, kc_15, kc_16, kc_19, kc_24, kc_100, kc_500] at q
      rw [ek] at q
      omega
  | succ m ih =>
    intro k f hk hf
    have ek := nI_v (n := k) (by omega)
    have e3 : nI k + cI 1 = nI (k + 1) := nI_add k 1
    have hsh := shr_n (c := cN L xs (19 + r)) (s := k) (by omega) (by omega)
    have hdl : cN L xs (19 + r) / 2 ^ k ≤ cN L xs (19 + r) := Nat.div_le_self _ _
    refine H.1 400 _ _ _ _ (fun B vc sc Z hBB hV hS hZ => ?_)
    (conv => whnf)
    refine ⟨true, h, f, rfl, ?_⟩
    (conv => whnf); refine ⟨fun q => ?_, fun q => ?_⟩
    · simp only [c_lt, c_gt, c_le, c_ge, c_eq, c_ne, b2_z, b2_nz, b2_i, Classical.not_not, t0, t1, Nat.reduceMod, Nat.reduceDiv, Int.reduceAdd, Int.reduceNeg, Nat.reduceAdd, kv_m1, kv_0, kv_1, kv_2, kv_3, kv_4, kv_5, kv_6, kv_7, kv_8, kv_9, kv_10, kv_12, kv_13, kv_14, kv_15, kv_16, kv_19, kv_24, kv_100, kv_500, kc_0, kc_1, kc_2, kc_3, kc_4, kc_5, kc_6, kc_7, kc_8, kc_9, kc_10, kc_12, kc_13, kc_14, kc_15, kc_16, kc_19, kc_24, kc_100, kc_500] at q
      rw [ek, eh] at q
      omega
    · (conv => whnf)
      rw [cn_19, nI_add]
      (conv => whnf); refine hS _ _ _ _ _ (jc_of (js_cell (i := 19 + r) hL (by omega)) rfl) (fun x M' e => ?_); obtain ⟨rfl, rfl⟩ := e
      (conv => whnf)
      rw [hsh]
      refine ⟨by decide, ?_⟩
      (conv => whnf)
      refine ⟨h, f, rfl, nI_vp (by omega) (by omega), ?_⟩
      (conv => whnf)
      rw [e3, nI_c (by omega)]
      refine hBB _ _ _ _ (Jsub H _ _ (sL_cons rfl (sL_cons rfl (sL_cons rfl (sL_cons rfl (sL_cons rfl (sL_cons rfl (sL_cons rfl (sL_cons rfl (sL_nil))))))))) (List.Sublist.refl _) (ih (k + 1) _ (by omega) (fun j hj => ?_)))
      unfold upd
      by_cases e : j = k
      · subst e
        rw [if_pos rfl]
        exact hour_ok (by omega)
      · rw [if_neg e]
        exact hf j (by omega)
end LAW
