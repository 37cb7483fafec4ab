/-! the law's part on likely -/
section LAW
variable {L : Nat} {xs : Nat → Int32} {Bd : Nat → Lv → List Value → JSt → Prop} {E : EnvK} {rk0 : Rk} {de0 : Nat → Int32}
abbrev lvL (v2 v3 : Int32) (r sz mk : Nat) (few : Int32) : Lv := (16, .int (nI mk)) :: (17, .int few) :: lvW v2 v3 r sz
set_option maxRecDepth 100000 in
set_option maxHeartbeats 4000000 in
theorem seg_likely (H : JOk L xs 12 (jcl L xs 12) Bd (fun x _ => x = 1)) {r mk G : Nat} {v2 v3 few : Int32} {S : Tm × Nat} (hr : r < rk0.length) (h4 : rk0.length ≤ 4) (h12 : (rk0.getD r []).length ≤ 12) (hm : 1 ≤ mk ∧ mk ≤ 7) {sz : Nat}
    (next : ∀ (M : Mem) (s : St), RX G M s → Base E rk0 de0 s → Bd 1230 ((18, .double (lkR (rk0.getD r []).length (cM mk (rk0.getD r [])) 12)) :: lvL v2 v3 r sz mk few) [] (M, S)) :
    ∀ (m t : Nat) (M : Mem) (s : St), t + m = 13 → RX (2 * m + G) M s → Base E rk0 de0 s → Bd 1157 ((18, .double (lkL (rk0.getD r []).length (cM mk (rk0.getD r [])) t)) :: (20, .int (nI t)) :: lvL v2 v3 r sz mk few) [] (M, S) := by
  have hcm := cM_le2 (mk := mk) (rk0.getD r [])
  intro m
  induction m with
  | zero =>
    intro t M s ht hR hB
    obtain rfl : t = 13 := by omega
    refine H.1 400 _ _ _ _ (fun B vc sc Z hBB hV hS hZ => ?_)
    (conv => whnf); refine ⟨fun q => ?_, fun q => ?_⟩
    · exact hBB _ _ _ _ (Jsub H _ _ (sL_cons rfl (sL_cons rfl (sL_cons rfl (sL_cons rfl (sL_cons rfl (sL_cons rfl (sL_cons rfl (sL_cons rfl (sL_cons rfl (sL_nil)))))))))) (List.Sublist.refl _) (next M s (RX_le hR (by omega)) hB))
    · exact absurd q (by rw [c_ge]; simp only [kv_13]; show ¬ ¬ (13 : Int) ≤ 13; omega)
  | succ m ih =>
    intro t M s ht hR hB
    have et := nI_v (n := t) (by omega)
    obtain ⟨b1, b2, b3, b4⟩ := id hB
    have p0 := likely_v (s := s) (r := r) (mk := mk) (t := t) (p := 0) (by rw [b1]; exact hr) (by rw [b1]; exact h4) hm (by omega) (by omega)
    have p1 := likely_v (s := s) (r := r) (mk := mk) (t := t) (p := 1) (by rw [b1]; exact hr) (by rw [b1]; exact h4) hm (by omega) (by omega)
    rw [b1] at p0 p1
    obtain ⟨k1, k2, k3, k4⟩ := lk_at (n := (rk0.getD r []).length) (c := cM mk (rk0.getD r [])) (t := t) h12 hcm (by omega)
    have e3 : nI t + cI 1 = nI (t + 1) := nI_add t 1
    have e10 : cI 10 * nI r + nI mk = nI (10 * r + mk) := by rw [cn_10, nI_mul, nI_add]
    refine H.1 400 _ _ _ _ (fun B vc sc Z hBB hV hS hZ => ?_)
    (conv => whnf); refine ⟨fun q => ?_, fun q => ?_⟩
    · simp only [c_lt, c_gt, c_le, c_ge, c_eq, c_ne, b2_z, b2_nz, b2_i, Classical.not_not, t0, t1, Nat.reduceMod, Nat.reduceDiv, Int.reduceAdd, Int.reduceNeg, Nat.reduceAdd, kv_m1, kv_0, kv_1, kv_2, kv_3, kv_4, kv_5, kv_6, kv_7, kv_8, kv_9, kv_10, kv_12, kv_13, kv_14, kv_15, kv_16, kv_19, kv_24, kv_100, kv_500, kc_0, kc_1, kc_2, kc_3, kc_4, kc_5, kc_6, kc_7, kc_8, kc_9, kc_10, kc_12, kc_13, kc_14, kc_15, kc_16, kc_19, kc_24, kc_100, kc_500] at q
      rw [et] at q
      omega
    · (conv => whnf)
      rw [e10]
      refine hV _ _ _ _ _ (v_likely (g := 2 * m + 1 + G) (RX_le hR (by omega))) (fun v M' e => ?_)
      obtain ⟨rfl, hR⟩ := e
      rw [show cI 0 = nI 0 from rfl, p0]
      (conv => whnf)
      rw [e10]
      refine hV _ _ _ _ _ (v_likely (g := 2 * m + G) (RX_le hR (by omega))) (fun v M' e => ?_)
      obtain ⟨rfl, hR⟩ := e
      rw [show cI 1 = nI 1 from rfl, p1]
      (conv => whnf)
      refine ⟨k1, ?_⟩
      (conv => whnf)
      refine ⟨k2, ?_⟩
      (conv => whnf)
      refine ⟨fun q2 => absurd q2 k3, fun q2 => ?_⟩
      (conv => whnf)
      refine ⟨fun q3 => ?_, fun q3 => absurd k4 q3⟩
      (conv => whnf)
      rw [e3]
      exact hBB _ _ _ _ (Jsub H _ _ (sL_cons rfl (sL_cons rfl (sL_cons rfl (sL_cons rfl (sL_cons rfl (sL_cons rfl (sL_cons rfl (sL_cons rfl (sL_cons rfl (sL_cons rfl (sL_nil))))))))))) (List.Sublist.refl _) (ih (t + 1) _ _ (by omega) (RX_le hR (by omega)) hB))
end LAW
