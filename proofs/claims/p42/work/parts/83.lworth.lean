/-! the law's part on worth, of each rick -/
section LAW
variable {L : Nat} {xs : Nat → Int32} {Bd : Nat → Lv → List Value → JSt → Prop} {E : EnvK} {rk0 : Rk} {de0 : Nat → Int32}
abbrev lvW (v2 v3 : Int32) (r sz : Nat) : Lv := [(0, .ref 950), (1, .ref 0), (2, .int v2), (3, .int v3), (12, .int (nI r)), (13, .int (nI sz))]
abbrev lvP (v2 v3 : Int32) (r sz t : Nat) (w paid : Int32) (k : Nat) : Lv := (19, .ref 4295) :: (20, .int paid) :: (21, .int (nI k)) :: (16, .int w) :: (17, .int (nI t)) :: (18, .int w) :: lvW v2 v3 r sz
set_option maxRecDepth 100000 in
set_option maxHeartbeats 4000000 in
theorem seg_at (H : JOk L xs 12 (jcl L xs 12) Bd (fun x _ => x = 1)) {r t g k c : Nat} {v2 v3 : Int32} {f : Nat → Int32} {path : List Nat} {M : Mem} {w paid : Int32} (h12 : (rk0.getD r []).length ≤ 12) (ht : t ≤ 4) (hc : okC (2 ^ (rk0.getD r []).length - 1) path) (hl : path.length = t) (hf : ∀ j, j < t → f j = nI (path.getD j 0)) (hp : ∀ p ∈ path, p < 12) (hk : path[k]? = some c) {sz : Nat}
    (next : Bd 1389 ((22, .int (nI (pcn (lft (2 ^ (rk0.getD r []).length - 1) (path.take k)) c))) :: lvP v2 v3 r sz t w paid k) [] (M, [(4295, true, t, f)], g)) :
    ∀ (m e : Nat), e + m = k → Bd 1353 ((22, .int (nI (pcn (lft (2 ^ (rk0.getD r []).length - 1) (path.take e)) c))) :: (23, .int (nI e)) :: lvP v2 v3 r sz t w paid k) [] (M, [(4295, true, t, f)], g) := by
  have hkl : k < path.length := (List.getElem?_eq_some_iff.mp hk).1
  have ek := nI_v (n := k) (by omega)
  have hfk : f k = nI c := by rw [hf k (by omega), List.getD_eq_getElem?_getD, hk]; rfl
  have hc12 := hp c (List.mem_of_getElem? hk)
  intro m
  induction m with
  | zero =>
    intro e he
    obtain rfl : e = k := by omega
    refine H.1 400 _ _ _ _ (fun B vc sc Z hBB hV hS hZ => ?_)
    (conv => whnf); refine ⟨fun q => ?_, fun q => ?_⟩
    · exact hBB _ _ _ _ (Jsub H _ _ (sL_cons rfl (sL_cons rfl (sL_cons rfl (sL_cons rfl (sL_cons rfl (sL_cons rfl (sL_cons rfl (sL_cons rfl (sL_cons rfl (sL_cons rfl (sL_cons rfl (sL_cons rfl (sL_cons rfl sL_nil))))))))))))) (List.Sublist.refl _) next)
    · simp only [c_lt, c_gt, c_le, c_ge, c_eq, c_ne, b2_z, b2_nz, b2_i, Classical.not_not, t0, t1, Nat.reduceMod, Nat.reduceDiv, Int.reduceAdd, Int.reduceNeg, Nat.reduceAdd, kv_m1, kv_0, kv_1, kv_2, kv_3, kv_4, kv_5, kv_6, kv_7, kv_8, kv_9, kv_10, kv_12, kv_13, kv_14, kv_15, kv_16, kv_19, kv_24, kv_100, kv_500, kc_0, kc_1, kc_2, kc_3, kc_4, kc_5, kc_6, kc_7, kc_8, kc_9, kc_10, kc_12, kc_13, kc_14, kc_15, kc_16, kc_19, kc_24, kc_100, kc_500] at q
      rw [ek] at q
      omega
  | succ m ih =>
    intro e he
    have ee := nI_v (n := e) (by omega)
    obtain ⟨c0, hc0⟩ : ∃ c0, path[e]? = some c0 := ⟨_, List.getElem?_eq_getElem (by omega)⟩
    have hfe : f e = nI c0 := by rw [hf e (by omega), List.getD_eq_getElem?_getD, hc0]; rfl
    have hc02 := hp c0 (List.mem_of_getElem? hc0)
    have hpl := place_s (c := c) h12 hc hc0
    have e1 := nI_v (n := c0) (by omega)
    have e2 := nI_v (n := c) (by omega)
    have e3 : nI e + cI 1 = nI (e + 1) := nI_add e 1
    refine H.1 400 _ _ _ _ (fun B vc sc Z hBB hV hS hZ => ?_)
    (conv => whnf); refine ⟨fun q => ?_, fun q => ?_⟩
    · simp only [c_lt, c_gt, c_le, c_ge, c_eq, c_ne, b2_z, b2_nz, b2_i, Classical.not_not, t0, t1, Nat.reduceMod, Nat.reduceDiv, Int.reduceAdd, Int.reduceNeg, Nat.reduceAdd, kv_m1, kv_0, kv_1, kv_2, kv_3, kv_4, kv_5, kv_6, kv_7, kv_8, kv_9, kv_10, kv_12, kv_13, kv_14, kv_15, kv_16, kv_19, kv_24, kv_100, kv_500, kc_0, kc_1, kc_2, kc_3, kc_4, kc_5, kc_6, kc_7, kc_8, kc_9, kc_10, kc_12, kc_13, kc_14, kc_15, kc_16, kc_19, kc_24, kc_100, kc_500] at q
      rw [ee, ek] at q
      omega
    · (conv => whnf)
      refine ⟨true, t, f, rfl, nI_vp (by omega) (by omega), ?_⟩
      (conv => whnf)
      refine ⟨true, t, f, rfl, nI_vp (by omega) (by omega), ?_⟩
      rw [nI_c (by omega), nI_c (by omega), hfe, hfk]
      (conv => whnf); refine ⟨fun q2 => ?_, fun q2 => ?_⟩
      · simp only [c_lt, c_gt, c_le, c_ge, c_eq, c_ne, b2_z, b2_nz, b2_i, Classical.not_not, t0, t1, Nat.reduceMod, Nat.reduceDiv, Int.reduceAdd, Int.reduceNeg, Nat.reduceAdd, kv_m1, kv_0, kv_1, kv_2, kv_3, kv_4, kv_5, kv_6, kv_7, kv_8, kv_9, kv_10, kv_12, kv_13, kv_14, kv_15, kv_16, kv_19, kv_24, kv_100, kv_500, kc_0, kc_1, kc_2, kc_3, kc_4, kc_5, kc_6, kc_7, kc_8, kc_9, kc_10, kc_12, kc_13, kc_14, kc_15, kc_16, kc_19, kc_24, kc_100, kc_500] at q2
        rw [e1, e2] at q2
        rw [if_neg (by omega)] at hpl
        (conv => whnf)
        rw [show cI 0 = nI 0 from rfl, hpl, e3]
        exact hBB _ _ _ _ (Jsub H _ _ (sL_cons rfl (sL_cons rfl (sL_cons rfl (sL_cons rfl (sL_cons rfl (sL_cons rfl (sL_cons rfl (sL_cons rfl (sL_cons rfl (sL_cons rfl (sL_cons rfl (sL_cons rfl (sL_cons rfl (sL_cons rfl sL_nil)))))))))))))) (List.Sublist.refl _) (ih (e + 1) (by omega)))
      · simp only [c_lt, c_gt, c_le, c_ge, c_eq, c_ne, b2_z, b2_nz, b2_i, Classical.not_not, t0, t1, Nat.reduceMod, Nat.reduceDiv, Int.reduceAdd, Int.reduceNeg, Nat.reduceAdd, kv_m1, kv_0, kv_1, kv_2, kv_3, kv_4, kv_5, kv_6, kv_7, kv_8, kv_9, kv_10, kv_12, kv_13, kv_14, kv_15, kv_16, kv_19, kv_24, kv_100, kv_500, kc_0, kc_1, kc_2, kc_3, kc_4, kc_5, kc_6, kc_7, kc_8, kc_9, kc_10, kc_12, kc_13, kc_14, kc_15, kc_16, kc_19, kc_24, kc_100, kc_500] at q2
        rw [e1, e2] at q2
        rw [if_pos (by omega)] at hpl
        (conv => whnf)
        rw [e3, show cI 1 = nI 1 from rfl, hpl]
        exact hBB _ _ _ _ (Jsub H _ _ (sL_cons rfl (sL_cons rfl (sL_cons rfl (sL_cons rfl (sL_cons rfl (sL_cons rfl (sL_cons rfl (sL_cons rfl (sL_cons rfl (sL_cons rfl (sL_cons rfl (sL_cons rfl (sL_cons rfl (sL_cons rfl sL_nil)))))))))))))) (List.Sublist.refl _) (ih (e + 1) (by omega)))
end LAW
