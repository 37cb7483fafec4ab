/-! the law: how each rick would lean then, kept in rows -/
section LAW
variable {L : Nat} {xs : Nat → Int32} {Bd : Nat → Lv → List Value → JSt → Prop}
abbrev lvF (n : Nat) (v3 v5 v6 v7 v8 : Int32) : Lv := [(0, .ref 950), (1, .ref 0), (2, .int (nI n)), (3, .int v3), (4, .ref 3038), (5, .int v5), (6, .int v6), (7, .int v7), (8, .int v8), (9, .ref 3153)]
set_option maxRecDepth 100000 in
set_option maxHeartbeats 4000000 in
theorem seg_due1 (H : JOk L xs 12 (jcl L xs 12) Bd (fun x _ => x = 1)) (hD : JDue Bd) {n G g r : Nat} (hn4 : n ≤ 4) (hr : r < n) {LL : Nat → Nat → Int32} {s : St} {R : Tm} {v3 v5 v6 v7 v8 : Int32} (hLL : ∀ w, w < 2 → aLeanThen s (cI 0) (cI 24) (nI r) (nI w) = LL r w)
    (next : ∀ M fd, RX G M s → (∀ i, i < r + 1 → ∀ j, j < 2 → fd i j = LL i j) → Bd 202 ((10, .int (nI r)) :: lvF n v3 v5 v6 v7 v8) [] (M, dueT n fd ++ R, g)) :
    ∀ (m w : Nat) (M : Mem) (fd : Nat → Nat → Int32), w + m = 2 → RX (m + G) M s → (∀ i, i < r → ∀ j, j < 2 → fd i j = LL i j) → (∀ j, j < w → fd r j = LL r j) → Bd 171 ((10, .int (nI r)) :: (11, .int (nI w)) :: lvF n v3 v5 v6 v7 v8) [] (M, dueT n fd ++ R, g) := by
  have er := nI_v (n := r) (by omega)
  intro m
  induction m with
  | zero =>
    intro w M fd hw hR h1 h2
    have ew := nI_v (n := w) (by omega)
    refine H.1 400 _ _ _ _ (fun B vc sc Z hBB hV hS hZ => ?_)
    (conv => whnf); refine ⟨fun q => ?_, fun q => ?_⟩
    · exact hBB _ _ _ _ (Jsub H _ _ (sL_cons rfl (sL_cons rfl (sL_cons rfl (sL_cons rfl (sL_cons rfl (sL_cons rfl (sL_cons rfl (sL_cons rfl (sL_cons rfl (sL_cons rfl (sL_cons rfl (sL_nil)))))))))))) (List.Sublist.refl _) (next M fd (RX_le hR (by omega)) (fun i hi j hj => by
        rcases Nat.lt_or_ge i r with h3 | h3
        · exact h1 i h3 j hj
        · obtain rfl : i = r := by omega
          exact h2 j (by omega))))
    · simp only [c_lt, c_gt, c_le, c_ge, c_eq, c_ne, b2_z, b2_nz, b2_i, Classical.not_not, t0, t1, Nat.reduceMod, Nat.reduceDiv, Int.reduceAdd, Int.reduceNeg, Nat.reduceAdd, kv_m1, kv_0, kv_1, kv_2, kv_3, kv_4, kv_5, kv_6, kv_7, kv_8, kv_9, kv_10, kv_12, kv_13, kv_14, kv_15, kv_16, kv_19, kv_24, kv_100, kv_500, kc_0, kc_1, kc_2, kc_3, kc_4, kc_5, kc_6, kc_7, kc_8, kc_9, kc_10, kc_12, kc_13, kc_14, kc_15, kc_16, kc_19, kc_24, kc_100, kc_500] at q
      rw [ew] at q
      omega
  | succ m ih =>
    intro w M fd hw hR h1 h2
    have ew := nI_v (n := w) (by omega)
    have e3 : nI w + cI 1 = nI (w + 1) := nI_add w 1
    have hl := hLL w (by omega)
    obtain ⟨a, ha⟩ : ∃ a, a = 4000 + r := ⟨_, rfl⟩
    have n2 := nb_3153 ha
    have hlk : lkT (dueT n fd ++ R) a = some (true, 2, fd r) := by rw [ha]; exact lk_due hr hn4
    have hst : ∀ f, setT (dueT n fd ++ R) a f = dueT n (upF fd r f) ++ R := fun f => by rw [ha]; exact set_due hr hn4
    have h5 : Bd 182 ((10, .int (nI r)) :: (11, .int (nI w)) :: lvF n v3 v5 v6 v7 v8) [.ref a] (M, dueT n fd ++ R, g) := by
      refine H.1 400 _ _ _ _ (fun B vc sc Z hBB hV hS hZ => ?_)
      (conv => whnf); refine hV _ _ _ _ _ (v_leanThen (g := m + G) (RX_le hR (by omega))) (fun r M' e => ?_); obtain ⟨rfl, hR⟩ := e
      rw [hl]
      (conv => whnf)
      rw [n2]
      (conv => whnf)
      refine ⟨2, fd r, hlk, nI_vp (by omega) (by omega), ?_⟩
      rw [hst, nI_c (by omega)]
      (conv => whnf)
      rw [e3]
      refine hBB _ _ _ _ (Jsub H _ _ (sL_cons rfl (sL_cons rfl (sL_cons rfl (sL_cons rfl (sL_cons rfl (sL_cons rfl (sL_cons rfl (sL_cons rfl (sL_cons rfl (sL_cons rfl (sL_cons rfl (sL_cons rfl (sL_nil))))))))))))) (List.Sublist.refl _) (ih (w + 1) M' (upF fd r (upd (fd r) w (LL r w))) (by omega) hR (fun i hi j hj => ?_) (fun j hj => ?_)))
      · show (if i = r then _ else fd i) j = _
        rw [if_neg (by omega)]
        exact h1 i hi j hj
      · show (if r = r then upd (fd r) w (LL r w) else fd r) j = _
        rw [if_pos rfl]
        unfold upd
        by_cases e : j = w
        · subst e; rw [if_pos rfl]
        · rw [if_neg e]; exact h2 j (by omega)
    refine H.1 400 _ _ _ _ (fun B vc sc Z hBB hV hS hZ => ?_)
    (conv => whnf); refine ⟨fun q => ?_, fun q => ?_⟩
    · simp only [c_lt, c_gt, c_le, c_ge, c_eq, c_ne, b2_z, b2_nz, b2_i, Classical.not_not, t0, t1, Nat.reduceMod, Nat.reduceDiv, Int.reduceAdd, Int.reduceNeg, Nat.reduceAdd, kv_m1, kv_0, kv_1, kv_2, kv_3, kv_4, kv_5, kv_6, kv_7, kv_8, kv_9, kv_10, kv_12, kv_13, kv_14, kv_15, kv_16, kv_19, kv_24, kv_100, kv_500, kc_0, kc_1, kc_2, kc_3, kc_4, kc_5, kc_6, kc_7, kc_8, kc_9, kc_10, kc_12, kc_13, kc_14, kc_15, kc_16, kc_19, kc_24, kc_100, kc_500] at q
      rw [ew] at q
      omega
    · (conv => whnf)
      refine hBB _ _ _ _ (hD.2 181 _ _ _ r n (Or.inl rfl) mem_due hr hn4 ?_)
      rw [ha] at h5
      exact h5
set_option maxRecDepth 100000 in
set_option maxHeartbeats 4000000 in
theorem seg_due (H : JOk L xs 12 (jcl L xs 12) Bd (fun x _ => x = 1)) (hD : JDue Bd) {n G g : Nat} (hn4 : n ≤ 4) {LL : Nat → Nat → Int32} {s : St} {R : Tm} {v3 v5 v6 v7 v8 : Int32} (hLL : ∀ r w, r < n → w < 2 → aLeanThen s (cI 0) (cI 24) (nI r) (nI w) = LL r w)
    (next : ∀ M fd, RX G M s → (∀ i, i < n → ∀ j, j < 2 → fd i j = LL i j) → Bd 208 (lvF n v3 v5 v6 v7 v8) [] (M, dueT n fd ++ R, g)) :
    ∀ (m r : Nat) (M : Mem) (fd : Nat → Nat → Int32), r + m = n → RX (2 * m + G) M s → (∀ i, i < r → ∀ j, j < 2 → fd i j = LL i j) → Bd 162 ((10, .int (nI r)) :: lvF n v3 v5 v6 v7 v8) [] (M, dueT n fd ++ R, g) := by
  have en := nI_v (n := n) (by omega)
  intro m
  induction m with
  | zero =>
    intro r M fd hr hR h1
    have er := nI_v (n := r) (by omega)
    obtain rfl : r = n := by omega
    refine H.1 400 _ _ _ _ (fun B vc sc Z hBB hV hS hZ => ?_)
    (conv => whnf); refine ⟨fun q => ?_, fun q => ?_⟩
    · exact hBB _ _ _ _ (Jsub H _ _ (sL_cons rfl (sL_cons rfl (sL_cons rfl (sL_cons rfl (sL_cons rfl (sL_cons rfl (sL_cons rfl (sL_cons rfl (sL_cons rfl (sL_cons rfl (sL_nil))))))))))) (List.Sublist.refl _) (next M fd (RX_le hR (by omega)) h1))
    · simp only [c_lt, c_gt, c_le, c_ge, c_eq, c_ne, b2_z, b2_nz, b2_i, Classical.not_not, t0, t1, Nat.reduceMod, Nat.reduceDiv, Int.reduceAdd, Int.reduceNeg, Nat.reduceAdd, kv_m1, kv_0, kv_1, kv_2, kv_3, kv_4, kv_5, kv_6, kv_7, kv_8, kv_9, kv_10, kv_12, kv_13, kv_14, kv_15, kv_16, kv_19, kv_24, kv_100, kv_500, kc_0, kc_1, kc_2, kc_3, kc_4, kc_5, kc_6, kc_7, kc_8, kc_9, kc_10, kc_12, kc_13, kc_14, kc_15, kc_16, kc_19, kc_24, kc_100, kc_500] at q
      rw [er] at q
      omega
  | succ m ih =>
    intro r M fd hr hR h1
    have er := nI_v (n := r) (by omega)
    have e3 : nI r + cI 1 = nI (r + 1) := nI_add r 1
    have h2 : ∀ M fd, RX (2 * m + G) M s → (∀ i, i < r + 1 → ∀ j, j < 2 → fd i j = LL i j) → Bd 202 ((10, .int (nI r)) :: lvF n v3 v5 v6 v7 v8) [] (M, dueT n fd ++ R, g) := by
      intro M fd hR hf
      refine H.1 400 _ _ _ _ (fun B vc sc Z hBB hV hS hZ => ?_)
      (conv => whnf)
      rw [e3]
      exact hBB _ _ _ _ (Jsub H _ _ (sL_cons rfl (sL_cons rfl (sL_cons rfl (sL_cons rfl (sL_cons rfl (sL_cons rfl (sL_cons rfl (sL_cons rfl (sL_cons rfl (sL_cons rfl (sL_cons rfl (sL_nil)))))))))))) (List.Sublist.refl _) (ih (r + 1) M fd (by omega) hR hf))
    have h3 := seg_due1 H hD (g := g) (v3 := v3) (v5 := v5) (v6 := v6) (v7 := v7) (v8 := v8) (R := R) hn4 (show r < n by omega) (fun w hw => hLL r w (by omega) hw) h2 2 0 M fd (by omega) (RX_le hR (by omega)) h1 (fun j hj => absurd hj (Nat.not_lt_zero _))
    refine H.1 400 _ _ _ _ (fun B vc sc Z hBB hV hS hZ => ?_)
    (conv => whnf); refine ⟨fun q => ?_, fun q => ?_⟩
    · simp only [c_lt, c_gt, c_le, c_ge, c_eq, c_ne, b2_z, b2_nz, b2_i, Classical.not_not, t0, t1, Nat.reduceMod, Nat.reduceDiv, Int.reduceAdd, Int.reduceNeg, Nat.reduceAdd, kv_m1, kv_0, kv_1, kv_2, kv_3, kv_4, kv_5, kv_6, kv_7, kv_8, kv_9, kv_10, kv_12, kv_13, kv_14, kv_15, kv_16, kv_19, kv_24, kv_100, kv_500, kc_0, kc_1, kc_2, kc_3, kc_4, kc_5, kc_6, kc_7, kc_8, kc_9, kc_10, kc_12, kc_13, kc_14, kc_15, kc_16, kc_19, kc_24, kc_100, kc_500] at q
      rw [er, en] at q
      omega
    · (conv => whnf)
      exact hBB _ _ _ _ (Jsub H _ _ (sL_cons rfl (sL_cons rfl (sL_cons rfl (sL_cons rfl (sL_cons rfl (sL_cons rfl (sL_cons rfl (sL_cons rfl (sL_cons rfl (sL_cons rfl (sL_cons rfl (sL_cons rfl (sL_nil))))))))))))) (List.Sublist.refl _) h3)
end LAW
