/-! the law's first part, from its end -/
theorem lk_due {n i : Nat} {f : Nat → Nat → Int32} {R : Tm} (hi : i < n) (h4 : n ≤ 4) : lkT (dueT n f ++ R) (4000 + i) = some (true, 2, f i) := by
  rcases (show n = 1 ∨ n = 2 ∨ n = 3 ∨ n = 4 by omega) with rfl | rfl | rfl | rfl <;> rcases (show i = 0 ∨ i = 1 ∨ i = 2 ∨ i = 3 by omega) with rfl | rfl | rfl | rfl <;> first | omega | rfl
theorem lk_v {n k : Nat} {f : Nat → Nat → Int32} {fv : Nat → Int32} (h4 : n ≤ 4) : lkT (dueT n f ++ [(3038, true, k, fv)]) 3038 = some (true, k, fv) := by
  rcases (show n = 0 ∨ n = 1 ∨ n = 2 ∨ n = 3 ∨ n = 4 by omega) with rfl | rfl | rfl | rfl | rfl <;> rfl
def upF (f : Nat → Nat → Int32) (i : Nat) (g : Nat → Int32) : Nat → Nat → Int32 := fun j => if j = i then g else f j
theorem set_due {n i : Nat} {f : Nat → Nat → Int32} {g : Nat → Int32} {R : Tm} (hi : i < n) (h4 : n ≤ 4) : setT (dueT n f ++ R) (4000 + i) g = dueT n (upF f i g) ++ R := by
  rcases (show n = 1 ∨ n = 2 ∨ n = 3 ∨ n = 4 by omega) with rfl | rfl | rfl | rfl <;> rcases (show i = 0 ∨ i = 1 ∨ i = 2 ∨ i = 3 by omega) with rfl | rfl | rfl | rfl <;> first | omega | rfl
theorem mem_due {n : Nat} {f : Nat → Nat → Int32} {R : Tm} : (3153, false, n, fun _ => 0) ∈ dueT n f ++ R := List.mem_append_left _ List.mem_cons_self
theorem nb_950 {a i : Nat} (h : a = 4000 + i) : Nat.beq a 950 = false := by
  cases hq : Nat.beq a 950 with
  | false => rfl
  | true => have := Nat.eq_of_beq_eq_true hq; omega
theorem nb_3153 {a i : Nat} (h : a = 4000 + i) : Nat.beq a 3153 = false := by
  cases hq : Nat.beq a 3153 with
  | false => rfl
  | true => have := Nat.eq_of_beq_eq_true hq; omega
section LAW
variable {L : Nat} {xs : Nat → Int32} {Bd : Nat → Lv → List Value → JSt → Prop} {E : EnvK} {rk0 : Rk} {de0 : Nat → Int32}
set_option maxRecDepth 100000 in
set_option maxHeartbeats 4000000 in
theorem seg_end (H : JOk L xs 12 (jcl L xs 12) Bd (fun x _ => x = 1)) (hL : L ≤ 260) (h4 : rk0.length ≤ 4) (h12 : ∀ r, hgt rk0 r ≤ 12) (hok : ∀ (r l : Nat) (q : Lyr), (rk0.getD r [])[l]? = some q → okL q) (hE : 0 ≤ E.2.2.1.toInt ∧ E.2.2.1.toInt ≤ 99) (hd : de0 1 = 0) {M : Mem} {s : St} {T : Tm} {g : Nat} (hR : RX (600 * rk0.length + 2) M s) (hA : Away E rk0 de0 s) (hg : 40 ≤ g) :
    Bd 576 [(0, .ref 950), (1, .ref 0), (2, .int (nI rk0.length)), (3, .int E.2.2.1)] [] (M, T, g) := by
  obtain ⟨e1, e2, e3, e4⟩ := back_at hA
  have e5 : aLed (aBack s).2 (cI 1) = 0 := by
    unfold aLed
    rw [kv_1, if_pos (by omega), e3]
    exact hd
  refine H.1 400 _ _ _ _ (fun B vc sc Z hBB hV hS hZ => ?_)
  (conv => whnf); refine hV _ _ _ _ _ (v_back (g := 600 * rk0.length + 1) (RX_le hR (by omega))) (fun r M' e => ?_); obtain ⟨rfl, hR⟩ := e
  rw [e1]
  (conv => whnf); refine ⟨fun q => ?_, fun q => ?_⟩
  · exact absurd rfl q
  · (conv => whnf); refine hV _ _ _ _ _ (v_led (g := 600 * rk0.length) (RX_le hR (by omega))) (fun r M' e => ?_); obtain ⟨rfl, hR⟩ := e
    rw [e5]
    refine ⟨fun q2 => ?_, fun q2 => absurd rfl q2⟩
    conv => whnf
    have h0 := seg_ricks H hL h4 h12 hok hE rk0.length 0 M' (aBack s).2 T g (by omega) (RX_le hR (by omega)) e2 (by omega)
    exact hBB _ _ _ _ (Jsub H _ _ (sL_cons rfl (sL_cons rfl (sL_cons rfl (sL_cons rfl (sL_cons rfl (sL_nil)))))) (List.Sublist.refl _) h0)
def lvD (n : Nat) (v3 : Int32) (k : Nat) : Lv := [(0, .ref 950), (1, .ref 0), (2, .int (nI n)), (3, .int v3), (9, .ref 3153), (12, .int (nI k))]
set_option maxRecDepth 100000 in
set_option maxHeartbeats 4000000 in
theorem seg_cmp (H : JOk L xs 12 (jcl L xs 12) Bd (fun x _ => x = 1)) (hD : JDue Bd) (h4 : rk0.length ≤ 4) {G g : Nat} {v3 : Int32} {R : Tm} {fd : Nat → Nat → Int32} {s : St} (hA : Away E rk0 de0 s) (hx : ∀ r, r < rk0.length → fd r 0 = lX E (sK s) r) (hy : ∀ r, r < rk0.length → fd r 1 = lY E (sK s) r)
    (next : ∀ M, RX G M s → Bd 576 [(0, .ref 950), (1, .ref 0), (2, .int (nI rk0.length)), (3, .int v3)] [] (M, dueT rk0.length fd ++ R, g)) :
    ∀ (m k : Nat) (M : Mem), k + m = rk0.length → RX (2 * m + G) M s → Bd 528 (lvD rk0.length v3 k) [] (M, dueT rk0.length fd ++ R, g) := by
  have en := nI_v (n := rk0.length) (by omega)
  have v0 : vp_in (cI 0) 2 := nI_vp (c := 0) (by omega) (by omega)
  have v1 : vp_in (cI 1) 2 := nI_vp (c := 1) (by omega) (by omega)
  intro m
  induction m with
  | zero =>
    intro k M hk hR
    have ek := nI_v (n := k) (by omega)
    refine H.1 400 _ _ _ _ (fun B vc sc Z hBB hV hS hZ => ?_)
    (conv => whnf); refine ⟨fun q => ?_, fun q => ?_⟩
    · exact hBB _ _ _ _ (Jsub H _ _ (sL_cons rfl (sL_cons rfl (sL_cons rfl (sL_cons rfl (sL_nil))))) (List.Sublist.refl _) (next M (RX_le hR (by omega))))
    · simp only [c_lt, c_gt, c_le, c_ge, c_eq, c_ne, b2_z, b2_nz, b2_i, Classical.not_not, t0, t1, Nat.reduceMod, Nat.reduceDiv, Int.reduceAdd, Int.reduceNeg, Nat.reduceAdd, kv_m1, kv_0, kv_1, kv_2, kv_3, kv_4, kv_5, kv_6, kv_7, kv_8, kv_9, kv_10, kv_12, kv_13, kv_14, kv_15, kv_16, kv_19, kv_24, kv_100, kv_500, kc_0, kc_1, kc_2, kc_3, kc_4, kc_5, kc_6, kc_7, kc_8, kc_9, kc_10, kc_12, kc_13, kc_14, kc_15, kc_16, kc_19, kc_24, kc_100, kc_500] at q
      rw [ek, en] at q
      omega
  | succ m ih =>
    intro k M hk hR
    have ek := nI_v (n := k) (by omega)
    have hk4 : k < rk0.length := by omega
    have e3 : nI k + cI 1 = nI (k + 1) := nI_add k 1
    have ex := lean_x (s := s) (r := k) (by rw [hA.2.2]; exact hk4) (by rw [hA.2.2]; exact h4)
    have ey := lean_y (s := s) (r := k) (by rw [hA.2.2]; exact hk4) (by rw [hA.2.2]; exact h4)
    rw [hA.1, ← hx k hk4] at ex
    rw [hA.1, ← hy k hk4] at ey
    obtain ⟨a, ha⟩ : ∃ a, a = 4000 + k := ⟨_, rfl⟩
    have n1 := nb_950 ha
    have n2 := nb_3153 ha
    have hlk : lkT (dueT rk0.length fd ++ R) a = some (true, 2, fd k) := by rw [ha]; exact lk_due hk4 h4
    have second : ∀ M, RX (2 * m + G) M s → Bd 563 (lvD rk0.length v3 k) [.ref a, .int (fd k 1)] (M, dueT rk0.length fd ++ R, g) := by
      intro M hR
      refine H.1 400 _ _ _ _ (fun B vc sc Z hBB hV hS hZ => ?_)
      (conv => whnf)
      rw [n1, n2]
      refine ⟨true, 2, fd k, hlk, v1, ?_⟩
      rw [kc_1]
      (conv => whnf); refine ⟨fun q => ?_, fun q => ?_⟩
      · (conv => whnf)
        rw [e3]
        exact hBB _ _ _ _ (Jsub H _ _ (sL_cons rfl (sL_cons rfl (sL_cons rfl (sL_cons rfl (sL_cons rfl (sL_cons rfl (sL_nil))))))) (List.Sublist.refl _) (ih (k + 1) M (by omega) hR))
      · exact absurd rfl q
    have first : ∀ M, RX (1 + 2 * m + G) M s → Bd 546 (lvD rk0.length v3 k) [.ref a, .int (fd k 0)] (M, dueT rk0.length fd ++ R, g) := by
      intro M hR
      refine H.1 400 _ _ _ _ (fun B vc sc Z hBB hV hS hZ => ?_)
      (conv => whnf)
      rw [n1, n2]
      refine ⟨true, 2, fd k, hlk, v0, ?_⟩
      rw [kc_0]
      (conv => whnf); refine ⟨fun q => ?_, fun q => ?_⟩
      · exact absurd rfl q
      · (conv => whnf); refine hV _ _ _ _ _ (v_lean (g := 2 * m + G) (RX_le hR (by omega))) (fun r M' e => ?_); obtain ⟨rfl, hR⟩ := e
        rw [ey]
        (conv => whnf)
        refine hBB _ _ _ _ (hD.2 562 _ _ _ k rk0.length (Or.inr (Or.inr rfl)) mem_due hk4 h4 ?_)
        have h2 := second M' hR
        rw [ha] at h2
        exact h2
    refine H.1 400 _ _ _ _ (fun B vc sc Z hBB hV hS hZ => ?_)
    (conv => whnf); refine ⟨fun q => ?_, fun q => ?_⟩
    · simp only [c_lt, c_gt, c_le, c_ge, c_eq, c_ne, b2_z, b2_nz, b2_i, Classical.not_not, t0, t1, Nat.reduceMod, Nat.reduceDiv, Int.reduceAdd, Int.reduceNeg, Nat.reduceAdd, kv_m1, kv_0, kv_1, kv_2, kv_3, kv_4, kv_5, kv_6, kv_7, kv_8, kv_9, kv_10, kv_12, kv_13, kv_14, kv_15, kv_16, kv_19, kv_24, kv_100, kv_500, kc_0, kc_1, kc_2, kc_3, kc_4, kc_5, kc_6, kc_7, kc_8, kc_9, kc_10, kc_12, kc_13, kc_14, kc_15, kc_16, kc_19, kc_24, kc_100, kc_500] at q
      rw [ek, en] at q
      omega
    · (conv => whnf); refine hV _ _ _ _ _ (v_lean (g := 1 + 2 * m + G) (RX_le hR (by omega))) (fun r M' e => ?_); obtain ⟨rfl, hR⟩ := e
      rw [ex]
      (conv => whnf)
      refine hBB _ _ _ _ (hD.2 545 _ _ _ k rk0.length (Or.inr (Or.inl rfl)) mem_due hk4 h4 ?_)
      have h2 := first M' hR
      rw [ha] at h2
      exact h2
set_option maxRecDepth 100000 in
set_option maxHeartbeats 4000000 in
theorem seg_led (H : JOk L xs 12 (jcl L xs 12) Bd (fun x _ => x = 1)) {G g n c3 : Nat} {v3 v5 v6 v7 v10 : Int32} {T : Tm} {s : St} {M : Mem} (h0 : sDe s 0 = v10) (h1 : sDe s 1 = v5) (h2 : sDe s 2 = v6) (h3 : sDe s 3 = nI c3) (hc : c3 < 1000) (hdr : 0 < c3 ↔ 0 ≤ v7.toInt) (hR : RX (4 + G) M s)
    (next : ∀ M, RX G M s → Bd 528 (lvD n v3 0) [] (M, T, g)) :
    Bd 460 [(0, .ref 950), (1, .ref 0), (2, .int (nI n)), (3, .int v3), (5, .int v5), (6, .int v6), (7, .int v7), (9, .ref 3153), (10, .int v10), (11, .int v5)] [] (M, T, g) := by
  have ec := nI_v (n := c3) (by omega)
  have l0 : aLed s (cI 0) = v10 := by unfold aLed; rw [kv_0, if_pos (by omega)]; exact h0
  have l1 : aLed s (cI 1) = v5 := by unfold aLed; rw [kv_1, if_pos (by omega)]; exact h1
  have l2 : aLed s (cI 2) = v6 := by unfold aLed; rw [kv_2, if_pos (by omega)]; exact h2
  have l3 : aLed s (cI 3) = nI c3 := by unfold aLed; rw [kv_3, if_pos (by omega)]; exact h3
  refine H.1 400 _ _ _ _ (fun B vc sc Z hBB hV hS hZ => ?_)
  (conv => whnf); refine ⟨fun q => ?_, fun q => ?_⟩
  · exact absurd rfl q
  · (conv => whnf); refine hV _ _ _ _ _ (v_led (g := 3 + G) (RX_le hR (by omega))) (fun r M' e => ?_); obtain ⟨rfl, hR⟩ := e
    rw [l1]
    refine ⟨fun q => absurd rfl q, fun q => ?_⟩
    (conv => whnf); refine hV _ _ _ _ _ (v_led (g := 2 + G) (RX_le hR (by omega))) (fun r M' e => ?_); obtain ⟨rfl, hR⟩ := e
    rw [l2]
    refine ⟨fun q => absurd rfl q, fun q => ?_⟩
    (conv => whnf); refine hV _ _ _ _ _ (v_led (g := 1 + G) (RX_le hR (by omega))) (fun r M' e => ?_); obtain ⟨rfl, hR⟩ := e
    rw [l3]
    (conv => whnf); refine ⟨fun q3 => ?_, fun q3 => ?_⟩
    · simp only [c_lt, c_gt, c_le, c_ge, c_eq, c_ne, b2_z, b2_nz, b2_i, Classical.not_not, t0, t1, Nat.reduceMod, Nat.reduceDiv, Int.reduceAdd, Int.reduceNeg, Nat.reduceAdd, kv_m1, kv_0, kv_1, kv_2, kv_3, kv_4, kv_5, kv_6, kv_7, kv_8, kv_9, kv_10, kv_12, kv_13, kv_14, kv_15, kv_16, kv_19, kv_24, kv_100, kv_500, kc_0, kc_1, kc_2, kc_3, kc_4, kc_5, kc_6, kc_7, kc_8, kc_9, kc_10, kc_12, kc_13, kc_14, kc_15, kc_16, kc_19, kc_24, kc_100, kc_500] at q3
      rw [ec] at q3
      (conv => whnf); refine ⟨fun q4 => ?_, fun q4 => ?_⟩
      · (conv => whnf)
        refine ⟨fun q5 => absurd rfl q5, fun q5 => ?_⟩
        (conv => whnf); refine hV _ _ _ _ _ (v_led (g := G) (RX_le hR (by omega))) (fun r M' e => ?_); obtain ⟨rfl, hR⟩ := e
        rw [l0]
        refine ⟨fun q2 => ?_, fun q2 => absurd rfl q2⟩
        conv => whnf
        exact hBB _ _ _ _ (Jsub H _ _ (sL_cons rfl (sL_cons rfl (sL_cons rfl (sL_cons rfl (sL_cons rfl (sL_cons rfl (sL_nil))))))) (List.Sublist.refl _) (next M' hR))
      · simp only [c_lt, c_gt, c_le, c_ge, c_eq, c_ne, b2_z, b2_nz, b2_i, Classical.not_not, t0, t1, Nat.reduceMod, Nat.reduceDiv, Int.reduceAdd, Int.reduceNeg, Nat.reduceAdd, kv_m1, kv_0, kv_1, kv_2, kv_3, kv_4, kv_5, kv_6, kv_7, kv_8, kv_9, kv_10, kv_12, kv_13, kv_14, kv_15, kv_16, kv_19, kv_24, kv_100, kv_500, kc_0, kc_1, kc_2, kc_3, kc_4, kc_5, kc_6, kc_7, kc_8, kc_9, kc_10, kc_12, kc_13, kc_14, kc_15, kc_16, kc_19, kc_24, kc_100, kc_500] at q4
        omega
    · simp only [c_lt, c_gt, c_le, c_ge, c_eq, c_ne, b2_z, b2_nz, b2_i, Classical.not_not, t0, t1, Nat.reduceMod, Nat.reduceDiv, Int.reduceAdd, Int.reduceNeg, Nat.reduceAdd, kv_m1, kv_0, kv_1, kv_2, kv_3, kv_4, kv_5, kv_6, kv_7, kv_8, kv_9, kv_10, kv_12, kv_13, kv_14, kv_15, kv_16, kv_19, kv_24, kv_100, kv_500, kc_0, kc_1, kc_2, kc_3, kc_4, kc_5, kc_6, kc_7, kc_8, kc_9, kc_10, kc_12, kc_13, kc_14, kc_15, kc_16, kc_19, kc_24, kc_100, kc_500] at q3
      rw [ec] at q3
      (conv => whnf); refine ⟨fun q4 => ?_, fun q4 => ?_⟩
      · simp only [c_lt, c_gt, c_le, c_ge, c_eq, c_ne, b2_z, b2_nz, b2_i, Classical.not_not, t0, t1, Nat.reduceMod, Nat.reduceDiv, Int.reduceAdd, Int.reduceNeg, Nat.reduceAdd, kv_m1, kv_0, kv_1, kv_2, kv_3, kv_4, kv_5, kv_6, kv_7, kv_8, kv_9, kv_10, kv_12, kv_13, kv_14, kv_15, kv_16, kv_19, kv_24, kv_100, kv_500, kc_0, kc_1, kc_2, kc_3, kc_4, kc_5, kc_6, kc_7, kc_8, kc_9, kc_10, kc_12, kc_13, kc_14, kc_15, kc_16, kc_19, kc_24, kc_100, kc_500] at q4
        omega
      · (conv => whnf)
        refine ⟨fun q5 => absurd rfl q5, fun q5 => ?_⟩
        (conv => whnf); refine hV _ _ _ _ _ (v_led (g := G) (RX_le hR (by omega))) (fun r M' e => ?_); obtain ⟨rfl, hR⟩ := e
        rw [l0]
        refine ⟨fun q2 => ?_, fun q2 => absurd rfl q2⟩
        conv => whnf
        exact hBB _ _ _ _ (Jsub H _ _ (sL_cons rfl (sL_cons rfl (sL_cons rfl (sL_cons rfl (sL_cons rfl (sL_cons rfl (sL_nil))))))) (List.Sublist.refl _) (next M' hR))
end LAW
