/-! the search begun; hours added; a path kept -/
theorem sp_bestAt {d i : Nat} {M : Mem} (h : i < 12) : Call (d + 1) 37 [.ref 5, .int (nI i)] M (RV (some (.int (M.1 47 i))) M) := by
  have e := nI_v (n := i) (by omega)
  refine call_run 400 rfl rfl (fun B Cl Z hZ hB hC => ?_)
  (conv => whnf); refine ⟨fun a => ?_, fun a => ?_⟩
  · simp only [c_lt, c_gt, c_le, c_ge, c_eq, c_ne, b2_z, b2_nz, b2_i, Classical.not_not, t0, t1, Nat.reduceMod, Nat.reduceDiv, Int.reduceAdd, Int.reduceNeg, Nat.reduceAdd, kv_m2, e] at a
    omega
  (conv => whnf); refine ⟨fun a => ?_, fun a => ?_⟩
  · simp only [c_lt, c_gt, c_le, c_ge, c_eq, c_ne, b2_z, b2_nz, b2_i, Classical.not_not, t0, t1, Nat.reduceMod, Nat.reduceDiv, Int.reduceAdd, Int.reduceNeg, Nat.reduceAdd, kv_m2, e] at a
    replace a : (12 : Int) ≤ i := a
    omega
  (conv => whnf)
  refine ⟨nI_vp (by omega) (by omega), ?_⟩
  (conv => whnf)
  refine hZ _ _ ⟨v_eq ?_, rfl⟩
  rw [nI_c (by omega)]
theorem keep_loop {d n : Nat} (hn : n ≤ 12) : ∀ (k i : Nat) (M : Mem), i + k = n → BodyK (d + 1) 40 2 [(0, .ref 5), (1, .int (nI n)), (2, .int (nI i))] [] M (fun v M' => v = none ∧ Fr [47] M M' ∧ ∀ j, M'.1 47 j = if i ≤ j ∧ j < n then M.1 46 j else M.1 47 j) := by
  have en := nI_v (n := n) (by omega)
  intro k
  induction k with
  | zero =>
    intro i M hi
    have e := nI_v (n := i) (by omega)
    refine body_run 400 rfl (fun B Cl Z hZ hB hC => ?_)
    (conv => whnf); refine ⟨fun b => ?_, fun b => ?_⟩
    · conv => whnf
      refine hZ _ _ ⟨rfl, Fr_refl, fun j => ?_⟩
      rw [if_neg (by omega)]
    · simp only [c_lt, c_gt, c_le, c_ge, c_eq, c_ne, b2_z, b2_nz, b2_i, Classical.not_not, t0, t1, Nat.reduceMod, Nat.reduceDiv, Int.reduceAdd, Int.reduceNeg, Nat.reduceAdd, kv_0, kv_1, kv_12, kc_0, kc_1, kc_12, e, en] at b
      omega
  | succ k ih =>
    intro i M hi
    have e := nI_v (n := i) (by omega)
    refine body_run 400 rfl (fun B Cl Z hZ hB hC => ?_)
    (conv => whnf); refine ⟨fun b => ?_, fun b => ?_⟩
    · simp only [c_lt, c_gt, c_le, c_ge, c_eq, c_ne, b2_z, b2_nz, b2_i, Classical.not_not, t0, t1, Nat.reduceMod, Nat.reduceDiv, Int.reduceAdd, Int.reduceNeg, Nat.reduceAdd, kv_0, kv_1, kv_12, kc_0, kc_1, kc_12, e, en] at b
      omega
    (conv => whnf); refine ⟨fun b => ?_, fun b => ?_⟩
    · simp only [c_lt, c_gt, c_le, c_ge, c_eq, c_ne, b2_z, b2_nz, b2_i, Classical.not_not, t0, t1, Nat.reduceMod, Nat.reduceDiv, Int.reduceAdd, Int.reduceNeg, Nat.reduceAdd, kv_0, kv_1, kv_12, kc_0, kc_1, kc_12, e] at b
      omega
    (conv => whnf)
    refine ⟨nI_vp (by omega) (by omega), ?_⟩
    (conv => whnf)
    refine ⟨nI_vp (by omega) (by omega), ?_⟩
    (conv => whnf)
    rw [nI_c (n := i) (by omega)]
    refine hB _ _ _ _ (Body_lv (Body_mono (ih (i + 1) _ (by omega)) (fun w M' q => ⟨q.1, Fr_trans (Fr_mI Fr_refl (by decide)) q.2.1, fun j => ?_⟩)) ⟨rfl, rfl, v_eq (nI_i1 i), trivial⟩)
    rw [q.2.2 j, mI_ne _ _ _ (by decide)]
    simp only [mI_at, true_and]
    by_cases z : j = i
    · subst z
      rw [if_neg (by omega), if_pos rfl, if_pos (by omega)]
    · by_cases z2 : i ≤ j ∧ j < n
      · rw [if_pos (by omega), if_pos z2]
      · rw [if_neg (by omega), if_neg z, if_neg z2]
theorem sp_keepPath {d n : Nat} {M : Mem} (hn : n ≤ 12) : Call (d + 1) 40 [.ref 5, .int (nI n)] M (fun v M' => v = none ∧ Fr [47] M M' ∧ ∀ j, j < n → M'.1 47 j = M.1 46 j) := by
  refine call_run 400 rfl rfl (fun B Cl Z hZ hB hC => ?_)
  conv => whnf
  exact hB _ _ _ _ (Body_lv (Body_mono (keep_loop hn n 0 M (by omega)) (fun v M' q => ⟨q.1, q.2.1, fun j hj => by rw [q.2.2 j, if_pos ⟨Nat.zero_le _, hj⟩]⟩)) ⟨rfl, rfl, rfl, trivial⟩)
/-- the numbers of the first layers, copied -/
theorem begin_loop {d r : Nat} {rk : Rk} (hr : r < rk.length) : ∀ (n i : Nat) (M : Mem), i + n = hgt rk r → RY M 10 rk → M.1 5 5 = nI (hgt rk r) → (∀ l q, l < i → (rk.getD r [])[l]? = some q → ∀ j, j < 4 → M.1 44 (l * 4 + j) = nI (lyF q j)) →
    BodyK (d + 3) 35 22 [(0, .ref 5), (1, .ref 10), (2, .int (nI r)), (4, .int (nI i))] [] M (fun v M' => v = none ∧ Fr [44, 45] M M' ∧ (∀ l q, (rk.getD r [])[l]? = some q → ∀ j, j < 4 → M'.1 44 (l * 4 + j) = nI (lyF q j)) ∧ ∀ p, p < 1728 → M'.1 45 p = cI (-1)) := by
  intro n
  induction n with
  | zero =>
    intro i M hi h hs hc
    have hh := h.2.2.2.1 r
    have e := nI_v (n := i) (by omega)
    have e2 := nI_v (n := hgt rk r) (by omega)
    refine body_run 400 rfl (fun B Cl Z hZ hB hC => ?_)
    (conv => whnf); refine ⟨fun b => ?_, fun b => ?_⟩
    · (conv => whnf)
      refine hC _ _ _ _ _ (sp_fillI (d := d + 1) (Or.inl ⟨rfl, rfl⟩)) (fun v M1 q => ?_)
      obtain ⟨rfl, q2, q3⟩ := q
      (conv => whnf)
      refine hZ _ _ ⟨rfl, Fr_sub q2 (by decide), fun l q hq j hj => ?_, q3⟩
      rw [Fr_1 q2 44 (by decide)]
      exact hc l q (by have := ly_lt hq; omega) hq j hj
    · simp only [c_lt, c_gt, c_le, c_ge, c_eq, c_ne, b2_z, b2_nz, b2_i, Classical.not_not, t0, t1, Nat.reduceMod, Nat.reduceDiv, Int.reduceAdd, Int.reduceNeg, Nat.reduceAdd, kv_m1, kv_0, kv_1, kv_3, kv_4, kv_12, kc_0, kc_1, kc_3, kc_4, kc_12, hs, e, e2] at b
      omega
  | succ n ih =>
    intro i M hi h hs hc
    have hh := h.2.2.2.1 r
    have e := nI_v (n := i) (by omega)
    have e2 := nI_v (n := hgt rk r) (by omega)
    obtain ⟨q0, hq0⟩ := ly_at (rk := rk) (r := r) (l := i) (by omega)
    have inner : ∀ (k j : Nat) (M : Mem), j + k = 4 → RY M 10 rk → M.1 5 5 = nI (hgt rk r) → (∀ l q, l < i → (rk.getD r [])[l]? = some q → ∀ j, j < 4 → M.1 44 (l * 4 + j) = nI (lyF q j)) → (∀ j', j' < j → M.1 44 (i * 4 + j') = nI (lyF q0 j')) →
        BodyK (d + 3) 35 34 [(0, .ref 5), (1, .ref 10), (2, .int (nI r)), (4, .int (nI i)), (5, .int (nI j))] [] M (fun v M' => v = none ∧ Fr [44, 45] M M' ∧ (∀ l q, (rk.getD r [])[l]? = some q → ∀ j, j < 4 → M'.1 44 (l * 4 + j) = nI (lyF q j)) ∧ ∀ p, p < 1728 → M'.1 45 p = cI (-1)) := by
      intro k
      induction k with
      | zero =>
        intro j M hj h hs hc hd
        have ej := nI_v (n := j) (by omega)
        refine body_run 400 rfl (fun B Cl Z hZ hB hC => ?_)
        (conv => whnf); refine ⟨fun b => ?_, fun b => ?_⟩
        · (conv => whnf)
          refine hB _ _ _ _ (Body_lv (ih (i + 1) M (by omega) h hs (fun l q hl hq j hj => ?_)) ⟨rfl, rfl, rfl, v_eq (nI_i1 i), trivial⟩)
          rcases Nat.lt_or_ge l i with z | z
          · exact hc l q z hq j hj
          · obtain rfl : l = i := by omega
            rw [hq0] at hq
            cases hq
            exact hd j (by omega)
        · simp only [c_lt, c_gt, c_le, c_ge, c_eq, c_ne, b2_z, b2_nz, b2_i, Classical.not_not, t0, t1, Nat.reduceMod, Nat.reduceDiv, Int.reduceAdd, Int.reduceNeg, Nat.reduceAdd, kv_m1, kv_0, kv_1, kv_3, kv_4, kv_12, kc_0, kc_1, kc_3, kc_4, kc_12, ej] at b
          omega
      | succ k ihk =>
        intro j M hj h hs hc hd
        have ej := nI_v (n := j) (by omega)
        have x1 : nI i * cI 4 + nI j = nI (i * 4 + j) := by simp only [cn_0, cn_1, cn_3, cn_4, cn_12, nI_add, nI_mul]
        refine body_run 400 rfl (fun B Cl Z hZ hB hC => ?_)
        (conv => whnf); refine ⟨fun b => ?_, fun b => ?_⟩
        · simp only [c_lt, c_gt, c_le, c_ge, c_eq, c_ne, b2_z, b2_nz, b2_i, Classical.not_not, t0, t1, Nat.reduceMod, Nat.reduceDiv, Int.reduceAdd, Int.reduceNeg, Nat.reduceAdd, kv_m1, kv_0, kv_1, kv_3, kv_4, kv_12, kc_0, kc_1, kc_3, kc_4, kc_12, ej] at b
          omega
        (conv => whnf); refine ret_k hC (sp_number (by simp [isYd]) h hq0 (show j < 4 by omega)) ?_
        (conv => whnf)
        rw [x1]
        refine ⟨nI_vp (by omega) (by omega), ?_⟩
        (conv => whnf)
        rw [nI_c (n := i * 4 + j) (by omega)]
        have hF : Fr [44] M (mI M 44 (i * 4 + j) (nI (lyF q0 j))) := Fr_mI Fr_refl (by decide)
        refine hB _ _ _ _ (Body_lv (Body_mono (ihk (j + 1) _ (by omega) (RY_fr h hF (by decide)) (by rw [Fr_1 hF 5 (by decide)]; exact hs) (fun l q hl hq j' hj' => ?_) (fun j' hj' => ?_)) (fun v M' q => ⟨q.1, Fr_trans (Fr_sub hF (by decide)) q.2.1, q.2.2⟩)) ⟨rfl, rfl, rfl, rfl, v_eq (nI_i1 j), trivial⟩)
        · rw [mI_at, if_neg (by omega)]
          exact hc l q hl hq j' hj'
        · rw [mI_at]
          by_cases z : j' = j
          · subst z
            rw [if_pos ⟨rfl, rfl⟩]
          · rw [if_neg (by omega)]
            exact hd j' (by omega)
    refine body_run 400 rfl (fun B Cl Z hZ hB hC => ?_)
    (conv => whnf); refine ⟨fun b => ?_, fun b => ?_⟩
    · simp only [c_lt, c_gt, c_le, c_ge, c_eq, c_ne, b2_z, b2_nz, b2_i, Classical.not_not, t0, t1, Nat.reduceMod, Nat.reduceDiv, Int.reduceAdd, Int.reduceNeg, Nat.reduceAdd, kv_m1, kv_0, kv_1, kv_3, kv_4, kv_12, kc_0, kc_1, kc_3, kc_4, kc_12, hs, e, e2] at b
      omega
    · (conv => whnf)
      exact hB _ _ _ _ (Body_lv (inner 4 0 M rfl h hs hc (fun j' hj' => absurd hj' (Nat.not_lt_zero _))) ⟨rfl, rfl, rfl, rfl, rfl, trivial⟩)
/-- the cache is empty still -/
def RSe (M : Mem) (ls : List Lyr) (sell : Bool) : Prop := RSn M ls ∧ M.1 5 6 = bI sell ∧ ∀ p, p < 1728 → M.1 45 p = cI (-1)
theorem RSe_r {M : Mem} {E : EnvK} {ls : List Lyr} {sell : Bool} (h : RSe M ls sell) : RSr M E ls sell := ⟨h.1, h.2.1, fun i b ab h1 h2 h3 => Or.inl (h.2.2 _ (by omega))⟩
def AS : List Nat := [5, 44, 45]
theorem sp_sbegin {d r : Nat} {M : Mem} {rk : Rk} {sell : Bool} (h : RY M 10 rk) (hr : r < rk.length) : Call (d + 3) 35 [.ref 5, .ref 10, .int (nI r), .int (bI sell)] M (fun v M' => v = none ∧ Fr AS M M' ∧ RSe M' (rk.getD r []) sell) := by
  have hh := h.2.2.2.1 r
  have hr4 := h.2.1
  have e2 := nI_v (n := hgt rk r) (by omega)
  have hmin : (if nI 12 < nI (hgt rk r) then nI 12 else nI (hgt rk r)) = nI (hgt rk r) := by
    rw [if_neg]
    rw [Int32.lt_iff_toInt_lt, e2, nI_v (by omega)]
    omega
  refine call_run 400 rfl rfl (fun B Cl Z hZ hB hC => ?_)
  (conv => whnf); refine ret_k hC (sp_height (by simp [isYd]) h (by omega)) ?_
  (conv => whnf)
  refine ⟨bI_01 sell, ?_⟩
  (conv => whnf)
  have hm : ∀ M1, M1 = mI (mI M 5 5 (nI (hgt rk r))) 5 6 (bI sell) → BodyK (d + 3) 35 22 [(0, .ref 5), (1, .ref 10), (2, .int (nI r)), (4, .int (nI 0))] [] M1 (fun v M' => v = none ∧ Fr AS M M' ∧ RSe M' (rk.getD r []) sell) := by
    intro M1 hM
    have hF : Fr [5] M M1 := by rw [hM]; exact Fr_mI (Fr_mI Fr_refl (by decide)) (by decide)
    have h5 : M1.1 5 5 = nI (hgt rk r) := by rw [hM, mI_2 _ _ (by decide), mI_1]
    have h6 : M1.1 5 6 = bI sell := by rw [hM, mI_1]
    refine Body_mono (begin_loop (d := d) hr (hgt rk r) 0 M1 (by omega) (RY_fr h hF (by decide)) h5 (fun l q hl => absurd hl (Nat.not_lt_zero _))) (fun v M' q => ⟨q.1, Fr_trans (Fr_sub hF (by decide)) (Fr_sub q.2.1 (by decide)), ⟨?_, hh, fun i p hp => ⟨(h.2.2.2.2 r i p hp).1, q.2.2.1 i p hp⟩⟩, ?_, q.2.2.2⟩)
    · rw [Fr_1 q.2.1 5 (by decide)]; exact h5
    · rw [Fr_1 q.2.1 5 (by decide)]; exact h6
  exact hB _ _ _ _ (Body_lv (hm _ (congrArg (fun z => mI (mI M 5 5 z) 5 6 (bI sell)) hmin)) ⟨rfl, rfl, rfl, rfl, trivial⟩)
theorem sp_addHour {d n : Nat} {M : Mem} {ls : List Lyr} {sell : Bool} (h : RSe M ls sell) (hl : ls.length < 12) (hq : okL (lyN n)) (hn : n < 1000) : Call (d + 1) 36 [.ref 5, .int (nI n)] M (fun v M' => v = none ∧ Fr [5, 44] M M' ∧ RSe M' (ls ++ [lyN n]) sell) := by
  obtain ⟨⟨h1, h2, h3⟩, h4, h5⟩ := h
  have e := nI_v (n := ls.length) (by omega)
  have w1 : nI n / cI 10 - nI n / cI 10 / cI 10 * cI 10 = nI (n / 10 % 10) := by
    rw [show nI n / cI 10 = nI (n / 10) from nI_div (b := 10) (by omega) (by decide)]; exact nI_rem (b := 10) (by omega) (by decide)
  have w2 : nI n / cI 100 = nI (n / 100) := nI_div (b := 100) (by omega) (by decide)
  have w3 : nI n - nI n / cI 10 * cI 10 = nI (n % 10) := nI_rem (b := 10) (by omega) (by decide)
  have y : ∀ k, nI ls.length * cI 4 + nI k = nI (ls.length * 4 + k) := fun k => by simp only [cn_0, cn_1, cn_2, cn_3, cn_4, cn_10, cn_12, cn_100, nI_add, nI_mul]
  have y0 : nI ls.length * cI 4 + cI 0 = nI (ls.length * 4 + 0) := y 0
  have y1 : nI ls.length * cI 4 + cI 1 = nI (ls.length * 4 + 1) := y 1
  have y2 : nI ls.length * cI 4 + cI 2 = nI (ls.length * 4 + 2) := y 2
  have y3 : nI ls.length * cI 4 + cI 3 = nI (ls.length * 4 + 3) := y 3
  have n44 : ((5 : Nat) = 44) = False := by simp
  refine call_run 400 rfl rfl (fun B Cl Z hZ hB hC => ?_)
  (conv => whnf); refine ⟨fun a => ?_, fun a => ?_⟩
  · simp only [c_lt, c_gt, c_le, c_ge, c_eq, c_ne, b2_z, b2_nz, b2_i, Classical.not_not, t0, t1, Nat.reduceMod, Nat.reduceDiv, Int.reduceAdd, Int.reduceNeg, Nat.reduceAdd, kv_0, kv_1, kv_2, kv_3, kv_4, kv_10, kv_12, kv_100, kc_0, kc_1, kc_2, kc_3, kc_4, kc_10, kc_12, kc_100, h1, e] at a
    omega
  (conv => whnf)
  refine ⟨by decide, ?_⟩
  (conv => whnf)
  refine ⟨by decide, ?_⟩
  (conv => whnf)
  simp only [Nat.reduceMod, h1, y0, w1]
  refine ⟨nI_vp (by omega) (by omega), ?_⟩
  (conv => whnf)
  refine ⟨by decide, ?_⟩
  (conv => whnf)
  simp only [Nat.reduceMod, mI_at, n44, false_and, if_false, h1, y1, w2, nI_c (n := ls.length * 4 + 0) (show ls.length * 4 + 0 < 2147483648 by omega)]
  refine ⟨nI_vp (by omega) (by omega), ?_⟩
  (conv => whnf)
  refine ⟨by decide, ?_⟩
  (conv => whnf)
  simp only [Nat.reduceMod, mI_at, n44, false_and, if_false, h1, y2, w3, nI_c (n := ls.length * 4 + 1) (show ls.length * 4 + 1 < 2147483648 by omega)]
  refine ⟨nI_vp (by omega) (by omega), ?_⟩
  (conv => whnf)
  simp only [Nat.reduceMod, mI_at, n44, false_and, if_false, h1, y3, nI_c (n := ls.length * 4 + 2) (show ls.length * 4 + 2 < 2147483648 by omega)]
  refine ⟨nI_vp (by omega) (by omega), ?_⟩
  (conv => whnf)
  simp only [Nat.reduceMod, mI_at, n44, false_and, if_false, h1, nI_i1, nI_c (n := ls.length * 4 + 3) (show ls.length * 4 + 3 < 2147483648 by omega)]
  refine hZ _ _ ⟨rfl, Fr_mI (Fr_mI (Fr_mI (Fr_mI (Fr_mI Fr_refl (by decide)) (by decide)) (by decide)) (by decide)) (by decide), ⟨?_, by simp; omega, fun i q hq2 => ?_⟩, ?_, fun p hp => ?_⟩
  · rw [mI_1]; simp
  · rcases Nat.lt_or_ge i ls.length with z | z
    · rw [List.getElem?_append_left z] at hq2
      refine ⟨(h3 i q hq2).1, fun j hj => ?_⟩
      rw [mI_ne _ _ _ (by decide)]
      simp only [mI_at, true_and]
      rw [if_neg (by omega), if_neg (by omega), if_neg (by omega), if_neg (by omega)]
      exact (h3 i q hq2).2 j hj
    · have := (List.getElem?_eq_some_iff.mp hq2).1
      simp at this
      obtain rfl : i = ls.length := by omega
      rw [List.getElem?_append_right (Nat.le_refl _), Nat.sub_self] at hq2
      have : lyN n = q := by simpa using hq2
      subst this
      refine ⟨hq, fun j hj => ?_⟩
      rw [mI_ne _ _ _ (by decide)]
      simp only [mI_at, true_and]
      match j, hj with
      | 0, _ => simp [lyN, lyF]
      | 1, _ => simp [lyN, lyF]
      | 2, _ => simp [lyN, lyF]
      | 3, _ => simp [lyN, lyF]; rfl
  · rw [mI_2 _ _ (by decide)]
    simp only [mI_at, n44, false_and, if_false]
    exact h4
  · simp only [mI_at]
    simp
    exact h5 p hp
