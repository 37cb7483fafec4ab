/-! taking out, becoming another, telling by name -/
def isYT (y : Nat) : Prop := y = 10 ∨ y = 18
theorem take2_loop {d : Nat} {y r P A H : Nat} (hy : isYT y) (hr : r < 4) (hP : P + A + 1 ≤ 48) (hH : 1 ≤ H) : ∀ (n i : Nat) (M : Mem), i + n = (P + A) * 4 → M.1 (y + 3) r = nI H →
    BodyK (d + 1) 72 84 [(0, .ref y), (1, .int (nI r)), (3, .int (nI P)), (4, .int (nI A)), (5, .int (nI i))] [] M (fun v M' => v = none ∧ Fr [y + 1, y + 3] M M' ∧ (∀ j, M'.1 (y + 3) j = if j = r then nI (H - 1) else M.1 (y + 3) j) ∧ ∀ j, M'.1 (y + 1) j = if i ≤ j ∧ j < (P + A) * 4 then M.1 (y + 1) (j + 4) else M.1 (y + 1) j) := by
  intro n
  induction n with
  | zero =>
    intro i M hi hM
    have e := nI_v (n := i) (by omega)
    have x1 : (nI P + nI A) * cI 4 = nI ((P + A) * 4) := by simp only [cn_0, cn_1, cn_4, cn_12, nI_add, nI_mul]
    have e2 := nI_v (n := (P + A) * 4) (by omega)
    rcases hy with rfl | rfl <;>
    · refine body_run 400 rfl (fun B Cl Z hZ hB hC => ?_)
      (conv => whnf); refine ⟨fun b => ?_, fun b => ?_⟩
      · (conv => whnf)
        refine ⟨nI_vp (by omega) (by omega), ?_⟩
        (conv => whnf)
        refine ⟨nI_vp (by omega) (by omega), ?_⟩
        (conv => whnf)
        rw [nI_c (by omega)]
        refine hZ _ _ ⟨rfl, Fr_mI Fr_refl (by decide), fun j => ?_, fun j => ?_⟩
        · simp only [mI_at, true_and]
          split
          · exact (congrArg (fun z => z - cI 1) hM).trans (nI_sub (b := 1) hH)
          · rfl
        · rw [mI_ne _ _ _ (by decide), if_neg (by omega)]
      · rw [x1] at b
        simp only [c_lt, c_gt, c_le, c_ge, c_eq, c_ne, b2_z, b2_nz, b2_i, Classical.not_not, t0, t1, Nat.reduceMod, Nat.reduceDiv, Int.reduceAdd, Int.reduceNeg, Nat.reduceAdd, kv_0, kv_1, kv_4, kv_12, kc_0, kc_1, kc_4, kc_12, e, e2] at b
        omega
  | succ n ih =>
    intro i M hi hM
    have e := nI_v (n := i) (by omega)
    have x1 : (nI P + nI A) * cI 4 = nI ((P + A) * 4) := by simp only [cn_0, cn_1, cn_4, cn_12, nI_add, nI_mul]
    have x2 : nI i + cI 4 = nI (i + 4) := nI_add i 4
    have e2 := nI_v (n := (P + A) * 4) (by omega)
    have e3 := nI_v (n := i + 4) (by omega)
    rcases id hy with rfl | rfl <;>
    · refine body_run 400 rfl (fun B Cl Z hZ hB hC => ?_)
      (conv => whnf); refine ⟨fun b => ?_, fun b => ?_⟩
      · rw [x1] at b
        simp only [c_lt, c_gt, c_le, c_ge, c_eq, c_ne, b2_z, b2_nz, b2_i, Classical.not_not, t0, t1, Nat.reduceMod, Nat.reduceDiv, Int.reduceAdd, Int.reduceNeg, Nat.reduceAdd, kv_0, kv_1, kv_4, kv_12, kc_0, kc_1, kc_4, kc_12, e, e2] at b
        omega
      · (conv => whnf); refine ⟨fun c => ?_, fun c => ?_⟩
        · rw [x2] at c
          simp only [c_lt, c_gt, c_le, c_ge, c_eq, c_ne, b2_z, b2_nz, b2_i, Classical.not_not, t0, t1, Nat.reduceMod, Nat.reduceDiv, Int.reduceAdd, Int.reduceNeg, Nat.reduceAdd, kv_0, kv_1, kv_4, kv_12, kc_0, kc_1, kc_4, kc_12, e3] at c
          replace c : (192 : Int) ≤ ((i + 4 : Nat) : Int) := c
          omega
        · (conv => whnf)
          rw [x2]
          refine ⟨nI_vp (by omega) (by omega), ?_⟩
          (conv => whnf)
          refine ⟨nI_vp (by omega) (by omega), ?_⟩
          (conv => whnf)
          rw [nI_c (n := i) (by omega), nI_c (n := i + 4) (by omega)]
          refine hB _ _ _ _ (Body_lv (Body_mono (ih (i + 1) _ (by omega) (by rw [mI_ne _ _ _ (by decide)]; exact hM)) (fun v M' q => ?_)) ⟨rfl, rfl, rfl, rfl, v_eq (nI_i1 i), trivial⟩)
          obtain ⟨q1, q2, q3, q4⟩ := q
          refine ⟨q1, Fr_trans (Fr_mI Fr_refl (by decide)) q2, fun j => by rw [q3 j, mI_ne _ _ _ (by decide)], fun j => ?_⟩
          rw [q4 j]
          simp only [mI_at, true_and]
          by_cases z : j = i
          · subst z
            rw [if_neg (by omega), if_pos rfl, if_pos (by omega)]
          · by_cases z2 : i ≤ j ∧ j < (P + A) * 4
            · rw [if_pos (by omega), if_neg (by omega), if_pos z2]
            · rw [if_neg (by omega), if_neg z, if_neg z2]
theorem take1_loop {d : Nat} {y r P A H : Nat} (hy : isYT y) (hr : r < 4) (hP : P + A + 1 ≤ 48) (hH : 1 ≤ H) : ∀ (n i : Nat) (M : Mem), i + n = A → M.1 (y + 3) r = nI H →
    BodyK (d + 1) 72 32 [(0, .ref y), (1, .int (nI r)), (3, .int (nI P)), (4, .int (nI A)), (5, .int (nI i))] [] M (fun v M' => v = none ∧ Fr [y + 1, y + 2, y + 3] M M' ∧ (∀ j, M'.1 (y + 3) j = if j = r then nI (H - 1) else M.1 (y + 3) j) ∧ (∀ j, M'.1 (y + 1) j = if P * 4 ≤ j ∧ j < (P + A) * 4 then M.1 (y + 1) (j + 4) else M.1 (y + 1) j) ∧
      ∀ j, M'.1 (y + 2) j = if P + i ≤ j ∧ j < P + A then M.1 (y + 2) (j + 1) else M.1 (y + 2) j) := by
  intro n
  induction n with
  | zero =>
    intro i M hi hM
    have e := nI_v (n := i) (by omega)
    have e2 := nI_v (n := A) (by omega)
    have x1 : nI P * cI 4 = nI (P * 4) := by simp only [cn_0, cn_1, cn_4, cn_12, nI_add, nI_mul]
    have h2 := take2_loop (d := d) hy hr hP hH (A * 4) (P * 4) M (by omega) hM
    rcases hy with rfl | rfl <;>
    · refine body_run 400 rfl (fun B Cl Z hZ hB hC => ?_)
      (conv => whnf); refine ⟨fun b => ?_, fun b => ?_⟩
      · (conv => whnf)
        refine hB _ _ _ _ (Body_lv (Body_mono h2 (fun v M' q => ?_)) ⟨rfl, rfl, rfl, rfl, v_eq x1, trivial⟩)
        obtain ⟨q1, q2, q3, q4⟩ := q
        refine ⟨q1, Fr_sub q2 (by decide), q3, q4, fun j => ?_⟩
        rw [Fr_1 q2 _ (by decide), if_neg (by omega)]
      · simp only [c_lt, c_gt, c_le, c_ge, c_eq, c_ne, b2_z, b2_nz, b2_i, Classical.not_not, t0, t1, Nat.reduceMod, Nat.reduceDiv, Int.reduceAdd, Int.reduceNeg, Nat.reduceAdd, kv_0, kv_1, kv_4, kv_12, kc_0, kc_1, kc_4, kc_12, e, e2] at b
        omega
  | succ n ih =>
    intro i M hi hM
    have e := nI_v (n := i) (by omega)
    have e2 := nI_v (n := A) (by omega)
    have x1 : nI P + nI i + cI 1 = nI (P + i + 1) := by simp only [cn_0, cn_1, cn_4, cn_12, nI_add, nI_mul]
    have x2 : nI P + nI i = nI (P + i) := nI_add _ _
    have e3 := nI_v (n := P + i + 1) (by omega)
    rcases id hy with rfl | rfl <;>
    · refine body_run 400 rfl (fun B Cl Z hZ hB hC => ?_)
      (conv => whnf); refine ⟨fun b => ?_, fun b => ?_⟩
      · simp only [c_lt, c_gt, c_le, c_ge, c_eq, c_ne, b2_z, b2_nz, b2_i, Classical.not_not, t0, t1, Nat.reduceMod, Nat.reduceDiv, Int.reduceAdd, Int.reduceNeg, Nat.reduceAdd, kv_0, kv_1, kv_4, kv_12, kc_0, kc_1, kc_4, kc_12, e, e2] at b
        omega
      · (conv => whnf); refine ⟨fun c => ?_, fun c => ?_⟩
        · rw [x1] at c
          simp only [c_lt, c_gt, c_le, c_ge, c_eq, c_ne, b2_z, b2_nz, b2_i, Classical.not_not, t0, t1, Nat.reduceMod, Nat.reduceDiv, Int.reduceAdd, Int.reduceNeg, Nat.reduceAdd, kv_0, kv_1, kv_4, kv_12, kc_0, kc_1, kc_4, kc_12, e3] at c
          replace c : (48 : Int) ≤ ((P + i + 1 : Nat) : Int) := c
          omega
        · (conv => whnf)
          rw [x1]
          refine ⟨nI_vp (by omega) (by omega), ?_⟩
          (conv => whnf)
          rw [x2]
          refine ⟨nI_vp (by omega) (by omega), ?_⟩
          (conv => whnf)
          rw [nI_c (n := P + i) (by omega), nI_c (n := P + i + 1) (by omega)]
          refine hB _ _ _ _ (Body_lv (Body_mono (ih (i + 1) _ (by omega) (by rw [mI_ne _ _ _ (by decide)]; exact hM)) (fun v M' q => ?_)) ⟨rfl, rfl, rfl, rfl, v_eq (nI_i1 i), trivial⟩)
          obtain ⟨q1, q2, q3, q4, q5⟩ := q
          refine ⟨q1, Fr_trans (Fr_mI Fr_refl (by decide)) q2, fun j => by rw [q3 j, mI_ne _ _ _ (by decide)], fun j => by rw [q4 j, mI_ne _ _ _ (by decide)], fun j => ?_⟩
          rw [q5 j]
          simp only [mI_at, true_and]
          by_cases z : j = P + i
          · subst z
            rw [if_neg (by omega), if_pos rfl, if_pos (by omega)]
          · by_cases z2 : P + i ≤ j ∧ j < P + A
            · rw [if_pos (by omega), if_neg (by omega), if_pos z2]
            · rw [if_neg (by omega), if_neg z, if_neg z2]
def cutR (rk : Rk) (r l : Nat) : Rk := rk.set r ((rk.getD r []).eraseIdx l)
theorem RY_cut {M M' : Mem} {y r l : Nat} {rk : Rk} (h : RY M y rk) (hl : l < hgt rk r) (h0 : M'.1 y = M.1 y) (h3 : ∀ j, M'.1 (y + 3) j = if j = r then nI (hgt rk r - 1) else M.1 (y + 3) j)
    (h1 : ∀ j, M'.1 (y + 1) j = if (12 * r + l) * 4 ≤ j ∧ j < (12 * r + hgt rk r - 1) * 4 then M.1 (y + 1) (j + 4) else M.1 (y + 1) j) : RY M' y (cutR rk r l) := by
  obtain ⟨a1, a2, a3, a4, a5⟩ := h
  have hr := hgt_lt hl
  have hll : (cutR rk r l).length = rk.length := by simp [cutR]
  have hg : ∀ r', hgt (cutR rk r l) r' = if r' = r then hgt rk r - 1 else hgt rk r' := by
    intro r'
    unfold hgt cutR
    rw [getD_set hr]
    split
    · rw [List.length_eraseIdx]; exact if_pos hl
    · rfl
  have hh := a4 r
  refine ⟨by rw [h0, a1, hll], by rw [hll]; exact a2, fun r' hr' => ?_, fun r' => ?_, fun r' l' q' hq' => ?_⟩
  · rw [h3, hg]
    split
    · rfl
    · exact a3 r' hr'
  · rw [hg]
    split
    · omega
    · exact a4 r'
  · unfold cutR at hq'
    rw [getD_set hr] at hq'
    by_cases e : r' = r
    · subst e
      rw [if_pos rfl, List.getElem?_eraseIdx] at hq'
      by_cases z : l' < l
      · rw [if_pos z] at hq'
        obtain ⟨b1, b2⟩ := a5 r' l' q' hq'
        refine ⟨b1, fun j hj => ?_⟩
        rw [h1, if_neg (by omega)]
        exact b2 j hj
      · rw [if_neg z] at hq'
        obtain ⟨b1, b2⟩ := a5 r' (l' + 1) q' hq'
        have hl2 := ly_lt hq'
        refine ⟨b1, fun j hj => ?_⟩
        rw [h1, if_pos (by omega), ← b2 j hj]
        exact congrArg (M.1 (y + 1)) (by omega)
    · rw [if_neg e] at hq'
      obtain ⟨b1, b2⟩ := a5 r' l' q' hq'
      have hl2 := ly_lt hq'
      have := a4 r'
      refine ⟨b1, fun j hj => ?_⟩
      rw [h1, if_neg (by omega)]
      exact b2 j hj
theorem sp_takeOut {d : Nat} {M : Mem} {y r l : Nat} {rk : Rk} (hy : isYT y) (h : RY M y rk) (hl : l < hgt rk r) : Call (d + 2) 72 [.ref y, .int (nI r), .int (nI l)] M (fun v M' => v = none ∧ Fr [y + 1, y + 2, y + 3] M M' ∧ RY M' y (cutR rk r l) ∧
    ∀ j, M'.1 (y + 2) j = if 12 * r + l ≤ j ∧ j < 12 * r + hgt rk r - 1 then M.1 (y + 2) (j + 1) else M.1 (y + 2) j) := by
  obtain ⟨h1, h2, h3, h4, h5⟩ := id h
  have hr := hgt_lt hl
  have hh := h4 r
  have hM := h3 r (by omega)
  have x1 : nI r * cI 12 + nI l = nI (12 * r + l) := by simp only [cn_0, cn_1, cn_4, cn_12, nI_add, nI_mul]; congr 1; omega
  have x2 : nI (hgt rk r) - cI 1 - nI l = nI (hgt rk r - 1 - l) := by rw [show nI (hgt rk r) - cI 1 = nI (hgt rk r - 1) from nI_sub (b := 1) (by omega), nI_sub (by omega)]
  have hA : 12 * r + l + (hgt rk r - 1 - l) = 12 * r + hgt rk r - 1 := by omega
  have hloop := take1_loop (d := d + 1) (y := y) (r := r) (P := 12 * r + l) (A := hgt rk r - 1 - l) (H := hgt rk r) hy (by omega) (by omega) (by omega) (hgt rk r - 1 - l) 0 M (by omega) hM
  rcases id hy with rfl | rfl <;>
  · refine call_run 400 rfl rfl (fun B Cl Z hZ hB hC => ?_)
    (conv => whnf); refine ret_k hC (sp_hasLayer (by simp [isYd]) h (by omega) (by omega)) ?_
    (conv => whnf); refine ⟨fun a => ?_, fun a => ?_⟩
    rotate_left
    · simp only [c_lt, c_gt, c_le, c_ge, c_eq, c_ne, b2_z, b2_nz, b2_i, Classical.not_not, t0, t1, Nat.reduceMod, Nat.reduceDiv, Int.reduceAdd, Int.reduceNeg, Nat.reduceAdd, kv_0, kv_1, kv_4, kv_12, kc_0, kc_1, kc_4, kc_12] at a
      exact absurd hl a
    · (conv => whnf)
      refine ⟨nI_vp (by omega) (by omega), ?_⟩
      (conv => whnf)
      rw [nI_c (n := r) (by omega)]
      refine hB _ _ _ _ (Body_lv (Body_mono hloop (fun v M' q => ?_)) ⟨rfl, rfl, v_eq x1, v_eq ((congrArg (fun z => z - cI 1 - nI l) hM).trans x2), rfl, trivial⟩)
      obtain ⟨q1, q2, q3, q4, q5⟩ := q
      rw [hA] at q4 q5
      exact ⟨q1, q2, RY_cut h hl (Fr_1 q2 _ (by decide)) q3 q4, q5⟩
