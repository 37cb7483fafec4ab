/-! the class's changes -/
/-- what, whom, was, is -/
abbrev Chg : Type := Int32 × Int32 × Int32 × Int32
def chF (c : Chg) (j : Nat) : Int32 := match j with
  | 0 => c.1
  | 1 => c.2.1
  | 2 => c.2.2.1
  | _ => c.2.2.2
def RCh (M : Mem) (cs : List Chg) (n : Nat) : Prop := M.1 6 1 = nI n ∧ M.1 6 2 = nI cs.length ∧ n ≤ cs.length ∧ cs.length ≤ 40 ∧ ∀ i c, cs[i]? = some c → ∀ j, j < 4 → M.1 41 (i * 4 + j) = chF c j
theorem RCh_fr {A : List Nat} {M M' : Mem} {cs : List Chg} {n : Nat} (h : RCh M cs n) (hf : Fr A M M') (ha : (A.contains 6 || A.contains 41) = false) : RCh M' cs n := by
  rw [Bool.or_eq_false_iff] at ha
  unfold RCh at h ⊢
  rw [Fr_1 hf 6 ha.1, Fr_1 hf 41 ha.2]
  exact h
theorem sp_done {d n : Nat} {M : Mem} {cs : List Chg} (h : RCh M cs n) : Call (d + 1) 2 [.ref 6] M (RV (some (.int (nI n))) M) := by
  refine call_run 400 rfl rfl (fun B Cl Z hZ hB hC => ?_)
  conv => whnf
  exact hZ _ _ ⟨v_eq h.1, rfl⟩
theorem forget_loop {d : Nat} : ∀ (n k : Nat) (M : Mem), k + n = 156 → BodyK (d + 1) 4 2 [(0, .ref 6), (1, .int (nI k))] [] M (fun v M' => v = none ∧ Fr [6, 41] M M' ∧ (∀ j, M'.1 6 j = if j = 1 then cI 39 else M.1 6 j) ∧ ∀ i, M'.1 41 i = if k ≤ i ∧ i < 156 then M.1 41 (i + 4) else M.1 41 i) := by
  intro n
  induction n with
  | zero =>
    intro k M hk
    have e := nI_v (n := k) (by omega)
    have e2 := nI_v (n := k + 4) (by omega)
    have x1 : nI k + cI 4 = nI (k + 4) := nI_add k 4
    refine body_run 400 rfl (fun B Cl Z hZ hB hC => ?_)
    (conv => whnf); refine ⟨fun b => ?_, fun b => ?_⟩
    · conv => whnf
      refine hZ _ _ ⟨rfl, Fr_mI Fr_refl (by decide), fun j => ?_, fun i => ?_⟩
      · simp [mI_at]
      · rw [if_neg (by omega), mI_ne _ _ _ (by decide)]
    · rw [x1] at b
      simp only [c_lt, c_gt, c_le, c_ge, c_eq, c_ne, b2_z, b2_nz, b2_i, Classical.not_not, t0, t1, Nat.reduceMod, Nat.reduceDiv, Int.reduceAdd, Int.reduceNeg, Nat.reduceAdd, kv_0, kv_1, kv_4, kv_39, kc_0, kc_1, kc_4, kc_39, e2] at b
      replace b : ¬ (160 : Int) ≤ ((k + 4 : Nat) : Int) := b
      omega
  | succ n ih =>
    intro k M hk
    have e2 := nI_v (n := k + 4) (by omega)
    have x1 : nI k + cI 4 = nI (k + 4) := nI_add k 4
    refine body_run 400 rfl (fun B Cl Z hZ hB hC => ?_)
    (conv => whnf); refine ⟨fun b => ?_, fun b => ?_⟩
    · rw [x1] at b
      simp only [c_lt, c_gt, c_le, c_ge, c_eq, c_ne, b2_z, b2_nz, b2_i, Classical.not_not, t0, t1, Nat.reduceMod, Nat.reduceDiv, Int.reduceAdd, Int.reduceNeg, Nat.reduceAdd, kv_0, kv_1, kv_4, kv_39, kc_0, kc_1, kc_4, kc_39, e2] at b
      replace b : (160 : Int) ≤ ((k + 4 : Nat) : Int) := b
      omega
    · (conv => whnf)
      rw [x1]
      refine ⟨nI_vp (by omega) (by omega), ?_⟩
      (conv => whnf)
      refine ⟨nI_vp (by omega) (by omega), ?_⟩
      (conv => whnf)
      rw [nI_c (n := k) (by omega), nI_c (n := k + 4) (by omega)]
      refine hB _ _ _ _ (Body_lv (Body_mono (ih (k + 1) _ (by omega)) (fun v M' q => ?_)) ⟨rfl, v_eq (nI_i1 k), trivial⟩)
      obtain ⟨q1, q2, q3, q4⟩ := q
      refine ⟨q1, Fr_trans (Fr_mI Fr_refl (by decide)) q2, fun j => by rw [q3 j, mI_ne _ _ _ (by decide)], fun i => ?_⟩
      rw [q4 i]
      simp only [mI_at, true_and]
      by_cases z : i = k
      · subst z
        rw [if_neg (by omega), if_pos rfl, if_pos (by omega)]
      · by_cases z2 : k ≤ i ∧ i < 156
        · rw [if_pos (by omega), if_neg (by omega), if_pos z2]
        · rw [if_neg (by omega), if_neg z, if_neg z2]
theorem sp_forgetFirst {d : Nat} {M : Mem} : Call (d + 1) 4 [.ref 6] M (fun v M' => v = none ∧ Fr [6, 41] M M' ∧ (∀ j, M'.1 6 j = if j = 1 then cI 39 else M.1 6 j) ∧ ∀ i, i < 156 → M'.1 41 i = M.1 41 (i + 4)) := by
  refine call_run 400 rfl rfl (fun B Cl Z hZ hB hC => ?_)
  conv => whnf
  exact hB _ _ _ _ (Body_lv (Body_mono (forget_loop 156 0 M rfl) (fun v M' q => ⟨q.1, q.2.1, q.2.2.1, fun i hi => by rw [q.2.2.2 i, if_pos ⟨Nat.zero_le _, hi⟩]⟩)) ⟨rfl, rfl, trivial⟩)
/-- the four numbers written behind n others -/
theorem wr4 {M : Mem} {n : Nat} {c : Chg} : ∀ i, (mI (mI (mI (mI M 41 (n * 4 + 0) c.1) 41 (n * 4 + 1) c.2.1) 41 (n * 4 + 2) c.2.2.1) 41 (n * 4 + 3) c.2.2.2).1 41 i = if n * 4 ≤ i ∧ i < n * 4 + 4 then chF c (i - n * 4) else M.1 41 i := by
  intro i
  simp only [mI_at, true_and]
  generalize n * 4 = z
  by_cases q : z ≤ i ∧ i < z + 4
  · rw [if_pos q]
    obtain ⟨j, rfl⟩ : ∃ j, i = z + j := ⟨i - z, by omega⟩
    rw [Nat.add_sub_cancel_left]
    match j, q with
    | 0, _ => simp [chF]
    | 1, _ => simp [chF]
    | 2, _ => simp [chF]
    | 3, _ => simp [chF]
    | j + 4, q => omega
  · rw [if_neg q, if_neg (by omega), if_neg (by omega), if_neg (by omega), if_neg (by omega)]
def addC (cs : List Chg) (n : Nat) (c : Chg) : List Chg := (if n = 40 then cs.tail else cs.take n) ++ [c]
theorem sp_addC {d n : Nat} {M : Mem} {cs : List Chg} {c : Chg} (h : RCh M cs n) : Call (d + 2) 3 [.ref 6, .int c.1, .int c.2.1, .int c.2.2.1, .int c.2.2.2] M (fun v M' => v = none ∧ Fr [6, 41] M M' ∧ RCh M' (addC cs n c) (addC cs n c).length) := by
  obtain ⟨h1, h2, h3, h4, h5⟩ := h
  have e := nI_v (n := n) (by omega)
  have fin : ∀ (M1 : Mem) (k : Nat) (cs1 : List Chg), Fr [6, 41] M M1 → M1.1 6 1 = nI k → k = cs1.length → k < 40 → (∀ i c, cs1[i]? = some c → ∀ j, j < 4 → M1.1 41 (i * 4 + j) = chF c j) → addC cs n c = cs1 ++ [c] →
      Fr [6, 41] M (mI (mI (mI (mI (mI (mI M1 41 (k * 4 + 0) c.1) 41 (k * 4 + 1) c.2.1) 41 (k * 4 + 2) c.2.2.1) 41 (k * 4 + 3) c.2.2.2) 6 1 (nI (k + 1))) 6 2 (nI (k + 1))) ∧
      RCh (mI (mI (mI (mI (mI (mI M1 41 (k * 4 + 0) c.1) 41 (k * 4 + 1) c.2.1) 41 (k * 4 + 2) c.2.2.1) 41 (k * 4 + 3) c.2.2.2) 6 1 (nI (k + 1))) 6 2 (nI (k + 1))) (addC cs n c) (addC cs n c).length := by
    intro M1 k cs1 hF hd hk hk2 hc hadd
    refine ⟨Fr_mI (Fr_mI (Fr_mI (Fr_mI (Fr_mI (Fr_mI hF (by decide)) (by decide)) (by decide)) (by decide)) (by decide)) (by decide), ?_⟩
    rw [hadd, List.length_append]
    refine ⟨by simp [mI_at]; rw [hk], by simp [mI_at]; rw [hk], by simp, by simp; omega, fun i c' hc' j hj => ?_⟩
    rw [mI_ne _ _ _ (by decide), mI_ne _ _ _ (by decide), wr4]
    rcases Nat.lt_or_ge i cs1.length with z | z
    · rw [List.getElem?_append_left z] at hc'
      rw [if_neg (by omega)]
      exact hc i c' hc' j hj
    · have := (List.getElem?_eq_some_iff.mp hc').1
      simp at this
      obtain rfl : i = cs1.length := by omega
      rw [List.getElem?_append_right (Nat.le_refl _), Nat.sub_self] at hc'
      have : c = c' := by simpa using hc'
      subst this
      rw [if_pos (by omega)]
      exact congrArg (chF c) (by omega)
  have x2 : ∀ k j, nI k * cI 4 + nI j = nI (k * 4 + j) := fun k j => by simp only [cn_0, cn_1, cn_2, cn_3, cn_4, cn_40, nI_add, nI_mul]
  have n41 : ((6 : Nat) = 41) = False := by simp
  have tail : ∀ (B : Nat → Lv → List Value → Mem → Prop) (Cl : Nat → List Value → Mem → Po → Prop) (Z : Po) (m : Nat) (M1 : Mem) (k : Nat), M1.1 6 1 = nI k → k < 40 →
      Z none (mI (mI (mI (mI (mI (mI M1 41 (k * 4 + 0) c.1) 41 (k * 4 + 1) c.2.1) 41 (k * 4 + 2) c.2.2.1) 41 (k * 4 + 3) c.2.2.2) 6 1 (nI (k + 1))) 6 2 (nI (k + 1))) → wpN 3 B Cl Z (m + 60) (seekK (cdo 3) 13) (lv_args 0 [.ref 6, .int c.1, .int c.2.1, .int c.2.2.1, .int c.2.2.2]) [] M1 := by
    intro B Cl Z m M1 k hk hk2 hz
    have y0 : nI k * cI 4 + cI 0 = nI (k * 4 + 0) := x2 k 0
    have y1 : nI k * cI 4 + cI 1 = nI (k * 4 + 1) := x2 k 1
    have y2 : nI k * cI 4 + cI 2 = nI (k * 4 + 2) := x2 k 2
    have y3 : nI k * cI 4 + cI 3 = nI (k * 4 + 3) := x2 k 3
    (conv => whnf)
    simp only [Nat.reduceMod, hk, y0]
    refine ⟨nI_vp (by omega) (by omega), ?_⟩
    (conv => whnf)
    simp only [Nat.reduceMod, hk, mI_at, n41, false_and, if_false, y1, nI_c (n := k * 4 + 0) (show k * 4 + 0 < 2147483648 by omega)]
    refine ⟨nI_vp (by omega) (by omega), ?_⟩
    (conv => whnf)
    simp only [Nat.reduceMod, hk, mI_at, n41, false_and, if_false, y2, nI_c (n := k * 4 + 1) (show k * 4 + 1 < 2147483648 by omega)]
    refine ⟨nI_vp (by omega) (by omega), ?_⟩
    (conv => whnf)
    simp only [Nat.reduceMod, hk, mI_at, n41, false_and, if_false, y3, nI_c (n := k * 4 + 2) (show k * 4 + 2 < 2147483648 by omega)]
    refine ⟨nI_vp (by omega) (by omega), ?_⟩
    (conv => whnf)
    simp only [Nat.reduceMod, hk, mI_at, n41, false_and, if_false, true_and, if_true, and_self, nI_i1, nI_c (n := k * 4 + 3) (show k * 4 + 3 < 2147483648 by omega)]
    exact hz
  refine call_run 400 rfl rfl (fun B Cl Z hZ hB hC => ?_)
  (conv => whnf); refine ⟨fun a => ?_, fun a => ?_⟩
  · simp only [c_lt, c_gt, c_le, c_ge, c_eq, c_ne, b2_z, b2_nz, b2_i, Classical.not_not, t0, t1, Nat.reduceMod, Nat.reduceDiv, Int.reduceAdd, Int.reduceNeg, Nat.reduceAdd, kv_0, kv_1, kv_2, kv_3, kv_4, kv_40, kc_0, kc_1, kc_2, kc_3, kc_4, kc_40, h1, e] at a
    obtain ⟨f1, f2⟩ := fin M n (cs.take n) Fr_refl h1 (by simp; omega) (by omega) (fun i c' hc' j hj => by
      rw [List.getElem?_take] at hc'
      split at hc'
      · exact h5 i c' hc' j hj
      · cases hc') (by unfold addC; rw [if_neg (by omega)])
    exact tail B Cl Z _ M n h1 (by omega) (hZ _ _ ⟨rfl, f1, f2⟩)
  · simp only [c_lt, c_gt, c_le, c_ge, c_eq, c_ne, b2_z, b2_nz, b2_i, Classical.not_not, t0, t1, Nat.reduceMod, Nat.reduceDiv, Int.reduceAdd, Int.reduceNeg, Nat.reduceAdd, kv_0, kv_1, kv_2, kv_3, kv_4, kv_40, kc_0, kc_1, kc_2, kc_3, kc_4, kc_40, h1, e] at a
    obtain rfl : n = 40 := by omega
    (conv => whnf)
    refine hC _ _ _ _ _ (sp_forgetFirst) (fun v M1 q => ?_)
    obtain ⟨rfl, q2, q3, q4⟩ := q
    have hd : M1.1 6 1 = nI 39 := by rw [q3]; rfl
    obtain ⟨f1, f2⟩ := fin M1 39 cs.tail q2 hd (by simp; omega) (by omega) (fun i c' hc' j hj => by
      rw [List.getElem?_tail] at hc'
      have := (List.getElem?_eq_some_iff.mp hc').1
      rw [q4 _ (by omega), ← h5 (i + 1) c' hc' j hj]
      exact congrArg (M.1 41) (by omega)) (by unfold addC; rw [if_pos rfl])
    exact tail B Cl Z _ M1 39 hd (by omega) (hZ _ _ ⟨rfl, f1, f2⟩)