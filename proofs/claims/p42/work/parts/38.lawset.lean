/-! the tape fed, a text read, a law become -/
/-- between calls -/
def RTp (M : Mem) (t : List Nat) : Prop := RT0 M t
theorem sp_read {D : Nat} {t : List Nat} {M : Mem} (hD : 162 ≤ D) (h : RTp M t) : Call D 21 [.ref 2] M (fun v M' => Fr AD M M' ∧ match ptext t 121 0 [] with
      | (p, some ls') => v = some (.int (cI (-1))) ∧ RRd M' t p (encT ls') ∧ (encT ls').length ≤ 121
      | (p, none) => v = some (.int (nI p)) ∧ RFd M' t p) := by
  obtain ⟨d, rfl⟩ : ∃ d, D = d + 162 := ⟨D - 162, by omega⟩
  refine call_run 400 rfl rfl (fun B Cl Z hZ hB hC => ?_)
  (conv => whnf)
  have hR : RRd (mI (mI (mI M 2 4 (cI 0)) 2 3 (cI 0)) 2 5 (cI (-1))) t 0 (encT []) := ⟨RT0_fr (A := []) h (by simp [mI_at]) (by simp [mI_ne]), by simp [mI_at]; rfl, Nat.zero_le _, by simp [mI_at], by simp [mI_at]; rfl, fun i c q => by simp [encT] at q⟩
  exact hB _ _ _ _ (Body_lv (Body_mono (read_loop (D := d + 162) (by omega) 121 0 0 [] _ rfl (by omega) hR (by simp [encT])) (fun v M' z => ⟨Fr_trans (Fr_mI (Fr_mI (Fr_mI Fr_refl (by decide)) (by decide)) (by decide)) z.1, z.2⟩)) ⟨rfl, rfl, trivial⟩)
theorem sp_tlength {d : Nat} {t : List Nat} {M : Mem} (h : RTp M t) : Call (d + 1) 16 [.ref 2] M (RV (some (.int (nI t.length))) M) := by
  refine call_run 400 rfl rfl (fun B Cl Z hZ hB hC => ?_)
  conv => whnf
  exact hZ _ _ ⟨v_eq h.1, rfl⟩
theorem sp_empty {d : Nat} {t : List Nat} {M : Mem} : Call (d + 1) 20 [.ref 2] M (fun v M' => v = none ∧ RTp M' [] ∧ Fr AD M M') := by
  refine call_run 400 rfl rfl (fun B Cl Z hZ hB hC => ?_)
  conv => whnf
  exact hZ _ _ ⟨rfl, ⟨by simp [mI_at]; rfl, by simp, fun i c q => by simp at q⟩, Fr_mI Fr_refl (by decide)⟩
theorem sp_take {d c : Nat} {t : List Nat} {M : Mem} (h : RTp M t) (hc : c < 256) : Call (d + 1) 19 [.ref 2, .int (nI c)] M (fun v M' => (t.length = 120 ∧ v = some (.int (cI 0)) ∧ M' = M) ∨ (t.length < 120 ∧ v = some (.int (cI 1)) ∧ RTp M' (t ++ [c]) ∧ Fr [2, 39] M M')) := by
  obtain ⟨h1, h2, h3⟩ := h
  have e := nI_v (n := t.length) (by omega)
  refine call_run 400 rfl rfl (fun B Cl Z hZ hB hC => ?_)
  (conv => whnf); refine ⟨fun b => ?_, fun b => ?_⟩
  · simp only [c_lt, c_gt, c_le, c_ge, c_eq, c_ne, b2_z, b2_nz, b2_i, Classical.not_not, t0, t1, Nat.reduceMod, Nat.reduceDiv, Int.reduceAdd, Int.reduceNeg, Nat.reduceAdd, kv_0, kv_1, kv_120, kc_0, kc_1, kc_120, h1, e] at b
    (conv => whnf)
    simp only [Nat.reduceMod, h1]
    refine ⟨nI_vp (by omega) (by omega), ?_⟩
    (conv => whnf)
    simp only [Nat.reduceMod, nI_c (n := t.length) (by omega)]
    refine ⟨Or.inr rfl, hZ _ _ (Or.inr ⟨by omega, rfl, ⟨?_, ?_, fun i q hq => ?_⟩, Fr_mI (Fr_mI Fr_refl (by decide)) (by decide)⟩)⟩
    · simp [mI_at, h1]
      exact nI_1 _
    · simp; omega
    · simp only [mI_at]
      rw [if_neg (by simp)]
      rcases Nat.lt_or_ge i t.length with z | z
      · rw [List.getElem?_append_left z] at hq
        rw [if_neg (by omega)]
        exact h3 i q hq
      · have := (List.getElem?_eq_some_iff.mp hq).1
        simp at this
        obtain rfl : i = t.length := by omega
        rw [List.getElem?_append_right (Nat.le_refl _), Nat.sub_self] at hq
        cases hq
        simp [hc]
  · simp only [c_lt, c_gt, c_le, c_ge, c_eq, c_ne, b2_z, b2_nz, b2_i, Classical.not_not, t0, t1, Nat.reduceMod, Nat.reduceDiv, Int.reduceAdd, Int.reduceNeg, Nat.reduceAdd, kv_0, kv_1, kv_120, kc_0, kc_1, kc_120, h1, e] at b
    (conv => whnf)
    refine ⟨Or.inl rfl, hZ _ _ (Or.inl ⟨by omega, rfl, rfl⟩)⟩
theorem sp_size {d a : Nat} {t code : List Nat} {M : Mem} (h : RRd M t a code) : Call (d + 1) 17 [.ref 2] M (RV (some (.int (nI code.length))) M) := by
  refine call_run 400 rfl rfl (fun B Cl Z hZ hB hC => ?_)
  conv => whnf
  exact hZ _ _ ⟨v_eq h.2.2.2.2.1, rfl⟩
theorem sp_codeAt {d a i c : Nat} {t code : List Nat} {M : Mem} (h : RRd M t a code) (hl : code.length ≤ 121) (hc : code[i]? = some c) : Call (d + 1) 18 [.ref 2, .int (nI i)] M (RV (some (.int (nI c))) M) := by
  have hi := (List.getElem?_eq_some_iff.mp hc).1
  have e := nI_v (n := i) (by omega)
  have e2 := nI_v (n := code.length) (by omega)
  refine call_run 400 rfl rfl (fun B Cl Z hZ hB hC => ?_)
  (conv => whnf); refine ⟨fun b => ?_, fun b => ?_⟩
  · simp only [c_lt, c_gt, c_le, c_ge, c_eq, c_ne, b2_z, b2_nz, b2_i, Classical.not_not, t0, t1, Nat.reduceMod, Nat.reduceDiv, Int.reduceAdd, Int.reduceNeg, Nat.reduceAdd, kv_10069, kc_10069, e] at b
    omega
  (conv => whnf); refine ⟨fun b => ?_, fun b => ?_⟩
  · simp only [c_lt, c_gt, c_le, c_ge, c_eq, c_ne, b2_z, b2_nz, b2_i, Classical.not_not, t0, t1, Nat.reduceMod, Nat.reduceDiv, Int.reduceAdd, Int.reduceNeg, Nat.reduceAdd, kv_10069, kc_10069, h.2.2.2.2.1, e, e2] at b
    omega
  (conv => whnf); refine ⟨fun b => ?_, fun b => ?_⟩
  · simp only [c_lt, c_gt, c_le, c_ge, c_eq, c_ne, b2_z, b2_nz, b2_i, Classical.not_not, t0, t1, Nat.reduceMod, Nat.reduceDiv, Int.reduceAdd, Int.reduceNeg, Nat.reduceAdd, kv_10069, kc_10069, e] at b
    replace b : (121 : Int) ≤ (i : Int) := b
    omega
  (conv => whnf)
  refine ⟨nI_vp (by omega) (by omega), ?_⟩
  (conv => whnf)
  refine hZ _ _ ⟨v_eq ?_, rfl⟩
  rw [nI_c (by omega)]
  exact h.2.2.2.2.2 i c hc
theorem RRd_fr {M M' : Mem} {t code : List Nat} {a : Nat} (h : RRd M t a code) (h2 : M'.1 2 = M.1 2) (h3 : M'.1 39 = M.1 39) (h4 : M'.1 40 = M.1 40) : RRd M' t a code := by
  unfold RRd RT0 at h ⊢
  rw [h2, h3, h4]
  exact h
theorem become_loop {d a : Nat} {t code : List Nat} (hl : code.length ≤ 121) : ∀ (k i : Nat) (M : Mem), i + k = code.length → RRd M t a code → M.1 1 4 = nI code.length →
    BodyK (d + 2) 8 18 [(0, .ref 1), (1, .ref 2), (2, .int (nI i))] [] M (fun v M' => v = none ∧ Fr [36] M M' ∧ ∀ j, M'.1 36 j = if i ≤ j ∧ j < code.length then nI (code.getD j 0) else M.1 36 j) := by
  intro k
  induction k with
  | zero =>
    intro i M hi h hs
    have e := nI_v (n := i) (by omega)
    have e2 := nI_v (n := code.length) (by omega)
    refine body_run 400 rfl (fun B Cl Z hZ hB hC => ?_)
    (conv => whnf); refine ⟨fun b => ?_, fun b => ?_⟩
    · conv => whnf
      refine hZ _ _ ⟨rfl, Fr_refl, fun j => ?_⟩
      rw [if_neg (by omega)]
    · simp only [c_lt, c_gt, c_le, c_ge, c_eq, c_ne, b2_z, b2_nz, b2_i, Classical.not_not, t0, t1, Nat.reduceMod, Nat.reduceDiv, Int.reduceAdd, Int.reduceNeg, Nat.reduceAdd, kv_0, kv_1, kc_0, kc_1, hs, e, e2] at b
      omega
  | succ k ih =>
    intro i M hi h hs
    have e := nI_v (n := i) (by omega)
    have e2 := nI_v (n := code.length) (by omega)
    have hil : i < code.length := by omega
    have hx := List.getElem?_eq_getElem hil
    refine body_run 400 rfl (fun B Cl Z hZ hB hC => ?_)
    (conv => whnf); refine ⟨fun b => ?_, fun b => ?_⟩
    · simp only [c_lt, c_gt, c_le, c_ge, c_eq, c_ne, b2_z, b2_nz, b2_i, Classical.not_not, t0, t1, Nat.reduceMod, Nat.reduceDiv, Int.reduceAdd, Int.reduceNeg, Nat.reduceAdd, kv_0, kv_1, kc_0, kc_1, hs, e, e2] at b
      omega
    · (conv => whnf); refine ret_k hC (sp_codeAt h hl hx) ?_
      (conv => whnf)
      refine ⟨nI_vp (by omega) (by omega), ?_⟩
      (conv => whnf)
      rw [nI_c (by omega)]
      refine hB _ _ _ _ (Body_lv (Body_mono (ih (i + 1) _ (by omega) (RRd_fr h (mI_ne _ _ _ (by decide)) (mI_ne _ _ _ (by decide)) (mI_ne _ _ _ (by decide))) (by rw [mI_ne _ _ _ (by decide)]; exact hs)) (fun v M' q => ⟨q.1, Fr_trans (Fr_mI Fr_refl (by decide)) q.2.1, fun j => ?_⟩)) ⟨rfl, rfl, v_eq (nI_i1 i), trivial⟩)
      rw [q.2.2 j]
      simp only [mI_at, true_and]
      by_cases z : j = i
      · subst z
        rw [if_neg (by omega), if_pos rfl, if_pos (by omega)]
        simp [List.getD, hil]
      · by_cases z2 : i ≤ j ∧ j < code.length
        · rw [if_pos (by omega), if_pos z2]
        · rw [if_neg (by omega), if_neg z, if_neg z2]
theorem sp_lbecome {d a : Nat} {t code : List Nat} {M : Mem} (h : RRd M t a code) (hl : code.length ≤ 121) : Call (d + 2) 8 [.ref 1, .ref 2] M (fun v M' => v = none ∧ Fr [1, 36] M M' ∧ M'.1 1 4 = nI code.length ∧ (∀ j, ¬ j = 4 → M'.1 1 j = M.1 1 j) ∧ RCo M' 0 code) := by
  have e2 := nI_v (n := code.length) (by omega)
  refine call_run 400 rfl rfl (fun B Cl Z hZ hB hC => ?_)
  (conv => whnf); refine ret_k hC (sp_size h) ?_
  have hmin : (if nI 121 < nI code.length then nI 121 else nI code.length) = nI code.length := by
    rw [if_neg]
    rw [Int32.lt_iff_toInt_lt, e2, nI_v (by omega)]
    omega
  (conv => whnf)
  have hm : ∀ M1, M1 = mI M 1 4 (nI code.length) → BodyK (d + 2) 8 18 [(0, .ref 1), (1, .ref 2), (2, .int (nI 0))] [] M1 (fun v M' => v = none ∧ Fr [1, 36] M M' ∧ M'.1 1 4 = nI code.length ∧ (∀ j, ¬ j = 4 → M'.1 1 j = M.1 1 j) ∧ RCo M' 0 code) := by
    intro M1 hM
    subst hM
    refine Body_mono (become_loop hl code.length 0 _ (by omega) (RRd_fr h (mI_ne _ _ _ (by decide)) (mI_ne _ _ _ (by decide)) (mI_ne _ _ _ (by decide))) (mI_1 _ _ _ _)) (fun v M' q => ⟨q.1, Fr_trans (Fr_mI Fr_refl (by decide)) (Fr_sub q.2.1 (by decide)), ?_, fun j hj => ?_, fun j c hc => ?_⟩)
    · rw [Fr_1 q.2.1 1 (by decide)]; exact mI_1 _ _ _ _
    · rw [Fr_1 q.2.1 1 (by decide)]; exact mI_2 _ _ hj
    · have hj := (List.getElem?_eq_some_iff.mp hc).1
      rw [Nat.zero_add, q.2.2 j, if_pos ⟨Nat.zero_le _, hj⟩]
      simp [List.getD, hc]
  exact hB _ _ _ _ (Body_lv (hm _ (congrArg (mI M 1 4) hmin)) ⟨rfl, rfl, rfl, trivial⟩)
theorem RLw_of {M : Mem} {ls : List Ln} (h1 : M.1 1 4 = nI (encT ls).length) (hl : (encT ls).length ≤ 121) (hc : RCo M 0 (encT ls)) (hk : ∀ l ∈ ls, lnOk l) : RLw M (encT ls) := ⟨h1, hl, hc, encT_lt hk, encT_sf ls hk⟩
