/-! the best order -/
def dres (E : EnvK) (ls : List Lyr) (base n : Nat) : DS := dC (gP E ls base) n n [] 0 (cI 0) (E.2.2.1 + cI 1, [])
def AB : List Nat := [5, 9, 37, 38, 45, 46, 47, 48, 49]
theorem base_loop {d base n : Nat} {E : EnvK} {ls : List Lyr} (hb : base + n = ls.length) (hn : n ≤ 7) : ∀ (m k : Nat) (M : Mem), k + m = n + 1 → RSr M E ls false → RE M E → (∀ k', k' < k → M.1 48 k' = bX E rgt ls base k' ∧ M.1 49 k' = bX E dwn ls base k') →
    BodyK (d + 20) 41 9 [(0, .ref 5), (1, .int (nI n)), (2, .int (nI base)), (3, .int (nI k))] [] M (fun v M' => v = some (.int (b2 ((dres E ls base n).1 ≤ E.2.2.1))) ∧ RDS M' (dres E ls base n) ∧ RSr M' E ls false ∧ Fr AB M M') := by
  have en := nI_v (n := n) (by omega)
  intro m
  induction m with
  | zero =>
    intro k M hk h he hB0
    have h12 := h.1.2.1
    have e := nI_v (n := k) (by omega)
    refine body_run 400 rfl (fun B Cl Z hZ hB hC => ?_)
    (conv => whnf); refine ⟨fun b => ?_, fun b => ?_⟩
    rotate_left
    · simp only [c_lt, c_gt, c_le, c_ge, c_eq, c_ne, b2_z, b2_nz, b2_i, Classical.not_not, t0, t1, Nat.reduceMod, Nat.reduceDiv, Int.reduceAdd, Int.reduceNeg, Nat.reduceAdd, kv_0, kv_1, kv_7, kc_0, kc_1, kc_7, e, en] at b
      omega
    (conv => whnf)
    have hst : RDS (mI M 5 0 (M.1 1 1 + cI 1)) (E.2.2.1 + cI 1, []) := ⟨by rw [mI_1, he.2.2.1], fun j p hj => by simp at hj⟩
    have hF0 : Fr [5] M (mI M 5 0 (M.1 1 1 + cI 1)) := Fr_mI Fr_refl (by decide)
    have hrec := ln_all (E := E) hb hn n (d + 19) 0 [] (cI 0) (E.2.2.1 + cI 1, []) (mI M 5 0 (M.1 1 1 + cI 1)) (by omega) (by simp) (fun p hp => by simp at hp) (by omega) (RSr_0 h) (RE_fr he hF0 (by decide)) (fun i p hi => by simp at hi) (RB_fr (fun k' hk' => hB0 k' (by omega)) hF0 (by decide)) hst
    refine hC _ _ _ _ _ hrec (fun v M1 q => ?_)
    obtain ⟨rfl, q2, q3, q4⟩ := q
    have hFF : Fr AB M M1 := Fr_trans (Fr_sub hF0 (by decide)) (Fr_sub q4.1 (by decide))
    have e1 : M1.1 5 0 = (dres E ls base n).1 := q2.1
    have e2 : M1.1 1 1 = E.2.2.1 := by rw [Fr_1 hFF 1 (by decide)]; exact he.2.2.1
    (conv => whnf); refine ⟨fun c => ?_, fun c => ?_⟩
    · replace c : M1.1 1 1 < M1.1 5 0 := c
      rw [e1, e2] at c
      (conv => whnf)
      refine ⟨Or.inl rfl, hZ _ _ ⟨v_eq (b2_0 (Int32.not_le.mpr c)), q2, q3, hFF⟩⟩
    · replace c : ¬ M1.1 1 1 < M1.1 5 0 := c
      rw [e1, e2] at c
      (conv => whnf)
      refine ⟨Or.inr rfl, hZ _ _ ⟨v_eq (b2_1 (Int32.not_lt.mp c)), q2, q3, hFF⟩⟩
  | succ m ih =>
    intro k M hk h he hB0
    have h12 := h.1.2.1
    have e := nI_v (n := k) (by omega)
    refine body_run 400 rfl (fun B Cl Z hZ hB hC => ?_)
    (conv => whnf); refine ⟨fun b => ?_, fun b => ?_⟩
    · simp only [c_lt, c_gt, c_le, c_ge, c_eq, c_ne, b2_z, b2_nz, b2_i, Classical.not_not, t0, t1, Nat.reduceMod, Nat.reduceDiv, Int.reduceAdd, Int.reduceNeg, Nat.reduceAdd, kv_0, kv_1, kv_7, kc_0, kc_1, kc_7, e, en] at b
      omega
    (conv => whnf); refine ⟨fun b => ?_, fun b => ?_⟩
    · simp only [c_lt, c_gt, c_le, c_ge, c_eq, c_ne, b2_z, b2_nz, b2_i, Classical.not_not, t0, t1, Nat.reduceMod, Nat.reduceDiv, Int.reduceAdd, Int.reduceNeg, Nat.reduceAdd, kv_0, kv_1, kv_7, kc_0, kc_1, kc_7, e] at b
      omega
    (conv => whnf)
    refine hC _ _ _ _ _ (sp_leanOfBase (d := d + 14) (base := base) (ab := k) (by omega) (by omega) h he) (fun v M1 q => ?_)
    obtain ⟨rfl, ⟨q2, q2'⟩, q3, q4⟩ := q
    (conv => whnf)
    refine ⟨nI_vp (by omega) (by omega), ?_⟩
    (conv => whnf)
    refine ⟨nI_vp (by omega) (by omega), ?_⟩
    (conv => whnf)
    rw [nI_c (n := k) (by omega)]
    have hF1 : ∀ x y, Fr [48, 49] M1 (mI (mI M1 48 k x) 49 k y) := fun x y => Fr_mI (Fr_mI Fr_refl (by decide)) (by decide)
    refine hB _ _ _ _ (Body_lv (Body_mono (ih (k + 1) _ (by omega) (RSr_fr q3 (hF1 _ _) (by decide)) (RE_fr (RE_fr he q4 (by decide)) (hF1 _ _) (by decide)) (fun k' hk' => ?_)) (fun v M' z => ⟨z.1, z.2.1, z.2.2.1, Fr_trans (Fr_sub q4 (by decide)) (Fr_trans (Fr_sub (hF1 _ _) (by decide)) z.2.2.2)⟩)) ⟨rfl, rfl, rfl, v_eq (nI_i1 k), trivial⟩)
    by_cases z : k' = k
    · subst z
      refine ⟨?_, ?_⟩
      · rw [mI_ne _ _ _ (by decide), mI_1]; exact q2
      · rw [mI_1]; exact q2'
    · refine ⟨?_, ?_⟩
      · rw [mI_ne _ _ _ (by decide), mI_2 _ _ z, Fr_1 q4 48 (by decide)]; exact (hB0 k' (by omega)).1
      · rw [mI_2 _ _ z, mI_ne _ _ _ (by decide), Fr_1 q4 49 (by decide)]; exact (hB0 k' (by omega)).2
theorem sp_layBest {d base n : Nat} {M : Mem} {E : EnvK} {ls : List Lyr} (hb : base + n = ls.length) (hn : n ≤ 7) (h : RSr M E ls false) (he : RE M E) : Call (d + 20) 41 [.ref 5, .int (nI n)] M (fun v M' => v = some (.int (b2 ((dres E ls base n).1 ≤ E.2.2.1))) ∧ RDS M' (dres E ls base n) ∧ RSr M' E ls false ∧ Fr AB M M') := by
  have x1 : nI ls.length - nI n = nI base := by rw [nI_sub (by omega)]; congr 1; omega
  refine call_run 400 rfl rfl (fun B Cl Z hZ hB hC => ?_)
  conv => whnf
  exact hB _ _ _ _ (Body_lv (base_loop (d := d) hb hn (n + 1) 0 M (by omega) h he (fun k' hk' => absurd hk' (Nat.not_lt_zero _))) ⟨rfl, rfl, v_eq ((congrArg (fun z => z - nI n) h.1.1).trans x1), rfl, trivial⟩)
