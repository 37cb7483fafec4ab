/-! the class's reader: its leaves -/
def RT0 (M : Mem) (t : List Nat) : Prop := M.1 2 1 = nI t.length ∧ t.length ≤ 120 ∧ ∀ i c, t[i]? = some c → M.1 39 i = nI c ∧ c < 256
def RRd (M : Mem) (t : List Nat) (a : Nat) (code : List Nat) : Prop := RT0 M t ∧ M.1 2 4 = nI a ∧ a ≤ t.length ∧ M.1 2 5 = cI (-1) ∧ M.1 2 3 = nI code.length ∧ ∀ i c, code[i]? = some c → M.1 40 i = nI c
def RFd (M : Mem) (t : List Nat) (p : Nat) : Prop := RT0 M t ∧ M.1 2 5 = nI p ∧ p ≤ 120 ∧ ∃ k, k ≤ 121 ∧ M.1 2 3 = nI k
def AD : List Nat := [2, 40]
def nxI (t : List Nat) (a : Nat) : Int32 := match t[a]? with
  | some c => nI c
  | none => cI (-1)
theorem nxI_s {t : List Nat} {a c : Nat} (h : t[a]? = some c) : nxI t a = nI c := by simp [nxI, h]
theorem nxI_n {t : List Nat} {a : Nat} (h : t[a]? = none) : nxI t a = cI (-1) := by simp [nxI, h]
theorem sp_next {d a : Nat} {M : Mem} {t : List Nat} (h : RT0 M t) (ha : M.1 2 4 = nI a) (h2 : a ≤ 120) : Call (d + 1) 27 [.ref 2] M (RV (some (.int (nxI t a))) M) := by
  obtain ⟨h1, h3, h4⟩ := h
  have e := nI_v (n := a) (by omega)
  have e2 := nI_v (n := t.length) (by omega)
  refine call_run 400 rfl rfl (fun B Cl Z hZ hB hC => ?_)
  (conv => whnf); refine ⟨fun b => ?_, fun b => ?_⟩
  · simp only [c_lt, c_gt, c_le, c_ge, c_eq, c_ne, b2_z, b2_nz, b2_i, Classical.not_not, t0, t1, Nat.reduceMod, Nat.reduceDiv, Int.reduceAdd, Int.reduceNeg, Nat.reduceAdd, kv_m1, ha, e] at b
    omega
  (conv => whnf); refine ⟨fun b => ?_, fun b => ?_⟩
  · simp only [c_lt, c_gt, c_le, c_ge, c_eq, c_ne, b2_z, b2_nz, b2_i, Classical.not_not, t0, t1, Nat.reduceMod, Nat.reduceDiv, Int.reduceAdd, Int.reduceNeg, Nat.reduceAdd, kv_m1, ha, h1, e, e2] at b
    conv => whnf
    exact hZ _ _ ⟨v_eq (nxI_n (List.getElem?_eq_none (by omega))).symm, rfl⟩
  simp only [c_lt, c_gt, c_le, c_ge, c_eq, c_ne, b2_z, b2_nz, b2_i, Classical.not_not, t0, t1, Nat.reduceMod, Nat.reduceDiv, Int.reduceAdd, Int.reduceNeg, Nat.reduceAdd, kv_m1, ha, h1, e, e2] at b
  (conv => whnf); refine ⟨fun c => ?_, fun c => ?_⟩
  · simp only [c_lt, c_gt, c_le, c_ge, c_eq, c_ne, b2_z, b2_nz, b2_i, Classical.not_not, t0, t1, Nat.reduceMod, Nat.reduceDiv, Int.reduceAdd, Int.reduceNeg, Nat.reduceAdd, kv_m1, ha, e] at c
    replace c : (120 : Int) ≤ (a : Int) := c
    omega
  (conv => whnf)
  simp only [Nat.reduceMod, ha]
  refine ⟨nI_vp (by omega) (by omega), ?_⟩
  (conv => whnf)
  have hx := List.getElem?_eq_getElem (show a < t.length by omega)
  refine hZ _ _ ⟨v_eq ?_, rfl⟩
  simp only [Nat.reduceMod, ha, nI_c (n := a) (by omega)]
  rw [nxI_s hx]
  exact (h4 a _ hx).1
theorem RT0_fr {A : List Nat} {M M' : Mem} {t : List Nat} (h : RT0 M t) (h1 : M'.1 2 1 = M.1 2 1) (h2 : M'.1 39 = M.1 39) : RT0 M' t := ⟨by rw [h1]; exact h.1, h.2.1, fun i c q => by rw [h2]; exact h.2.2 i c q⟩
theorem sp_step {d a c : Nat} {M : Mem} {t code : List Nat} (h : RRd M t a code) (hl : code.length < 121) : Call (d + 1) 28 [.ref 2, .int (nI c)] M (fun v M' => v = none ∧ RRd M' t a (code ++ [c]) ∧ Fr AD M M') := by
  obtain ⟨h1, h2, h3, h4, h5, h6⟩ := h
  have e := nI_v (n := code.length) (by omega)
  refine call_run 400 rfl rfl (fun B Cl Z hZ hB hC => ?_)
  (conv => whnf); refine ⟨fun b => ?_, fun b => ?_⟩
  · simp only [c_lt, c_gt, c_le, c_ge, c_eq, c_ne, b2_z, b2_nz, b2_i, Classical.not_not, t0, t1, Nat.reduceMod, Nat.reduceDiv, Int.reduceAdd, Int.reduceNeg, Nat.reduceAdd, kv_1, kc_1, h5, e] at b
    replace b : (121 : Int) ≤ (code.length : Int) := b
    omega
  (conv => whnf)
  simp only [Nat.reduceMod, h5]
  refine ⟨nI_vp hl (by omega), ?_⟩
  (conv => whnf)
  simp only [Nat.reduceMod, nI_c (n := code.length) (by omega)]
  refine hZ _ _ ⟨rfl, ⟨RT0_fr (A := []) h1 (by simp [mI_at]) (by simp [mI_ne]), by simp [mI_at]; exact h2, h3, by simp [mI_at]; exact h4, ?_, fun i q hq => ?_⟩, Fr_mI (Fr_mI Fr_refl (by decide)) (by decide)⟩
  · simp [mI_at, h5]
    exact nI_1 _
  · simp only [mI_at]
    rw [if_neg (by simp)]
    rcases Nat.lt_or_ge i code.length with z | z
    · rw [List.getElem?_append_left z] at hq
      rw [if_neg (by omega)]
      exact h6 i q hq
    · have := (List.getElem?_eq_some_iff.mp hq).1
      simp at this
      obtain rfl : i = code.length := by omega
      rw [List.getElem?_append_right (Nat.le_refl _), Nat.sub_self] at hq
      cases hq
      simp
theorem sp_stepF {d p : Nat} {M : Mem} {t : List Nat} {x : Int32} (h : RFd M t p) : Call (d + 1) 28 [.ref 2, .int x] M (fun v M' => v = none ∧ RFd M' t p ∧ Fr AD M M') := by
  obtain ⟨h1, h2, h3, k, h4, h5⟩ := h
  have e := nI_v (n := k) (by omega)
  refine call_run 400 rfl rfl (fun B Cl Z hZ hB hC => ?_)
  (conv => whnf); refine ⟨fun b => ?_, fun b => ?_⟩
  · conv => whnf
    exact hZ _ _ ⟨rfl, ⟨h1, h2, h3, k, h4, h5⟩, Fr_refl⟩
  · simp only [c_lt, c_gt, c_le, c_ge, c_eq, c_ne, b2_z, b2_nz, b2_i, Classical.not_not, t0, t1, Nat.reduceMod, Nat.reduceDiv, Int.reduceAdd, Int.reduceNeg, Nat.reduceAdd, kv_1, kc_1, h5, e] at b
    replace b : ¬ (121 : Int) ≤ (k : Int) := b
    (conv => whnf)
    simp only [Nat.reduceMod, h5]
    refine ⟨nI_vp (by omega) (by omega), ?_⟩
    (conv => whnf)
    simp only [Nat.reduceMod, nI_c (n := k) (by omega)]
    refine hZ _ _ ⟨rfl, ⟨RT0_fr (A := []) h1 (by simp [mI_at]) (by simp [mI_ne]), by simp [mI_at]; exact h2, h3, k + 1, by omega, ?_⟩, Fr_mI (Fr_mI Fr_refl (by decide)) (by decide)⟩
    simp [mI_at, h5]
    exact nI_1 _
def lvI (t : List Nat) (a : Nat) : Int32 := match t[a]? with
  | some c => if lvO c < 9 then nI (lvO c) else cI (-1)
  | none => cI (-1)
theorem sp_levelOf {d a : Nat} {M : Mem} {t : List Nat} (ht : ∀ (i c : Nat), t[i]? = some c → c < 256) : Call (d + 1) 29 [.int (nxI t a)] M (RV (some (.int (lvI t a))) M) := by
  cases hx : t[a]? with
  | none =>
    have e : (nxI t a).toInt = -1 := by rw [nxI_n hx]; rfl
    have e3 : lvI t a = cI (-1) := by simp [lvI, hx]
    rw [e3]
    refine call_run 400 rfl rfl (fun B Cl Z hZ hB hC => ?_)
    repeat' (first | ((conv => whnf); refine ⟨fun _ => ?_, fun _ => ?_⟩) | ((conv => whnf); refine ⟨?_, ?_⟩) | fail)
    all_goals (try simp only [c_lt, c_gt, c_le, c_ge, c_eq, c_ne, b2_z, b2_nz, b2_i, Classical.not_not, t0, t1, Nat.reduceMod, Nat.reduceDiv, Int.reduceAdd, Int.reduceNeg, Nat.reduceAdd, kv_m1, kv_0, kv_1, kv_2, kv_3, kv_4, kv_37, kv_38, kv_42, kv_43, kv_45, kv_47, kv_60, kv_61, kv_62, kv_124, kc_0, kc_1, kc_2, kc_3, kc_4, kc_37, kc_38, kc_42, kc_43, kc_45, kc_47, kc_60, kc_61, kc_62, kc_124, x_eq, e] at *)
    all_goals first
      | omega
      | exact hZ _ _ ⟨rfl, rfl⟩
  | some c =>
    have hc := ht a c hx
    have e : (nxI t a).toInt = c := by rw [nxI_s hx]; exact nI_v (by omega)
    have e3 : lvI t a = if lvO c < 9 then nI (lvO c) else cI (-1) := by simp [lvI, hx]
    rw [e3]
    refine call_run 400 rfl rfl (fun B Cl Z hZ hB hC => ?_)
    repeat' (first | ((conv => whnf); refine ⟨fun _ => ?_, fun _ => ?_⟩) | ((conv => whnf); refine ⟨?_, ?_⟩) | fail)
    all_goals (try simp only [c_lt, c_gt, c_le, c_ge, c_eq, c_ne, b2_z, b2_nz, b2_i, Classical.not_not, t0, t1, Nat.reduceMod, Nat.reduceDiv, Int.reduceAdd, Int.reduceNeg, Nat.reduceAdd, kv_m1, kv_0, kv_1, kv_2, kv_3, kv_4, kv_37, kv_38, kv_42, kv_43, kv_45, kv_47, kv_60, kv_61, kv_62, kv_124, kc_0, kc_1, kc_2, kc_3, kc_4, kc_37, kc_38, kc_42, kc_43, kc_45, kc_47, kc_60, kc_61, kc_62, kc_124, x_eq, e] at *)
    all_goals first
      | omega
      | exact hZ _ _ ⟨v_eq (by rw [show lvO c = 0 by unfold lvO; repeat' first | rw [if_pos (by omega)] | rw [if_neg (by omega)] | fail]; rfl), rfl⟩
      | exact hZ _ _ ⟨v_eq (by rw [show lvO c = 1 by unfold lvO; repeat' first | rw [if_pos (by omega)] | rw [if_neg (by omega)] | fail]; rfl), rfl⟩
      | exact hZ _ _ ⟨v_eq (by rw [show lvO c = 2 by unfold lvO; repeat' first | rw [if_pos (by omega)] | rw [if_neg (by omega)] | fail]; rfl), rfl⟩
      | exact hZ _ _ ⟨v_eq (by rw [show lvO c = 3 by unfold lvO; repeat' first | rw [if_pos (by omega)] | rw [if_neg (by omega)] | fail]; rfl), rfl⟩
      | exact hZ _ _ ⟨v_eq (by rw [show lvO c = 4 by unfold lvO; repeat' first | rw [if_pos (by omega)] | rw [if_neg (by omega)] | fail]; rfl), rfl⟩
      | exact hZ _ _ ⟨v_eq (by rw [show lvO c = 9 by unfold lvO; repeat' first | rw [if_pos (by omega)] | rw [if_neg (by omega)] | fail]; rfl), rfl⟩
theorem RRd_at {M : Mem} {t code : List Nat} {a : Nat} (h : RRd M t a code) (ha : a < t.length) : RRd (mI M 2 4 (nI (a + 1))) t (a + 1) code := by
  obtain ⟨h1, h2, h3, h4, h5, h6⟩ := h
  exact ⟨RT0_fr (A := []) h1 (by simp [mI_at]) (by simp [mI_ne]), by simp [mI_at], ha, by simp [mI_at]; exact h4, by simp [mI_at]; exact h5, fun i c q => by rw [mI_ne _ _ _ (by decide)]; exact h6 i c q⟩
theorem num_loop {d : Nat} {t code : List Nat} (hc : code.length < 120) : ∀ (k i a v : Nat) (M : Mem), i + k = 4 → v < 10 ^ i → RRd M t a code →
    BodyK (d + 2) 26 4 [(0, .ref 2), (1, .int (nI v)), (2, .int (nI i))] [] M (fun w M' => w = none ∧ RRd M' t (dg t k a v).1 (code ++ [(dg t k a v).2]) ∧ Fr AD M M') := by
  intro k
  induction k with
  | zero =>
    intro i a v M hi hv h
    obtain rfl : i = 4 := by omega
    refine body_run 400 rfl (fun B Cl Z hZ hB hC => ?_)
    (conv => whnf); refine ⟨fun b => ?_, fun b => ?_⟩
    · (conv => whnf)
      refine hC _ _ _ _ _ (sp_step h (by omega)) (fun w M1 q => ?_)
      obtain ⟨rfl, q2, q3⟩ := q
      conv => whnf
      exact hZ _ _ ⟨rfl, q2, q3⟩
    · exact absurd (show nI 4 ≤ nI 4 by decide) b
  | succ k ih =>
    intro i a v M hi hv h
    have e := nI_v (n := i) (by omega)
    obtain ⟨h1, h2, h3, h4⟩ := id h
    have h12 := h1.2.1
    have hv2 : v < 10000 := Nat.lt_of_lt_of_le hv (Nat.pow_le_pow_right (by omega) (show i ≤ 4 by omega))
    have stop : (∀ c, t[a]? = some c → ¬ (48 ≤ c ∧ c ≤ 57)) → dg t (k + 1) a v = (a, v) := by
      intro q
      unfold dg
      split
      · next c hc => rw [if_neg (q c hc)]
      · rfl
    have hend : (∀ c, t[a]? = some c → ¬ (48 ≤ c ∧ c ≤ 57)) → Call (d + 1) 28 [.ref 2, .int (nI v)] M (fun w M' => w = none ∧ RRd M' t (dg t (k + 1) a v).1 (code ++ [(dg t (k + 1) a v).2]) ∧ Fr AD M M') := by
      intro q
      rw [stop q]
      exact sp_step h (by omega)
    refine body_run 400 rfl (fun B Cl Z hZ hB hC => ?_)
    (conv => whnf); refine ⟨fun b => ?_, fun b => ?_⟩
    · simp only [c_lt, c_gt, c_le, c_ge, c_eq, c_ne, b2_z, b2_nz, b2_i, Classical.not_not, t0, t1, Nat.reduceMod, Nat.reduceDiv, Int.reduceAdd, Int.reduceNeg, Nat.reduceAdd, kv_0, kv_1, kv_4, kv_10, kv_48, kv_57, kc_0, kc_1, kc_4, kc_10, kc_48, kc_57, e] at b
      omega
    (conv => whnf); refine ret_k hC (sp_next h1 h2 (by omega)) ?_
    (conv => whnf); refine ⟨fun b => ?_, fun b => ?_⟩
    · (conv => whnf)
      refine hC _ _ _ _ _ (hend (fun c hc2 => ?_)) (fun w M1 q => ?_)
      · rw [nxI_s hc2] at b
        have := (h1.2.2 a c hc2).2
        rw [c_lt, nI_v (by omega), kv_48] at b
        omega
      · obtain ⟨rfl, q2⟩ := q
        conv => whnf
        exact hZ _ _ ⟨rfl, q2⟩
    (conv => whnf); refine ret_k hC (sp_next h1 h2 (by omega)) ?_
    (conv => whnf); refine ⟨fun g => ?_, fun g => ?_⟩
    · (conv => whnf)
      refine hC _ _ _ _ _ (hend (fun c hc2 => ?_)) (fun w M1 q => ?_)
      · rw [nxI_s hc2] at g
        have := (h1.2.2 a c hc2).2
        rw [c_gt, nI_v (by omega), kv_57] at g
        omega
      · obtain ⟨rfl, q2⟩ := q
        conv => whnf
        exact hZ _ _ ⟨rfl, q2⟩
    cases hx : t[a]? with
    | none =>
      rw [nxI_n hx, c_lt, kv_48] at b
      exact absurd (by decide) b
    | some c =>
      have hcb := (h1.2.2 a c hx).2
      have hal := (List.getElem?_eq_some_iff.mp hx).1
      rw [nxI_s hx, c_lt, nI_v (by omega), kv_48] at b
      rw [nxI_s hx, c_gt, nI_v (by omega), kv_57] at g
      (conv => whnf); refine ret_k hC (sp_next h1 h2 (by omega)) ?_
      rw [nxI_s hx]
      have x1 : nI v * cI 10 + nI c - cI 48 = nI (v * 10 + c - 48) := by
        rw [show nI v * cI 10 = nI (v * 10) from nI_mul v 10, nI_add]; exact nI_sub (b := 48) (by omega)
      have hdg : dg t (k + 1) a v = dg t k (a + 1) (v * 10 + c - 48) := by
        rw [dg, hx]
        exact if_pos (by omega)
      have hv3 : v * 10 + c - 48 < 10 ^ (i + 1) := by rw [Nat.pow_succ]; omega
      rw [hdg] at hB
      (conv => whnf)
      simp only [Nat.reduceMod, h2, nI_i1]
      have := ih (i + 1) (a + 1) (v * 10 + c - 48) _ (by omega) hv3 (RRd_at h hal)
      exact hB _ _ _ _ (Body_lv (Body_mono this (fun w M' q => ⟨q.1, q.2.1, Fr_trans (Fr_mI Fr_refl (by decide)) q.2.2⟩)) ⟨rfl, v_eq x1, rfl, trivial⟩)
theorem sp_readNumber {d a : Nat} {M : Mem} {t code : List Nat} (hc : code.length < 120) (h : RRd M t a code) : Call (d + 2) 26 [.ref 2] M (fun w M' => w = none ∧ RRd M' t (dg t 4 a 0).1 (code ++ [(dg t 4 a 0).2]) ∧ Fr AD M M') := by
  refine call_run 400 rfl rfl (fun B Cl Z hZ hB hC => ?_)
  conv => whnf
  exact hB _ _ _ _ (Body_lv (num_loop hc 4 0 a 0 M rfl (by decide) h) ⟨rfl, rfl, rfl, trivial⟩)
