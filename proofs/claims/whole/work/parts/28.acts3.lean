/-! the bodies; an act performed -/
def RK (M : Mem) (ks : List Nat) : Prop := M.1 7 1 = nI ks.length ∧ ks.length ≤ 50 ∧ ∀ i k, ks[i]? = some k → M.1 42 i = nI k ∧ k < 8
def RT (M : Mem) (tr : List Nat) : Prop := M.1 7 3 = nI tr.length ∧ tr.length ≤ 24 ∧ ∀ i c, tr[i]? = some c → M.1 43 i = nI c
theorem sp_bodies {d : Nat} {M : Mem} {ks : List Nat} (h : RK M ks) : Call (d + 1) 1 [.ref 7] M (RV (some (.int (nI ks.length))) M) := by
  refine call_run 400 rfl rfl (fun B Cl Z hZ hB hC => ?_)
  conv => whnf
  exact hZ _ _ ⟨v_eq h.1, rfl⟩
theorem sp_ranN {d : Nat} {M : Mem} {tr : List Nat} (h : RT M tr) : Call (d + 1) 2 [.ref 7] M (RV (some (.int (nI tr.length))) M) := by
  refine call_run 400 rfl rfl (fun B Cl Z hZ hB hC => ?_)
  conv => whnf
  exact hZ _ _ ⟨v_eq h.1, rfl⟩
theorem sp_addBody {d k : Nat} {M : Mem} {ks : List Nat} (h : RK M ks) (hk : k < 8) : Call (d + 1) 0 [.ref 7, .int (nI k)] M (fun v M' => (ks.length = 50 ∧ v = some (.int (cI (-3))) ∧ M' = M) ∨ (ks.length < 50 ∧ v = some (.int (nI ks.length)) ∧ RK M' (ks ++ [k]) ∧ Fr [7, 42] M M' ∧ ∀ j, ¬ j = 1 → M'.1 7 j = M.1 7 j)) := by
  obtain ⟨h1, h2, h3⟩ := h
  have e := nI_v (n := ks.length) (by omega)
  refine call_run 400 rfl rfl (fun B Cl Z hZ hB hC => ?_)
  (conv => whnf); refine ⟨fun a => ?_, fun a => ?_⟩
  · simp only [c_lt, c_gt, c_le, c_ge, c_eq, c_ne, b2_z, b2_nz, b2_i, Classical.not_not, t0, t1, Nat.reduceMod, Nat.reduceDiv, Int.reduceAdd, Int.reduceNeg, Nat.reduceAdd, kv_m3, kv_1, kv_50, kc_1, kc_50, h1, e] at a
    (conv => whnf)
    simp only [Nat.reduceMod, h1]
    refine ⟨nI_vp (by omega) (by omega), ?_⟩
    (conv => whnf)
    simp only [Nat.reduceMod, nI_c (n := ks.length) (by omega)]
    refine hZ _ _ (Or.inr ⟨by omega, v_eq ?_, ⟨?_, ?_, fun i q hq => ?_⟩, Fr_mI (Fr_mI Fr_refl (by decide)) (by decide), fun j hj => ?_⟩)
    · simp [mI_at, h1]
      try exact nI_pred _
    · simp [mI_at, h1]
      try exact nI_1 _
    · simp; omega
    · simp only [mI_at]
      rw [if_neg (by simp)]
      rcases Nat.lt_or_ge i ks.length with z | z
      · rw [List.getElem?_append_left z] at hq
        rw [if_neg (by omega)]
        exact h3 i q hq
      · have := (List.getElem?_eq_some_iff.mp hq).1
        simp at this
        obtain rfl : i = ks.length := by omega
        rw [List.getElem?_append_right (Nat.le_refl _), Nat.sub_self] at hq
        cases hq
        simp [hk]
    · simp [mI_at, hj]
  · simp only [c_lt, c_gt, c_le, c_ge, c_eq, c_ne, b2_z, b2_nz, b2_i, Classical.not_not, t0, t1, Nat.reduceMod, Nat.reduceDiv, Int.reduceAdd, Int.reduceNeg, Nat.reduceAdd, kv_m3, kv_1, kv_50, kc_1, kc_50, h1, e] at a
    conv => whnf
    exact hZ _ _ (Or.inl ⟨by omega, rfl, rfl⟩)
theorem sp_traced {d : Nat} {M : Mem} {tr : List Nat} {x : Int32} (h : RT M tr) : Call (d + 1) 3 [.ref 7, .int x] M (RV (some (.int (if 0 ≤ x.toInt ∧ x.toInt < (tr.length : Int) then nI (tr.getD x.toInt.toNat 0) else cI (-1)))) M) := by
  obtain ⟨h1, h2, h3⟩ := h
  have e := nI_v (n := tr.length) (by omega)
  refine call_run 400 rfl rfl (fun B Cl Z hZ hB hC => ?_)
  (conv => whnf); refine ⟨fun a => ?_, fun a => ?_⟩
  · simp only [c_lt, c_gt, c_le, c_ge, c_eq, c_ne, b2_z, b2_nz, b2_i, Classical.not_not, t0, t1, Nat.reduceMod, Nat.reduceDiv, Int.reduceAdd, Int.reduceNeg, Nat.reduceAdd, kv_m1, kv_24, kc_24] at a
    conv => whnf
    exact hZ _ _ ⟨v_eq (if_neg (by omega)).symm, rfl⟩
  · simp only [c_lt, c_gt, c_le, c_ge, c_eq, c_ne, b2_z, b2_nz, b2_i, Classical.not_not, t0, t1, Nat.reduceMod, Nat.reduceDiv, Int.reduceAdd, Int.reduceNeg, Nat.reduceAdd, kv_m1, kv_24, kc_24] at a
    obtain ⟨i, rfl, e2, hi⟩ := to_nI (x := x) (by omega)
    (conv => whnf); refine ⟨fun b => ?_, fun b => ?_⟩
    · simp only [c_lt, c_gt, c_le, c_ge, c_eq, c_ne, b2_z, b2_nz, b2_i, Classical.not_not, t0, t1, Nat.reduceMod, Nat.reduceDiv, Int.reduceAdd, Int.reduceNeg, Nat.reduceAdd, kv_m1, kv_24, kc_24, h1, e] at b
      conv => whnf
      exact hZ _ _ ⟨v_eq (if_neg (by omega)).symm, rfl⟩
    · simp only [c_lt, c_gt, c_le, c_ge, c_eq, c_ne, b2_z, b2_nz, b2_i, Classical.not_not, t0, t1, Nat.reduceMod, Nat.reduceDiv, Int.reduceAdd, Int.reduceNeg, Nat.reduceAdd, kv_m1, kv_24, kc_24, h1, e] at b
      (conv => whnf); refine ⟨fun c => ?_, fun c => ?_⟩
      · simp only [c_lt, c_gt, c_le, c_ge, c_eq, c_ne, b2_z, b2_nz, b2_i, Classical.not_not, t0, t1, Nat.reduceMod, Nat.reduceDiv, Int.reduceAdd, Int.reduceNeg, Nat.reduceAdd, kv_m1, kv_24, kc_24] at c
        omega
      · (conv => whnf)
        refine ⟨nI_vp (by omega) (by omega), ?_⟩
        (conv => whnf)
        refine hZ _ _ ⟨v_eq ?_, rfl⟩
        rw [if_pos (by omega), nI_c (by omega), e2]
        have hi2 : i < tr.length := by omega
        rw [h3 i _ (List.getElem?_eq_getElem hi2)]
        simp [List.getD, hi2]
theorem sp_kindOf {d i k : Nat} {M : Mem} {ks : List Nat} (h : RK M ks) (hk : ks[i]? = some k) : Call (d + 1) 4 [.ref 7, .int (nI i)] M (RV (some (.int (nI k))) M) := by
  obtain ⟨h1, h2, h3⟩ := h
  have hi := (List.getElem?_eq_some_iff.mp hk).1
  have e := nI_v (n := ks.length) (by omega)
  have e2 := nI_v (n := i) (by omega)
  refine call_run 400 rfl rfl (fun B Cl Z hZ hB hC => ?_)
  (conv => whnf); refine ⟨fun a => ?_, fun a => ?_⟩
  · simp only [c_lt, c_gt, c_le, c_ge, c_eq, c_ne, b2_z, b2_nz, b2_i, Classical.not_not, t0, t1, Nat.reduceMod, Nat.reduceDiv, Int.reduceAdd, Int.reduceNeg, Nat.reduceAdd, kv_0, kv_50, kc_0, kc_50, e2] at a
    omega
  · (conv => whnf); refine ⟨fun b => ?_, fun b => ?_⟩
    · simp only [c_lt, c_gt, c_le, c_ge, c_eq, c_ne, b2_z, b2_nz, b2_i, Classical.not_not, t0, t1, Nat.reduceMod, Nat.reduceDiv, Int.reduceAdd, Int.reduceNeg, Nat.reduceAdd, kv_0, kv_50, kc_0, kc_50, h1, e, e2] at b
      omega
    · (conv => whnf); refine ⟨fun c => ?_, fun c => ?_⟩
      · simp only [c_lt, c_gt, c_le, c_ge, c_eq, c_ne, b2_z, b2_nz, b2_i, Classical.not_not, t0, t1, Nat.reduceMod, Nat.reduceDiv, Int.reduceAdd, Int.reduceNeg, Nat.reduceAdd, kv_0, kv_50, kc_0, kc_50, e2] at c
        omega
      · (conv => whnf)
        refine ⟨nI_vp (by omega) (by omega), ?_⟩
        (conv => whnf)
        refine hZ _ _ ⟨v_eq ?_, rfl⟩
        rw [nI_c (by omega)]
        exact (h3 i k hk).1
/-- one kind up, and up to a kind -/
def upK (t : Int32) : Int32 := if 0 ≤ t.toInt ∧ t.toInt < 8 then (stc 902).getD t.toNatClampNeg 0 else cI (-1)
def upN (k : Int32) : Nat → Int32 → Int32
  | 0, t => t
  | n + 1, t => if t = k then t else upN k n (upK t)
theorem under_loop {d : Nat} {M : Mem} {k : Int32} : ∀ (n i : Nat) (t : Int32), i + n = 8 → BodyK (d + 1) 5 4 [(1, .int k), (2, .int t), (3, .int (nI i))] [] M (RV (some (.int (b2 (upN k n t = k)))) M) := by
  intro n
  induction n with
  | zero =>
    intro i t hi
    have e := nI_v (n := i) (by omega)
    refine body_run 400 rfl (fun B Cl Z hZ hB hC => ?_)
    (conv => whnf); refine ⟨fun a => ?_, fun a => ?_⟩
    · (conv => whnf); refine ⟨fun b => ?_, fun b => ?_⟩
      · replace b : ¬ t = k := b
        (conv => whnf)
        refine ⟨Or.inl rfl, hZ _ _ ⟨v_eq (b2_0 b), rfl⟩⟩
      · replace b : ¬ ¬ t = k := b
        (conv => whnf)
        refine ⟨Or.inr rfl, hZ _ _ ⟨v_eq (b2_1 (Classical.not_not.mp b)), rfl⟩⟩
    · simp only [c_lt, c_gt, c_le, c_ge, c_eq, c_ne, b2_z, b2_nz, b2_i, Classical.not_not, t0, t1, Nat.reduceMod, Nat.reduceDiv, Int.reduceAdd, Int.reduceNeg, Nat.reduceAdd, kv_m1, kv_0, kv_1, kc_0, kc_1, e] at a
      replace a : ¬ (8 : Int) ≤ (i : Int) := a
      omega
  | succ n ih =>
    intro i t hi
    have e := nI_v (n := i) (by omega)
    refine body_run 400 rfl (fun B Cl Z hZ hB hC => ?_)
    (conv => whnf); refine ⟨fun a => ?_, fun a => ?_⟩
    · simp only [c_lt, c_gt, c_le, c_ge, c_eq, c_ne, b2_z, b2_nz, b2_i, Classical.not_not, t0, t1, Nat.reduceMod, Nat.reduceDiv, Int.reduceAdd, Int.reduceNeg, Nat.reduceAdd, kv_m1, kv_0, kv_1, kc_0, kc_1, e] at a
      replace a : (8 : Int) ≤ (i : Int) := a
      omega
    · (conv => whnf); refine ⟨fun c => ?_, fun c => ?_⟩
      · replace c : t = k := c
        (conv => whnf); refine ⟨fun b => ?_, fun b => ?_⟩
        · replace b : ¬ t = k := b
          exact absurd c b
        · (conv => whnf)
          refine ⟨Or.inr rfl, hZ _ _ ⟨v_eq (b2_1 ?_), rfl⟩⟩
          simp [upN, c]
      · replace c : ¬ t = k := c
        have hup : upN k (n + 1) t = upN k n (upK t) := by simp [upN, c]
        rw [hup] at hB hZ
        (conv => whnf); refine ⟨fun g => ?_, fun g => ?_⟩
        · simp only [c_lt, c_gt, c_le, c_ge, c_eq, c_ne, b2_z, b2_nz, b2_i, Classical.not_not, t0, t1, Nat.reduceMod, Nat.reduceDiv, Int.reduceAdd, Int.reduceNeg, Nat.reduceAdd, kv_m1, kv_0, kv_1, kc_0, kc_1] at g
          (conv => whnf)
          refine hB _ _ _ _ (Body_lv (ih (i + 1) (upK t) (by omega)) ⟨rfl, v_eq (if_neg (by omega)).symm, v_eq (nI_i1 i), trivial⟩)
        · simp only [c_lt, c_gt, c_le, c_ge, c_eq, c_ne, b2_z, b2_nz, b2_i, Classical.not_not, t0, t1, Nat.reduceMod, Nat.reduceDiv, Int.reduceAdd, Int.reduceNeg, Nat.reduceAdd, kv_m1, kv_0, kv_1, kc_0, kc_1] at g
          (conv => whnf); refine ⟨fun f => ?_, fun f => ?_⟩
          · simp only [c_lt, c_gt, c_le, c_ge, c_eq, c_ne, b2_z, b2_nz, b2_i, Classical.not_not, t0, t1, Nat.reduceMod, Nat.reduceDiv, Int.reduceAdd, Int.reduceNeg, Nat.reduceAdd, kv_m1, kv_0, kv_1, kc_0, kc_1] at f
            replace f : (8 : Int) ≤ t.toInt := f
            (conv => whnf)
            refine hB _ _ _ _ (Body_lv (ih (i + 1) (upK t) (by omega)) ⟨rfl, v_eq (if_neg (by omega)).symm, v_eq (nI_i1 i), trivial⟩)
          · simp only [c_lt, c_gt, c_le, c_ge, c_eq, c_ne, b2_z, b2_nz, b2_i, Classical.not_not, t0, t1, Nat.reduceMod, Nat.reduceDiv, Int.reduceAdd, Int.reduceNeg, Nat.reduceAdd, kv_m1, kv_0, kv_1, kc_0, kc_1] at f
            replace f : ¬ (8 : Int) ≤ t.toInt := f
            obtain ⟨j, rfl, e2, hj⟩ := to_nI (x := t) (by omega)
            (conv => whnf)
            refine ⟨nI_vp (by omega) (by omega), ?_⟩
            (conv => whnf)
            refine hB _ _ _ _ (Body_lv (ih (i + 1) (upK (nI j)) (by omega)) ⟨rfl, v_eq (if_pos (by omega)).symm, v_eq (nI_i1 i), trivial⟩)
theorem sp_isUnder {d : Nat} {M : Mem} {t k : Int32} : Call (d + 1) 5 [.int t, .int k] M (RV (some (.int (b2 (upN k 8 t = k)))) M) := by
  refine call_run 400 rfl rfl (fun B Cl Z hZ hB hC => ?_)
  conv => whnf
  exact hB _ _ _ _ (Body_lv (under_loop 8 0 t rfl) ⟨rfl, rfl, rfl, trivial⟩)
def actF (ks : List Nat) (body which x : Int32) : AR :=
  if 0 ≤ body.toInt ∧ body.toInt < (ks.length : Int) then
    (if which.toInt = 0 then lys (ks.getD body.toInt.toNat 0) x body.toInt.toNat else if which.toInt = 1 then lns (ks.getD body.toInt.toNat 0) x body.toInt.toNat (ks.getD body.toInt.toNat 0)
      else if which.toInt = 2 then cts (ks.getD body.toInt.toNat 0) x body.toInt.toNat (ks.getD body.toInt.toNat 0) else if which.toInt = 3 then tls (ks.getD body.toInt.toNat 0) x body.toInt.toNat (ks.getD body.toInt.toNat 0) else (cI 0, []))
  else (cI 0, [])
theorem tls_l (k : Nat) (x : Int32) (b own : Nat) : (tls k x b own).2.length ≤ 19 := by
  have h1 := lns_l own x b own
  have h2 := cts_l own (cI 1) b own
  have h3 : (tls0 x b own).2.length ≤ 18 := by unfold tls0; simp; omega
  unfold tls
  (repeat' split)
  · simp; omega
  · simp; omega
  · omega
theorem RK_fr {M M' : Mem} {ks : List Nat} (h : RK M ks) (h1 : M'.1 7 1 = M.1 7 1) (h2 : M'.1 42 = M.1 42) : RK M' ks := ⟨by rw [h1]; exact h.1, h.2.1, fun i k q => by rw [h2]; exact h.2.2 i k q⟩
theorem sp_perform {d : Nat} {M : Mem} {ks : List Nat} {body which x : Int32} (h : RK M ks) : Call (d + 10) 6 [.ref 7, .int body, .int which, .int x] M (fun v M' => v = some (.int (actF ks body which x).1) ∧ RK M' ks ∧ RT M' (actF ks body which x).2 ∧ Fr [7, 43] M M') := by
  obtain ⟨h1, h2, h3⟩ := id h
  have e := nI_v (n := ks.length) (by omega)
  have bad : ¬ (0 ≤ body.toInt ∧ body.toInt < (ks.length : Int)) → ∀ v M', v = some (Value.int (cI 0)) → M' = mI M 7 3 (cI 0) → (v = some (Value.int (actF ks body which x).1) ∧ RK M' ks ∧ RT M' (actF ks body which x).2 ∧ Fr [7, 43] M M') := by
    intro hn v M' hv hM
    have e9 : actF ks body which x = (cI 0, []) := if_neg hn
    rw [e9, hv, hM]
    exact ⟨rfl, RK_fr h (by simp [mI_at]) (by simp [mI_ne]), ⟨by simp [mI_at]; rfl, by simp, fun i c q => by simp at q⟩, Fr_mI Fr_refl (by decide)⟩
  refine call_run 400 rfl rfl (fun B Cl Z hZ hB hC => ?_)
  (conv => whnf); refine ⟨fun a => ?_, fun a => ?_⟩
  · simp only [c_lt, c_gt, c_le, c_ge, c_eq, c_ne, b2_z, b2_nz, b2_i, Classical.not_not, t0, t1, Nat.reduceMod, Nat.reduceDiv, Int.reduceAdd, Int.reduceNeg, Nat.reduceAdd, kv_0, kv_1, kv_2, kv_3, kc_0, kc_1, kc_2, kc_3] at a
    conv => whnf
    exact hZ _ _ (bad (by omega) _ _ rfl rfl)
  · simp only [c_lt, c_gt, c_le, c_ge, c_eq, c_ne, b2_z, b2_nz, b2_i, Classical.not_not, t0, t1, Nat.reduceMod, Nat.reduceDiv, Int.reduceAdd, Int.reduceNeg, Nat.reduceAdd, kv_0, kv_1, kv_2, kv_3, kc_0, kc_1, kc_2, kc_3] at a
    (conv => whnf); refine ⟨fun b => ?_, fun b => ?_⟩
    rotate_left
    · rw [mI_at] at b
      simp only [c_lt, c_gt, c_le, c_ge, c_eq, c_ne, b2_z, b2_nz, b2_i, Classical.not_not, t0, t1, Nat.reduceMod, Nat.reduceDiv, Int.reduceAdd, Int.reduceNeg, Nat.reduceAdd, kv_0, kv_1, kv_2, kv_3, kc_0, kc_1, kc_2, kc_3, h1, e] at b
      conv => whnf
      refine hZ _ _ (bad ?_ _ _ rfl rfl)
      simp at b
      rw [e] at b
      omega
    · have b2' : body.toInt < (ks.length : Int) := by
        have q := Int32.lt_iff_toInt_lt.mp (show body < (mI M 7 3 (cI 0)).1 7 1 from b)
        simp [mI_at] at q
        rw [h1, e] at q
        exact q
      obtain ⟨bn, rfl, e2, hbn⟩ := to_nI (x := body) (by omega)
      have hi : bn < ks.length := by omega
      have hk := List.getElem?_eq_getElem hi
      have hk8 := (h3 bn _ hk).2
      generalize hkk : ks[bn] = kk at hk hk8
      have hR0 : RK (mI M 7 3 (cI 0)) ks := RK_fr h (by simp [mI_at]) (by simp [mI_ne])
      (conv => whnf); refine ret_k hC (sp_kindOf hR0 hk) ?_
      have hR : RA (mI (mI (mI M 7 3 (cI 0)) 7 4 (nI kk)) 7 5 (nI bn)) kk bn [] := ⟨by simp [mI_at]; rfl, fun i c q => by simp at q, by simp [mI_at], by simp [mI_at]⟩
      have hFr : Fr [7, 43] M (mI (mI (mI M 7 3 (cI 0)) 7 4 (nI kk)) 7 5 (nI bn)) := Fr_mI (Fr_mI (Fr_mI Fr_refl (by decide)) (by decide)) (by decide)
      have f2 : ∀ M : Mem, fval M 7 4 (nth 0 [43, 0, 44, 0, 0, 0] 4) = .int (M.1 7 4) := fun _ => rfl
      have f3 : (mI (mI (mI M 7 3 (cI 0)) 7 4 (nI kk)) 7 5 (nI bn)).1 7 4 = nI kk := by simp [mI_at]
      have hg : ks.getD bn 0 = kk := by simp [List.getD, hi, hkk]
      have fin : ∀ (p : AR), actF ks (nI bn) which x = p → p.2.length ≤ 24 → ∀ v M', AP (mI (mI (mI M 7 3 (cI 0)) 7 4 (nI kk)) 7 5 (nI bn)) kk bn [] p v M' → (v = some (Value.int (actF ks (nI bn) which x).1) ∧ RK M' ks ∧ RT M' (actF ks (nI bn) which x).2 ∧ Fr [7, 43] M M') := by
        intro p hp hl v M' q
        rw [hp]
        obtain ⟨q1, q2, q3⟩ := q
        rw [List.nil_append] at q2
        refine ⟨q1, RK_fr h ?_ ?_, ⟨q2.1, hl, q2.2.1⟩, Fr_trans hFr q3.1⟩
        · rw [q3.2 1 (by omega)]; simp [mI_at]
        · rw [Fr_1 q3.1 42 (by decide)]; simp [mI_ne]
      have hact : ∀ p : AR, (if which.toInt = 0 then lys kk x bn else if which.toInt = 1 then lns kk x bn kk else if which.toInt = 2 then cts kk x bn kk else if which.toInt = 3 then tls kk x bn kk else (cI 0, [])) = p → actF ks (nI bn) which x = p := by
        intro p hp
        unfold actF
        rw [if_pos (by omega), e2, show ((bn : Int)).toNat = bn from rfl, hg]
        exact hp
      (conv => whnf); refine ⟨fun c => ?_, fun c => ?_⟩
      · simp only [c_lt, c_gt, c_le, c_ge, c_eq, c_ne, b2_z, b2_nz, b2_i, Classical.not_not, t0, t1, Nat.reduceMod, Nat.reduceDiv, Int.reduceAdd, Int.reduceNeg, Nat.reduceAdd, kv_0, kv_1, kv_2, kv_3, kc_0, kc_1, kc_2, kc_3, x_eq] at c
        (conv => whnf)
        simp only [Nat.reduceMod, f2, f3]
        refine hC _ _ _ _ _ (sp_lays (d := d + 5) 2 kk _ [] x (by omega) (by omega) hk8 hR (by simp) 0 (by omega)) (fun v M1 q => ?_)
        have q := fin _ (hact _ (if_pos c)) (by have := lys_l kk x bn; omega) v M1 q
        rw [q.1]
        (conv => whnf)
        exact hZ _ _ ⟨rfl, q.2⟩
      · simp only [c_lt, c_gt, c_le, c_ge, c_eq, c_ne, b2_z, b2_nz, b2_i, Classical.not_not, t0, t1, Nat.reduceMod, Nat.reduceDiv, Int.reduceAdd, Int.reduceNeg, Nat.reduceAdd, kv_0, kv_1, kv_2, kv_3, kc_0, kc_1, kc_2, kc_3, x_eq] at c
        (conv => whnf); refine ⟨fun g => ?_, fun g => ?_⟩
        · simp only [c_lt, c_gt, c_le, c_ge, c_eq, c_ne, b2_z, b2_nz, b2_i, Classical.not_not, t0, t1, Nat.reduceMod, Nat.reduceDiv, Int.reduceAdd, Int.reduceNeg, Nat.reduceAdd, kv_0, kv_1, kv_2, kv_3, kc_0, kc_1, kc_2, kc_3, x_eq] at g
          (conv => whnf)
          simp only [Nat.reduceMod, f2, f3]
          refine hC _ _ _ _ _ (sp_leans (d := d + 2) (x := x) hk8 hk8 hR (by simp) (show 0 + 5 < 16 by omega)) (fun v M1 q => ?_)
          have q := fin _ (hact _ (by rw [if_neg c, if_pos g])) (by have := lns_l kk x bn kk; omega) v M1 q
          rw [q.1]
          (conv => whnf)
          exact hZ _ _ ⟨rfl, q.2⟩
        · simp only [c_lt, c_gt, c_le, c_ge, c_eq, c_ne, b2_z, b2_nz, b2_i, Classical.not_not, t0, t1, Nat.reduceMod, Nat.reduceDiv, Int.reduceAdd, Int.reduceNeg, Nat.reduceAdd, kv_0, kv_1, kv_2, kv_3, kc_0, kc_1, kc_2, kc_3, x_eq] at g
          (conv => whnf); refine ⟨fun m => ?_, fun m => ?_⟩
          · simp only [c_lt, c_gt, c_le, c_ge, c_eq, c_ne, b2_z, b2_nz, b2_i, Classical.not_not, t0, t1, Nat.reduceMod, Nat.reduceDiv, Int.reduceAdd, Int.reduceNeg, Nat.reduceAdd, kv_0, kv_1, kv_2, kv_3, kc_0, kc_1, kc_2, kc_3, x_eq] at m
            (conv => whnf)
            simp only [Nat.reduceMod, f2, f3]
            refine hC _ _ _ _ _ (sp_cuts (d := d + 4) (x := x) hk8 hk8 hR (by simp) (show 0 + 3 < 16 by omega)) (fun v M1 q => ?_)
            have q := fin _ (hact _ (by rw [if_neg c, if_neg g, if_pos m])) (by have := cts_l kk x bn kk; omega) v M1 q
            rw [q.1]
            (conv => whnf)
            exact hZ _ _ ⟨rfl, q.2⟩
          · simp only [c_lt, c_gt, c_le, c_ge, c_eq, c_ne, b2_z, b2_nz, b2_i, Classical.not_not, t0, t1, Nat.reduceMod, Nat.reduceDiv, Int.reduceAdd, Int.reduceNeg, Nat.reduceAdd, kv_0, kv_1, kv_2, kv_3, kc_0, kc_1, kc_2, kc_3, x_eq] at m
            (conv => whnf); refine ⟨fun n => ?_, fun n => ?_⟩
            · simp only [c_lt, c_gt, c_le, c_ge, c_eq, c_ne, b2_z, b2_nz, b2_i, Classical.not_not, t0, t1, Nat.reduceMod, Nat.reduceDiv, Int.reduceAdd, Int.reduceNeg, Nat.reduceAdd, kv_0, kv_1, kv_2, kv_3, kc_0, kc_1, kc_2, kc_3, x_eq] at n
              (conv => whnf)
              simp only [Nat.reduceMod, f2, f3]
              refine hC _ _ _ _ _ (sp_tells (x := x) hk8 hk8 hR (by simp) (show 0 + 7 < 16 by omega)) (fun v M1 q => ?_)
              have q := fin _ (hact _ (by rw [if_neg c, if_neg g, if_neg m, if_pos n])) (by have := tls_l kk x bn kk; omega) v M1 q
              rw [q.1]
              (conv => whnf)
              exact hZ _ _ ⟨rfl, q.2⟩
            · simp only [c_lt, c_gt, c_le, c_ge, c_eq, c_ne, b2_z, b2_nz, b2_i, Classical.not_not, t0, t1, Nat.reduceMod, Nat.reduceDiv, Int.reduceAdd, Int.reduceNeg, Nat.reduceAdd, kv_0, kv_1, kv_2, kv_3, kc_0, kc_1, kc_2, kc_3, x_eq] at n
              (conv => whnf)
              have e9 := hact (cI 0, []) (by rw [if_neg c, if_neg g, if_neg m, if_neg n])
              refine hZ _ _ ?_
              rw [e9]
              refine ⟨rfl, RK_fr h (by simp [mI_at]) (by simp [mI_ne]), ⟨by simp [mI_at]; rfl, by simp, fun i c q => by simp at q⟩, hFr⟩
