/-! turns begun; a mark looked for -/
def trn (E : EnvK) (sz n i : Nat) : Int32 := amt E.1 E.2.1 (cI 5) (cI 0) (cI 0) (nI (sz + i)) (nI (n - 1 - i))
def tres (E : EnvK) (ls : List Lyr) (n : Nat) : Int32 × Nat := tS (trn E ls.length n) n n (bX E rgt ls ls.length n) (bX E dwn ls ls.length n)
def AT : List Nat := [5, 9, 37, 38, 45, 50]
theorem turn_loop {d n : Nat} {E : EnvK} {ls : List Lyr} (hn : n ≤ 4) (hl : ls.length + n ≤ 12) : ∀ (m i : Nat) (M : Mem), i + m = n → RSr M E ls false → RE M E → (∀ j, j < i → M.1 50 j = trn E ls.length n j) →
    BodyK (d + 12) 51 2 [(0, .ref 5), (1, .int (nI n)), (2, .int (nI i))] [] M (fun v M' => v = none ∧ M'.1 5 0 = (tres E ls n).1 ∧ M'.1 5 1 = nI (tres E ls n).2 ∧ Fr AT M M') := by
  have en := nI_v (n := n) (by omega)
  intro m
  induction m with
  | zero =>
    intro i M hi h he ht
    have e := nI_v (n := i) (by omega)
    refine body_run 400 rfl (fun B Cl Z hZ hB hC => ?_)
    (conv => whnf); refine ⟨fun b => ?_, fun b => ?_⟩
    rotate_left
    · simp only [c_lt, c_gt, c_le, c_ge, c_eq, c_ne, b2_z, b2_nz, b2_i, Classical.not_not, t0, t1, Nat.reduceMod, Nat.reduceDiv, Int.reduceAdd, Int.reduceNeg, Nat.reduceAdd, kv_0, kv_1, kv_4, kv_5, kc_0, kc_1, kc_4, kc_5, e, en] at b
      omega
    (conv => whnf)
    simp only [Nat.reduceMod, show ∀ M : Mem, fval M 5 5 (nth 0 [0, 0, 2, 10, 45, 0, 0, 46, 47, 48, 49, 50, 51, 52, 53] 5) = .int (M.1 5 5) from fun _ => rfl, h.1.1]
    refine hC _ _ _ _ _ (sp_leanOfBase (d := d + 6) (base := ls.length) (ab := n) (Nat.le_refl _) hl h he) (fun v M1 q => ?_)
    obtain ⟨rfl, ⟨q2, q2'⟩, q3, q4⟩ := q
    (conv => whnf)
    have e9 : ∀ j, (mI M1 5 1 (cI 0)).1 9 j = M1.1 9 j := fun j => by rw [mI_ne _ _ _ (by decide)]
    have hrec := tn_all (tr := trn E ls.length n) hn n (d + 11) 0 ((mI M1 5 1 (cI 0)).1 9 0) ((mI M1 5 1 (cI 0)).1 9 1) (mI M1 5 1 (cI 0)) (by omega) (by omega) (fun j hj => by rw [mI_ne _ _ _ (by decide), Fr_1 q4 50 (by decide)]; exact ht j (by omega)) (fun _ => mI_1 _ _ _ _)
    refine hC _ _ _ _ _ hrec (fun v M2 u => ?_)
    obtain ⟨rfl, u2, u3, u4⟩ := u
    have u4 := u4 rfl
    rw [e9, e9, q2, q2'] at u4 ⊢
    (conv => whnf)
    refine hZ _ _ ⟨rfl, mI_1 _ _ _ _, (mI_2 _ _ (by decide)).trans u4, Fr_trans (Fr_sub q4 (by decide)) (Fr_trans (Fr_mI Fr_refl (by decide)) (Fr_trans (Fr_sub u2.1 (by decide)) (Fr_mI Fr_refl (by decide))))⟩
  | succ m ih =>
    intro i M hi h he ht
    have e := nI_v (n := i) (by omega)
    have x1 : nI n - cI 1 - nI i = nI (n - 1 - i) := by rw [show nI n - cI 1 = nI (n - 1) from nI_sub (b := 1) (by omega), nI_sub (by omega)]
    refine body_run 400 rfl (fun B Cl Z hZ hB hC => ?_)
    (conv => whnf); refine ⟨fun b => ?_, fun b => ?_⟩
    · simp only [c_lt, c_gt, c_le, c_ge, c_eq, c_ne, b2_z, b2_nz, b2_i, Classical.not_not, t0, t1, Nat.reduceMod, Nat.reduceDiv, Int.reduceAdd, Int.reduceNeg, Nat.reduceAdd, kv_0, kv_1, kv_4, kv_5, kc_0, kc_1, kc_4, kc_5, e, en] at b
      omega
    (conv => whnf); refine ⟨fun b => ?_, fun b => ?_⟩
    · simp only [c_lt, c_gt, c_le, c_ge, c_eq, c_ne, b2_z, b2_nz, b2_i, Classical.not_not, t0, t1, Nat.reduceMod, Nat.reduceDiv, Int.reduceAdd, Int.reduceNeg, Nat.reduceAdd, kv_0, kv_1, kv_4, kv_5, kc_0, kc_1, kc_4, kc_5, e] at b
      omega
    (conv => whnf)
    simp only [Nat.reduceMod, h.1.1, nI_add, x1]
    refine hC _ _ _ _ _ (sp_amount (d := d + 8) he.1) (fun v M1 q => ?_)
    obtain ⟨rfl, q2⟩ := q
    rw [he.2.1]
    (conv => whnf)
    refine ⟨nI_vp (by omega) (by omega), ?_⟩
    (conv => whnf)
    rw [nI_c (n := i) (by omega)]
    have hF : ∀ x, Fr [37, 38, 50] M (mI M1 50 i x) := fun x => Fr_mI (Fr_sub q2 (by decide)) (by decide)
    refine hB _ _ _ _ (Body_lv (Body_mono (ih (i + 1) _ (by omega) (RSr_fr h (hF _) (by decide)) (RE_fr he (hF _) (by decide)) (fun j hj => ?_)) (fun v M' z => ⟨z.1, z.2.1, z.2.2.1, Fr_trans (Fr_sub (hF _) (by decide)) z.2.2.2⟩)) ⟨rfl, rfl, v_eq (nI_i1 i), trivial⟩)
    rw [mI_at]
    by_cases z : j = i
    · subst z
      rw [if_pos ⟨rfl, rfl⟩]
      rfl
    · rw [if_neg (fun y => z y.2), Fr_1 q2 50 (by decide)]
      exact ht j (by omega)
theorem sp_turnsBest {d n : Nat} {M : Mem} {E : EnvK} {ls : List Lyr} (hn : n ≤ 4) (hl : ls.length + n ≤ 12) (h : RSr M E ls false) (he : RE M E) : Call (d + 12) 51 [.ref 5, .int (nI n)] M (fun v M' => v = none ∧ M'.1 5 0 = (tres E ls n).1 ∧ M'.1 5 1 = nI (tres E ls n).2 ∧ Fr AT M M') := by
  refine call_run 400 rfl rfl (fun B Cl Z hZ hB hC => ?_)
  conv => whnf
  exact hB _ _ _ _ (Body_lv (turn_loop (d := d) hn hl n 0 M (by omega) h he (fun j hj => absurd hj (Nat.not_lt_zero _))) ⟨rfl, rfl, rfl, trivial⟩)
def hasM (k : Nat) (ls : List Lyr) : Bool := ls.any fun q => decide (q.2.2.1 = k)
theorem mark_loop {d k : Nat} {M : Mem} {ls : List Lyr} (hk : k < 2147483648) (h : RSn M ls) : ∀ (m i : Nat), i + m = ls.length → BodyK (d + 2) 46 2 [(0, .ref 5), (1, .int (nI k)), (2, .int (nI i))] [] M (RV (some (.int (b2 (hasM k (ls.drop i) = true)))) M) := by
  have h12 := h.2.1
  have ek := nI_v hk
  intro m
  induction m with
  | zero =>
    intro i hi
    have e := nI_v (n := i) (by omega)
    have en := nI_v (n := ls.length) (by omega)
    have hd : ls.drop i = [] := List.drop_eq_nil_of_le (by omega)
    refine body_run 400 rfl (fun B Cl Z hZ hB hC => ?_)
    (conv => whnf); refine ⟨fun b => ?_, fun b => ?_⟩
    · (conv => whnf)
      refine ⟨Or.inl rfl, hZ _ _ ⟨v_eq (b2_0 ?_), rfl⟩⟩
      rw [hd]
      simp [hasM]
    · simp only [c_lt, c_gt, c_le, c_ge, c_eq, c_ne, b2_z, b2_nz, b2_i, Classical.not_not, t0, t1, Nat.reduceMod, Nat.reduceDiv, Int.reduceAdd, Int.reduceNeg, Nat.reduceAdd, kv_0, kv_1, kv_2, kc_0, kc_1, kc_2, h.1, e, en] at b
      omega
  | succ m ih =>
    intro i hi
    have e := nI_v (n := i) (by omega)
    have en := nI_v (n := ls.length) (by omega)
    have hil : i < ls.length := by omega
    have hq := List.getElem?_eq_getElem hil
    have hd : ls.drop i = ls[i] :: ls.drop (i + 1) := List.drop_eq_getElem_cons hil
    generalize ls[i] = q at hq hd
    have hok := (h.2.2 i q hq).1
    have em := nI_v (n := q.2.2.1) (by have := hok.2.2.1; omega)
    refine body_run 400 rfl (fun B Cl Z hZ hB hC => ?_)
    (conv => whnf); refine ⟨fun b => ?_, fun b => ?_⟩
    · simp only [c_lt, c_gt, c_le, c_ge, c_eq, c_ne, b2_z, b2_nz, b2_i, Classical.not_not, t0, t1, Nat.reduceMod, Nat.reduceDiv, Int.reduceAdd, Int.reduceNeg, Nat.reduceAdd, kv_0, kv_1, kv_2, kc_0, kc_1, kc_2, h.1, e, en] at b
      omega
    (conv => whnf); refine ret_k hC (sp_snumber h hq (show 2 < 4 by omega)) ?_
    (conv => whnf); refine ⟨fun g => ?_, fun g => ?_⟩
    · replace g : ¬ nI q.2.2.1 = nI k := g
      rw [x_eq, em, ek] at g
      (conv => whnf)
      have hne : ¬ q.2.2.1 = k := by omega
      have hh : hasM k (ls.drop i) = hasM k (ls.drop (i + 1)) := by rw [hd]; simp [hasM, hne]
      refine hB _ _ _ _ (Body_lv (Body_mono (ih (i + 1) (by omega)) (fun v M' z => ?_)) ⟨rfl, rfl, v_eq (nI_i1 i), trivial⟩)
      rw [hh]
      exact z
    · replace g : ¬ ¬ nI q.2.2.1 = nI k := g
      rw [x_eq, em, ek] at g
      (conv => whnf)
      refine ⟨Or.inr rfl, hZ _ _ ⟨v_eq (b2_1 (by rw [hd]; simp [hasM]; exact Or.inl (by omega))), rfl⟩⟩
theorem sp_hasMark {d k : Nat} {M : Mem} {ls : List Lyr} (hk : k < 2147483648) (h : RSn M ls) : Call (d + 2) 46 [.ref 5, .int (nI k)] M (RV (some (.int (b2 (hasM k ls = true)))) M) := by
  refine call_run 400 rfl rfl (fun B Cl Z hZ hB hC => ?_)
  conv => whnf
  exact hB _ _ _ _ (Body_lv (mark_loop (d := d) hk h ls.length 0 (by omega)) ⟨rfl, rfl, rfl, trivial⟩)
