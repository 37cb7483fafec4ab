/-! copying from shelf to shelf; the shelf at a place -/
theorem lay_sh {a : Nat} (ha : isSh a) : layK a = (0, 6, [0, 0, 0, 0, a + 2]) := by
  rcases ha with rfl | rfl | rfl | rfl | rfl | rfl <;> rfl
def cpk (l f : List Int64) (i j n k : Nat) : List Int64 := l.mapIdx fun x v => if (i < j ∧ j + n - k ≤ x ∧ x < j + n) ∨ (j ≤ i ∧ j ≤ x ∧ x < j + k) then f.getD (i + (x - j)) 0 else v
theorem cpk_at {l f : List Int64} {i j n k x : Nat} : (cpk l f i j n k)[x]? = (l[x]?).map fun v => if (i < j ∧ j + n - k ≤ x ∧ x < j + n) ∨ (j ≤ i ∧ j ≤ x ∧ x < j + k) then f.getD (i + (x - j)) 0 else v := by
  simp [cpk, List.getElem?_mapIdx]
theorem cpk_len {l f : List Int64} {i j n k : Nat} : (cpk l f i j n k).length = l.length := by simp [cpk]
theorem cpk_0 {l f : List Int64} {i j n : Nat} : cpk l f i j n 0 = l := by
  apply List.ext_getElem?
  intro x
  rw [cpk_at]
  cases l[x]? with
  | none => rfl
  | some v =>
    simp only [Option.map_some]
    rw [if_neg (by omega)]
theorem cpk_n {l f : List Int64} {i j n : Nat} : cpk l f i j n n = cpd l f i j n := by
  apply List.ext_getElem?
  intro x
  rw [cpk_at]
  simp only [cpd, List.getElem?_mapIdx]
  cases l[x]? with
  | none => rfl
  | some v =>
    simp only [Option.map_some]
    by_cases z : j ≤ x ∧ x < j + n
    · rw [if_pos (by omega), if_pos z]
    · rw [if_neg (by omega), if_neg z]
theorem cpk_set {l f : List Int64} {i j n k o : Nat} {y : Int64} (hk : k < n) (hl : j + n ≤ l.length) (ho : (i < j ∧ o = n - 1 - k) ∨ (j ≤ i ∧ o = k)) (hy : f[i + o]? = some y) : (cpk l f i j n k).set (j + o) y = cpk l f i j n (k + 1) := by
  apply List.ext_getElem?
  intro x
  by_cases z : j + o = x
  · subst z
    rw [List.getElem?_set_self (by rw [cpk_len]; omega), cpk_at, List.getElem?_eq_getElem (show j + o < l.length by omega)]
    simp only [Option.map_some]
    rw [if_pos (by omega), show i + (j + o - j) = i + o by omega, List.getD, hy]
    rfl
  · rw [List.getElem?_set_ne z, cpk_at, cpk_at]
    cases l[x]? with
    | none => rfl
    | some v =>
      simp only [Option.map_some]
      by_cases c : (i < j ∧ j + n - k ≤ x ∧ x < j + n) ∨ (j ≤ i ∧ j ≤ x ∧ x < j + k)
      · rw [if_pos c, if_pos (by omega)]
      · rw [if_neg c, if_neg (by omega)]
theorem cpk_rd {f : List Int64} {i j n k o : Nat} (hk : k < n) (ho : (i < j ∧ o = n - 1 - k) ∨ (j ≤ i ∧ o = k)) : (cpk f f i j n k)[i + o]? = f[i + o]? := by
  rw [cpk_at]
  cases f[i + o]? with
  | none => rfl
  | some v =>
    simp only [Option.map_some]
    rw [if_neg (by omega)]
theorem copy_loop {d a1 a2 t i j n : Nat} {l f : List Int64} (h1 : isSh a1) (h2 : isSh a2) (hs : a1 = a2 → l = f) (hf : ∀ x ∈ f, nrw t x = x) (hl : j + n ≤ l.length) (hl60 : l.length ≤ 60) (hf60 : f.length ≤ 60) (hfl : i + n ≤ f.length) : ∀ (m k : Nat) (M : Mem), k + m = n → RS M a1 (some (.inr (t, cpk l f i j n k))) → (¬ a1 = a2 → RS M a2 (some (.inr (t, f)))) →
    BodyK (d + 3) 80 3 [(0, .ref a1), (1, .ref a2), (2, .int (nI i)), (3, .int (nI j)), (4, .int (nI n)), (5, .int (nI k))] [] M (fun w M' => w = none ∧ Fr [a1 + 1] M M' ∧ RS M' a1 (some (.inr (t, cpd l f i j n)))) := by
  have ei := nI_v (n := i) (by omega)
  have ej := nI_v (n := j) (by omega)
  have en := nI_v (n := n) (by omega)
  intro m
  induction m with
  | zero =>
    intro k M hk hR1 hR2
    have e := nI_v (n := k) (by omega)
    refine body_run 400 rfl (fun B Cl Z hZ hB hC => ?_)
    (conv => whnf); refine ⟨fun b => ?_, fun b => ?_⟩
    · conv => whnf
      obtain rfl : k = n := by omega
      rw [cpk_n] at hR1
      exact hZ _ _ ⟨rfl, Fr_refl, hR1⟩
    · simp only [c_lt, c_gt, c_le, c_ge, c_eq, c_ne, b2_z, b2_nz, b2_i, Classical.not_not, t0, t1, Nat.reduceMod, Nat.reduceDiv, Int.reduceAdd, Int.reduceNeg, Nat.reduceAdd, kv_0, kv_1, kc_0, kc_1, e, en] at b
      omega
  | succ m ih =>
    intro k M hk hR1 hR2
    have e := nI_v (n := k) (by omega)
    have fin : ∀ (o : Nat), (i < j ∧ o = n - 1 - k) ∨ (j ≤ i ∧ o = k) → o < n ∧ ∃ y, f[i + o]? = some y ∧ (∃ l2, RS M a2 (some (.inr (t, l2))) ∧ l2[i + o]? = some y) ∧ nrw t y = y ∧ (cpk l f i j n k).set (j + o) y = cpk l f i j n (k + 1) := by
      intro o ho
      have ho2 : o < n := by omega
      have hx : i + o < f.length := by omega
      refine ⟨ho2, f[i + o], List.getElem?_eq_getElem hx, ?_, hf _ (List.getElem_mem hx), cpk_set (by omega) hl ho (List.getElem?_eq_getElem hx)⟩
      by_cases z : a1 = a2
      · subst z
        obtain rfl := hs rfl
        exact ⟨_, hR1, by rw [cpk_rd (by omega) ho]; exact List.getElem?_eq_getElem hx⟩
      · exact ⟨f, hR2 z, List.getElem?_eq_getElem hx⟩
    have post : ∀ (M1 : Mem), Fr [a1 + 1] M M1 → RS M1 a1 (some (.inr (t, cpk l f i j n (k + 1)))) → BodyK (d + 3) 80 3 [(0, .ref a1), (1, .ref a2), (2, .int (nI i)), (3, .int (nI j)), (4, .int (nI n)), (5, .int (nI (k + 1)))] [] M1 (fun w M' => w = none ∧ Fr [a1 + 1] M M' ∧ RS M' a1 (some (.inr (t, cpd l f i j n)))) := by
      intro M1 hF hR
      refine Body_mono (ih (k + 1) M1 (by omega) hR (fun z => RS_fr (hR2 z) hF ?_)) (fun w M' q => ⟨q.1, Fr_trans hF q.2.1, q.2.2⟩)
      rcases h1 with rfl | rfl | rfl | rfl | rfl | rfl <;> rcases h2 with rfl | rfl | rfl | rfl | rfl | rfl <;> first | rfl | exact absurd rfl z
    refine body_run 400 rfl (fun B Cl Z hZ hB hC => ?_)
    (conv => whnf); refine ⟨fun b => ?_, fun b => ?_⟩
    · simp only [c_lt, c_gt, c_le, c_ge, c_eq, c_ne, b2_z, b2_nz, b2_i, Classical.not_not, t0, t1, Nat.reduceMod, Nat.reduceDiv, Int.reduceAdd, Int.reduceNeg, Nat.reduceAdd, kv_0, kv_1, kc_0, kc_1, e, en] at b
      omega
    · (conv => whnf); refine ⟨fun c => ?_, fun c => ?_⟩
      · simp only [c_lt, c_gt, c_le, c_ge, c_eq, c_ne, b2_z, b2_nz, b2_i, Classical.not_not, t0, t1, Nat.reduceMod, Nat.reduceDiv, Int.reduceAdd, Int.reduceNeg, Nat.reduceAdd, kv_0, kv_1, kc_0, kc_1, ei, ej] at c
        obtain ⟨ho, y, hy, ⟨l2, hR3, hy2⟩, hn, hst⟩ := fin k (Or.inr ⟨by omega, rfl⟩)
        (conv => whnf)
        rw [lay_sh h2]
        (conv => whnf)
        rw [nI_add]
        refine ret_k hC (sp_cell h2 hR3 hy2) ?_
        (conv => whnf)
        rw [lay_sh h1]
        (conv => whnf)
        rw [nI_add]
        refine hC _ _ _ _ _ (sp_write h1 hR1 (by rw [cpk_len]; omega)) (fun v M1 q => ?_)
        obtain ⟨rfl, q2, q3⟩ := q
        rw [hn, hst] at q3
        (conv => whnf)
        exact hB _ _ _ _ (Body_lv (post M1 q2 q3) ⟨rfl, rfl, rfl, rfl, rfl, v_eq (nI_i1 k), trivial⟩)
      · simp only [c_lt, c_gt, c_le, c_ge, c_eq, c_ne, b2_z, b2_nz, b2_i, Classical.not_not, t0, t1, Nat.reduceMod, Nat.reduceDiv, Int.reduceAdd, Int.reduceNeg, Nat.reduceAdd, kv_0, kv_1, kc_0, kc_1, ei, ej] at c
        have x1 : nI n - cI 1 - nI k = nI (n - 1 - k) := by rw [show nI n - cI 1 = nI (n - 1) from nI_sub (b := 1) (by omega), nI_sub (by omega)]
        obtain ⟨ho, y, hy, ⟨l2, hR3, hy2⟩, hn, hst⟩ := fin (n - 1 - k) (Or.inl ⟨by omega, rfl⟩)
        (conv => whnf)
        rw [lay_sh h2]
        (conv => whnf)
        rw [x1, nI_add]
        refine ret_k hC (sp_cell h2 hR3 hy2) ?_
        (conv => whnf)
        rw [lay_sh h1]
        (conv => whnf)
        rw [nI_add]
        refine hC _ _ _ _ _ (sp_write h1 hR1 (by rw [cpk_len]; omega)) (fun v M1 q => ?_)
        obtain ⟨rfl, q2, q3⟩ := q
        rw [hn, hst] at q3
        (conv => whnf)
        exact hB _ _ _ _ (Body_lv (post M1 q2 q3) ⟨rfl, rfl, rfl, rfl, rfl, v_eq (nI_i1 k), trivial⟩)
theorem sp_copyFrom {d a1 a2 t i j n : Nat} {M : Mem} {l f : List Int64} (h1 : isSh a1) (h2 : isSh a2) (hs : a1 = a2 → l = f) (hf : ∀ x ∈ f, nrw t x = x) (hl : j + n ≤ l.length) (hfl : i + n ≤ f.length) (hR1 : RS M a1 (some (.inr (t, l)))) (hR2 : RS M a2 (some (.inr (t, f)))) :
    Call (d + 3) 80 [.ref a1, .ref a2, .int (nI i), .int (nI j), .int (nI n)] M (fun w M' => w = none ∧ Fr [a1 + 1] M M' ∧ RS M' a1 (some (.inr (t, cpd l f i j n)))) := by
  refine call_run 400 rfl rfl (fun B Cl Z hZ hB hC => ?_)
  conv => whnf
  exact hB _ _ _ _ (Body_lv (copy_loop h1 h2 hs hf hl hR1.2.2.2.2.1 hR2.2.2.2.2.1 hfl n 0 M (by omega) (by rw [cpk_0]; exact hR1) (fun _ => hR2)) ⟨rfl, rfl, rfl, rfl, rfl, rfl, trivial⟩)
theorem sh_is {i : Nat} (h : i < 6) : isSh (22 + 2 * i) := by
  unfold isSh; omega
/-- the shelf at a place, or null -/
theorem sp_shelfAt {d : Nat} {M : Mem} {x : Int32} : Call (d + 1) 139 [.ref 0, .int x] M (fun v M' => M' = M ∧ ((¬ (0 ≤ x.toInt ∧ x.toInt < 6) ∧ v = some .null) ∨ ∃ i, i < 6 ∧ x = nI i ∧ v = some (.ref (22 + 2 * i)))) := by
  refine call_run 400 rfl rfl (fun B Cl Z hZ hB hC => ?_)
  (conv => whnf); refine ⟨fun b => ?_, fun b => ?_⟩
  · simp only [c_lt, c_gt, c_le, c_ge, c_eq, c_ne, b2_z, b2_nz, b2_i, Classical.not_not, t0, t1, Nat.reduceMod, Nat.reduceDiv, Int.reduceAdd, Int.reduceNeg, Nat.reduceAdd] at b
    conv => whnf
    exact hZ _ _ ⟨rfl, Or.inl ⟨by omega, rfl⟩⟩
  · simp only [c_lt, c_gt, c_le, c_ge, c_eq, c_ne, b2_z, b2_nz, b2_i, Classical.not_not, t0, t1, Nat.reduceMod, Nat.reduceDiv, Int.reduceAdd, Int.reduceNeg, Nat.reduceAdd] at b
    (conv => whnf); refine ⟨fun c => ?_, fun c => ?_⟩
    · simp only [c_lt, c_gt, c_le, c_ge, c_eq, c_ne, b2_z, b2_nz, b2_i, Classical.not_not, t0, t1, Nat.reduceMod, Nat.reduceDiv, Int.reduceAdd, Int.reduceNeg, Nat.reduceAdd] at c
      replace c : (6 : Int) ≤ x.toInt := c
      conv => whnf
      exact hZ _ _ ⟨rfl, Or.inl ⟨by omega, rfl⟩⟩
    · simp only [c_lt, c_gt, c_le, c_ge, c_eq, c_ne, b2_z, b2_nz, b2_i, Classical.not_not, t0, t1, Nat.reduceMod, Nat.reduceDiv, Int.reduceAdd, Int.reduceNeg, Nat.reduceAdd] at c
      replace c : ¬ (6 : Int) ≤ x.toInt := c
      obtain ⟨i, rfl, e, hi⟩ := to_nI (x := x) (by omega)
      (conv => whnf)
      refine ⟨nI_vp (by omega) (by omega), ?_⟩
      (conv => whnf)
      refine hZ _ _ ⟨rfl, Or.inr ⟨i, by omega, rfl, ?_⟩⟩
      rw [nI_c (by omega)]
