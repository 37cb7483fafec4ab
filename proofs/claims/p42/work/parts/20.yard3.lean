/-! counting, naming, growing older, telling -/
def sH (rk : Rk) : Nat → Nat → Nat
  | _, 0 => 0
  | r, n + 1 => hgt rk r + sH rk (r + 1) n
theorem sH_le {rk : Rk} (h : ∀ r, hgt rk r ≤ 12) : ∀ n r, sH rk r n ≤ 12 * n
  | 0, _ => Nat.zero_le _
  | n + 1, r => by have := sH_le h n (r + 1); have := h r; unfold sH; omega
theorem layers_loop {d : Nat} {M : Mem} {rk : Rk} (h : RY M 10 rk) : ∀ (n r a : Nat), r + n = 4 → BodyK (d + 3) 70 4 [(0, .ref 10), (1, .int (nI a)), (2, .int (nI r))] [] M (RV (some (.int (nI (a + sH rk r n)))) M) := by
  intro n
  induction n with
  | zero =>
    intro r a hr
    have e := nI_v (n := r) (by omega)
    refine body_run 400 rfl (fun B Cl Z hZ hB hC => ?_)
    (conv => whnf); refine ⟨fun b => ?_, fun b => ?_⟩
    · conv => whnf
      exact hZ _ _ ⟨rfl, rfl⟩
    · simp only [c_lt, c_gt, c_le, c_ge, c_eq, c_ne, b2_z, b2_nz, b2_i, Classical.not_not, t0, t1, Nat.reduceMod, Nat.reduceDiv, Int.reduceAdd, Int.reduceNeg, Nat.reduceAdd, kv_0, kv_1, kv_4, kc_0, kc_1, kc_4, e] at b
      omega
  | succ n ih =>
    intro r a hr
    have e := nI_v (n := r) (by omega)
    refine body_run 400 rfl (fun B Cl Z hZ hB hC => ?_)
    (conv => whnf); refine ⟨fun b => ?_, fun b => ?_⟩
    · simp only [c_lt, c_gt, c_le, c_ge, c_eq, c_ne, b2_z, b2_nz, b2_i, Classical.not_not, t0, t1, Nat.reduceMod, Nat.reduceDiv, Int.reduceAdd, Int.reduceNeg, Nat.reduceAdd, kv_0, kv_1, kv_4, kc_0, kc_1, kc_4, e] at b
      omega
    · (conv => whnf); refine ret_k hC (sp_height (Or.inl rfl) h (by omega)) ?_
      (conv => whnf)
      have := ih (r + 1) (a + hgt rk r) (by omega)
      refine hB _ _ _ _ (Body_lv (Body_mono this (fun v M' q => ?_)) ⟨rfl, v_eq (nI_add _ _), v_eq (nI_i1 r), trivial⟩)
      rw [Nat.add_assoc] at q
      exact q
theorem sp_layersOfAll {d : Nat} {M : Mem} {rk : Rk} (h : RY M 10 rk) : Call (d + 3) 70 [.ref 10] M (RV (some (.int (nI (sH rk 0 4)))) M) := by
  refine call_run 400 rfl rfl (fun B Cl Z hZ hB hC => ?_)
  conv => whnf
  have := layers_loop (d := d) h 4 0 0 rfl
  rw [Nat.zero_add] at this
  exact hB _ _ _ _ (Body_lv this ⟨rfl, rfl, rfl, trivial⟩)
theorem sp_nameOfH {d : Nat} {M : Mem} {rk : Rk} {r l : Nat} (h : RH M 10 rk) (hl : l < hgt rk r) : Call (d + 2) 69 [.ref 10, .int (nI r), .int (nI l)] M (RV (some (.int (M.1 12 (12 * r + l)))) M) := by
  obtain ⟨h1, h2, h3, h4⟩ := id h
  have hr := hgt_lt hl
  have hh := h4 r
  have x1 : nI r * cI 12 + nI l = nI (12 * r + l) := by simp only [cn_0, cn_12, nI_add, nI_mul]; congr 1; omega
  refine call_run 400 rfl rfl (fun B Cl Z hZ hB hC => ?_)
  (conv => whnf); refine ret_k hC (sp_hasLayerH (Or.inl rfl) h (by omega) (by omega)) ?_
  (conv => whnf); refine ⟨fun a => ?_, fun a => ?_⟩
  · simp only [c_lt, c_gt, c_le, c_ge, c_eq, c_ne, b2_z, b2_nz, b2_i, Classical.not_not, t0, t1, Nat.reduceMod, Nat.reduceDiv, Int.reduceAdd, Int.reduceNeg, Nat.reduceAdd, kv_0, kv_12, kc_0, kc_12] at a
    exact absurd hl a
  · (conv => whnf)
    rw [x1]
    refine ⟨nI_vp (by omega) (by omega), ?_⟩
    (conv => whnf)
    rw [nI_c (by omega)]
    exact hZ _ _ ⟨rfl, rfl⟩
theorem sp_nameOf {d : Nat} {M : Mem} {rk : Rk} {r l : Nat} (h : RY M 10 rk) (hl : l < hgt rk r) : Call (d + 2) 69 [.ref 10, .int (nI r), .int (nI l)] M (RV (some (.int (M.1 12 (12 * r + l)))) M) := sp_nameOfH h.H hl
/-- ages -/
theorem older_loop {d : Nat} : ∀ (n k : Nat) (M : Mem), k + n = 48 → BodyK (d + 1) 75 2 [(0, .ref 10), (1, .int (nI (4 * k + 3)))] [] M (fun v M' => v = none ∧ Fr [11] M M' ∧ ∀ i, M'.1 11 i = if i % 4 = 3 ∧ 4 * k ≤ i ∧ i < 192 then minI 99 (M.1 11 i + 1) else M.1 11 i) := by
  intro n
  induction n with
  | zero =>
    intro k M hk
    have e := nI_v (n := 4 * k + 3) (by omega)
    refine body_run 400 rfl (fun B Cl Z hZ hB hC => ?_)
    (conv => whnf); refine ⟨fun b => ?_, fun b => ?_⟩
    · conv => whnf
      refine hZ _ _ ⟨rfl, Fr_refl, fun i => ?_⟩
      rw [if_neg (by omega)]
    · simp only [c_lt, c_gt, c_le, c_ge, c_eq, c_ne, b2_z, b2_nz, b2_i, Classical.not_not, t0, t1, Nat.reduceMod, Nat.reduceDiv, Int.reduceAdd, Int.reduceNeg, Nat.reduceAdd, kv_1, kv_3, kv_4, kv_99, kc_1, kc_3, kc_4, kc_99, e] at b
      replace b : ¬ (192 : Int) ≤ ((4 * k + 3 : Nat) : Int) := b
      omega
  | succ n ih =>
    intro k M hk
    have e := nI_v (n := 4 * k + 3) (by omega)
    refine body_run 400 rfl (fun B Cl Z hZ hB hC => ?_)
    (conv => whnf); refine ⟨fun b => ?_, fun b => ?_⟩
    · simp only [c_lt, c_gt, c_le, c_ge, c_eq, c_ne, b2_z, b2_nz, b2_i, Classical.not_not, t0, t1, Nat.reduceMod, Nat.reduceDiv, Int.reduceAdd, Int.reduceNeg, Nat.reduceAdd, kv_1, kv_3, kv_4, kv_99, kc_1, kc_3, kc_4, kc_99, e] at b
      replace b : (192 : Int) ≤ ((4 * k + 3 : Nat) : Int) := b
      omega
    · (conv => whnf)
      refine ⟨nI_vp (by omega) (by omega), ?_⟩
      (conv => whnf)
      refine ⟨nI_vp (by omega) (by omega), ?_⟩
      (conv => whnf)
      rw [nI_c (by omega)]
      have := ih (k + 1) (mI M 11 (4 * k + 3) (minI 99 (M.1 11 (4 * k + 3) + 1))) (by omega)
      refine hB _ _ _ _ (Body_lv (Body_mono this (fun v M' q => ⟨q.1, Fr_trans (Fr_mI Fr_refl (by decide)) q.2.1, fun i => ?_⟩)) ⟨rfl, v_eq (nI_add _ _), trivial⟩)
      rw [q.2.2 i]
      simp only [mI_at, true_and]
      by_cases z : i = 4 * k + 3
      · subst z
        rw [if_neg (by omega), if_pos rfl, if_pos (by omega)]
      · rw [if_neg z]
        by_cases z2 : i % 4 = 3 ∧ 4 * k ≤ i ∧ i < 192
        · rw [if_pos (by omega), if_pos z2]
        · rw [if_neg (by omega), if_neg z2]
def old1 (q : Lyr) : Lyr := (q.1, q.2.1, q.2.2.1, if q.2.2.2 + 1 < 99 then q.2.2.2 + 1 else 99)
def older (rk : Rk) : Rk := rk.map fun l => l.map old1
theorem older_at {rk : Rk} {r : Nat} : (older rk).getD r [] = (rk.getD r []).map old1 := by
  simp only [older, List.getD, List.getElem?_map]
  cases rk[r]? <;> rfl
theorem older_hgt {rk : Rk} {r : Nat} : hgt (older rk) r = hgt rk r := by
  unfold hgt; rw [older_at]; simp
theorem minI_n {a : Nat} (h : a < 2147483647) : minI 99 (nI a + 1) = nI (if a + 1 < 99 then a + 1 else 99) := by
  rw [nI_1]
  unfold minI
  have e := nI_v (n := a + 1) (by omega)
  have : (nI (a + 1) < (99 : Int32)) = (a + 1 < 99) := propext ⟨fun q => by
    have := Int32.lt_iff_toInt_lt.mp q
    rw [e] at this
    replace this : ((a + 1 : Nat) : Int) < 99 := this
    omega, fun q => Int32.lt_iff_toInt_lt.mpr (by rw [e]; show ((a + 1 : Nat) : Int) < 99; omega)⟩
  simp only [this]
  split
  · rfl
  · rfl
theorem sp_growOlder {d : Nat} {M : Mem} {rk : Rk} (h : RY M 10 rk) : Call (d + 1) 75 [.ref 10] M (fun v M' => v = none ∧ Fr [11] M M' ∧ RY M' 10 (older rk)) := by
  obtain ⟨h1, h2, h3, h4, h5⟩ := id h
  refine call_run 400 rfl rfl (fun B Cl Z hZ hB hC => ?_)
  conv => whnf
  refine hB _ _ _ _ (Body_lv (Body_mono (older_loop 48 0 M rfl) (fun v M' q => ⟨q.1, q.2.1, ?_⟩)) ⟨rfl, rfl, trivial⟩)
  obtain ⟨-, q2, q3⟩ := q
  refine ⟨by rw [Fr_1 q2 10 (by decide), h1]; simp [older], by simp [older]; exact h2, fun r hr => by rw [Fr_1 q2 _ (by decide), older_hgt]; exact h3 r hr, fun r => by rw [older_hgt]; exact h4 r, fun r l q hq => ?_⟩
  rw [older_at, List.getElem?_map] at hq
  obtain ⟨p, hp, rfl⟩ := Option.map_eq_some_iff.mp hq
  obtain ⟨c1, c2⟩ := h5 r l p hp
  have z1 := ly_lt hp
  have z2 := hgt_lt z1
  have z3 := h4 r
  obtain ⟨o1, o2, o3, o4⟩ := c1
  refine ⟨⟨o1, o2, o3, by show (if p.2.2.2 + 1 < 99 then p.2.2.2 + 1 else 99) < 100; split <;> omega⟩, fun j hj => ?_⟩
  rw [q3]
  match j, hj with
  | 0, hj => rw [if_neg (by omega)]; exact c2 0 hj
  | 1, hj => rw [if_neg (by omega)]; exact c2 1 hj
  | 2, hj => rw [if_neg (by omega)]; exact c2 2 hj
  | 3, hj =>
    rw [if_pos (by omega), show M.1 11 ((12 * r + l) * 4 + 3) = nI p.2.2.2 from c2 3 hj]
    exact minI_n (by omega)
/-- new names -/
theorem anew_loop {d L : Nat} : ∀ (n k : Nat) (M : Mem), k + n = 48 → BodyK (d + 1) 74 4 [(0, .ref 10), (2, .int (nI (L + k))), (3, .int (nI k))] [] M (fun v M' => v = some (.int (nI (L + 48))) ∧ Fr [12] M M' ∧ ∀ i, M'.1 12 i = if k ≤ i ∧ i < 48 then nI (L + 1 + i) else M.1 12 i) := by
  intro n
  induction n with
  | zero =>
    intro k M hk
    have e := nI_v (n := k) (by omega)
    refine body_run 400 rfl (fun B Cl Z hZ hB hC => ?_)
    (conv => whnf); refine ⟨fun b => ?_, fun b => ?_⟩
    · (conv => whnf)
      obtain rfl : k = 48 := by omega
      refine hZ _ _ ⟨rfl, Fr_refl, fun i => ?_⟩
      rw [if_neg (by omega)]
    · simp only [c_lt, c_gt, c_le, c_ge, c_eq, c_ne, b2_z, b2_nz, b2_i, Classical.not_not, t0, t1, Nat.reduceMod, Nat.reduceDiv, Int.reduceAdd, Int.reduceNeg, Nat.reduceAdd, kv_0, kv_1, kc_0, kc_1, e] at b
      replace b : ¬ (48 : Int) ≤ (k : Int) := b
      omega
  | succ n ih =>
    intro k M hk
    have e := nI_v (n := k) (by omega)
    refine body_run 400 rfl (fun B Cl Z hZ hB hC => ?_)
    (conv => whnf); refine ⟨fun b => ?_, fun b => ?_⟩
    · simp only [c_lt, c_gt, c_le, c_ge, c_eq, c_ne, b2_z, b2_nz, b2_i, Classical.not_not, t0, t1, Nat.reduceMod, Nat.reduceDiv, Int.reduceAdd, Int.reduceNeg, Nat.reduceAdd, kv_0, kv_1, kc_0, kc_1, e] at b
      replace b : (48 : Int) ≤ (k : Int) := b
      omega
    · (conv => whnf)
      refine ⟨nI_vp (by omega) (by omega), ?_⟩
      (conv => whnf)
      rw [nI_i1 (L + k), nI_c (by omega)]
      have := ih (k + 1) (mI M 12 k (nI (L + k + 1))) (by omega)
      refine hB _ _ _ _ (Body_lv (Body_mono this (fun v M' q => ⟨q.1, Fr_trans (Fr_mI Fr_refl (by decide)) q.2.1, fun i => ?_⟩)) ⟨rfl, rfl, v_eq (nI_i1 _), trivial⟩)
      rw [q.2.2 i]
      simp only [mI_at, true_and]
      by_cases z : i = k
      · subst z
        rw [if_neg (by omega), if_pos rfl, if_pos (by omega)]
        congr 1
        omega
      · rw [if_neg z]
        by_cases z2 : k ≤ i ∧ i < 48
        · rw [if_pos (by omega), if_pos z2]
        · rw [if_neg (by omega), if_neg z2]
theorem sp_nameAnew {d L : Nat} {M : Mem} : Call (d + 1) 74 [.ref 10, .int (nI L)] M (fun v M' => v = some (.int (nI (L + 48))) ∧ Fr [12] M M' ∧ ∀ i, i < 48 → M'.1 12 i = nI (L + 1 + i)) := by
  refine call_run 400 rfl rfl (fun B Cl Z hZ hB hC => ?_)
  conv => whnf
  exact hB _ _ _ _ (Body_lv (Body_mono (anew_loop (L := L) 48 0 M rfl) (fun v M' q => ⟨q.1, q.2.1, fun i hi => by rw [q.2.2, if_pos ⟨Nat.zero_le _, hi⟩]⟩)) ⟨rfl, rfl, rfl, trivial⟩)
