/-! shelves, by the public methods -/
def SA : List Nat := [22, 23, 24, 25, 26, 27, 28, 29, 30, 31, 32, 33]
theorem Fr_sh {i : Nat} {M M' : Mem} (hi : i < 6) (hf : Fr [22 + 2 * i, 22 + 2 * i + 1] M M') : Fr SA M M' := by
  match i, hi with
  | 0, _ => exact Fr_sub hf (by decide)
  | 1, _ => exact Fr_sub hf (by decide)
  | 2, _ => exact Fr_sub hf (by decide)
  | 3, _ => exact Fr_sub hf (by decide)
  | 4, _ => exact Fr_sub hf (by decide)
  | 5, _ => exact Fr_sub hf (by decide)
def okSh (ks : List Nat) (x : Shf) : Prop := match x with
  | some (.inr (t, l)) => ∀ x ∈ l, nrw t x = x
  | some (.inl b) => b < ks.length
  | none => True
theorem RC.ok {c : Nat} {M : Mem} {s : St} (h : RC c M s) {i : Nat} (hi : i < 6) : okSh (sKs s) (sSh s i) := h.2.2.2.2.2.2.2.2.2.2.2.1 i hi
theorem RC.s {c : Nat} {M : Mem} {s : St} (h : RC c M s) {i : Nat} (hi : i < 6) : RS M (22 + 2 * i) (sSh s i) := h.2.2.2.2.2.2.2.2.2.2.1 i hi
theorem RC_sh {c i : Nat} {M M' : Mem} {s : St} {x : Shf} (h : RC c M s) (hi : i < 6) (hf : Fr [22 + 2 * i, 22 + 2 * i + 1] M M') (hx : RS M' (22 + 2 * i) x) (ho : okSh (sKs s) x) : RC (c + 60) M' (wSh s (upD (sSh s) i x)) ∧ Fr CA M M' := by
  obtain ⟨h1, h2, h3, h4, h5, h6, h7, h8, h9, h10, h11, h12, h13⟩ := id h
  have p4 := Fr_sh hi hf
  refine ⟨⟨RY_fr h1 p4 (by decide), RE_fr h2 p4 (by decide), h3, h4, by rw [Fr_1 p4 0 (by decide)]; exact h5, fun i hi => by rw [Fr_1 p4 53 (by decide)]; exact h6 i hi, RIm_fr h7 p4 (by decide), RT0_fr (A := []) h8 (by rw [Fr_1 p4 2 (by decide)]) (Fr_1 p4 39 (by decide)), RK_fr h9 (by rw [Fr_1 p4 7 (by decide)]) (Fr_1 p4 42 (by decide)), RT_e h10 (by rw [Fr_1 p4 7 (by decide)]) (Fr_1 p4 43 (by decide)), fun j hj => ?_, fun j hj => ?_, RNm_up (RNm_fr h13 (Fr_1 p4 6 (by decide)) (Fr_1 p4 41 (by decide)) (by rw [Fr_1 p4 0 (by decide)]) (Fr_1 p4 12 (by decide)))⟩, Fr_sub p4 (by decide)⟩
  · show RS M' (22 + 2 * j) (upD (sSh s) i x j)
    by_cases q : j = i
    · subst q; rw [upD_1]; exact hx
    · rw [upD_2 q]
      refine RS_fr (h11 j hj) hf ?_
      simp
      omega
  · show okSh (sKs s) (upD (sSh s) i x j)
    by_cases q : j = i
    · subst q; rw [upD_1]; exact ho
    · rw [upD_2 q]; exact h12 j hj
/-- the shelf at a place -/
theorem sp_shelfR {d c : Nat} {M : Mem} {s : St} {x : Int32} (h : RC c M s) : Call (d + 1) 101 [.ref 0, .int x] M (fun v M' => M' = M ∧ ((¬ (0 ≤ x.toInt ∧ x.toInt < 6) ∧ v = some .null) ∨ ∃ i a, i < 6 ∧ x = nI i ∧ x.toInt = (i : Int) ∧ 22 + 2 * i = a ∧ isSh a ∧ RS M a (sSh s i) ∧ v = some (.ref a))) :=
  Call_mono sp_shelfAt (fun v M' p => ⟨p.1, p.2.elim (fun q => Or.inl q) (fun ⟨i, q1, q2, q3⟩ => Or.inr ⟨i, _, q1, q2, by rw [q2]; exact nI_v (by omega), rfl, sh_is q1, h.s q1, q3⟩)⟩)
theorem RP_sh {c i a : Nat} {M M' : Mem} {s : St} {x : Shf} {v : Value} (h : RC c M s) (hi : i < 6) (ha : 22 + 2 * i = a) (hf : Fr [a, a + 1] M M') (hx : RS M' a x) (ho : okSh (sKs s) x) : RP c M v (wSh s (upD (sSh s) i x)) (some v) M' := by
  subst ha
  have := RC_sh h hi hf hx ho
  exact ⟨rfl, this.1, this.2⟩
def aKeep (s : St) (x b : Int32) : Int32 × St :=
  if (0 ≤ x.toInt ∧ x.toInt < 6) ∧ -1 ≤ b.toInt ∧ b.toInt < ((sKs s).length : Int) then (cI 1, wSh s (upD (sSh s) x.toInt.toNat (if b.toInt < 0 then none else some (.inl b.toInt.toNat)))) else (cI (-1), s)
def aRow (s : St) (x t n : Int32) : Int32 × St :=
  if (0 ≤ x.toInt ∧ x.toInt < 6) ∧ (0 ≤ t.toInt ∧ t.toInt ≤ 4) ∧ n.toInt ≤ 60 then (if n.toInt < 0 then (cI (-14), s) else (cI 1, wSh s (upD (sSh s) x.toInt.toNat (some (.inr (t.toInt.toNat, List.replicate n.toInt.toNat 0)))))) else (cI (-1), s)
theorem nrw_0 (t : Nat) : nrw t 0 = 0 := by 
  unfold nrw
  (repeat' split) <;> first | rfl | contradiction
theorem pb_row {d c : Nat} {M : Mem} {s : St} {x t n : Int32} (h : RC c M s) : Call (d + 3) 98 [.ref 0, .int x, .int t, .int n] M (RP c M (.int (aRow s x t n).1) (aRow s x t n).2) := by
  refine call_run 400 rfl rfl (fun B Cl Z hZ hB hC => ?_)
  (conv => whnf)
  refine hC _ _ _ _ _ (sp_shelfR h) (fun v M1 p => ?_)
  obtain ⟨rfl, ⟨p1, rfl⟩ | ⟨i, a, hi, rfl, ei, hia, ha, hs, rfl⟩⟩ := p
  · have e9 : aRow s x t n = (cI (-1), s) := if_neg (fun z => p1 z.1)
    rw [e9] at hZ
    conv => whnf
    exact hZ _ _ (RP_same h Fr_refl)
  (conv => whnf); refine ⟨fun g => ?_, fun g => ?_⟩
  · simp only [c_lt, c_gt, c_le, c_ge, c_eq, c_ne, b2_z, b2_nz, b2_i, Classical.not_not, t0, t1, Nat.reduceMod, Nat.reduceDiv, Int.reduceAdd, Int.reduceNeg, Nat.reduceAdd, kv_m14, kv_m1, kv_1, kv_4, kv_60, kc_1, kc_4, kc_60] at g
    have e9 : aRow s (nI i) t n = (cI (-1), s) := if_neg (by omega)
    rw [e9] at hZ
    conv => whnf
    exact hZ _ _ (RP_same h Fr_refl)
  simp only [c_lt, c_gt, c_le, c_ge, c_eq, c_ne, b2_z, b2_nz, b2_i, Classical.not_not, t0, t1, Nat.reduceMod, Nat.reduceDiv, Int.reduceAdd, Int.reduceNeg, Nat.reduceAdd, kv_m14, kv_m1, kv_1, kv_4, kv_60, kc_1, kc_4, kc_60] at g
  (conv => whnf); refine ⟨fun g2 => ?_, fun g2 => ?_⟩
  · simp only [c_lt, c_gt, c_le, c_ge, c_eq, c_ne, b2_z, b2_nz, b2_i, Classical.not_not, t0, t1, Nat.reduceMod, Nat.reduceDiv, Int.reduceAdd, Int.reduceNeg, Nat.reduceAdd, kv_m14, kv_m1, kv_1, kv_4, kv_60, kc_1, kc_4, kc_60] at g2
    have e9 : aRow s (nI i) t n = (cI (-1), s) := if_neg (by omega)
    rw [e9] at hZ
    conv => whnf
    exact hZ _ _ (RP_same h Fr_refl)
  simp only [c_lt, c_gt, c_le, c_ge, c_eq, c_ne, b2_z, b2_nz, b2_i, Classical.not_not, t0, t1, Nat.reduceMod, Nat.reduceDiv, Int.reduceAdd, Int.reduceNeg, Nat.reduceAdd, kv_m14, kv_m1, kv_1, kv_4, kv_60, kc_1, kc_4, kc_60] at g2
  (conv => whnf); refine ⟨fun q => ?_, fun q => ?_⟩
  · simp only [c_lt, c_gt, c_le, c_ge, c_eq, c_ne, b2_z, b2_nz, b2_i, Classical.not_not, t0, t1, Nat.reduceMod, Nat.reduceDiv, Int.reduceAdd, Int.reduceNeg, Nat.reduceAdd, kv_m14, kv_m1, kv_1, kv_4, kv_60, kc_1, kc_4, kc_60] at q
    (conv => whnf); refine ⟨fun z => ?_, fun z => ?_⟩
    · simp only [c_lt, c_gt, c_le, c_ge, c_eq, c_ne, b2_z, b2_nz, b2_i, Classical.not_not, t0, t1, Nat.reduceMod, Nat.reduceDiv, Int.reduceAdd, Int.reduceNeg, Nat.reduceAdd, kv_m14, kv_m1, kv_1, kv_4, kv_60, kc_1, kc_4, kc_60] at z
      obtain ⟨k, rfl, ek, hk⟩ := to_nI (x := t) (by omega)
      obtain ⟨m, rfl, em, hm⟩ := to_nI (x := n) (by omega)
      have e9 : aRow s (nI i) (nI k) (nI m) = (cI 1, wSh s (upD (sSh s) i (some (.inr (k, List.replicate m 0))))) := by
        unfold aRow
        rw [if_pos (by omega), if_neg (by omega), ei, ek, em]
        rfl
      rw [e9] at hZ
      (conv => whnf)
      rw [lay_sh ha]
      (conv => whnf)
      refine hC _ _ _ _ _ (sp_holdRow ha (by omega) (by omega)) (fun v M2 p => ?_)
      obtain ⟨rfl, p2, p3⟩ := p
      (conv => whnf)
      refine hZ _ _ (RP_sh h hi hia p2 p3 (fun x hx => ?_))
      rw [(List.mem_replicate.mp hx).2]
      exact nrw_0 k
    · simp only [c_lt, c_gt, c_le, c_ge, c_eq, c_ne, b2_z, b2_nz, b2_i, Classical.not_not, t0, t1, Nat.reduceMod, Nat.reduceDiv, Int.reduceAdd, Int.reduceNeg, Nat.reduceAdd, kv_m14, kv_m1, kv_1, kv_4, kv_60, kc_1, kc_4, kc_60] at z
      have e9 : aRow s (nI i) t n = (cI (-14), s) := by
        unfold aRow
        rw [if_pos (by omega), if_pos (by omega)]
      rw [e9] at hZ
      conv => whnf
      exact hZ _ _ (RP_same h Fr_refl)
  · simp only [c_lt, c_gt, c_le, c_ge, c_eq, c_ne, b2_z, b2_nz, b2_i, Classical.not_not, t0, t1, Nat.reduceMod, Nat.reduceDiv, Int.reduceAdd, Int.reduceNeg, Nat.reduceAdd, kv_m14, kv_m1, kv_1, kv_4, kv_60, kc_1, kc_4, kc_60] at q
    have e9 : aRow s (nI i) t n = (cI (-1), s) := if_neg (by omega)
    rw [e9] at hZ
    conv => whnf
    exact hZ _ _ (RP_same h Fr_refl)
theorem nz11 : ¬ cnd .eq (cI (-11)) 0 := by rw [c_eq, kv_m11]; decide
theorem nz12 : ¬ cnd .eq (cI (-12)) 0 := by rw [c_eq, kv_m12]; decide
theorem nz13 : ¬ cnd .eq (cI (-13)) 0 := by rw [c_eq, kv_m13]; decide
def aPut (s : St) (x i : Int32) (v : Int64) : Int32 × St :=
  if 0 ≤ x.toInt ∧ x.toInt < 6 then (match sSh s x.toInt.toNat with
    | none => (cI (-11), s)
    | some (.inl _) => (cI (-12), s)
    | some (.inr (t, l)) => if 0 ≤ i.toInt ∧ i.toInt < (l.length : Int) then (cI 1, wSh s (upD (sSh s) x.toInt.toNat (some (.inr (t, l.set i.toInt.toNat (nrw t v)))))) else (cI (-13), s)) else (cI (-1), s)
theorem pb_put {d c : Nat} {M : Mem} {s : St} {x j : Int32} {y : Int64} (h : RC c M s) : Call (d + 3) 99 [.ref 0, .int x, .int j, .long y] M (RP c M (.int (aPut s x j y).1) (aPut s x j y).2) := by
  refine call_run 400 rfl rfl (fun B Cl Z hZ hB hC => ?_)
  (conv => whnf)
  refine hC _ _ _ _ _ (sp_shelfR h) (fun v M1 p => ?_)
  obtain ⟨rfl, ⟨p1, rfl⟩ | ⟨i, a, hi, rfl, ei, hia, ha, hs, rfl⟩⟩ := p
  · have e9 : aPut s x j y = (cI (-1), s) := if_neg p1
    rw [e9] at hZ
    conv => whnf
    exact hZ _ _ (RP_same h Fr_refl)
  have e8 : aPut s (nI i) j y = (match sSh s i with
    | none => (cI (-11), s)
    | some (.inl _) => (cI (-12), s)
    | some (.inr (t, l)) => if 0 ≤ j.toInt ∧ j.toInt < (l.length : Int) then (cI 1, wSh s (upD (sSh s) i (some (.inr (t, l.set j.toInt.toNat (nrw t y)))))) else (cI (-13), s)) := by
    unfold aPut
    rw [if_pos (by omega), ei]
    rfl
  have hok := h.ok hi
  rw [e8] at hZ
  generalize sSh s i = u at hs hZ hok
  conv => whnf
  rw [lay_sh ha]
  (conv => whnf); refine ret_k hC (sp_refusalAt ha hs) ?_
  match u, hs, hZ, hok with
  | none, hs, hZ, hok =>
    (conv => whnf); refine ⟨fun b => ?_, fun b => ?_⟩
    · exact absurd b nz11
    · conv => whnf
      exact hZ _ _ (RP_same h Fr_refl)
  | some (.inl k), hs, hZ, hok =>
    (conv => whnf); refine ⟨fun b => ?_, fun b => ?_⟩
    · exact absurd b nz12
    · conv => whnf
      exact hZ _ _ (RP_same h Fr_refl)
  | some (.inr (t, l)), hs, hZ, hok =>
    dsimp only at hZ
    (conv => whnf); refine ⟨fun b => ?_, fun b => ?_⟩
    · have hj : 0 ≤ j.toInt ∧ j.toInt < (l.length : Int) := by
        by_cases z : 0 ≤ j.toInt ∧ j.toInt < (l.length : Int)
        · exact z
        · have e1 : rfa (some (.inr (t, l))) j = cI (-13) := if_neg z
          rw [e1] at b
          exact absurd b nz13
      rw [if_pos hj] at hZ
      obtain ⟨m, rfl, em, hm⟩ := to_nI hj.1
      (conv => whnf)
      rw [lay_sh ha]
      (conv => whnf)
      refine hC _ _ _ _ _ (sp_write (i := m) ha hs (by omega)) (fun v M2 p => ?_)
      obtain ⟨rfl, p2, p3⟩ := p
      (conv => whnf)
      refine hZ _ _ (RP_sh h hi hia (Fr_sub p2 (by simp)) ?_ ?_)
      · rw [em]; exact p3
      · intro x hx
        rcases List.mem_or_eq_of_mem_set hx with q | q
        · exact hok x q
        · rw [q]; exact nrw_nrw t y
    · have hj : ¬ (0 ≤ j.toInt ∧ j.toInt < (l.length : Int)) := by
        intro z
        have e1 : rfa (some (.inr (t, l))) j = cI 0 := if_pos z
        rw [e1] at b
        exact b rfl
      have e1 : rfa (some (.inr (t, l))) j = cI (-13) := if_neg hj
      rw [if_neg hj] at hZ
      conv => whnf
      rw [e1]
      exact hZ _ _ (RP_same h Fr_refl)
def noL : Int64 := Int64.minValue
def aElement (s : St) (x i : Int32) : Int64 :=
  if 0 ≤ x.toInt ∧ x.toInt < 6 then (match sSh s x.toInt.toNat with
    | some (.inr (_, l)) => if 0 ≤ i.toInt ∧ i.toInt < (l.length : Int) then l.getD i.toInt.toNat 0 else noL
    | _ => noL) else noL
theorem lk_2 : (nth (0, 0, 0, 0) ltL 2).2.2.1 = noL := by decide +kernel