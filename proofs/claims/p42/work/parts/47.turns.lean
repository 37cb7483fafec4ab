/-! builder and wind, looked through -/
/-- what comes, and by which way first -/
def tS (tr : Nat → Int32) (n : Nat) : Nat → Int32 → Int32 → Int32 × Nat
  | 0, x, y => (maxI (absI x) (absI y), 0)
  | f + 1, x, y => (List.range 8).foldl (fun c w => if c.1 < 0 ∨ (if (n - (f + 1)) % 2 = 0 then (tS tr n f (x + tr (n - (f + 1)) * rgt w) (y + tr (n - (f + 1)) * dwn w)).1 < c.1 else c.1 < (tS tr n f (x + tr (n - (f + 1)) * rgt w) (y + tr (n - (f + 1)) * dwn w)).1) then ((tS tr n f (x + tr (n - (f + 1)) * rgt w) (y + tr (n - (f + 1)) * dwn w)).1, w) else c) (cI (-1), 0)
section TN
variable {tr : Nat → Int32} {n : Nat}
def TM (M M' : Mem) : Prop := Fr [5] M M' ∧ ∀ j, ¬ j = 1 → M'.1 5 j = M.1 5 j
theorem TM_trans {M M1 M2 : Mem} (h1 : TM M M1) (h2 : TM M1 M2) : TM M M2 := ⟨Fr_trans h1.1 h2.1, fun j hj => (h2.2 j hj).trans (h1.2 j hj)⟩
def TNs (tr : Nat → Int32) (n f : Nat) : Prop := ∀ (D dep : Nat) (x y : Int32) (M : Mem), f + 2 ≤ D → dep + f = n → (∀ i, i < n → M.1 50 i = tr i) → (dep = 0 → M.1 5 1 = nI 0) →
  Call D 52 [.ref 5, .int (nI dep), .int (nI n), .int x, .int y] M (fun v M' => v = some (.int (tS tr n f x y).1) ∧ TM M M' ∧ (0 < dep → M'.1 5 1 = M.1 5 1) ∧ (dep = 0 → M'.1 5 1 = nI (tS tr n f x y).2))
theorem tn_0 (hn : n ≤ 4) : TNs tr n 0 := by
  intro D dep x y M hD hf ht h0
  obtain ⟨d, rfl⟩ : ∃ d, D = d + 2 := ⟨D - 2, by omega⟩
  have e := nI_v (n := dep) (by omega)
  have e2 := nI_v (n := n) (by omega)
  refine call_run 400 rfl rfl (fun B Cl Z hZ hB hC => ?_)
  (conv => whnf); refine ⟨fun b => ?_, fun b => ?_⟩
  · conv => whnf
    exact hZ _ _ ⟨rfl, ⟨Fr_refl, fun _ _ => rfl⟩, fun _ => rfl, fun z => h0 z⟩
  · simp only [c_lt, c_gt, c_le, c_ge, c_eq, c_ne, b2_z, b2_nz, b2_i, Classical.not_not, t0, t1, Nat.reduceMod, Nat.reduceDiv, Int.reduceAdd, Int.reduceNeg, Nat.reduceAdd, kv_m1, kv_0, kv_1, kv_2, kv_4, kv_7, kc_0, kc_1, kc_2, kc_4, kc_7, e, e2] at b
    omega
theorem tn_loop {f : Nat} (hn : n ≤ 4) (ih : TNs tr n f) {D dep : Nat} {x y bl : Int32} (hD : f + 3 ≤ D) (hf : dep + (f + 1) = n) (hbl : bl = if dep % 2 = 0 then cI 1 else cI 0) : ∀ (m w : Nat) (c : Int32 × Nat) (M : Mem), w + m = 8 → (∀ i, i < n → M.1 50 i = tr i) → (dep = 0 → M.1 5 1 = nI c.2) →
    BodyK D 52 42 [(0, .ref 5), (1, .int (nI dep)), (2, .int (nI n)), (3, .int x), (4, .int y), (5, .int bl), (6, .int c.1), (7, .int (nI w))] [] M (fun v M' => v = some (.int (((List.range 8).drop w).foldl (fun c w => if c.1 < 0 ∨ (if (n - (f + 1)) % 2 = 0 then (tS tr n f (x + tr (n - (f + 1)) * rgt w) (y + tr (n - (f + 1)) * dwn w)).1 < c.1 else c.1 < (tS tr n f (x + tr (n - (f + 1)) * rgt w) (y + tr (n - (f + 1)) * dwn w)).1) then ((tS tr n f (x + tr (n - (f + 1)) * rgt w) (y + tr (n - (f + 1)) * dwn w)).1, w) else c) c).1) ∧ TM M M' ∧ (0 < dep → M'.1 5 1 = M.1 5 1) ∧
      (dep = 0 → M'.1 5 1 = nI (((List.range 8).drop w).foldl (fun c w => if c.1 < 0 ∨ (if (n - (f + 1)) % 2 = 0 then (tS tr n f (x + tr (n - (f + 1)) * rgt w) (y + tr (n - (f + 1)) * dwn w)).1 < c.1 else c.1 < (tS tr n f (x + tr (n - (f + 1)) * rgt w) (y + tr (n - (f + 1)) * dwn w)).1) then ((tS tr n f (x + tr (n - (f + 1)) * rgt w) (y + tr (n - (f + 1)) * dwn w)).1, w) else c) c).2)) := by
  obtain ⟨d, rfl⟩ : ∃ d, D = d + 3 := ⟨D - 3, by omega⟩
  have hdn : n - (f + 1) = dep := by omega
  rw [hdn]
  have ek := nI_v (n := dep) (by omega)
  intro m
  induction m with
  | zero =>
    intro w c M hw ht h0
    have e := nI_v (n := w) (by omega)
    have hd : (List.range 8).drop w = [] := List.drop_eq_nil_of_le (by simp; omega)
    rw [hd]
    refine body_run 400 rfl (fun B Cl Z hZ hB hC => ?_)
    (conv => whnf); refine ⟨fun b => ?_, fun b => ?_⟩
    · conv => whnf
      exact hZ _ _ ⟨rfl, ⟨Fr_refl, fun _ _ => rfl⟩, fun _ => rfl, h0⟩
    · simp only [c_lt, c_gt, c_le, c_ge, c_eq, c_ne, b2_z, b2_nz, b2_i, Classical.not_not, t0, t1, Nat.reduceMod, Nat.reduceDiv, Int.reduceAdd, Int.reduceNeg, Nat.reduceAdd, kv_m1, kv_0, kv_1, kv_2, kv_4, kv_7, kc_0, kc_1, kc_2, kc_4, kc_7, e] at b
      omega
  | succ m ihm =>
    intro w c M hw ht h0
    have e := nI_v (n := w) (by omega)
    have hw8 : w < 8 := by omega
    rw [range_drop 8 w (by omega), List.foldl_cons]
    have htd := ht dep (by omega)
    generalize hv : tS tr n f (x + tr dep * rgt w) (y + tr dep * dwn w) = v at *
    have hstep : ∀ (c' : Int32 × Nat) (M1 : Mem), (if c.1 < 0 ∨ (if dep % 2 = 0 then v.1 < c.1 else c.1 < v.1) then (v.1, w) else c) = c' → TM M M1 → (dep = 0 → M1.1 5 1 = nI c'.2) → (0 < dep → M1.1 5 1 = M.1 5 1) →
        BodyK (d + 3) 52 42 [(0, .ref 5), (1, .int (nI dep)), (2, .int (nI n)), (3, .int x), (4, .int y), (5, .int bl), (6, .int c'.1), (7, .int (nI (w + 1)))] [] M1 (fun r M' => r = some (.int (((List.range 8).drop (w + 1)).foldl (fun c w => if c.1 < 0 ∨ (if dep % 2 = 0 then (tS tr n f (x + tr dep * rgt w) (y + tr dep * dwn w)).1 < c.1 else c.1 < (tS tr n f (x + tr dep * rgt w) (y + tr dep * dwn w)).1) then ((tS tr n f (x + tr dep * rgt w) (y + tr dep * dwn w)).1, w) else c) (if c.1 < 0 ∨ (if dep % 2 = 0 then v.1 < c.1 else c.1 < v.1) then (v.1, w) else c)).1) ∧ TM M M' ∧ (0 < dep → M'.1 5 1 = M.1 5 1) ∧
          (dep = 0 → M'.1 5 1 = nI (((List.range 8).drop (w + 1)).foldl (fun c w => if c.1 < 0 ∨ (if dep % 2 = 0 then (tS tr n f (x + tr dep * rgt w) (y + tr dep * dwn w)).1 < c.1 else c.1 < (tS tr n f (x + tr dep * rgt w) (y + tr dep * dwn w)).1) then ((tS tr n f (x + tr dep * rgt w) (y + tr dep * dwn w)).1, w) else c) (if c.1 < 0 ∨ (if dep % 2 = 0 then v.1 < c.1 else c.1 < v.1) then (v.1, w) else c)).2)) := by
      intro c' M1 hc' hT h01 h02
      rw [hc']
      exact Body_mono (ihm (w + 1) c' M1 (by omega) (fun i hi => by rw [Fr_1 hT.1 50 (by decide)]; exact ht i hi) h01) (fun r M' z => ⟨z.1, TM_trans hT z.2.1, fun q => (z.2.2.1 q).trans (h02 q), z.2.2.2⟩)
    refine body_run 400 rfl (fun B Cl Z hZ hB hC => ?_)
    (conv => whnf); refine ⟨fun b => ?_, fun b => ?_⟩
    · simp only [c_lt, c_gt, c_le, c_ge, c_eq, c_ne, b2_z, b2_nz, b2_i, Classical.not_not, t0, t1, Nat.reduceMod, Nat.reduceDiv, Int.reduceAdd, Int.reduceNeg, Nat.reduceAdd, kv_m1, kv_0, kv_1, kv_2, kv_4, kv_7, kc_0, kc_1, kc_2, kc_4, kc_7, e] at b
      omega
    (conv => whnf)
    refine ⟨nI_vp (by omega) (by omega), ?_⟩
    (conv => whnf)
    rw [nI_c (n := dep) (by omega), htd]
    refine ret_k hC (sp_right (d := d + 1) hw8) ?_
    (conv => whnf)
    refine ⟨nI_vp (by omega) (by omega), ?_⟩
    (conv => whnf)
    rw [nI_c (n := dep) (by omega), htd]
    refine ret_k hC (sp_down (d := d + 1) hw8) ?_
    (conv => whnf)
    rw [nI_i1 dep]
    have hrec := ih (d + 2) (dep + 1) (x + tr dep * rgt w) (y + tr dep * dwn w) M (by omega) (by omega) ht (fun z => by omega)
    rw [hv] at hrec
    refine hC _ _ _ _ _ hrec (fun r M1 q => ?_)
    obtain ⟨rfl, q2, q3, -⟩ := q
    have q4 := q3 (Nat.succ_pos dep)
    (conv => whnf); refine ⟨fun g => ?_, fun g => ?_⟩
    · have hc : c.1 < 0 ∨ (if dep % 2 = 0 then v.1 < c.1 else c.1 < v.1) := Or.inl g
      (conv => whnf); refine ⟨fun h8 => ?_, fun h8 => ?_⟩
      · simp only [c_lt, c_gt, c_le, c_ge, c_eq, c_ne, b2_z, b2_nz, b2_i, Classical.not_not, t0, t1, Nat.reduceMod, Nat.reduceDiv, Int.reduceAdd, Int.reduceNeg, Nat.reduceAdd, kv_m1, kv_0, kv_1, kv_2, kv_4, kv_7, kc_0, kc_1, kc_2, kc_4, kc_7, ek] at h8
        (conv => whnf)
        refine hB _ _ _ _ (Body_lv (hstep (v.1, w) _ (if_pos hc) (TM_trans q2 ⟨Fr_mI Fr_refl (by decide), fun j hj => mI_2 _ _ hj⟩) (fun z => absurd z (by omega)) (fun _ => ?_)) ⟨rfl, rfl, rfl, rfl, rfl, rfl, rfl, v_eq (nI_i1 w), trivial⟩)
        exact (mI_1 _ _ _ _).trans q4
      · simp only [c_lt, c_gt, c_le, c_ge, c_eq, c_ne, b2_z, b2_nz, b2_i, Classical.not_not, t0, t1, Nat.reduceMod, Nat.reduceDiv, Int.reduceAdd, Int.reduceNeg, Nat.reduceAdd, kv_m1, kv_0, kv_1, kv_2, kv_4, kv_7, kc_0, kc_1, kc_2, kc_4, kc_7, ek] at h8
        (conv => whnf)
        exact hB _ _ _ _ (Body_lv (hstep (v.1, w) _ (if_pos hc) (TM_trans q2 ⟨Fr_mI Fr_refl (by decide), fun j hj => mI_2 _ _ hj⟩) (fun _ => mI_1 _ _ _ _) (fun z => absurd z (by omega))) ⟨rfl, rfl, rfl, rfl, rfl, rfl, rfl, v_eq (nI_i1 w), trivial⟩)
    · replace g : ¬ c.1 < 0 := g
      (conv => whnf); refine ⟨fun k => ?_, fun k => ?_⟩
      · replace k : bl = 0 := k
        have hd2 : ¬ dep % 2 = 0 := by
          intro z
          rw [hbl, if_pos z] at k
          exact absurd k (by decide)
        (conv => whnf); refine ⟨fun l => ?_, fun l => ?_⟩
        · have hc : ¬ (c.1 < 0 ∨ (if dep % 2 = 0 then v.1 < c.1 else c.1 < v.1)) := by rw [if_neg hd2]; rintro (z | z); exact g z; exact absurd z (Int32.not_lt.mpr l)
          (conv => whnf)
          exact hB _ _ _ _ (Body_lv (hstep c M1 (if_neg hc) q2 (fun z => q4.trans (h0 z)) (fun _ => q4)) ⟨rfl, rfl, rfl, rfl, rfl, rfl, rfl, v_eq (nI_i1 w), trivial⟩)
        · have hc : c.1 < 0 ∨ (if dep % 2 = 0 then v.1 < c.1 else c.1 < v.1) := Or.inr (by rw [if_neg hd2]; exact Int32.not_le.mp l)
          (conv => whnf); refine ⟨fun h8 => ?_, fun h8 => ?_⟩
          · simp only [c_lt, c_gt, c_le, c_ge, c_eq, c_ne, b2_z, b2_nz, b2_i, Classical.not_not, t0, t1, Nat.reduceMod, Nat.reduceDiv, Int.reduceAdd, Int.reduceNeg, Nat.reduceAdd, kv_m1, kv_0, kv_1, kv_2, kv_4, kv_7, kc_0, kc_1, kc_2, kc_4, kc_7, ek] at h8
            (conv => whnf)
            refine hB _ _ _ _ (Body_lv (hstep (v.1, w) _ (if_pos hc) (TM_trans q2 ⟨Fr_mI Fr_refl (by decide), fun j hj => mI_2 _ _ hj⟩) (fun z => absurd z (by omega)) (fun _ => ?_)) ⟨rfl, rfl, rfl, rfl, rfl, rfl, rfl, v_eq (nI_i1 w), trivial⟩)
            exact (mI_1 _ _ _ _).trans q4
          · simp only [c_lt, c_gt, c_le, c_ge, c_eq, c_ne, b2_z, b2_nz, b2_i, Classical.not_not, t0, t1, Nat.reduceMod, Nat.reduceDiv, Int.reduceAdd, Int.reduceNeg, Nat.reduceAdd, kv_m1, kv_0, kv_1, kv_2, kv_4, kv_7, kc_0, kc_1, kc_2, kc_4, kc_7, ek] at h8
            (conv => whnf)
            exact hB _ _ _ _ (Body_lv (hstep (v.1, w) _ (if_pos hc) (TM_trans q2 ⟨Fr_mI Fr_refl (by decide), fun j hj => mI_2 _ _ hj⟩) (fun _ => mI_1 _ _ _ _) (fun z => absurd z (by omega))) ⟨rfl, rfl, rfl, rfl, rfl, rfl, rfl, v_eq (nI_i1 w), trivial⟩)
      · replace k : ¬ bl = 0 := k
        have hd2 : dep % 2 = 0 := by
          rcases Nat.eq_zero_or_pos (dep % 2) with z | z
          · exact z
          · exfalso
            rw [hbl, if_neg (by omega)] at k
            exact absurd rfl k
        (conv => whnf); refine ⟨fun l => ?_, fun l => ?_⟩
        · have hc : ¬ (c.1 < 0 ∨ (if dep % 2 = 0 then v.1 < c.1 else c.1 < v.1)) := by rw [if_pos hd2]; rintro (z | z); exact g z; exact absurd z (Int32.not_lt.mpr l)
          (conv => whnf)
          exact hB _ _ _ _ (Body_lv (hstep c M1 (if_neg hc) q2 (fun z => q4.trans (h0 z)) (fun _ => q4)) ⟨rfl, rfl, rfl, rfl, rfl, rfl, rfl, v_eq (nI_i1 w), trivial⟩)
        · have hc : c.1 < 0 ∨ (if dep % 2 = 0 then v.1 < c.1 else c.1 < v.1) := Or.inr (by rw [if_pos hd2]; exact Int32.not_le.mp l)
          (conv => whnf); refine ⟨fun h8 => ?_, fun h8 => ?_⟩
          · simp only [c_lt, c_gt, c_le, c_ge, c_eq, c_ne, b2_z, b2_nz, b2_i, Classical.not_not, t0, t1, Nat.reduceMod, Nat.reduceDiv, Int.reduceAdd, Int.reduceNeg, Nat.reduceAdd, kv_m1, kv_0, kv_1, kv_2, kv_4, kv_7, kc_0, kc_1, kc_2, kc_4, kc_7, ek] at h8
            (conv => whnf)
            refine hB _ _ _ _ (Body_lv (hstep (v.1, w) _ (if_pos hc) (TM_trans q2 ⟨Fr_mI Fr_refl (by decide), fun j hj => mI_2 _ _ hj⟩) (fun z => absurd z (by omega)) (fun _ => ?_)) ⟨rfl, rfl, rfl, rfl, rfl, rfl, rfl, v_eq (nI_i1 w), trivial⟩)
            exact (mI_1 _ _ _ _).trans q4
          · simp only [c_lt, c_gt, c_le, c_ge, c_eq, c_ne, b2_z, b2_nz, b2_i, Classical.not_not, t0, t1, Nat.reduceMod, Nat.reduceDiv, Int.reduceAdd, Int.reduceNeg, Nat.reduceAdd, kv_m1, kv_0, kv_1, kv_2, kv_4, kv_7, kc_0, kc_1, kc_2, kc_4, kc_7, ek] at h8
            (conv => whnf)
            exact hB _ _ _ _ (Body_lv (hstep (v.1, w) _ (if_pos hc) (TM_trans q2 ⟨Fr_mI Fr_refl (by decide), fun j hj => mI_2 _ _ hj⟩) (fun _ => mI_1 _ _ _ _) (fun z => absurd z (by omega))) ⟨rfl, rfl, rfl, rfl, rfl, rfl, rfl, v_eq (nI_i1 w), trivial⟩)
theorem tn_step {f : Nat} (hn : n ≤ 4) (ih : TNs tr n f) : TNs tr n (f + 1) := by
  intro D dep x y M hD hf ht h0
  obtain ⟨d, rfl⟩ : ∃ d, D = d + 3 := ⟨D - 3, by omega⟩
  have e := nI_v (n := dep) (by omega)
  have e2 := nI_v (n := n) (by omega)
  have er := nI_v (n := dep % 2) (by omega)
  have hr : nI dep - nI dep / cI 2 * cI 2 = nI (dep % 2) := nI_rem (b := 2) (by omega) (by decide)
  refine call_run 400 rfl rfl (fun B Cl Z hZ hB hC => ?_)
  (conv => whnf); refine ⟨fun b => ?_, fun b => ?_⟩
  · simp only [c_lt, c_gt, c_le, c_ge, c_eq, c_ne, b2_z, b2_nz, b2_i, Classical.not_not, t0, t1, Nat.reduceMod, Nat.reduceDiv, Int.reduceAdd, Int.reduceNeg, Nat.reduceAdd, kv_m1, kv_0, kv_1, kv_2, kv_4, kv_7, kc_0, kc_1, kc_2, kc_4, kc_7, e, e2] at b
    omega
  (conv => whnf); refine ⟨fun b => ?_, fun b => ?_⟩
  rotate_left
  · simp only [c_lt, c_gt, c_le, c_ge, c_eq, c_ne, b2_z, b2_nz, b2_i, Classical.not_not, t0, t1, Nat.reduceMod, Nat.reduceDiv, Int.reduceAdd, Int.reduceNeg, Nat.reduceAdd, kv_m1, kv_0, kv_1, kv_2, kv_4, kv_7, kc_0, kc_1, kc_2, kc_4, kc_7, e] at b
    omega
  (conv => whnf)
  refine ⟨by decide, ?_⟩
  (conv => whnf); refine ⟨fun g => ?_, fun g => ?_⟩
  · rw [hr] at g
    simp only [c_lt, c_gt, c_le, c_ge, c_eq, c_ne, b2_z, b2_nz, b2_i, Classical.not_not, t0, t1, Nat.reduceMod, Nat.reduceDiv, Int.reduceAdd, Int.reduceNeg, Nat.reduceAdd, kv_m1, kv_0, kv_1, kv_2, kv_4, kv_7, kc_0, kc_1, kc_2, kc_4, kc_7, er] at g
    (conv => whnf)
    exact hB _ _ _ _ (Body_lv (tn_loop hn ih (D := d + 3) (by omega) hf (bl := cI 0) (by rw [if_neg (by omega)]) 8 0 (cI (-1), 0) M rfl ht h0) ⟨rfl, rfl, rfl, rfl, rfl, rfl, rfl, rfl, trivial⟩)
  · rw [hr] at g
    simp only [c_lt, c_gt, c_le, c_ge, c_eq, c_ne, b2_z, b2_nz, b2_i, Classical.not_not, t0, t1, Nat.reduceMod, Nat.reduceDiv, Int.reduceAdd, Int.reduceNeg, Nat.reduceAdd, kv_m1, kv_0, kv_1, kv_2, kv_4, kv_7, kc_0, kc_1, kc_2, kc_4, kc_7, er] at g
    (conv => whnf)
    exact hB _ _ _ _ (Body_lv (tn_loop hn ih (D := d + 3) (by omega) hf (bl := cI 1) (by rw [if_pos (by omega)]) 8 0 (cI (-1), 0) M rfl ht h0) ⟨rfl, rfl, rfl, rfl, rfl, rfl, rfl, rfl, trivial⟩)
theorem tn_all (hn : n ≤ 4) : ∀ f, TNs tr n f
  | 0 => tn_0 hn
  | f + 1 => tn_step hn (tn_all hn f)
end TN
