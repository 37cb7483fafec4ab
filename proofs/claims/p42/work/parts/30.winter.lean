/-! cuts in thought -/
/-- law's code, cold, stand, doors -/
abbrev EnvK : Type := List Nat × Int32 × Int32 × (Nat → Int32)
def RE (M : Mem) (E : EnvK) : Prop := RLw M E.1 ∧ M.1 1 0 = E.2.1 ∧ M.1 1 1 = E.2.2.1 ∧ ∀ w, w < 8 → M.1 35 w = E.2.2.2 w
theorem RE_fr {A : List Nat} {M M' : Mem} {E : EnvK} (h : RE M E) (hf : Fr A M M') (ha : (A.contains 1 || A.contains 36 || A.contains 35) = false) : RE M' E := by
  rw [Bool.or_eq_false_iff] at ha
  have h1 := (Bool.or_eq_false_iff.mp ha.1).1
  exact ⟨RLw_fr h.1 hf ha.1, by rw [Fr_1 hf 1 h1]; exact h.2.1, by rw [Fr_1 hf 1 h1]; exact h.2.2.1, fun w hw => by rw [Fr_1 hf 35 ha.2]; exact h.2.2.2 w hw⟩
def kp (E : EnvK) (rk : Rk) (r l : Nat) (q : Lyr) : Int32 := kpt E.1 E.2.1 (hgt rk r) l q
def lX (E : EnvK) (rk : Rk) (r : Nat) : Int32 := lnX rgt (kpt E.1 E.2.1 (hgt rk r)) (rk.getD r []) 0 0
def lY (E : EnvK) (rk : Rk) (r : Nat) : Int32 := lnX dwn (kpt E.1 E.2.1 (hgt rk r)) (rk.getD r []) 0 0
def lM (E : EnvK) (rk : Rk) (r : Nat) : Int32 := maxI (absI (lX E rk r)) (absI (lY E rk r))
/-- ricks, made, blown, first door, first fall, marks -/
abbrev Wst : Type := Rk × Int32 × Int32 × Int32 × Int32 × Int32
def RWs (M : Mem) (w : Wst) : Prop := RY M 18 w.1 ∧ M.1 4 1 = w.2.1 ∧ M.1 4 2 = w.2.2.1 ∧ M.1 4 3 = w.2.2.2.1 ∧ M.1 4 4 = w.2.2.2.2.1 ∧ M.1 4 5 = w.2.2.2.2.2
def AW : List Nat := [4, 8, 18, 19, 20, 21, 37, 38]
theorem sp_wbegin {d : Nat} {M : Mem} {rk : Rk} (h : RY M 10 rk) : Call (d + 2) 60 [.ref 4, .ref 10] M (fun v M' => v = none ∧ RWs M' (rk, cI 0, cI 0, cI (-2), cI (-2), cI 0) ∧ Fr AW M M') := by
  refine call_run 400 rfl rfl (fun B Cl Z hZ hB hC => ?_)
  (conv => whnf)
  refine hC _ _ _ _ _ (sp_become (Or.inr (Or.inr ⟨rfl, rfl⟩)) h) (fun v M1 q => ?_)
  obtain ⟨rfl, q2, q3⟩ := q
  (conv => whnf)
  have hF : Fr [4] M1 (mI (mI (mI (mI (mI M1 4 1 (cI 0)) 4 2 (cI 0)) 4 3 (cI (-2))) 4 4 (cI (-2))) 4 5 (cI 0)) := Fr_mI (Fr_mI (Fr_mI (Fr_mI (Fr_mI Fr_refl (by decide)) (by decide)) (by decide)) (by decide)) (by decide)
  refine hZ _ _ ⟨rfl, ⟨RY_fr q3 hF (by decide), ?_, ?_, ?_, ?_, ?_⟩, Fr_trans (Fr_sub q2 (by decide)) (Fr_sub hF (by decide))⟩ <;> simp [mI_at]
theorem sp_letGo {d r l : Nat} {M : Mem} {E : EnvK} {w : Wst} {q : Lyr} (h : RWs M w) (he : RE M E) (hq : (w.1.getD r [])[l]? = some q) : Call (d + 5) 63 [.ref 4, .int (nI r), .int (nI l)] M (fun v M' => v = some (.int (kp E w.1 r l q)) ∧ RWs M' (cutR w.1 r l, w.2.1 + cI 1, w.2.2.1 + kp E w.1 r l q, w.2.2.2) ∧ Fr AW M M') := by
  obtain ⟨h1, h2, h3, h4, h5, h6⟩ := h
  have hl := ly_lt hq
  refine call_run 400 rfl rfl (fun B Cl Z hZ hB hC => ?_)
  (conv => whnf)
  refine hC _ _ _ _ _ (sp_kept (by simp [isYd]) h1 he.1 hq) (fun v M1 q1 => ?_)
  obtain ⟨rfl, q2⟩ := q1
  have hk : kpt E.1 (M.1 1 0) (hgt w.1 r) l q = kp E w.1 r l q := by rw [he.2.1]; rfl
  rw [hk]
  (conv => whnf)
  refine hC _ _ _ _ _ (sp_takeOut (d := d + 2) (Or.inr rfl) (RY_fr h1 q2 (by decide)) hl) (fun v M2 q3 => ?_)
  obtain ⟨rfl, q4, q5, q6⟩ := q3
  (conv => whnf)
  have hF : Fr AW M M2 := Fr_trans (Fr_sub q2 (by decide)) (Fr_sub q4 (by decide))
  have e4 : M2.1 4 = M.1 4 := (Fr_1 q4 4 (by decide)).trans (Fr_1 q2 4 (by decide))
  refine hZ _ _ ⟨rfl, ⟨RY_fr q5 (Fr_mI (Fr_mI (A := [4]) Fr_refl (by decide)) (by decide)) (by decide), ?_, ?_, ?_, ?_, ?_⟩, Fr_trans hF (Fr_mI (Fr_mI Fr_refl (by decide)) (by decide))⟩
  · simp [mI_at, e4, h2]
  · simp [mI_at, e4, h3]
  · simp [mI_at, e4, h4]
  · simp [mI_at, e4, h5]
  · simp [mI_at, e4, h6]
/-- a cut's marks on what a winter tells -/
def wcut (E : EnvK) (w : Wst) (r l i : Nat) (q : Lyr) : Wst :=
  (cutR w.1 r l, w.2.1 + cI 1, w.2.2.1 + kp E w.1 r l q, (if w.2.2.2.1 = cI (-2) ∧ E.2.2.2 q.1 ≤ kp E w.1 r l q then nI i else w.2.2.2.1),
   (if w.2.2.2.2.1 = cI (-2) then (if lM E (cutR w.1 r l) r ≤ E.2.2.1 then cI (-2) else nI i) else w.2.2.2.2.1), (if 0 < q.2.2.1 then w.2.2.2.2.2 ||| (cI 1 <<< (nI q.2.2.1 &&& 31)) else w.2.2.2.2.2))
theorem okL_cut {M : Mem} {y : Nat} {rk : Rk} {r l : Nat} {q : Lyr} (h : RY M y rk) (hq : (rk.getD r [])[l]? = some q) : okL q := (h.2.2.2.2 r l q hq).1
set_option maxHeartbeats 2000000 in
theorem sp_cutOne {d r l i : Nat} {M : Mem} {E : EnvK} {w : Wst} {q : Lyr} (h : RWs M w) (he : RE M E) (hq : (w.1.getD r [])[l]? = some q) : Call (d + 6) 62 [.ref 4, .int (nI r), .int (nI l), .int (nI i)] M (fun v M' => v = none ∧ RWs M' (wcut E w r l i q) ∧ Fr AW M M') := by
  obtain ⟨h1, h2, h3, h4, h5, h6⟩ := id h
  have hok := okL_cut h1 hq
  have hr := hgt_lt (ly_lt hq)
  have hr4 : r < 4 := by have := h1.2.1; omega
  have em := nI_v (n := q.2.2.1) (by have := hok.2.2.1; omega)
  refine call_run 400 rfl rfl (fun B Cl Z hZ hB hC => ?_)
  (conv => whnf); refine ret_k hC (sp_number (by simp [isYd]) h1 hq (show 2 < 4 by omega)) ?_
  (conv => whnf); refine ret_k hC (sp_number (by simp [isYd]) h1 hq (show 0 < 4 by omega)) ?_
  (conv => whnf)
  refine hC _ _ _ _ _ (sp_letGo h he hq) (fun v M1 q1 => ?_)
  obtain ⟨rfl, ⟨g1, g2, g3, g4, g5, g6⟩, q3⟩ := q1
  have he1 : RE M1 E := RE_fr he q3 (by decide)
  -- the first fall
  have t78 : ∀ (m : Nat) (M2 : Mem), Fr [4] M1 M2 → M2.1 4 1 = M1.1 4 1 → M2.1 4 2 = M1.1 4 2 → M2.1 4 3 = (wcut E w r l i q).2.2.2.1 → M2.1 4 4 = M1.1 4 4 → M2.1 4 5 = (wcut E w r l i q).2.2.2.2.2 →
      wpN 62 B Cl Z (m + 60) (seekK (cdo 62) 78) (put1 6 (.int (kp E w.1 r l q)) (put1 5 (.int (nI (lyF q 0))) (put1 4 (.int (nI (lyF q 2))) (lv_args 0 [.ref 4, .int (nI r), .int (nI l), .int (nI i)])))) [] M2 := by
    intro m M2 hF a1 a2 a3 a4 a5
    have hY := RY_fr g1 hF (by decide)
    have he2 : RE M2 E := RE_fr he1 hF (by decide)
    have hFF : Fr AW M M2 := Fr_trans q3 (Fr_sub hF (by decide))
    (conv => whnf); refine ⟨fun a => ?_, fun a => ?_⟩
    · replace a : ¬ M2.1 4 4 = cI (-2) := a
      rw [a4, g5] at a
      conv => whnf
      refine hZ _ _ ⟨rfl, ⟨hY, a1.trans g2, a2.trans g3, a3, ?_, a5⟩, hFF⟩
      exact (a4.trans g5).trans (if_neg a).symm
    · replace a : ¬ ¬ M2.1 4 4 = cI (-2) := a
      rw [a4, g5] at a
      have a := Classical.not_not.mp a
      (conv => whnf)
      refine hC _ _ _ _ _ (sp_leanOf (d := d) (Or.inr (Or.inr ⟨rfl, rfl⟩)) hr4 hY he2.1) (fun v M3 p => ?_)
      obtain ⟨rfl, p2, p3⟩ := p
      rw [he2.2.1] at p2
      have he3 : RE M3 E := RE_fr he2 p3 (by decide)
      (conv => whnf)
      refine ret_k hC (sp_holds (d := d + 3) (by simp [isLn]) p2) ?_
      rw [he3.2.2.1]
      have e4 : M3.1 4 = M2.1 4 := Fr_1 p3 4 (by decide)
      have fin : ∀ v0 : Int32, v0 = (if lM E (cutR w.1 r l) r ≤ E.2.2.1 then cI (-2) else nI i) → Z none (mI M3 4 4 v0) := by
        intro v0 hv
        refine hZ _ _ ⟨rfl, ⟨RY_fr (RY_fr hY p3 (by decide)) (Fr_mI (A := [4]) Fr_refl (by decide)) (by decide), ?_, ?_, ?_, ?_, ?_⟩, Fr_trans hFF (Fr_trans (Fr_sub p3 (by decide)) (Fr_mI Fr_refl (by decide)))⟩
        · rw [mI_2 _ _ (by decide), e4]; exact a1.trans g2
        · rw [mI_2 _ _ (by decide), e4]; exact a2.trans g3
        · rw [mI_2 _ _ (by decide), e4]; exact a3
        · rw [mI_1, hv]; exact (if_pos a).symm
        · rw [mI_2 _ _ (by decide), e4]; exact a5
      (conv => whnf); refine ⟨fun b => ?_, fun b => ?_⟩
      · rw [b2_z] at b
        conv => whnf
        exact fin _ (if_neg b).symm
      · rw [b2_z] at b
        conv => whnf
        exact fin _ (if_pos (Classical.not_not.mp b)).symm
  -- the marks
  have t60 : ∀ (m : Nat) (M2 : Mem), Fr [4] M1 M2 → M2.1 4 1 = M1.1 4 1 → M2.1 4 2 = M1.1 4 2 → M2.1 4 3 = (wcut E w r l i q).2.2.2.1 → M2.1 4 4 = M1.1 4 4 → M2.1 4 5 = M1.1 4 5 →
      wpN 62 B Cl Z (m + 80) (seekK (cdo 62) 60) (put1 6 (.int (kp E w.1 r l q)) (put1 5 (.int (nI (lyF q 0))) (put1 4 (.int (nI (lyF q 2))) (lv_args 0 [.ref 4, .int (nI r), .int (nI l), .int (nI i)])))) [] M2 := by
    intro m M2 hF a1 a2 a3 a4 a5
    (conv => whnf); refine ⟨fun a => ?_, fun a => ?_⟩
    · replace a : nI q.2.2.1 ≤ 0 := a
      rw [Int32.le_iff_toInt_le, em] at a
      have a : ¬ 0 < q.2.2.1 := by have : (0 : Int32).toInt = 0 := rfl; omega
      refine t78 _ M2 hF a1 a2 a3 a4 ((a5.trans g6).trans ?_)
      exact (if_neg a).symm
    · replace a : ¬ nI q.2.2.1 ≤ 0 := a
      rw [Int32.le_iff_toInt_le, em] at a
      have a : 0 < q.2.2.1 := by have : (0 : Int32).toInt = 0 := rfl; omega
      (conv => whnf)
      refine t78 _ _ (Fr_mI hF (by decide)) ?_ ?_ ?_ ?_ ?_
      · exact (mI_2 _ _ (by decide)).trans a1
      · exact (mI_2 _ _ (by decide)).trans a2
      · exact (mI_2 _ _ (by decide)).trans a3
      · exact (mI_2 _ _ (by decide)).trans a4
      · refine (mI_1 _ _ _ _).trans ?_
        refine (congrArg (fun z => z ||| (cI 1 <<< (nI q.2.2.1 &&& 31))) (a5.trans g6)).trans ?_
        exact (if_pos a).symm
  have g4' : M1.1 4 3 = w.2.2.2.1 := g4
  (conv => whnf); refine ⟨fun a => ?_, fun a => ?_⟩
  · replace a : ¬ M1.1 4 3 = cI (-2) := a
    rw [g4'] at a
    exact t60 _ M1 Fr_refl rfl rfl (g4'.trans (if_neg (fun z => a z.1)).symm) rfl rfl
  · replace a : ¬ ¬ M1.1 4 3 = cI (-2) := a
    rw [g4'] at a
    have a := Classical.not_not.mp a
    have hdo : M1.1 35 (lyF q 0) = E.2.2.2 q.1 := he1.2.2.2 q.1 hok.1
    (conv => whnf); refine ret_k hC (sp_door hok.1) ?_
    rw [hdo]
    (conv => whnf); refine ⟨fun b => ?_, fun b => ?_⟩
    · replace b : kp E w.1 r l q < E.2.2.2 q.1 := b
      exact t60 _ M1 Fr_refl rfl rfl (g4'.trans (if_neg (fun z => absurd z.2 (Int32.not_le.mpr b))).symm) rfl rfl
    · replace b : ¬ kp E w.1 r l q < E.2.2.2 q.1 := b
      (conv => whnf)
      refine t60 _ _ (Fr_mI Fr_refl (by decide)) ?_ ?_ ?_ ?_ ?_
      · exact mI_2 _ _ (by decide)
      · exact mI_2 _ _ (by decide)
      · exact (mI_1 _ _ _ _).trans (if_pos ⟨a, Int32.not_lt.mp b⟩).symm
      · exact mI_2 _ _ (by decide)
      · exact mI_2 _ _ (by decide)
/-- cuts as a row tells them, from the i-th on -/
def wrun (E : EnvK) : List Int64 → Nat → Wst → Wst
  | [], _, w => w
  | x :: l, i, w =>
    if x.toInt32.toInt < 0 ∨ w.1.length ≤ x.toInt32.toInt.toNat / 16 ∨ 12 ≤ x.toInt32.toInt.toNat % 16 then w
    else match (w.1.getD (x.toInt32.toInt.toNat / 16) [])[x.toInt32.toInt.toNat % 16]? with
      | some q => wrun E l (i + 1) (wcut E w (x.toInt32.toInt.toNat / 16) (x.toInt32.toInt.toNat % 16) i q)
      | none => wrun E l (i + 1) w
theorem sh_AW {a : Nat} (ha : isSh a) : (AW.contains a || AW.contains (a + 1)) = false := by
  rcases ha with rfl | rfl | rfl | rfl | rfl | rfl <;> decide
theorem run_loop {d a n t : Nat} {E : EnvK} {l : List Int64} (ha : isSh a) (hl60 : l.length ≤ 60) (hn : n ≤ 24) : ∀ (k i : Nat) (M : Mem) (w : Wst), i + k = min n l.length → RWs M w → RE M E → RS M a (some (.inr (t, l))) →
    BodyK (d + 7) 61 8 [(0, .ref 4), (2, .ref a), (3, .int (nI n)), (4, .int (nI i))] [] M (fun v M' => v = none ∧ RWs M' (wrun E ((l.take n).drop i) i w) ∧ Fr AW M M') := by
  have en := nI_v (n := n) (by omega)
  have el := nI_v (n := l.length) (by omega)
  intro k
  induction k with
  | zero =>
    intro i M w hi h he hs
    have e := nI_v (n := i) (by omega)
    have hd : (l.take n).drop i = [] := List.drop_eq_nil_of_le (by simp; omega)
    rw [hd]
    refine body_run 400 rfl (fun B Cl Z hZ hB hC => ?_)
    (conv => whnf); refine ⟨fun b => ?_, fun b => ?_⟩
    · conv => whnf
      exact hZ _ _ ⟨rfl, h, Fr_refl⟩
    · simp only [c_lt, c_gt, c_le, c_ge, c_eq, c_ne, b2_z, b2_nz, b2_i, Classical.not_not, t0, t1, Nat.reduceMod, Nat.reduceDiv, Int.reduceAdd, Int.reduceNeg, Nat.reduceAdd, kv_0, kv_1, kv_12, kv_16, kc_0, kc_1, kc_12, kc_16, e, en] at b
      (conv => whnf)
      rw [lay_sh ha]
      (conv => whnf); refine ret_k hC (sp_len ha hs) ?_
      (conv => whnf); refine ⟨fun c => ?_, fun c => ?_⟩
      · conv => whnf
        exact hZ _ _ ⟨rfl, h, Fr_refl⟩
      · simp only [c_lt, c_gt, c_le, c_ge, c_eq, c_ne, b2_z, b2_nz, b2_i, Classical.not_not, t0, t1, Nat.reduceMod, Nat.reduceDiv, Int.reduceAdd, Int.reduceNeg, Nat.reduceAdd, kv_0, kv_1, kv_12, kv_16, kc_0, kc_1, kc_12, kc_16, e, shLen, el] at c
        omega
  | succ k ih =>
    intro i M w hi h he hs
    have e := nI_v (n := i) (by omega)
    have hil : i < l.length := by omega
    have hx := List.getElem?_eq_getElem hil
    generalize l[i] = x at hx
    have hd : (l.take n).drop i = x :: (l.take n).drop (i + 1) := by
      have z1 : i < (l.take n).length := by simp; omega
      rw [List.drop_eq_getElem_cons z1]
      congr 1
      rw [List.getElem_take]
      exact (List.getElem?_eq_some_iff.mp hx).2
    rw [hd]
    refine body_run 400 rfl (fun B Cl Z hZ hB hC => ?_)
    (conv => whnf); refine ⟨fun b => ?_, fun b => ?_⟩
    · simp only [c_lt, c_gt, c_le, c_ge, c_eq, c_ne, b2_z, b2_nz, b2_i, Classical.not_not, t0, t1, Nat.reduceMod, Nat.reduceDiv, Int.reduceAdd, Int.reduceNeg, Nat.reduceAdd, kv_0, kv_1, kv_12, kv_16, kc_0, kc_1, kc_12, kc_16, e, en] at b
      omega
    (conv => whnf)
    rw [lay_sh ha]
    (conv => whnf); refine ret_k hC (sp_len ha hs) ?_
    (conv => whnf); refine ⟨fun c => ?_, fun c => ?_⟩
    · simp only [c_lt, c_gt, c_le, c_ge, c_eq, c_ne, b2_z, b2_nz, b2_i, Classical.not_not, t0, t1, Nat.reduceMod, Nat.reduceDiv, Int.reduceAdd, Int.reduceNeg, Nat.reduceAdd, kv_0, kv_1, kv_12, kv_16, kc_0, kc_1, kc_12, kc_16, e, shLen, el] at c
      omega
    (conv => whnf)
    rw [lay_sh ha]
    (conv => whnf); refine ret_k hC (sp_cell ha hs hx) ?_
    have hstop : (x.toInt32.toInt < 0 ∨ w.1.length ≤ x.toInt32.toInt.toNat / 16 ∨ 12 ≤ x.toInt32.toInt.toNat % 16) → Z none M := fun q => hZ _ _ ⟨rfl, by rw [wrun, if_pos q]; exact h, Fr_refl⟩
    (conv => whnf); refine ⟨fun g => ?_, fun g => ?_⟩
    · simp only [c_lt, c_gt, c_le, c_ge, c_eq, c_ne, b2_z, b2_nz, b2_i, Classical.not_not, t0, t1, Nat.reduceMod, Nat.reduceDiv, Int.reduceAdd, Int.reduceNeg, Nat.reduceAdd, kv_0, kv_1, kv_12, kv_16, kc_0, kc_1, kc_12, kc_16] at g
      conv => whnf
      exact hstop (Or.inl g)
    · simp only [c_lt, c_gt, c_le, c_ge, c_eq, c_ne, b2_z, b2_nz, b2_i, Classical.not_not, t0, t1, Nat.reduceMod, Nat.reduceDiv, Int.reduceAdd, Int.reduceNeg, Nat.reduceAdd, kv_0, kv_1, kv_12, kv_16, kc_0, kc_1, kc_12, kc_16] at g
      obtain ⟨m, hm, e2, hm2⟩ := to_nI (x := x.toInt32) (by omega)
      have hm3 : x.toInt32.toInt.toNat = m := by omega
      rw [hm3] at hstop
      have y1 : nI m / cI 16 = nI (m / 16) := nI_div (b := 16) hm2 (by decide)
      have y2 : nI m - nI m / cI 16 * cI 16 = nI (m % 16) := nI_rem (b := 16) hm2 (by decide)
      have y3 := nI_v (n := m / 16) (by omega)
      have y4 := nI_v (n := m % 16) (by omega)
      rw [hm]
      (conv => whnf)
      refine ⟨by decide, ?_⟩
      (conv => whnf)
      rw [y1]
      refine ret_k hC (sp_hasRick (by simp [isYd]) h.1) ?_
      (conv => whnf); refine ⟨fun f => ?_, fun f => ?_⟩
      · simp only [c_lt, c_gt, c_le, c_ge, c_eq, c_ne, b2_z, b2_nz, b2_i, Classical.not_not, t0, t1, Nat.reduceMod, Nat.reduceDiv, Int.reduceAdd, Int.reduceNeg, Nat.reduceAdd, kv_0, kv_1, kv_12, kv_16, kc_0, kc_1, kc_12, kc_16, y3] at f
        conv => whnf
        exact hstop (Or.inr (Or.inl (by omega)))
      · simp only [c_lt, c_gt, c_le, c_ge, c_eq, c_ne, b2_z, b2_nz, b2_i, Classical.not_not, t0, t1, Nat.reduceMod, Nat.reduceDiv, Int.reduceAdd, Int.reduceNeg, Nat.reduceAdd, kv_0, kv_1, kv_12, kv_16, kc_0, kc_1, kc_12, kc_16, y3] at f
        (conv => whnf)
        refine ⟨by decide, ?_⟩
        (conv => whnf); refine ⟨fun p => ?_, fun p => ?_⟩
        rotate_left
        · rw [y2] at p
          simp only [c_lt, c_gt, c_le, c_ge, c_eq, c_ne, b2_z, b2_nz, b2_i, Classical.not_not, t0, t1, Nat.reduceMod, Nat.reduceDiv, Int.reduceAdd, Int.reduceNeg, Nat.reduceAdd, kv_0, kv_1, kv_12, kv_16, kc_0, kc_1, kc_12, kc_16, y4] at p
          conv => whnf
          exact hstop (Or.inr (Or.inr (by omega)))
        · rw [y2] at p
          simp only [c_lt, c_gt, c_le, c_ge, c_eq, c_ne, b2_z, b2_nz, b2_i, Classical.not_not, t0, t1, Nat.reduceMod, Nat.reduceDiv, Int.reduceAdd, Int.reduceNeg, Nat.reduceAdd, kv_0, kv_1, kv_12, kv_16, kc_0, kc_1, kc_12, kc_16, y4] at p
          (conv => whnf)
          refine ⟨by decide, ?_⟩
          (conv => whnf)
          refine ⟨by decide, ?_⟩
          (conv => whnf)
          rw [y2, y1]
          refine ret_k hC (sp_hasLayer (by simp [isYd]) h.1 (by omega) (by omega)) ?_
          have hgo : ¬ (x.toInt32.toInt < 0 ∨ w.1.length ≤ x.toInt32.toInt.toNat / 16 ∨ 12 ≤ x.toInt32.toInt.toNat % 16) := by rw [hm3]; omega
          (conv => whnf); refine ⟨fun u => ?_, fun u => ?_⟩
          · rw [b2_z] at u
            (conv => whnf)
            have hnone : (w.1.getD (m / 16) [])[m % 16]? = none := List.getElem?_eq_none (Nat.not_lt.mp u)
            refine hB _ _ _ _ (Body_lv (Body_mono (ih (i + 1) M w (by omega) h he hs) (fun v M' q => ?_)) ⟨rfl, rfl, rfl, v_eq (nI_i1 i), trivial⟩)
            rw [wrun, if_neg hgo, hm3, hnone]
            exact q
          · rw [b2_z] at u
            have u := Classical.not_not.mp u
            obtain ⟨q, hq⟩ := ly_at u
            (conv => whnf)
            refine ⟨by decide, ?_⟩
            (conv => whnf)
            refine ⟨by decide, ?_⟩
            (conv => whnf)
            rw [y2, y1]
            refine hC _ _ _ _ _ (sp_cutOne (i := i) h he hq) (fun v M1 z => ?_)
            obtain ⟨rfl, z2, z3⟩ := z
            (conv => whnf)
            refine hB _ _ _ _ (Body_lv (Body_mono (ih (i + 1) M1 _ (by omega) z2 (RE_fr he z3 (by decide)) (RS_fr hs z3 (sh_AW ha))) (fun v M' z => ?_)) ⟨rfl, rfl, rfl, v_eq (nI_i1 i), trivial⟩)
            rw [wrun, if_neg hgo, hm3, hq]
            exact ⟨z.1, z.2.1, Fr_trans z3 z.2.2⟩
def w0 (rk : Rk) : Wst := (rk, cI 0, cI 0, cI (-2), cI (-2), cI 0)
theorem sp_wrun {d a n t : Nat} {M : Mem} {E : EnvK} {rk : Rk} {l : List Int64} (ha : isSh a) (hn : n ≤ 24) (h : RY M 10 rk) (he : RE M E) (hs : RS M a (some (.inr (t, l)))) :
    Call (d + 7) 61 [.ref 4, .ref 10, .ref a, .int (nI n)] M (fun v M' => v = none ∧ RWs M' (wrun E (l.take n) 0 (w0 rk)) ∧ Fr AW M M') := by
  refine call_run 400 rfl rfl (fun B Cl Z hZ hB hC => ?_)
  (conv => whnf)
  refine hC _ _ _ _ _ (sp_wbegin (d := d + 4) h) (fun v M1 q => ?_)
  obtain ⟨rfl, q2, q3⟩ := q
  (conv => whnf)
  have := run_loop (d := d) ha hs.2.2.2.2.1 hn (min n l.length) 0 M1 (w0 rk) (by omega) q2 (RE_fr he q3 (by decide)) (RS_fr hs q3 (sh_AW ha))
  exact hB _ _ _ _ (Body_lv (Body_mono this (fun v M' q => ⟨q.1, q.2.1, Fr_trans q3 q.2.2⟩)) ⟨rfl, rfl, rfl, rfl, trivial⟩)
