/-! lean, winter, leanThen, letOut, byTurns -/
def voidI : Int32 := cI (-2000000000)
theorem kt_1 : ldcV 0 = .int voidI := by decide +kernel
theorem RP_v {c : Nat} {M M' : Mem} {u v : Value} {s : St} (h : RC c M s) (hf : Fr AX M M') (e : u = v) : RP c M v s (some u) M' := by subst e; exact RP_same h hf
def rkA (s : St) (r : Int32) : Prop := 0 ≤ r.toInt ∧ r.toInt < ((sK s).length : Int)
def aLean (s : St) (r w : Int32) : Int32 :=
  if (0 ≤ r.toInt ∧ r.toInt < ((sK s).length : Int)) ∧ 0 ≤ w.toInt ∧ w.toInt ≤ 2 then (if w.toInt = 0 then lX (envS s) (sK s) r.toInt.toNat else if w.toInt = 1 then lY (envS s) (sK s) r.toInt.toNat else b2 (lM (envS s) (sK s) r.toInt.toNat ≤ (envS s).2.2.1)) else voidI
theorem pb_lean {d c : Nat} {M : Mem} {s : St} {r w : Int32} (h : RC c M s) : Call (d + 6) 85 [.ref 0, .int r, .int w] M (RP c M (.int (aLean s r w)) s) := by
  have h1 := h.k
  have h2 := h.e
  refine call_run 400 rfl rfl (fun B Cl Z hZ hB hC => ?_)
  (conv => whnf); refine ret_k hC (sp_hasRick (by simp [isYd]) h1) ?_
  (conv => whnf); refine ⟨fun a => ?_, fun a => ?_⟩
  · rw [b2_z] at a
    have e9 : aLean s r w = voidI := if_neg (fun z => a z.1)
    rw [e9] at hZ
    conv => whnf
    exact hZ _ _ (RP_v h Fr_refl kt_1)
  rw [b2_z] at a
  have a := Classical.not_not.mp a
  (conv => whnf); refine ⟨fun b => ?_, fun b => ?_⟩
  · simp only [c_lt, c_gt, c_le, c_ge, c_eq, c_ne, b2_z, b2_nz, b2_i, Classical.not_not, t0, t1, Nat.reduceMod, Nat.reduceDiv, Int.reduceAdd, Int.reduceNeg, Nat.reduceAdd, kv_0, kv_1, kv_2, kc_0, kc_1, kc_2] at b
    have e9 : aLean s r w = voidI := if_neg (by omega)
    rw [e9] at hZ
    conv => whnf
    exact hZ _ _ (RP_v h Fr_refl kt_1)
  simp only [c_lt, c_gt, c_le, c_ge, c_eq, c_ne, b2_z, b2_nz, b2_i, Classical.not_not, t0, t1, Nat.reduceMod, Nat.reduceDiv, Int.reduceAdd, Int.reduceNeg, Nat.reduceAdd, kv_0, kv_1, kv_2, kc_0, kc_1, kc_2] at b
  (conv => whnf); refine ⟨fun g => ?_, fun g => ?_⟩
  · simp only [c_lt, c_gt, c_le, c_ge, c_eq, c_ne, b2_z, b2_nz, b2_i, Classical.not_not, t0, t1, Nat.reduceMod, Nat.reduceDiv, Int.reduceAdd, Int.reduceNeg, Nat.reduceAdd, kv_0, kv_1, kv_2, kc_0, kc_1, kc_2] at g
    obtain ⟨i, rfl, ei, hi⟩ := to_nI a.1
    have e8 : aLean s (nI i) w = (if w.toInt = 0 then lX (envS s) (sK s) i else if w.toInt = 1 then lY (envS s) (sK s) i else b2 (lM (envS s) (sK s) i ≤ (envS s).2.2.1)) := by
      unfold aLean
      rw [if_pos (by omega), ei]
      rfl
    rw [e8] at hZ
    (conv => whnf)
    refine hC _ _ _ _ _ (sp_leanOf (Or.inl ⟨rfl, rfl⟩) (by have := h1.2.1; omega) h1 h2.1) (fun v M1 p => ?_)
    obtain ⟨rfl, p2, p3⟩ := p
    rw [h2.2.1] at p2
    replace p2 : RLn M1 3 (lX (envS s) (sK s) i) (lY (envS s) (sK s) i) := p2
    have hF : Fr AX M M1 := Fr_sub p3 (by decide)
    (conv => whnf); refine ⟨fun k => ?_, fun k => ?_⟩
    · simp only [c_lt, c_gt, c_le, c_ge, c_eq, c_ne, b2_z, b2_nz, b2_i, Classical.not_not, t0, t1, Nat.reduceMod, Nat.reduceDiv, Int.reduceAdd, Int.reduceNeg, Nat.reduceAdd, kv_0, kv_1, kv_2, kc_0, kc_1, kc_2] at k
      rw [if_neg k] at hZ
      (conv => whnf); refine ⟨fun t => ?_, fun t => ?_⟩
      · simp only [c_lt, c_gt, c_le, c_ge, c_eq, c_ne, b2_z, b2_nz, b2_i, Classical.not_not, t0, t1, Nat.reduceMod, Nat.reduceDiv, Int.reduceAdd, Int.reduceNeg, Nat.reduceAdd, kv_0, kv_1, kv_2, kc_0, kc_1, kc_2] at t
        rw [if_neg t] at hZ
        (conv => whnf); refine ret_k hC (sp_holds (by simp [isLn]) p2) ?_
        have e7 : M1.1 1 1 = (envS s).2.2.1 := by rw [Fr_1 p3 1 (by decide)]; exact h2.2.2.1
        rw [e7]
        (conv => whnf); refine ⟨fun u => ?_, fun u => ?_⟩
        · rw [b2_z] at u
          conv => whnf
          exact hZ _ _ (RP_v h hF (congrArg Value.int (b2_0 u)))
        · rw [b2_z] at u
          conv => whnf
          exact hZ _ _ (RP_v h hF (congrArg Value.int (b2_1 (Classical.not_not.mp u))))
      · simp only [c_lt, c_gt, c_le, c_ge, c_eq, c_ne, b2_z, b2_nz, b2_i, Classical.not_not, t0, t1, Nat.reduceMod, Nat.reduceDiv, Int.reduceAdd, Int.reduceNeg, Nat.reduceAdd, kv_0, kv_1, kv_2, kc_0, kc_1, kc_2] at t
        rw [if_pos t] at hZ
        conv => whnf
        exact hZ _ _ (RP_v h hF (congrArg Value.int p2.2))
    · simp only [c_lt, c_gt, c_le, c_ge, c_eq, c_ne, b2_z, b2_nz, b2_i, Classical.not_not, t0, t1, Nat.reduceMod, Nat.reduceDiv, Int.reduceAdd, Int.reduceNeg, Nat.reduceAdd, kv_0, kv_1, kv_2, kc_0, kc_1, kc_2] at k
      rw [if_pos k] at hZ
      conv => whnf
      exact hZ _ _ (RP_v h hF (congrArg Value.int p2.1))
  · simp only [c_lt, c_gt, c_le, c_ge, c_eq, c_ne, b2_z, b2_nz, b2_i, Classical.not_not, t0, t1, Nat.reduceMod, Nat.reduceDiv, Int.reduceAdd, Int.reduceNeg, Nat.reduceAdd, kv_0, kv_1, kv_2, kc_0, kc_1, kc_2] at g
    have e9 : aLean s r w = voidI := if_neg (by omega)
    rw [e9] at hZ
    conv => whnf
    exact hZ _ _ (RP_v h Fr_refl kt_1)
/-- a row of a sort -/
def rowL (u : Shf) (w : Nat) : Option (List Int64) := match u with
  | some (.inr (t, l)) => if t = w then some l else none
  | _ => none
theorem rowL_c (u : Shf) (w : Nat) : (∃ l, u = some (.inr (w, l)) ∧ rowL u w = some l ∧ rfu u w = cI 0) ∨ (rowL u w = none ∧ (rfu u w).toInt < 0) := by
  match u with
  | none => exact Or.inr ⟨rfl, by show (cI (-11)).toInt < 0; rw [kv_m11]; decide⟩
  | some (.inl _) => exact Or.inr ⟨rfl, by show (cI (-12)).toInt < 0; rw [kv_m12]; decide⟩
  | some (.inr (t, l)) =>
    by_cases z : t = w
    · subst z
      exact Or.inl ⟨l, rfl, if_pos rfl, if_pos rfl⟩
    · refine Or.inr ⟨if_neg z, ?_⟩
      have : rfu (some (.inr (t, l))) w = cI (-12) := if_neg z
      rw [this, kv_m12]
      decide
def wnt (W : Wst) (w : Int) : Int32 := if w = 0 then W.2.1 else if w = 1 then W.2.2.1 else if w = 2 then W.2.2.2.1 else if w = 3 then W.2.2.2.2.1 else W.2.2.2.2.2
def aWinter (s : St) (x n w : Int32) : Int32 :=
  if (0 ≤ x.toInt ∧ x.toInt < 6) ∧ (0 ≤ n.toInt ∧ n.toInt ≤ 24) ∧ 0 ≤ w.toInt ∧ w.toInt ≤ 4 then (match rowL (sSh s x.toInt.toNat) 0 with
    | some l => wnt (wrun (envS s) (l.take n.toInt.toNat) 0 (w0 (sK s))) w.toInt
    | none => rfu (sSh s x.toInt.toNat) 0) else cI (-1)
theorem pb_winter {d c : Nat} {M : Mem} {s : St} {x n w : Int32} (h : RC c M s) : Call (d + 8) 86 [.ref 0, .int x, .int n, .int w] M (RP c M (.int (aWinter s x n w)) s) := by
  have h1 := h.k
  have h2 := h.e
  refine call_run 400 rfl rfl (fun B Cl Z hZ hB hC => ?_)
  (conv => whnf)
  refine hC _ _ _ _ _ (sp_shelfR h) (fun v M1 p => ?_)
  obtain ⟨rfl, ⟨p1, rfl⟩ | ⟨i, a, hi, rfl, ei, hia, ha, hs, rfl⟩⟩ := p
  · have e9 : aWinter s x n w = cI (-1) := if_neg (fun z => p1 z.1)
    rw [e9] at hZ
    conv => whnf
    exact hZ _ _ (RP_same h Fr_refl)
  have out : ¬ ((0 ≤ n.toInt ∧ n.toInt ≤ 24) ∧ 0 ≤ w.toInt ∧ w.toInt ≤ 4) → aWinter s (nI i) n w = cI (-1) := fun z => if_neg (fun y => z y.2)
  (conv => whnf); refine ⟨fun g1 => ?_, fun g1 => ?_⟩
  · simp only [c_lt, c_gt, c_le, c_ge, c_eq, c_ne, b2_z, b2_nz, b2_i, Classical.not_not, t0, t1, Nat.reduceMod, Nat.reduceDiv, Int.reduceAdd, Int.reduceNeg, Nat.reduceAdd, kv_m1, kv_0, kv_1, kv_2, kv_3, kv_4, kv_24, kc_0, kc_1, kc_2, kc_3, kc_4, kc_24] at g1
    rw [out (by omega)] at hZ
    conv => whnf
    exact hZ _ _ (RP_same h Fr_refl)
  simp only [c_lt, c_gt, c_le, c_ge, c_eq, c_ne, b2_z, b2_nz, b2_i, Classical.not_not, t0, t1, Nat.reduceMod, Nat.reduceDiv, Int.reduceAdd, Int.reduceNeg, Nat.reduceAdd, kv_m1, kv_0, kv_1, kv_2, kv_3, kv_4, kv_24, kc_0, kc_1, kc_2, kc_3, kc_4, kc_24] at g1
  (conv => whnf); refine ⟨fun g2 => ?_, fun g2 => ?_⟩
  · simp only [c_lt, c_gt, c_le, c_ge, c_eq, c_ne, b2_z, b2_nz, b2_i, Classical.not_not, t0, t1, Nat.reduceMod, Nat.reduceDiv, Int.reduceAdd, Int.reduceNeg, Nat.reduceAdd, kv_m1, kv_0, kv_1, kv_2, kv_3, kv_4, kv_24, kc_0, kc_1, kc_2, kc_3, kc_4, kc_24] at g2
    rw [out (by omega)] at hZ
    conv => whnf
    exact hZ _ _ (RP_same h Fr_refl)
  simp only [c_lt, c_gt, c_le, c_ge, c_eq, c_ne, b2_z, b2_nz, b2_i, Classical.not_not, t0, t1, Nat.reduceMod, Nat.reduceDiv, Int.reduceAdd, Int.reduceNeg, Nat.reduceAdd, kv_m1, kv_0, kv_1, kv_2, kv_3, kv_4, kv_24, kc_0, kc_1, kc_2, kc_3, kc_4, kc_24] at g2
  (conv => whnf); refine ⟨fun g3 => ?_, fun g3 => ?_⟩
  · simp only [c_lt, c_gt, c_le, c_ge, c_eq, c_ne, b2_z, b2_nz, b2_i, Classical.not_not, t0, t1, Nat.reduceMod, Nat.reduceDiv, Int.reduceAdd, Int.reduceNeg, Nat.reduceAdd, kv_m1, kv_0, kv_1, kv_2, kv_3, kv_4, kv_24, kc_0, kc_1, kc_2, kc_3, kc_4, kc_24] at g3
    rw [out (by omega)] at hZ
    conv => whnf
    exact hZ _ _ (RP_same h Fr_refl)
  simp only [c_lt, c_gt, c_le, c_ge, c_eq, c_ne, b2_z, b2_nz, b2_i, Classical.not_not, t0, t1, Nat.reduceMod, Nat.reduceDiv, Int.reduceAdd, Int.reduceNeg, Nat.reduceAdd, kv_m1, kv_0, kv_1, kv_2, kv_3, kv_4, kv_24, kc_0, kc_1, kc_2, kc_3, kc_4, kc_24] at g3
  (conv => whnf); refine ⟨fun g4 => ?_, fun g4 => ?_⟩
  case' refine_2 =>
    simp only [c_lt, c_gt, c_le, c_ge, c_eq, c_ne, b2_z, b2_nz, b2_i, Classical.not_not, t0, t1, Nat.reduceMod, Nat.reduceDiv, Int.reduceAdd, Int.reduceNeg, Nat.reduceAdd, kv_m1, kv_0, kv_1, kv_2, kv_3, kv_4, kv_24, kc_0, kc_1, kc_2, kc_3, kc_4, kc_24] at g4
    rw [out (by omega)] at hZ
    conv => whnf
    exact hZ _ _ (RP_same h Fr_refl)
  simp only [c_lt, c_gt, c_le, c_ge, c_eq, c_ne, b2_z, b2_nz, b2_i, Classical.not_not, t0, t1, Nat.reduceMod, Nat.reduceDiv, Int.reduceAdd, Int.reduceNeg, Nat.reduceAdd, kv_m1, kv_0, kv_1, kv_2, kv_3, kv_4, kv_24, kc_0, kc_1, kc_2, kc_3, kc_4, kc_24] at g4
  obtain ⟨m, rfl, em, hm⟩ := to_nI (x := n) (by omega)
  have e8 : aWinter s (nI i) (nI m) w = (match rowL (sSh s i) 0 with
    | some l => wnt (wrun (envS s) (l.take m) 0 (w0 (sK s))) w.toInt
    | none => rfu (sSh s i) 0) := by
    unfold aWinter
    rw [if_pos (by omega), ei, em]
    rfl
  rw [e8] at hZ
  conv => whnf
  rw [lay_sh ha]
  (conv => whnf); refine ret_k hC (sp_refusal (w := 0) ha hs (by decide)) ?_
  rcases rowL_c (sSh s i) 0 with ⟨l, q1, q2, q3⟩ | ⟨q1, q2⟩
  · rw [q2] at hZ
    rw [q1] at hs
    rw [q3]
    (conv => whnf); refine ⟨fun k => ?_, fun k => ?_⟩
    case' refine_2 => exact absurd rfl k
    (conv => whnf)
    refine hC _ _ _ _ _ (sp_wrun ha (show m ≤ 24 by omega) h1 h2 hs) (fun v M2 p => ?_)
    obtain ⟨rfl, ⟨p2, p3, p4, p5, p6, p7⟩, p8⟩ := p
    have hF : Fr AX M1 M2 := Fr_sub p8 (by decide)
    dsimp only at hZ
    generalize wrun (envS s) (l.take m) 0 (w0 (sK s)) = W at hZ p2 p3 p4 p5 p6 p7
    unfold wnt at hZ
    (conv => whnf); refine ⟨fun t1x => ?_, fun t1x => ?_⟩
    · simp only [c_lt, c_gt, c_le, c_ge, c_eq, c_ne, b2_z, b2_nz, b2_i, Classical.not_not, t0, t1, Nat.reduceMod, Nat.reduceDiv, Int.reduceAdd, Int.reduceNeg, Nat.reduceAdd, kv_m1, kv_0, kv_1, kv_2, kv_3, kv_4, kv_24, kc_0, kc_1, kc_2, kc_3, kc_4, kc_24, x_eq] at t1x
      rw [if_pos t1x] at hZ
      conv => whnf
      exact hZ _ _ (RP_v h hF (congrArg Value.int p3))
    simp only [c_lt, c_gt, c_le, c_ge, c_eq, c_ne, b2_z, b2_nz, b2_i, Classical.not_not, t0, t1, Nat.reduceMod, Nat.reduceDiv, Int.reduceAdd, Int.reduceNeg, Nat.reduceAdd, kv_m1, kv_0, kv_1, kv_2, kv_3, kv_4, kv_24, kc_0, kc_1, kc_2, kc_3, kc_4, kc_24, x_eq] at t1x
    rw [if_neg t1x] at hZ
    (conv => whnf); refine ⟨fun t2x => ?_, fun t2x => ?_⟩
    · simp only [c_lt, c_gt, c_le, c_ge, c_eq, c_ne, b2_z, b2_nz, b2_i, Classical.not_not, t0, t1, Nat.reduceMod, Nat.reduceDiv, Int.reduceAdd, Int.reduceNeg, Nat.reduceAdd, kv_m1, kv_0, kv_1, kv_2, kv_3, kv_4, kv_24, kc_0, kc_1, kc_2, kc_3, kc_4, kc_24, x_eq] at t2x
      rw [if_pos t2x] at hZ
      conv => whnf
      exact hZ _ _ (RP_v h hF (congrArg Value.int p4))
    simp only [c_lt, c_gt, c_le, c_ge, c_eq, c_ne, b2_z, b2_nz, b2_i, Classical.not_not, t0, t1, Nat.reduceMod, Nat.reduceDiv, Int.reduceAdd, Int.reduceNeg, Nat.reduceAdd, kv_m1, kv_0, kv_1, kv_2, kv_3, kv_4, kv_24, kc_0, kc_1, kc_2, kc_3, kc_4, kc_24, x_eq] at t2x
    rw [if_neg t2x] at hZ
    (conv => whnf); refine ⟨fun t3x => ?_, fun t3x => ?_⟩
    · simp only [c_lt, c_gt, c_le, c_ge, c_eq, c_ne, b2_z, b2_nz, b2_i, Classical.not_not, t0, t1, Nat.reduceMod, Nat.reduceDiv, Int.reduceAdd, Int.reduceNeg, Nat.reduceAdd, kv_m1, kv_0, kv_1, kv_2, kv_3, kv_4, kv_24, kc_0, kc_1, kc_2, kc_3, kc_4, kc_24, x_eq] at t3x
      rw [if_pos t3x] at hZ
      conv => whnf
      exact hZ _ _ (RP_v h hF (congrArg Value.int p5))
    simp only [c_lt, c_gt, c_le, c_ge, c_eq, c_ne, b2_z, b2_nz, b2_i, Classical.not_not, t0, t1, Nat.reduceMod, Nat.reduceDiv, Int.reduceAdd, Int.reduceNeg, Nat.reduceAdd, kv_m1, kv_0, kv_1, kv_2, kv_3, kv_4, kv_24, kc_0, kc_1, kc_2, kc_3, kc_4, kc_24, x_eq] at t3x
    rw [if_neg t3x] at hZ
    (conv => whnf); refine ⟨fun t4x => ?_, fun t4x => ?_⟩
    · simp only [c_lt, c_gt, c_le, c_ge, c_eq, c_ne, b2_z, b2_nz, b2_i, Classical.not_not, t0, t1, Nat.reduceMod, Nat.reduceDiv, Int.reduceAdd, Int.reduceNeg, Nat.reduceAdd, kv_m1, kv_0, kv_1, kv_2, kv_3, kv_4, kv_24, kc_0, kc_1, kc_2, kc_3, kc_4, kc_24, x_eq] at t4x
      rw [if_pos t4x] at hZ
      conv => whnf
      exact hZ _ _ (RP_v h hF (congrArg Value.int p6))
    · simp only [c_lt, c_gt, c_le, c_ge, c_eq, c_ne, b2_z, b2_nz, b2_i, Classical.not_not, t0, t1, Nat.reduceMod, Nat.reduceDiv, Int.reduceAdd, Int.reduceNeg, Nat.reduceAdd, kv_m1, kv_0, kv_1, kv_2, kv_3, kv_4, kv_24, kc_0, kc_1, kc_2, kc_3, kc_4, kc_24, x_eq] at t4x
      rw [if_neg t4x] at hZ
      conv => whnf
      exact hZ _ _ (RP_v h hF (congrArg Value.int p7))
  · rw [q1] at hZ
    (conv => whnf); refine ⟨fun k => ?_, fun k => ?_⟩
    · rw [c_eq, t0] at k
      omega
    · conv => whnf
      exact hZ _ _ (RP_same h Fr_refl)
def aLeanThen (s : St) (x n r w : Int32) : Int32 :=
  if (0 ≤ x.toInt ∧ x.toInt < 6) ∧ (0 ≤ n.toInt ∧ n.toInt ≤ 24) ∧ (0 ≤ r.toInt ∧ r.toInt < ((sK s).length : Int)) ∧ 0 ≤ w.toInt ∧ w.toInt ≤ 1 then (match rowL (sSh s x.toInt.toNat) 0 with
    | some l => if w.toInt = 0 then lX (envS s) (wrun (envS s) (l.take n.toInt.toNat) 0 (w0 (sK s))).1 r.toInt.toNat else lY (envS s) (wrun (envS s) (l.take n.toInt.toNat) 0 (w0 (sK s))).1 r.toInt.toNat
    | none => voidI) else voidI
theorem pb_leanThen {d c : Nat} {M : Mem} {s : St} {x n r w : Int32} (h : RC c M s) : Call (d + 8) 87 [.ref 0, .int x, .int n, .int r, .int w] M (RP c M (.int (aLeanThen s x n r w)) s) := by
  have h1 := h.k
  have h2 := h.e
  refine call_run 400 rfl rfl (fun B Cl Z hZ hB hC => ?_)
  (conv => whnf)
  refine hC _ _ _ _ _ (sp_shelfR h) (fun v M1 p => ?_)
  obtain ⟨rfl, ⟨p1, rfl⟩ | ⟨i, a, hi, rfl, ei, hia, ha, hs, rfl⟩⟩ := p
  · have e9 : aLeanThen s x n r w = voidI := if_neg (fun z => p1 z.1)
    rw [e9] at hZ
    conv => whnf
    exact hZ _ _ (RP_v h Fr_refl kt_1)
  have out : ¬ ((0 ≤ n.toInt ∧ n.toInt ≤ 24) ∧ (0 ≤ r.toInt ∧ r.toInt < ((sK s).length : Int)) ∧ 0 ≤ w.toInt ∧ w.toInt ≤ 1) → aLeanThen s (nI i) n r w = voidI := fun z => if_neg (fun y => z y.2)
  (conv => whnf); refine ⟨fun g1 => ?_, fun g1 => ?_⟩
  · simp only [c_lt, c_gt, c_le, c_ge, c_eq, c_ne, b2_z, b2_nz, b2_i, Classical.not_not, t0, t1, Nat.reduceMod, Nat.reduceDiv, Int.reduceAdd, Int.reduceNeg, Nat.reduceAdd, kv_0, kv_1, kv_24, kc_0, kc_1, kc_24] at g1
    rw [out (by omega)] at hZ
    conv => whnf
    exact hZ _ _ (RP_v h Fr_refl kt_1)
  simp only [c_lt, c_gt, c_le, c_ge, c_eq, c_ne, b2_z, b2_nz, b2_i, Classical.not_not, t0, t1, Nat.reduceMod, Nat.reduceDiv, Int.reduceAdd, Int.reduceNeg, Nat.reduceAdd, kv_0, kv_1, kv_24, kc_0, kc_1, kc_24] at g1
  (conv => whnf); refine ⟨fun g2 => ?_, fun g2 => ?_⟩
  · simp only [c_lt, c_gt, c_le, c_ge, c_eq, c_ne, b2_z, b2_nz, b2_i, Classical.not_not, t0, t1, Nat.reduceMod, Nat.reduceDiv, Int.reduceAdd, Int.reduceNeg, Nat.reduceAdd, kv_0, kv_1, kv_24, kc_0, kc_1, kc_24] at g2
    rw [out (by omega)] at hZ
    conv => whnf
    exact hZ _ _ (RP_v h Fr_refl kt_1)
  simp only [c_lt, c_gt, c_le, c_ge, c_eq, c_ne, b2_z, b2_nz, b2_i, Classical.not_not, t0, t1, Nat.reduceMod, Nat.reduceDiv, Int.reduceAdd, Int.reduceNeg, Nat.reduceAdd, kv_0, kv_1, kv_24, kc_0, kc_1, kc_24] at g2
  (conv => whnf); refine ret_k hC (sp_hasRick (by simp [isYd]) h1) ?_
  (conv => whnf); refine ⟨fun b => ?_, fun b => ?_⟩
  · rw [b2_z] at b
    rw [out (fun z => b z.2.1)] at hZ
    conv => whnf
    exact hZ _ _ (RP_v h Fr_refl kt_1)
  rw [b2_z] at b
  have b := Classical.not_not.mp b
  (conv => whnf); refine ⟨fun g3 => ?_, fun g3 => ?_⟩
  · simp only [c_lt, c_gt, c_le, c_ge, c_eq, c_ne, b2_z, b2_nz, b2_i, Classical.not_not, t0, t1, Nat.reduceMod, Nat.reduceDiv, Int.reduceAdd, Int.reduceNeg, Nat.reduceAdd, kv_0, kv_1, kv_24, kc_0, kc_1, kc_24] at g3
    rw [out (by omega)] at hZ
    conv => whnf
    exact hZ _ _ (RP_v h Fr_refl kt_1)
  simp only [c_lt, c_gt, c_le, c_ge, c_eq, c_ne, b2_z, b2_nz, b2_i, Classical.not_not, t0, t1, Nat.reduceMod, Nat.reduceDiv, Int.reduceAdd, Int.reduceNeg, Nat.reduceAdd, kv_0, kv_1, kv_24, kc_0, kc_1, kc_24] at g3
  (conv => whnf); refine ⟨fun g4 => ?_, fun g4 => ?_⟩
  case' refine_2 =>
    simp only [c_lt, c_gt, c_le, c_ge, c_eq, c_ne, b2_z, b2_nz, b2_i, Classical.not_not, t0, t1, Nat.reduceMod, Nat.reduceDiv, Int.reduceAdd, Int.reduceNeg, Nat.reduceAdd, kv_0, kv_1, kv_24, kc_0, kc_1, kc_24] at g4
    rw [out (by omega)] at hZ
    conv => whnf
    exact hZ _ _ (RP_v h Fr_refl kt_1)
  simp only [c_lt, c_gt, c_le, c_ge, c_eq, c_ne, b2_z, b2_nz, b2_i, Classical.not_not, t0, t1, Nat.reduceMod, Nat.reduceDiv, Int.reduceAdd, Int.reduceNeg, Nat.reduceAdd, kv_0, kv_1, kv_24, kc_0, kc_1, kc_24] at g4
  obtain ⟨m, rfl, em, hm⟩ := to_nI (x := n) (by omega)
  obtain ⟨j, rfl, ej, hj⟩ := to_nI (x := r) (by omega)
  have e8 : aLeanThen s (nI i) (nI m) (nI j) w = (match rowL (sSh s i) 0 with
    | some l => if w.toInt = 0 then lX (envS s) (wrun (envS s) (l.take m) 0 (w0 (sK s))).1 j else lY (envS s) (wrun (envS s) (l.take m) 0 (w0 (sK s))).1 j
    | none => voidI) := by
    unfold aLeanThen
    rw [if_pos (by omega), ei, em, ej]
    rfl
  rw [e8] at hZ
  conv => whnf
  rw [lay_sh ha]
  (conv => whnf); refine ret_k hC (sp_refusal (w := 0) ha hs (by decide)) ?_
  rcases rowL_c (sSh s i) 0 with ⟨l, q1, q2, q3⟩ | ⟨q1, q2⟩
  · rw [q2] at hZ
    rw [q1] at hs
    rw [q3]
    (conv => whnf); refine ⟨fun k => ?_, fun k => ?_⟩
    case' refine_2 => exact absurd rfl k
    (conv => whnf)
    refine hC _ _ _ _ _ (sp_wrun ha (show m ≤ 24 by omega) h1 h2 hs) (fun v M2 p => ?_)
    obtain ⟨rfl, ⟨p2, -⟩, p8⟩ := p
    dsimp only at hZ
    generalize (wrun (envS s) (l.take m) 0 (w0 (sK s))).1 = W at hZ p2
    have h22 : RE M2 (envS s) := RE_fr h2 p8 (by decide)
    (conv => whnf)
    refine hC _ _ _ _ _ (sp_leanOf (Or.inr (Or.inl ⟨rfl, rfl⟩)) (by have := h1.2.1; omega) p2 h22.1) (fun v M3 p => ?_)
    obtain ⟨rfl, y2, y3⟩ := p
    rw [h22.2.1] at y2
    replace y2 : RLn M3 3 (lX (envS s) W j) (lY (envS s) W j) := y2
    have hF : Fr AX M1 M3 := Fr_trans (Fr_sub p8 (by decide)) (Fr_sub y3 (by decide))
    (conv => whnf); refine ⟨fun t => ?_, fun t => ?_⟩
    · simp only [c_lt, c_gt, c_le, c_ge, c_eq, c_ne, b2_z, b2_nz, b2_i, Classical.not_not, t0, t1, Nat.reduceMod, Nat.reduceDiv, Int.reduceAdd, Int.reduceNeg, Nat.reduceAdd, kv_0, kv_1, kv_24, kc_0, kc_1, kc_24] at t
      rw [if_neg t] at hZ
      conv => whnf
      exact hZ _ _ (RP_v h hF (congrArg Value.int y2.2))
    · simp only [c_lt, c_gt, c_le, c_ge, c_eq, c_ne, b2_z, b2_nz, b2_i, Classical.not_not, t0, t1, Nat.reduceMod, Nat.reduceDiv, Int.reduceAdd, Int.reduceNeg, Nat.reduceAdd, kv_0, kv_1, kv_24, kc_0, kc_1, kc_24] at t
      rw [if_pos t] at hZ
      conv => whnf
      exact hZ _ _ (RP_v h hF (congrArg Value.int y2.1))
  · rw [q1] at hZ
    (conv => whnf); refine ⟨fun k => ?_, fun k => ?_⟩
    · rw [c_eq, t0] at k
      omega
    · conv => whnf
      exact hZ _ _ (RP_v h Fr_refl kt_1)
theorem bin_some {E : EnvK} {ls : List Lyr} {mk set i' : Nat} {Q' : List Nat} {cm' : Nat → Nat} : ∀ (m i : Nat) (Q : List Nat) (cm : Nat → Nat), bin E ls mk set m i Q cm = (some i', Q', cm') → set.testBit i' = true ∧ i' < i + m
  | 0, i, Q, cm, h => by cases h
  | m + 1, i, Q, cm, h => by
    unfold bin at h
    split at h
    · next z =>
      split at h
      · cases h; exact ⟨z.1, by omega⟩
      · split at h
        · have := bin_some m (i + 1) _ _ h; exact ⟨this.1, by omega⟩
        · have := bin_some m (i + 1) _ _ h; exact ⟨this.1, by omega⟩
    · have := bin_some m (i + 1) _ _ h; exact ⟨this.1, by omega⟩
theorem bfs_some {E : EnvK} {ls : List Lyr} {mk set last : Nat} {cm' : Nat → Nat} : ∀ (n hd : Nat) (Q : List Nat) (cm : Nat → Nat), bfs E ls mk n hd Q cm = some (set, last, cm') → set.testBit last = true ∧ last < ls.length
  | 0, hd, Q, cm, h => by cases h
  | n + 1, hd, Q, cm, h => by
    unfold bfs at h
    split at h
    · cases h
    · next st hq =>
      split at h
      · next i Q' cm'' hb =>
        cases h
        have := bin_some _ _ _ _ hb
        exact ⟨this.1, by omega⟩
      · exact bfs_some n _ _ _ h
theorem lres_pcn {E : EnvK} {ls : List Lyr} {mk set last : Nat} {cm : Nat → Nat} (h12 : ls.length ≤ 12) (h : lres E ls mk = some (set, last, cm)) : 1 ≤ pcn set 12 := by
  unfold lres at h
  split at h
  · obtain ⟨h1, h2⟩ := bfs_some _ _ _ _ h
    have := pcn_lt h1 12 (by omega)
    omega
  · cases h
def aLetOut (s : St) (r mk k : Int32) : Int32 :=
  if (0 ≤ r.toInt ∧ r.toInt < ((sK s).length : Int)) ∧ (1 ≤ mk.toInt ∧ mk.toInt ≤ 7) ∧ -1 ≤ k.toInt then (match lres (envS s) ((sK s).getD r.toInt.toNat []) mk.toInt.toNat with
    | none => cI (-2)
    | some (set, last, cm) => if ((hgt (sK s) r.toInt.toNat - pcn set 12 + 1 : Nat) : Int) ≤ k.toInt then cI (-2) else if k.toInt < 0 then nI (hgt (sK s) r.toInt.toNat - pcn set 12 + 1)
      else nI ((kcl cm (2 ^ hgt (sK s) r.toInt.toNat - 1) (hgt (sK s) r.toInt.toNat - pcn set 12 + 1) last set).getD k.toInt.toNat 0)) else cI (-1)
set_option maxHeartbeats 1000000 in
theorem pb_letOut {d c : Nat} {M : Mem} {s : St} {r mk k : Int32} (h : RC c M s) : Call (d + 13) 89 [.ref 0, .int r, .int mk, .int k] M (RP c M (.int (aLetOut s r mk k)) s) := by
  have h1 := h.k
  have h2 := h.e
  refine call_run 400 rfl rfl (fun B Cl Z hZ hB hC => ?_)
  (conv => whnf); refine ret_k hC (sp_hasRick (by simp [isYd]) h1) ?_
  (conv => whnf); refine ⟨fun a => ?_, fun a => ?_⟩
  · rw [b2_z] at a
    have e9 : aLetOut s r mk k = cI (-1) := if_neg (fun z => a z.1)
    rw [e9] at hZ
    conv => whnf
    exact hZ _ _ (RP_same h Fr_refl)
  rw [b2_z] at a
  have a := Classical.not_not.mp a
  have out : ¬ ((1 ≤ mk.toInt ∧ mk.toInt ≤ 7) ∧ -1 ≤ k.toInt) → aLetOut s r mk k = cI (-1) := fun z => if_neg (fun y => z y.2)
  (conv => whnf); refine ⟨fun b => ?_, fun b => ?_⟩
  · simp only [c_lt, c_gt, c_le, c_ge, c_eq, c_ne, b2_z, b2_nz, b2_i, Classical.not_not, t0, t1, Nat.reduceMod, Nat.reduceDiv, Int.reduceAdd, Int.reduceNeg, Nat.reduceAdd, kv_m2, kv_m1, kv_0, kv_1, kv_7, kc_0, kc_1, kc_7] at b
    rw [out (by omega)] at hZ
    conv => whnf
    exact hZ _ _ (RP_same h Fr_refl)
  simp only [c_lt, c_gt, c_le, c_ge, c_eq, c_ne, b2_z, b2_nz, b2_i, Classical.not_not, t0, t1, Nat.reduceMod, Nat.reduceDiv, Int.reduceAdd, Int.reduceNeg, Nat.reduceAdd, kv_m2, kv_m1, kv_0, kv_1, kv_7, kc_0, kc_1, kc_7] at b
  (conv => whnf); refine ⟨fun g => ?_, fun g => ?_⟩
  · simp only [c_lt, c_gt, c_le, c_ge, c_eq, c_ne, b2_z, b2_nz, b2_i, Classical.not_not, t0, t1, Nat.reduceMod, Nat.reduceDiv, Int.reduceAdd, Int.reduceNeg, Nat.reduceAdd, kv_m2, kv_m1, kv_0, kv_1, kv_7, kc_0, kc_1, kc_7] at g
    rw [out (by omega)] at hZ
    conv => whnf
    exact hZ _ _ (RP_same h Fr_refl)
  simp only [c_lt, c_gt, c_le, c_ge, c_eq, c_ne, b2_z, b2_nz, b2_i, Classical.not_not, t0, t1, Nat.reduceMod, Nat.reduceDiv, Int.reduceAdd, Int.reduceNeg, Nat.reduceAdd, kv_m2, kv_m1, kv_0, kv_1, kv_7, kc_0, kc_1, kc_7] at g
  (conv => whnf); refine ⟨fun q => ?_, fun q => ?_⟩
  case' refine_2 =>
    simp only [c_lt, c_gt, c_le, c_ge, c_eq, c_ne, b2_z, b2_nz, b2_i, Classical.not_not, t0, t1, Nat.reduceMod, Nat.reduceDiv, Int.reduceAdd, Int.reduceNeg, Nat.reduceAdd, kv_m2, kv_m1, kv_0, kv_1, kv_7, kc_0, kc_1, kc_7] at q
    rw [out (by omega)] at hZ
    conv => whnf
    exact hZ _ _ (RP_same h Fr_refl)
  simp only [c_lt, c_gt, c_le, c_ge, c_eq, c_ne, b2_z, b2_nz, b2_i, Classical.not_not, t0, t1, Nat.reduceMod, Nat.reduceDiv, Int.reduceAdd, Int.reduceNeg, Nat.reduceAdd, kv_m2, kv_m1, kv_0, kv_1, kv_7, kc_0, kc_1, kc_7] at q
  obtain ⟨i, rfl, ei, hi⟩ := to_nI a.1
  obtain ⟨m, rfl, em, hm⟩ := to_nI (x := mk) (by omega)
  have e8 : aLetOut s (nI i) (nI m) k = (match lres (envS s) ((sK s).getD i []) m with
    | none => cI (-2)
    | some (set, last, cm) => if ((hgt (sK s) i - pcn set 12 + 1 : Nat) : Int) ≤ k.toInt then cI (-2) else if k.toInt < 0 then nI (hgt (sK s) i - pcn set 12 + 1)
      else nI ((kcl cm (2 ^ hgt (sK s) i - 1) (hgt (sK s) i - pcn set 12 + 1) last set).getD k.toInt.toNat 0)) := by
    unfold aLetOut
    rw [if_pos (by omega), ei, em]
    rfl
  rw [e8] at hZ
  have h12 : hgt (sK s) i ≤ 12 := h1.2.2.2.1 i
  (conv => whnf)
  refine hC _ _ _ _ _ (sp_sbegin (sell := false) h1 (by omega : i < (sK s).length)) (fun v M1 p => ?_)
  obtain ⟨rfl, p2, p3⟩ := p
  (conv => whnf)
  refine hC _ _ _ _ _ (sp_letOutBest (show m < 8 by omega) (RSe_r p3) (RE_fr h2 p2 (by decide))) (fun v M2 p => ?_)
  obtain ⟨y1, y2⟩ := p
  have hF : Fr AX M M2 := Fr_trans (Fr_sub p2 (by decide)) (Fr_sub y1 (by decide))
  have hpc := fun set last cm => lres_pcn (E := envS s) (ls := (sK s).getD i []) (mk := m) (set := set) (last := last) (cm := cm) h12
  generalize lres (envS s) ((sK s).getD i []) m = L at y2 hZ hpc
  match L, y2, hZ, hpc with
  | none, y2, hZ, _ =>
    obtain rfl := y2
    (conv => whnf); refine ⟨fun _ => ?_, fun z => absurd rfl z⟩
    conv => whnf
    exact hZ _ _ (RP_same h hF)
  | some (set, last, cm), y2, hZ, hpc =>
    obtain ⟨rfl, y3, y4⟩ := y2
    have hp1 := hpc set last cm rfl
    dsimp only at hZ
    replace y3 : M2.1 5 0 = nI (hgt (sK s) i - pcn set 12 + 1) := y3
    replace y4 : ∀ j p, (kcl cm (2 ^ hgt (sK s) i - 1) (hgt (sK s) i - pcn set 12 + 1) last set)[j]? = some p → M2.1 47 j = nI p := y4
    have hlen := kcl_len cm (2 ^ hgt (sK s) i - 1) (hgt (sK s) i - pcn set 12 + 1) last set
    generalize kcl cm (2 ^ hgt (sK s) i - 1) (hgt (sK s) i - pcn set 12 + 1) last set = P at y4 hZ hlen
    generalize hN : hgt (sK s) i - pcn set 12 + 1 = N at y3 hZ hlen
    have eN := nI_v (n := N) (by omega)
    (conv => whnf); refine ⟨fun z => absurd z (by rw [c_eq]; decide), fun _ => ?_⟩
    (conv => whnf); refine ⟨fun t => ?_, fun t => ?_⟩
    · replace t : cnd .lt k (M2.1 5 0) := t
      rw [c_lt, y3, eN] at t
      rw [if_neg (by omega)] at hZ
      (conv => whnf); refine ⟨fun u => ?_, fun u => ?_⟩
      · simp only [c_lt, c_gt, c_le, c_ge, c_eq, c_ne, b2_z, b2_nz, b2_i, Classical.not_not, t0, t1, Nat.reduceMod, Nat.reduceDiv, Int.reduceAdd, Int.reduceNeg, Nat.reduceAdd, kv_m2, kv_m1, kv_0, kv_1, kv_7, kc_0, kc_1, kc_7] at u
        rw [if_neg (by omega)] at hZ
        obtain ⟨j, rfl, ej, hj⟩ := to_nI (x := k) (by omega)
        have hx : P[j]? = some (P.getD j 0) := by
          rw [List.getD, List.getElem?_eq_getElem (by omega : j < P.length)]
          rfl
        have e7 : (nI j).toInt.toNat = j := by rw [ej]; rfl
        rw [e7] at hZ
        (conv => whnf); refine ret_k hC (sp_bestAt (i := j) (by omega)) ?_
        conv => whnf
        rw [y4 j _ hx]
        exact hZ _ _ (RP_same h hF)
      · simp only [c_lt, c_gt, c_le, c_ge, c_eq, c_ne, b2_z, b2_nz, b2_i, Classical.not_not, t0, t1, Nat.reduceMod, Nat.reduceDiv, Int.reduceAdd, Int.reduceNeg, Nat.reduceAdd, kv_m2, kv_m1, kv_0, kv_1, kv_7, kc_0, kc_1, kc_7] at u
        rw [if_pos (by omega)] at hZ
        conv => whnf
        exact hZ _ _ (RP_v h hF (congrArg Value.int y3))
    · replace t : ¬ cnd .lt k (M2.1 5 0) := t
      rw [c_lt, y3, eN] at t
      rw [if_pos (by omega)] at hZ
      conv => whnf
      exact hZ _ _ (RP_same h hF)
def aByTurns (s : St) (r n w : Int32) : Int32 :=
  if (0 ≤ r.toInt ∧ r.toInt < ((sK s).length : Int)) ∧ (1 ≤ n.toInt ∧ n.toInt ≤ 4) ∧ 0 ≤ w.toInt ∧ w.toInt ≤ 1 then
    (if 12 < hgt (sK s) r.toInt.toNat + n.toInt.toNat then cI (-2) else if w.toInt = 0 then (tres (envS s) ((sK s).getD r.toInt.toNat []) n.toInt.toNat).1 else nI (tres (envS s) ((sK s).getD r.toInt.toNat []) n.toInt.toNat).2) else cI (-1)
theorem pb_byTurns {d c : Nat} {M : Mem} {s : St} {r n w : Int32} (h : RC c M s) : Call (d + 13) 92 [.ref 0, .int r, .int n, .int w] M (RP c M (.int (aByTurns s r n w)) s) := by
  have h1 := h.k
  have h2 := h.e
  refine call_run 400 rfl rfl (fun B Cl Z hZ hB hC => ?_)
  (conv => whnf); refine ret_k hC (sp_hasRick (by simp [isYd]) h1) ?_
  (conv => whnf); refine ⟨fun a => ?_, fun a => ?_⟩
  · rw [b2_z] at a
    have e9 : aByTurns s r n w = cI (-1) := if_neg (fun z => a z.1)
    rw [e9] at hZ
    conv => whnf
    exact hZ _ _ (RP_same h Fr_refl)
  rw [b2_z] at a
  have a := Classical.not_not.mp a
  have out : ¬ ((1 ≤ n.toInt ∧ n.toInt ≤ 4) ∧ 0 ≤ w.toInt ∧ w.toInt ≤ 1) → aByTurns s r n w = cI (-1) := fun z => if_neg (fun y => z y.2)
  (conv => whnf); refine ⟨fun b => ?_, fun b => ?_⟩
  · simp only [c_lt, c_gt, c_le, c_ge, c_eq, c_ne, b2_z, b2_nz, b2_i, Classical.not_not, t0, t1, Nat.reduceMod, Nat.reduceDiv, Int.reduceAdd, Int.reduceNeg, Nat.reduceAdd, kv_m2, kv_m1, kv_0, kv_1, kv_4, kv_12, kc_0, kc_1, kc_4, kc_12] at b
    rw [out (by omega)] at hZ
    conv => whnf
    exact hZ _ _ (RP_same h Fr_refl)
  simp only [c_lt, c_gt, c_le, c_ge, c_eq, c_ne, b2_z, b2_nz, b2_i, Classical.not_not, t0, t1, Nat.reduceMod, Nat.reduceDiv, Int.reduceAdd, Int.reduceNeg, Nat.reduceAdd, kv_m2, kv_m1, kv_0, kv_1, kv_4, kv_12, kc_0, kc_1, kc_4, kc_12] at b
  (conv => whnf); refine ⟨fun g => ?_, fun g => ?_⟩
  · simp only [c_lt, c_gt, c_le, c_ge, c_eq, c_ne, b2_z, b2_nz, b2_i, Classical.not_not, t0, t1, Nat.reduceMod, Nat.reduceDiv, Int.reduceAdd, Int.reduceNeg, Nat.reduceAdd, kv_m2, kv_m1, kv_0, kv_1, kv_4, kv_12, kc_0, kc_1, kc_4, kc_12] at g
    rw [out (by omega)] at hZ
    conv => whnf
    exact hZ _ _ (RP_same h Fr_refl)
  simp only [c_lt, c_gt, c_le, c_ge, c_eq, c_ne, b2_z, b2_nz, b2_i, Classical.not_not, t0, t1, Nat.reduceMod, Nat.reduceDiv, Int.reduceAdd, Int.reduceNeg, Nat.reduceAdd, kv_m2, kv_m1, kv_0, kv_1, kv_4, kv_12, kc_0, kc_1, kc_4, kc_12] at g
  (conv => whnf); refine ⟨fun q => ?_, fun q => ?_⟩
  · simp only [c_lt, c_gt, c_le, c_ge, c_eq, c_ne, b2_z, b2_nz, b2_i, Classical.not_not, t0, t1, Nat.reduceMod, Nat.reduceDiv, Int.reduceAdd, Int.reduceNeg, Nat.reduceAdd, kv_m2, kv_m1, kv_0, kv_1, kv_4, kv_12, kc_0, kc_1, kc_4, kc_12] at q
    rw [out (by omega)] at hZ
    conv => whnf
    exact hZ _ _ (RP_same h Fr_refl)
  simp only [c_lt, c_gt, c_le, c_ge, c_eq, c_ne, b2_z, b2_nz, b2_i, Classical.not_not, t0, t1, Nat.reduceMod, Nat.reduceDiv, Int.reduceAdd, Int.reduceNeg, Nat.reduceAdd, kv_m2, kv_m1, kv_0, kv_1, kv_4, kv_12, kc_0, kc_1, kc_4, kc_12] at q
  (conv => whnf); refine ⟨fun q2 => ?_, fun q2 => ?_⟩
  case' refine_2 =>
    simp only [c_lt, c_gt, c_le, c_ge, c_eq, c_ne, b2_z, b2_nz, b2_i, Classical.not_not, t0, t1, Nat.reduceMod, Nat.reduceDiv, Int.reduceAdd, Int.reduceNeg, Nat.reduceAdd, kv_m2, kv_m1, kv_0, kv_1, kv_4, kv_12, kc_0, kc_1, kc_4, kc_12] at q2
    rw [out (by omega)] at hZ
    conv => whnf
    exact hZ _ _ (RP_same h Fr_refl)
  simp only [c_lt, c_gt, c_le, c_ge, c_eq, c_ne, b2_z, b2_nz, b2_i, Classical.not_not, t0, t1, Nat.reduceMod, Nat.reduceDiv, Int.reduceAdd, Int.reduceNeg, Nat.reduceAdd, kv_m2, kv_m1, kv_0, kv_1, kv_4, kv_12, kc_0, kc_1, kc_4, kc_12] at q2
  obtain ⟨i, rfl, ei, hi⟩ := to_nI a.1
  obtain ⟨m, rfl, em, hm⟩ := to_nI (x := n) (by omega)
  have h12 : hgt (sK s) i ≤ 12 := h1.2.2.2.1 i
  have e8 : aByTurns s (nI i) (nI m) w = (if 12 < hgt (sK s) i + m then cI (-2) else if w.toInt = 0 then (tres (envS s) ((sK s).getD i []) m).1 else nI (tres (envS s) ((sK s).getD i []) m).2) := by
    unfold aByTurns
    rw [if_pos (by omega), ei, em]
    rfl
  rw [e8] at hZ
  have hi4 : i < 4 := by have := h1.2.1; omega
  (conv => whnf); refine ret_k hC (sp_height (r := i) (by simp [isYd]) h1 hi4) ?_
  (conv => whnf); refine ⟨fun k => ?_, fun k => ?_⟩
  · replace k : cnd .le (nI (hgt (sK s) i) + nI m) (cI 12) := k
    rw [nI_add, c_le, nI_v (by omega), kv_12] at k
    rw [if_neg (by omega)] at hZ
    (conv => whnf)
    refine hC _ _ _ _ _ (sp_sbegin (sell := false) h1 (by omega : i < (sK s).length)) (fun v M1 p => ?_)
    obtain ⟨rfl, p2, p3⟩ := p
    (conv => whnf)
    refine hC _ _ _ _ _ (sp_turnsBest (n := m) (by omega) (by show hgt (sK s) i + m ≤ 12; omega) (RSe_r p3) (RE_fr h2 p2 (by decide))) (fun v M2 p => ?_)
    obtain ⟨rfl, y1, y2, y3⟩ := p
    have hF : Fr AX M M2 := Fr_trans (Fr_sub p2 (by decide)) (Fr_sub y3 (by decide))
    (conv => whnf); refine ⟨fun t => ?_, fun t => ?_⟩
    · simp only [c_lt, c_gt, c_le, c_ge, c_eq, c_ne, b2_z, b2_nz, b2_i, Classical.not_not, t0, t1, Nat.reduceMod, Nat.reduceDiv, Int.reduceAdd, Int.reduceNeg, Nat.reduceAdd, kv_m2, kv_m1, kv_0, kv_1, kv_4, kv_12, kc_0, kc_1, kc_4, kc_12] at t
      rw [if_neg t] at hZ
      conv => whnf
      exact hZ _ _ (RP_v h hF (congrArg Value.int y2))
    · simp only [c_lt, c_gt, c_le, c_ge, c_eq, c_ne, b2_z, b2_nz, b2_i, Classical.not_not, t0, t1, Nat.reduceMod, Nat.reduceDiv, Int.reduceAdd, Int.reduceNeg, Nat.reduceAdd, kv_m2, kv_m1, kv_0, kv_1, kv_4, kv_12, kc_0, kc_1, kc_4, kc_12] at t
      rw [if_pos t] at hZ
      conv => whnf
      exact hZ _ _ (RP_v h hF (congrArg Value.int y1))
  · replace k : ¬ cnd .le (nI (hgt (sK s) i) + nI m) (cI 12) := k
    rw [nI_add, c_le, nI_v (by omega), kv_12] at k
    rw [if_pos (by omega)] at hZ
    conv => whnf
    exact hZ _ _ (RP_same h Fr_refl)
