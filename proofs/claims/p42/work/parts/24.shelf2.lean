/-! rows: made, written, copied -/
def lenOf (a : Nat) : Nat := match layK a with
  | (_, _, [n]) => n
  | _ => 0
theorem fillL_loop {d a : Nat} {v : Int64} (ha : isSh a) : ∀ (n k : Nat) (M : Mem), k + n = 60 → BodyK (d + 1) 121 6 [(0, .ref (a + 1)), (1, .long v), (3, .int (nI k)), (4, .int (nI 60))] [] M (fun w M' => w = none ∧ Fr [a + 1] M M' ∧ ∀ i, M'.2 (a + 1) i = if k ≤ i ∧ i < 60 then v else M.2 (a + 1) i) := by
  intro n
  induction n with
  | zero =>
    intro k M hk
    have e := nI_v (n := k) (by omega)
    rcases ha with rfl | rfl | rfl | rfl | rfl | rfl <;>
    · refine body_run 400 rfl (fun B Cl Z hZ hB hC => ?_)
      (conv => whnf); refine ⟨fun b => ?_, fun b => ?_⟩
      · conv => whnf
        refine hZ _ _ ⟨rfl, Fr_refl, fun i => ?_⟩
        rw [if_neg (by omega)]
      · simp only [c_lt, c_gt, c_le, c_ge, c_eq, c_ne, b2_z, b2_nz, b2_i, Classical.not_not, t0, t1, Nat.reduceMod, Nat.reduceDiv, Int.reduceAdd, Int.reduceNeg, Nat.reduceAdd, kv_0, kv_1, kc_0, kc_1, e] at b
        replace b : ¬ (60 : Int) ≤ (k : Int) := b
        omega
  | succ n ih =>
    intro k M hk
    have e := nI_v (n := k) (by omega)
    rcases id ha with rfl | rfl | rfl | rfl | rfl | rfl <;>
    · refine body_run 400 rfl (fun B Cl Z hZ hB hC => ?_)
      (conv => whnf); refine ⟨fun b => ?_, fun b => ?_⟩
      · simp only [c_lt, c_gt, c_le, c_ge, c_eq, c_ne, b2_z, b2_nz, b2_i, Classical.not_not, t0, t1, Nat.reduceMod, Nat.reduceDiv, Int.reduceAdd, Int.reduceNeg, Nat.reduceAdd, kv_0, kv_1, kc_0, kc_1, e] at b
        replace b : (60 : Int) ≤ (k : Int) := b
        omega
      · (conv => whnf)
        refine ⟨nI_vp (by omega) (by omega), ?_⟩
        (conv => whnf)
        rw [nI_c (n := k) (by omega)]
        refine hB _ _ _ _ (Body_lv (Body_mono (ih (k + 1) _ (by omega)) (fun w M' q => ⟨q.1, Fr_trans (Fr_mL Fr_refl (by decide)) q.2.1, fun i => ?_⟩)) ⟨rfl, rfl, v_eq (nI_i1 k), rfl, trivial⟩)
        rw [q.2.2 i, mL_same]
        simp only [vp_updL]
        by_cases z : i = k
        · subst z
          rw [if_neg (by omega), if_pos rfl, if_pos (by omega)]
        · rw [if_neg z]
          by_cases z2 : k ≤ i ∧ i < 60
          · rw [if_pos (by omega), if_pos z2]
          · rw [if_neg (by omega), if_neg z2]
theorem sp_fillL {d a : Nat} {M : Mem} {v : Int64} (ha : isSh a) : Call (d + 1) 121 [.ref (a + 1), .long v] M (fun w M' => w = none ∧ Fr [a + 1] M M' ∧ ∀ i, i < 60 → M'.2 (a + 1) i = v) := by
  rcases id ha with rfl | rfl | rfl | rfl | rfl | rfl <;>
  · refine call_run 400 rfl rfl (fun B Cl Z hZ hB hC => ?_)
    conv => whnf
    exact hB _ _ _ _ (Body_lv (Body_mono (fillL_loop ha 60 0 M rfl) (fun w M' q => ⟨q.1, q.2.1, fun i hi => by rw [q.2.2 i, if_pos ⟨Nat.zero_le _, hi⟩]⟩)) ⟨rfl, rfl, rfl, rfl, trivial⟩)
theorem sp_holdRow {d a t n : Nat} {M : Mem} (ha : isSh a) (ht : t < 5) (hn : n ≤ 60) : Call (d + 2) 54 [.ref a, .int (nI t), .int (nI n)] M (fun v M' => v = none ∧ Fr [a, a + 1] M M' ∧ RS M' a (some (.inr (t, List.replicate n 0)))) := by
  rcases id ha with rfl | rfl | rfl | rfl | rfl | rfl <;>
  · refine call_run 400 rfl rfl (fun B Cl Z hZ hB hC => ?_)
    (conv => whnf)
    refine hC _ _ _ _ _ (sp_fillL ha) (fun v M1 q => ?_)
    obtain ⟨rfl, q2, q3⟩ := q
    (conv => whnf)
    refine hZ _ _ ⟨rfl, Fr_trans (Fr_mI (Fr_mI (Fr_mI Fr_refl (by decide)) (by decide)) (by decide)) (Fr_sub q2 (by decide)), ?_, ?_, ht, ?_, ?_, ?_⟩
    · rw [Fr_1 q2 _ (by decide)]; simp [mI_at]; rfl
    · rw [Fr_1 q2 _ (by decide)]; simp [mI_at]
    · rw [Fr_1 q2 _ (by decide)]; simp [mI_at]
    · simpa using hn
    · intro j x hx
      rw [List.getElem?_replicate] at hx
      split at hx
      · cases hx; exact q3 j (by omega)
      · cases hx
def nrw (t : Nat) (v : Int64) : Int64 := if t = 0 then v.toInt32.toInt8.toInt32.toInt64 else if t = 1 then v.toInt32.toInt16.toInt32.toInt64 else if t = 2 then v.toInt32.toInt64 else if t = 3 then v else if v = 0 then 0 else 1
theorem lc_0 {x y : Int64} : (lg_cmp x y).toInt = 0 ↔ x = y := by
  unfold lg_cmp
  by_cases h1 : x > y
  · rw [if_pos h1]
    constructor
    · intro h; exact absurd h (by decide)
    · intro h; subst h
      have := Int64.lt_iff_toInt_lt.mp h1
      omega
  · rw [if_neg h1]
    by_cases h2 : x = y
    · rw [if_pos h2]; exact ⟨fun _ => h2, fun _ => rfl⟩
    · rw [if_neg h2]
      exact ⟨fun h => absurd h (by decide), fun h => absurd h h2⟩
theorem sp_lowestBits {d a t : Nat} {M : Mem} {v : Int64} (ha : isSh a) (h2 : M.1 a 2 = nI t) (ht : t < 5) : Call (d + 1) 59 [.ref a, .long v] M (RV (some (.long (nrw t v))) M) := by
  have e2 := congrArg Int32.toInt h2
  rw [nI_v (n := t) (by omega)] at e2
  rcases ha with rfl | rfl | rfl | rfl | rfl | rfl <;>
  · refine call_run 400 rfl rfl (fun B Cl Z hZ hB hC => ?_)
    repeat' (first | ((conv => whnf); refine ⟨fun _ => ?_, fun _ => ?_⟩) | ((conv => whnf); refine ⟨?_, ?_⟩) | fail)
    all_goals (try simp only [c_lt, c_gt, c_le, c_ge, c_eq, c_ne, b2_z, b2_nz, b2_i, Classical.not_not, t0, t1, Nat.reduceMod, Nat.reduceDiv, Int.reduceAdd, Int.reduceNeg, Nat.reduceAdd, kv_0, kv_1, kv_2, kv_3, kc_0, kc_1, kc_2, kc_3, x_eq, e2, lc_0] at *)
    all_goals first
      | omega
      | (refine hZ _ _ ⟨congrArg (fun z => some (Value.long z)) ?_, rfl⟩
         unfold nrw
         repeat' first | rw [if_pos (by first | omega | assumption)] | rw [if_neg (by first | omega | assumption)] | fail
         all_goals rfl)
theorem nrw_nrw (t : Nat) (v : Int64) : nrw t (nrw t v) = nrw t v := by
  unfold nrw
  by_cases h0 : t = 0
  · simp [h0]
  by_cases h1 : t = 1
  · simp [h1]
  by_cases h2 : t = 2
  · simp [h2]
  by_cases h3 : t = 3
  · simp [h3]
  · simp only [h0, h1, h2, h3, if_false]
    split <;> simp_all
theorem sp_write {d a i t : Nat} {M : Mem} {l : List Int64} {v : Int64} (ha : isSh a) (h : RS M a (some (.inr (t, l)))) (hi : i < l.length) : Call (d + 2) 58 [.ref a, .int (nI i), .long v] M (fun w M' => w = none ∧ Fr [a + 1] M M' ∧ RS M' a (some (.inr (t, l.set i (nrw t v))))) := by
  obtain ⟨h1, h2, h3, h4, h5, h6⟩ := id h
  have e := nI_v (n := i) (by omega)
  have e3 := nI_v (n := l.length) (by omega)
  rcases id ha with rfl | rfl | rfl | rfl | rfl | rfl <;>
  · refine call_run 400 rfl rfl (fun B Cl Z hZ hB hC => ?_)
    (conv => whnf); refine ⟨fun b => ?_, fun b => ?_⟩
    · simp only [c_lt, c_gt, c_le, c_ge, c_eq, c_ne, b2_z, b2_nz, b2_i, Classical.not_not, t0, t1, Nat.reduceMod, Nat.reduceDiv, Int.reduceAdd, Int.reduceNeg, Nat.reduceAdd, kv_60, kc_60, e] at b
      omega
    · (conv => whnf); refine ret_k hC (sp_len ha h) ?_
      (conv => whnf); refine ⟨fun b => ?_, fun b => ?_⟩
      · simp only [c_lt, c_gt, c_le, c_ge, c_eq, c_ne, b2_z, b2_nz, b2_i, Classical.not_not, t0, t1, Nat.reduceMod, Nat.reduceDiv, Int.reduceAdd, Int.reduceNeg, Nat.reduceAdd, kv_60, kc_60, e, shLen, e3] at b
        omega
      · (conv => whnf); refine ⟨fun b => ?_, fun b => ?_⟩
        · simp only [c_lt, c_gt, c_le, c_ge, c_eq, c_ne, b2_z, b2_nz, b2_i, Classical.not_not, t0, t1, Nat.reduceMod, Nat.reduceDiv, Int.reduceAdd, Int.reduceNeg, Nat.reduceAdd, kv_60, kc_60, e] at b
          omega
        · (conv => whnf); refine ret_k hC (sp_lowestBits ha h2 h3) ?_
          (conv => whnf)
          refine ⟨nI_vp (by omega) (by omega), ?_⟩
          (conv => whnf)
          rw [nI_c (by omega)]
          refine hZ _ _ ⟨rfl, Fr_mL Fr_refl (by decide), h1, h2, h3, by rw [List.length_set]; exact h4, by rw [List.length_set]; exact h5, fun j x hx => ?_⟩
          rw [mL_same]
          simp only [vp_updL]
          by_cases z : j = i
          · subst z
            rw [List.getElem?_set_self hi] at hx
            rw [if_pos rfl]
            exact Option.some.inj hx
          · rw [List.getElem?_set_ne (Ne.symm z)] at hx
            rw [if_neg z]
            exact h6 j x hx
/-- cells as they are after n places of the row f (from i on) were copied to j on -/
def cpd (l f : List Int64) (i j n : Nat) : List Int64 := l.mapIdx fun k x => if j ≤ k ∧ k < j + n then f.getD (i + (k - j)) 0 else x
