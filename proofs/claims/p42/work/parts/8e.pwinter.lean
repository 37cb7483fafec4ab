/-! winter in thought, cut by cut -/
theorem lN_32 : ∀ y, y < 64 → (lN y).toInt32.toInt = (y : Int) := by decide +kernel
theorem nrw_b0 : ∀ y, y < 64 → nrw 0 (lN y) = lN y := by decide +kernel
theorem nl_64b : ∀ y, y < 64 → (nI y).toInt64 = lN y := by decide +kernel
def wstp (E : EnvK) (w : Wst) (y i : Nat) : Wst := match (w.1.getD (y / 16) [])[y % 16]? with
  | some q => wcut E w (y / 16) (y % 16) i q
  | none => w
theorem wrun_at {E : EnvK} {l : List Int64} {w : Wst} {y i : Nat} (h : y < 64) (h1 : y / 16 < w.1.length) (h2 : y % 16 < 12) : wrun E (lN y :: l) i w = wrun E l (i + 1) (wstp E w y i) := by
  have e := lN_32 y h
  unfold wstp
  rw [wrun]
  simp only [e, Int.toNat_natCast]
  rw [if_neg (by omega)]
  cases (w.1.getD (y / 16) [])[y % 16]? <;> rfl
theorem wstp_len {E : EnvK} {w : Wst} {y i : Nat} : (wstp E w y i).1.length = w.1.length := by
  unfold wstp
  split
  · show (cutR w.1 _ _).length = _
    unfold cutR
    rw [List.length_set]
  · rfl
theorem m2_n {j : Nat} (h : j < 1000) : ¬ cI (-2) = nI j := by
  intro e
  have := congrArg Int32.toInt e
  rw [kv_m2, nI_v (by omega)] at this
  omega
/-- of the rest of a winter: the first door, the first fall -/
theorem door_keep {E : EnvK} : ∀ (l : List Int64) (i : Nat) (w : Wst), ¬ w.2.2.2.1 = cI (-2) → (wrun E l i w).2.2.2.1 = w.2.2.2.1
  | [], _, _, _ => rfl
  | x :: l, i, w, h => by
    unfold wrun
    split
    · rfl
    · split
      · next q _ =>
        have e : (wcut E w (x.toInt32.toInt.toNat / 16) (x.toInt32.toInt.toNat % 16) i q).2.2.2.1 = w.2.2.2.1 := if_neg (fun z => h z.1)
        rw [door_keep l (i + 1) _ (by rw [e]; exact h), e]
      · exact door_keep l (i + 1) w h
theorem fell_keep {E : EnvK} : ∀ (l : List Int64) (i : Nat) (w : Wst), ¬ w.2.2.2.2.1 = cI (-2) → (wrun E l i w).2.2.2.2.1 = w.2.2.2.2.1
  | [], _, _, _ => rfl
  | x :: l, i, w, h => by
    unfold wrun
    split
    · rfl
    · split
      · next q _ =>
        have e : (wcut E w (x.toInt32.toInt.toNat / 16) (x.toInt32.toInt.toNat % 16) i q).2.2.2.2.1 = w.2.2.2.2.1 := if_neg h
        rw [fell_keep l (i + 1) _ (by rw [e]; exact h), e]
      · exact fell_keep l (i + 1) w h
theorem door_late {E : EnvK} : ∀ (l : List Int64) (i : Nat) (w : Wst), i + l.length ≤ 100 → w.2.2.2.1 = cI (-2) → (wrun E l i w).2.2.2.1 = cI (-2) ∨ ∃ j, i ≤ j ∧ j < 100 ∧ (wrun E l i w).2.2.2.1 = nI j
  | [], _, _, _, h => Or.inl h
  | x :: l, i, w, hl, h => by
    rw [List.length_cons] at hl
    unfold wrun
    split
    · exact Or.inl h
    · split
      · next q _ =>
        by_cases hr : E.2.2.2 q.1 ≤ kp E w.1 (x.toInt32.toInt.toNat / 16) (x.toInt32.toInt.toNat % 16) q
        · have e : (wcut E w (x.toInt32.toInt.toNat / 16) (x.toInt32.toInt.toNat % 16) i q).2.2.2.1 = nI i := if_pos ⟨h, hr⟩
          refine Or.inr ⟨i, Nat.le_refl _, by omega, ?_⟩
          rw [door_keep l (i + 1) _ (by rw [e]; exact fun z => m2_n (by omega) z.symm), e]
        · have e : (wcut E w (x.toInt32.toInt.toNat / 16) (x.toInt32.toInt.toNat % 16) i q).2.2.2.1 = w.2.2.2.1 := if_neg (fun z => hr z.2)
          rcases door_late l (i + 1) _ (by omega) (e.trans h) with q1 | ⟨j, q1, q2, q3⟩
          · exact Or.inl q1
          · exact Or.inr ⟨j, by omega, q2, q3⟩
      · rcases door_late l (i + 1) w (by omega) h with q1 | ⟨j, q1, q2, q3⟩
        · exact Or.inl q1
        · exact Or.inr ⟨j, by omega, q2, q3⟩
theorem fell_late {E : EnvK} : ∀ (l : List Int64) (i : Nat) (w : Wst), i + l.length ≤ 100 → w.2.2.2.2.1 = cI (-2) → (wrun E l i w).2.2.2.2.1 = cI (-2) ∨ ∃ j, i ≤ j ∧ j < 100 ∧ (wrun E l i w).2.2.2.2.1 = nI j
  | [], _, _, _, h => Or.inl h
  | x :: l, i, w, hl, h => by
    rw [List.length_cons] at hl
    unfold wrun
    split
    · exact Or.inl h
    · split
      · next q _ =>
        by_cases hr : lM E (cutR w.1 (x.toInt32.toInt.toNat / 16) (x.toInt32.toInt.toNat % 16)) (x.toInt32.toInt.toNat / 16) ≤ E.2.2.1
        · have e : (wcut E w (x.toInt32.toInt.toNat / 16) (x.toInt32.toInt.toNat % 16) i q).2.2.2.2.1 = cI (-2) := by
            show (if _ then (if _ then _ else _) else _) = _
            rw [if_pos h, if_pos hr]
          rcases fell_late l (i + 1) _ (by omega) e with q1 | ⟨j, q1, q2, q3⟩
          · exact Or.inl q1
          · exact Or.inr ⟨j, by omega, q2, q3⟩
        · have e : (wcut E w (x.toInt32.toInt.toNat / 16) (x.toInt32.toInt.toNat % 16) i q).2.2.2.2.1 = nI i := by
            show (if _ then (if _ then _ else _) else _) = _
            rw [if_pos h, if_neg hr]
          refine Or.inr ⟨i, Nat.le_refl _, by omega, ?_⟩
          rw [fell_keep l (i + 1) _ (by rw [e]; exact fun z => m2_n (by omega) z.symm), e]
      · rcases fell_late l (i + 1) w (by omega) h with q1 | ⟨j, q1, q2, q3⟩
        · exact Or.inl q1
        · exact Or.inr ⟨j, by omega, q2, q3⟩
/-- the state behind the first k cuts in deed, beside the winter in thought; c3: how many doors -/
def Wm (E : EnvK) (rk0 : Rk) (de0 : Nat → Int32) (k : Nat) (s : St) (w : Wst) (c3 : Nat) : Prop := Away E rk0 de0 s ∧ sK s = w.1 ∧ sDe s 0 = de0 0 ∧ sDe s 1 = w.2.1 ∧ sDe s 2 = w.2.2.1 ∧ sDe s 3 = nI c3 ∧ c3 ≤ k ∧
  ((w.2.2.2.1 = cI (-2) ∧ c3 = 0) ∨ (0 < c3 ∧ ∃ j, j < k ∧ w.2.2.2.1 = nI j)) ∧ (w.2.2.2.2.1 = cI (-2) ∨ ∃ j, j < k ∧ w.2.2.2.2.1 = nI j)
/-- one cut in deed, as in thought -/
theorem wm_s {E : EnvK} {rk0 : Rk} {de0 : Nat → Int32} {k y c3 : Nat} {s : St} {w : Wst} {l : List Int64} (hw : Wm E rk0 de0 k s w c3) (h4 : rk0.length ≤ 4) (hy : y < 64) (hr : y / 16 < rk0.length) (hp : y % 16 < 6) (hk : k < 20) (hl : k + 1 + l.length ≤ 100) :
    ∃ (c3' : Nat) (th : Nat), th ≤ 1 ∧ Wm E rk0 de0 (k + 1) (aCut s (nI y)).2 (wstp E w y k) c3' ∧ (y % 16 < hgt (sK s) (y / 16) ↔ th = 1) ∧ aKeeps s (nI y) = (aCut s (nI y)).1 ∧ (0 ≤ (aCut s (nI y)).1.toInt ↔ th = 1) ∧ (aCut s (nI y)).1.toInt ≤ 9 ∧
      (wstp E w y k).2.1 = w.2.1 + nI th ∧ c3 ≤ c3' ∧
      (c3 < c3' ↔ th = 1 ∧ ((wrun E l (k + 1) (wstp E w y k)).2.2.2.1.toInt = (k : Int) ∨ (0 < c3' ∧ 0 ≤ (wrun E l (k + 1) (wstp E w y k)).2.2.2.1.toInt ∧ (wrun E l (k + 1) (wstp E w y k)).2.2.2.1.toInt < (k : Int) ∧ c3 < c3'))) ∧
      ((wrun E l (k + 1) (wstp E w y k)).2.2.2.2.1.toInt = (k : Int) → aLean (aCut s (nI y)).2 (nI (y / 16)) (cI 2) = cI 0) ∧
      (th = 1 ∧ ((wrun E l (k + 1) (wstp E w y k)).2.2.2.2.1.toInt < 0 ∨ (k : Int) < (wrun E l (k + 1) (wstp E w y k)).2.2.2.2.1.toInt) → aLean (aCut s (nI y)).2 (nI (y / 16)) (cI 2) = cI 1) := by
  obtain ⟨a1, a2, a3, a4, a5, a6, a7, a8, a9⟩ := id hw
  have hyy : y = 16 * (y / 16) + y % 16 := by omega
  have hlen : (sK s).length = rk0.length := a1.2.2
  have hA : lyA s (nI y) = ((sK s).getD (y / 16) [])[y % 16]? := by
    have := lyA_at (s := s) (r := y / 16) (l := y % 16) (by omega) (by omega)
    rw [← hyy] at this
    exact this
  have ey := nI_v (n := y) (by omega)
  have hh : hgt (sK s) (y / 16) = ((sK s).getD (y / 16) []).length := rfl
  have em2 := kv_m2
  cases hq : ((sK s).getD (y / 16) [])[y % 16]? with
  | none =>
    have e1 : aCut s (nI y) = (cI (-1), s) := by unfold aCut; rw [hA, hq]
    have e2 : aKeeps s (nI y) = cI (-1) := by unfold aKeeps; rw [hA, hq]
    have e3 : wstp E w y k = w := by unfold wstp; rw [← a2, hq]
    have hge : ((sK s).getD (y / 16) []).length ≤ y % 16 := List.getElem?_eq_none_iff.mp hq
    rw [e1, e2, e3]
    have hd : ¬ (wrun E l (k + 1) w).2.2.2.2.1.toInt = (k : Int) := by
      rcases a9 with a9 | ⟨j, j1, j2⟩
      · rcases fell_late l (k + 1) w hl a9 with q | ⟨j, q1, q2, q3⟩
        · rw [q, em2]; omega
        · rw [q3, nI_v (by omega)]; omega
      · rw [fell_keep l (k + 1) w (by rw [j2]; exact fun z => m2_n (by omega) z.symm), j2, nI_v (by omega)]; omega
    refine ⟨c3, 0, by omega, ⟨a1, a2, a3, a4, a5, a6, by omega, a8.imp id (fun ⟨x1, j, x2, x3⟩ => ⟨x1, j, by omega, x3⟩), a9.imp id (fun ⟨j, x2, x3⟩ => ⟨j, by omega, x3⟩)⟩, ?_, rfl, ?_, ?_, ?_, Nat.le_refl _, ?_, fun z => absurd z hd, fun z => absurd z.1 (by omega)⟩
    · omega
    · show 0 ≤ (cI (-1)).toInt ↔ _
      rw [kv_m1]; omega
    · show (cI (-1)).toInt ≤ 9
      rw [kv_m1]; omega
    · show _ = w.2.1 + 0
      rw [Int32.add_zero]
    · omega
  | some q =>
    have hlt : y % 16 < ((sK s).getD (y / 16) []).length := (List.getElem?_eq_some_iff.mp hq).1
    have e1 : aCut s (nI y) = (kp E (sK s) (y / 16) (y % 16) q, cutS s (y / 16) (y % 16) (kp E (sK s) (y / 16) (y % 16) q) q.1) := by
      unfold aCut
      rw [hA, hq, ey, Int.toNat_natCast, a1.1]
    have e2 : aKeeps s (nI y) = kp E (sK s) (y / 16) (y % 16) q := by
      unfold aKeeps
      rw [hA, hq, ey, Int.toNat_natCast, a1.1]
    have e3 : wstp E w y k = wcut E w (y / 16) (y % 16) k q := by unfold wstp; rw [← a2, hq]
    have hkp : 0 ≤ (kp E (sK s) (y / 16) (y % 16) q).toInt ∧ (kp E (sK s) (y / 16) (y % 16) q).toInt ≤ 9 := kpt_v
    have hAw : Away E rk0 de0 (cutS s (y / 16) (y % 16) (kp E (sK s) (y / 16) (y % 16) q) q.1) := by
      refine ⟨a1.1, a1.2.1, ?_⟩
      show (cutR (sK s) _ _).length = _
      unfold cutR
      rw [List.length_set]
      exact hlen
    have hlean : aLean (cutS s (y / 16) (y % 16) (kp E (sK s) (y / 16) (y % 16) q) q.1) (nI (y / 16)) (cI 2) = b2 (lM E (cutR w.1 (y / 16) (y % 16)) (y / 16) ≤ E.2.2.1) := by
      rw [lean_s (by rw [hAw.2.2]; exact hr) (by rw [hAw.2.2]; exact h4), hAw.1, ← a2]
      rfl
    rw [e1, e2, e3]
    have ec1 : cI 1 = nI 1 := rfl
    have hcs : ∀ j, sDe (kp E (sK s) (y / 16) (y % 16) q, cutS s (y / 16) (y % 16) (kp E (sK s) (y / 16) (y % 16) q) q.1).2 j = cutD s (kp E (sK s) (y / 16) (y % 16) q) q.1 j := fun j => rfl
    have hF : (wcut E w (y / 16) (y % 16) k q).2.2.2.2.1 = cI (-2) ∨ ∃ j, j < k + 1 ∧ (wcut E w (y / 16) (y % 16) k q).2.2.2.2.1 = nI j := by
      show (if _ then (if _ then _ else _) else _) = _ ∨ _
      by_cases hz : w.2.2.2.2.1 = cI (-2)
      · by_cases hs : lM E (cutR w.1 (y / 16) (y % 16)) (y / 16) ≤ E.2.2.1
        · left; rw [if_pos hz, if_pos hs]
        · right
          refine ⟨k, by omega, ?_⟩
          show (if _ then (if _ then _ else _) else _) = _
          rw [if_pos hz, if_neg hs]
      · right
        rcases a9 with a9 | ⟨j, j1, j2⟩
        · exact absurd a9 hz
        · refine ⟨j, by omega, ?_⟩
          show (if _ then (if _ then _ else _) else _) = _
          rw [if_neg hz, j2]
    have hff1 : (wrun E l (k + 1) (wcut E w (y / 16) (y % 16) k q)).2.2.2.2.1.toInt = (k : Int) → b2 (lM E (cutR w.1 (y / 16) (y % 16)) (y / 16) ≤ E.2.2.1) = cI 0 := by
      intro hz
      refine b2_f (fun hs => ?_)
      by_cases hz2 : w.2.2.2.2.1 = cI (-2)
      · have e9 : (wcut E w (y / 16) (y % 16) k q).2.2.2.2.1 = cI (-2) := by
          show (if _ then (if _ then _ else _) else _) = _
          rw [if_pos hz2, if_pos hs]
        rcases fell_late l (k + 1) _ hl e9 with q1 | ⟨j, q1, q2, q3⟩
        · rw [q1, em2] at hz; omega
        · rw [q3, nI_v (by omega)] at hz; omega
      · rcases a9 with a9 | ⟨j, j1, j2⟩
        · exact absurd a9 hz2
        · have e9 : (wcut E w (y / 16) (y % 16) k q).2.2.2.2.1 = nI j := by
            show (if _ then (if _ then _ else _) else _) = _
            rw [if_neg hz2, j2]
          rw [fell_keep l (k + 1) _ (by rw [e9]; exact fun z => m2_n (by omega) z.symm), e9, nI_v (by omega)] at hz
          omega
    have hff2 : (wrun E l (k + 1) (wcut E w (y / 16) (y % 16) k q)).2.2.2.2.1.toInt < 0 ∨ (k : Int) < (wrun E l (k + 1) (wcut E w (y / 16) (y % 16) k q)).2.2.2.2.1.toInt → b2 (lM E (cutR w.1 (y / 16) (y % 16)) (y / 16) ≤ E.2.2.1) = cI 1 := by
      intro hz
      refine b2_t (Classical.byContradiction fun hs => ?_)
      by_cases hz2 : w.2.2.2.2.1 = cI (-2)
      · have e9 : (wcut E w (y / 16) (y % 16) k q).2.2.2.2.1 = nI k := by
          show (if _ then (if _ then _ else _) else _) = _
          rw [if_pos hz2, if_neg hs]
        rw [fell_keep l (k + 1) _ (by rw [e9]; exact fun z => m2_n (by omega) z.symm), e9, nI_v (by omega)] at hz
        omega
      · rcases a9 with a9 | ⟨j, j1, j2⟩
        · exact absurd a9 hz2
        · have e9 : (wcut E w (y / 16) (y % 16) k q).2.2.2.2.1 = nI j := by
            show (if _ then (if _ then _ else _) else _) = _
            rw [if_neg hz2, j2]
          rw [fell_keep l (k + 1) _ (by rw [e9]; exact fun z => m2_n (by omega) z.symm), e9, nI_v (by omega)] at hz
          omega
    by_cases hre : E.2.2.2 q.1 ≤ kp E (sK s) (y / 16) (y % 16) q
    · have hre2 : (envS s).2.2.2 q.1 ≤ kp E (sK s) (y / 16) (y % 16) q := by rw [a1.1]; exact hre
      have hD : ∀ j, cutD s (kp E (sK s) (y / 16) (y % 16) q) q.1 j = (if j = 3 then sDe s 3 + cI 1 else if j = 2 then sDe s 2 + kp E (sK s) (y / 16) (y % 16) q else if j = 1 then sDe s 1 + cI 1 else sDe s j) := by
        intro j
        unfold cutD
        rw [if_pos hre2]
        rfl
      have hdoor : ∃ j, j < k + 1 ∧ (wcut E w (y / 16) (y % 16) k q).2.2.2.1 = nI j ∧ (w.2.2.2.1 = cI (-2) → j = k) ∧ (¬ w.2.2.2.1 = cI (-2) → j < k) := by
        by_cases hz : w.2.2.2.1 = cI (-2)
        · refine ⟨k, by omega, ?_, fun _ => rfl, fun z => absurd hz z⟩
          show (if _ then _ else _) = _
          rw [← a2, if_pos ⟨hz, hre⟩]
        · rcases a8 with ⟨a8, -⟩ | ⟨-, j, j1, j2⟩
          · exact absurd a8 hz
          · refine ⟨j, by omega, ?_, fun z => absurd z hz, fun _ => j1⟩
            show (if _ then _ else _) = _
            rw [if_neg (fun z => hz z.1), j2]
      obtain ⟨j, j1, j2, j3, j4⟩ := hdoor
      have hfin : (wrun E l (k + 1) (wcut E w (y / 16) (y % 16) k q)).2.2.2.1.toInt = (j : Int) := by
        rw [door_keep l (k + 1) _ (by rw [j2]; exact fun z => m2_n (by omega) z.symm), j2, nI_v (by omega)]
      refine ⟨c3 + 1, 1, by omega, ⟨hAw, by show cutR (sK s) _ _ = cutR w.1 _ _; rw [a2], ?_, ?_, ?_, ?_, by omega, Or.inr ⟨by omega, j, j1, j2⟩, hF⟩, ?_, rfl, ?_, hkp.2, by rw [← ec1]; rfl, by omega, ?_, fun z => by rw [hlean]; exact hff1 z, fun z => by rw [hlean]; exact hff2 z.2⟩
      · rw [hcs, hD, if_neg (by omega), if_neg (by omega), if_neg (by omega)]; exact a3
      · rw [hcs, hD, if_neg (by omega), if_neg (by omega), if_pos rfl, a4]; rfl
      · rw [hcs, hD, if_neg (by omega), if_pos rfl, a5, a2]; rfl
      · rw [hcs, hD, if_pos rfl, a6, ec1, nI_add]
      · omega
      · show 0 ≤ (kp E (sK s) (y / 16) (y % 16) q).toInt ↔ _
        omega
      · rw [hfin]
        by_cases hz : w.2.2.2.1 = cI (-2)
        · have := j3 hz; omega
        · have := j4 hz; omega
    · have hre2 : ¬ (envS s).2.2.2 q.1 ≤ kp E (sK s) (y / 16) (y % 16) q := by rw [a1.1]; exact hre
      have hD : ∀ j, cutD s (kp E (sK s) (y / 16) (y % 16) q) q.1 j = (if j = 2 then sDe s 2 + kp E (sK s) (y / 16) (y % 16) q else if j = 1 then sDe s 1 + cI 1 else sDe s j) := by
        intro j
        unfold cutD
        rw [if_neg hre2]
        rfl
      have hdw : (wcut E w (y / 16) (y % 16) k q).2.2.2.1 = w.2.2.2.1 := by
        show (if _ then _ else _) = _
        rw [← a2, if_neg (fun z => hre z.2)]
      have hfin : ¬ (wrun E l (k + 1) (wcut E w (y / 16) (y % 16) k q)).2.2.2.1.toInt = (k : Int) := by
        rcases a8 with ⟨a8, -⟩ | ⟨-, j, j1, j2⟩
        · rcases door_late l (k + 1) _ hl (hdw.trans a8) with q1 | ⟨j, q1, q2, q3⟩
          · rw [q1, em2]; omega
          · rw [q3, nI_v (by omega)]; omega
        · rw [door_keep l (k + 1) _ (by rw [hdw, j2]; exact fun z => m2_n (by omega) z.symm), hdw, j2, nI_v (by omega)]; omega
      refine ⟨c3, 1, by omega, ⟨hAw, by show cutR (sK s) _ _ = cutR w.1 _ _; rw [a2], ?_, ?_, ?_, ?_, by omega, by rw [hdw]; exact a8.imp id (fun ⟨x1, j, x2, x3⟩ => ⟨x1, j, by omega, x3⟩), hF⟩, ?_, rfl, ?_, hkp.2, by rw [← ec1]; rfl, by omega, ?_, fun z => by rw [hlean]; exact hff1 z, fun z => by rw [hlean]; exact hff2 z.2⟩
      · rw [hcs, hD, if_neg (by omega), if_neg (by omega)]; exact a3
      · rw [hcs, hD, if_neg (by omega), if_pos rfl, a4]; rfl
      · rw [hcs, hD, if_pos rfl, a5, a2]; rfl
      · rw [hcs, hD, if_neg (by omega), if_neg (by omega)]; exact a6
      · omega
      · show 0 ≤ (kp E (sK s) (y / 16) (y % 16) q).toInt ↔ _
        omega
      · omega
