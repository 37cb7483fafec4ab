/-! the reference: orders of laying -/
def mO (g : List Nat → Int32) (lim : Int32) (n : Nat) : Nat → List Nat → Nat → Int32 → DS → DS
  | 0, pth, _, most, st => if 0 ≤ st.1.toInt ∧ st.1.toInt ≤ most.toInt then st else (most, pth)
  | f + 1, pth, used, most, st => (List.range n).foldl (fun st i => if used.testBit i = true then st else if (g (pth ++ [i])).toInt ≤ lim.toInt then mO g lim n f (pth ++ [i]) (used ||| 2 ^ i) (maxI most (g (pth ++ [i]))) st else st) st
def wpR (w : Rk) (r : Nat) (hs : Nat → Nat) (pth : List Nat) : Rk := pth.foldl (fun w p => put w r (lyN (hs p))) w
theorem wp_s {w : Rk} {r : Nat} {hs : Nat → Nat} {pth : List Nat} {i : Nat} : wpR w r hs (pth ++ [i]) = put (wpR w r hs pth) r (lyN (hs i)) := by
  unfold wpR
  rw [List.foldl_append]
  rfl
theorem wp_len {w : Rk} {r : Nat} {hs : Nat → Nat} : ∀ (pth : List Nat), (wpR w r hs pth).length = w.length := by
  intro pth
  unfold wpR
  induction pth generalizing w with
  | nil => rfl
  | cons a l ih => rw [List.foldl_cons, ih, put_len]
theorem wp_hgt {r : Nat} {hs : Nat → Nat} : ∀ (pth : List Nat) {w : Rk}, r < w.length → hgt (wpR w r hs pth) r = hgt w r + pth.length := by
  intro pth
  unfold wpR
  induction pth with
  | nil => intro w _; rfl
  | cons a l ih =>
    intro w hr
    rw [List.foldl_cons, ih (by rw [put_len]; exact hr), hgt_put hr, if_pos rfl, List.length_cons]
    omega
def OA : List Nat := [73, 74, 75, 76, 77, 78, 79, 80, 81]
def FO (M M' : Mem) (k : Nat) : Prop := FrM OA [42] M M' ∧ ∀ j, j < k → M'.1 80 j = M.1 80 j
theorem FO_trans {M M1 M2 : Mem} {k : Nat} (h1 : FO M M1 k) (h2 : FO M1 M2 k) : FO M M2 k := ⟨FrM_trans h1.1 h2.1, fun j hj => (h2.2 j hj).trans (h1.2 j hj)⟩
theorem FO_le {M M1 : Mem} {k k' : Nat} (h1 : FO M M1 k) (h : k' ≤ k) : FO M M1 k' := ⟨h1.1, fun j hj => h1.2 j (by omega)⟩
theorem OAx {M M' : Mem} (h : FrM OA [42] M M') : FrM XM XJ M M' := FrM_sub h (by decide) (by decide)
def RO (M : Mem) (st : DS) : Prop := M.1 55 42 = st.1 ∧ ∀ j p, st.2[j]? = some p → M.1 81 j = nI p
def RPl (M : Mem) (pth : List Nat) : Prop := ∀ i p, pth[i]? = some p → M.1 80 i = nI p
theorem RPl_FO {M M' : Mem} {pth : List Nat} (h : RPl M pth) (hf : FO M M' pth.length) : RPl M' pth := fun j p hj => by rw [hf.2 j (List.getElem?_eq_some_iff.mp hj).1]; exact h j p hj
theorem go_copy {D k : Nat} {M0 : Mem} {Q : Po} (hk : k ≤ 7) (fin : ∀ M', FrM [81] [] M0 M' → (∀ j, j < k → M'.1 81 j = M0.1 80 j) → Q none M') : ∀ (m i : Nat) (M : Mem), i + m = k → FrM [81] [] M0 M → (∀ j, j < i → M.1 81 j = M0.1 80 j) →
    BodyK (D + 1) 218 34 [(0, .ref 55), (3, .int (nI k)), (6, .int (nI i))] [] M Q := by
  have ek := nI_v (n := k) (by omega)
  intro m
  induction m with
  | zero =>
    intro i M hi hF h4
    obtain rfl : i = k := by omega
    refine body_run 400 rfl (fun B Cl Z hZ hB hC => ?_)
    (conv => whnf); refine ⟨fun b => ?_, fun b => ?_⟩
    · conv => whnf
      exact hZ _ _ (fin M hF h4)
    · simp only [c_lt, c_gt, c_le, c_ge, c_eq, c_ne, b2_z, b2_nz, b2_i, Classical.not_not, t0, t1, Nat.reduceMod, Nat.reduceDiv, Int.reduceAdd, Int.reduceNeg, Nat.reduceAdd, kv_0, kv_1, kv_10, kv_100, kc_0, kc_1, kc_10, kc_100, ek] at b
      omega
  | succ m ih =>
    intro i M hi hF h4
    have e := nI_v (n := i) (by omega)
    have ci := nI_c (n := i) (by omega)
    refine body_run 400 rfl (fun B Cl Z hZ hB hC => ?_)
    (conv => whnf); refine ⟨fun b => ?_, fun b => ?_⟩
    · simp only [c_lt, c_gt, c_le, c_ge, c_eq, c_ne, b2_z, b2_nz, b2_i, Classical.not_not, t0, t1, Nat.reduceMod, Nat.reduceDiv, Int.reduceAdd, Int.reduceNeg, Nat.reduceAdd, kv_0, kv_1, kv_10, kv_100, kc_0, kc_1, kc_10, kc_100, ek, e] at b
      omega
    (conv => whnf)
    refine ⟨nI_vp (by omega) (by decide), ?_⟩
    (conv => whnf)
    refine ⟨nI_vp (by omega) (by decide), ?_⟩
    (conv => whnf)
    rw [ci]
    have e80 : M.1 80 = M0.1 80 := FrM_c hF (by decide) (by decide)
    refine hB _ _ _ _ (Body_lv (ih (i + 1) (mI M 81 i (M.1 80 i)) (by omega) (FrM_a hF (by decide) (by decide)) (fun j hj => ?_)) ⟨rfl, rfl, v_eq (nI_i1 i), trivial⟩)
    rw [mI_at, e80]
    by_cases z : j = i
    · rw [if_pos ⟨rfl, z⟩, z]
    · rw [if_neg (fun y => z y.2)]; exact h4 j (by omega)
section MORDER
variable {s : St} {r xi n : Nat} {hs : Nat → Nat}
def GOs (s : St) (r xi n : Nat) (hs : Nat → Nat) (f : Nat) : Prop := ∀ (D used : Nat) (pth : List Nat) (most : Int32) (st : DS) (M : Mem), f + 9 ≤ D → pth.length + f = n → used < 4096 → RM M s → YM M 75 (wpR (sK s) r hs pth) → okR (wpR (sK s) r hs pth) → M.1 55 41 = nI n → RPl M pth → RO M st →
  Call D 218 [.ref 55, .int (nI xi), .int (nI r), .int (nI pth.length), .int (nI used), .int most] M (fun v M' => v = none ∧ FO M M' pth.length ∧ YM M' 75 (wpR (sK s) r hs pth) ∧ RO M' (mO (fun p => lM (envS s) (wpR (sK s) r hs p) r) (envS s).2.2.1 n f pth used most st))
theorem go_0 (hn : n ≤ 7) : GOs s r xi n hs 0 := by
  intro D used pth most st M hD hf hu h hw ho h41 hP hR
  obtain ⟨d, rfl⟩ : ∃ d, D = d + 9 := ⟨D - 9, by omega⟩
  have en : pth.length = n := by omega
  have ek := nI_v (n := pth.length) (by omega)
  refine call_run 400 rfl rfl (fun B Cl Z hZ hB hC => ?_)
  (conv => whnf); refine ⟨fun b => ?_, fun b => ?_⟩
  · replace b : cnd .ne (nI pth.length) (M.1 55 41) := b
    rw [h41, c_ne, ek, en] at b
    exact absurd (nI_v (by omega)).symm b
  have e42 : M.1 55 42 = st.1 := hR.1
  have put : ¬ (0 ≤ st.1.toInt ∧ st.1.toInt ≤ most.toInt) → ∀ lv : Lv, lkp lv 0 = some (.ref 55) → lkp lv 3 = some (.int (nI pth.length)) → lkp lv 6 = some (.int (nI 0)) → B 34 lv [] (mI M 55 42 most) := by
    intro hz lv l0 l3 l6
    have em : mO (fun p => lM (envS s) (wpR (sK s) r hs p) r) (envS s).2.2.1 n 0 pth used most st = (most, pth) := if_neg hz
    rw [em] at hB
    have hF : FrM [] [42] M (mI M 55 42 most) := FrM_s FrM_refl (by decide)
    refine hB _ _ _ _ (Body_lv (go_copy (D := d + 8) (k := pth.length) (M0 := mI M 55 42 most) (by omega) (fun M' f' p' => ⟨rfl, ⟨FrM_trans (FrM_sub hF (by decide) (by decide)) (FrM_sub f' (by decide) (by decide)), fun j _ => by rw [FrM_c f' (by decide) (by decide)]; rfl⟩, YM_f (YM_f hw hF (by decide)) f' (by decide), by rw [FrM_j f' 42 (by decide)]; rfl, fun j p hj => ?_⟩) pth.length 0 _ (by omega) FrM_refl (fun j hj => absurd hj (Nat.not_lt_zero j))) ⟨l0, l3, l6, trivial⟩)
    rw [p' j (List.getElem?_eq_some_iff.mp hj).1]
    show M.1 80 j = nI p
    exact hP j p hj
  (conv => whnf); refine ⟨fun a => ?_, fun a => ?_⟩
  · replace a : cnd .lt (M.1 55 42) 0 := a
    rw [e42, c_lt, t0] at a
    conv => whnf
    exact put (fun z => by omega) _ rfl rfl rfl
  replace a : ¬ cnd .lt (M.1 55 42) 0 := a
  rw [e42, c_lt, t0] at a
  (conv => whnf); refine ⟨fun c => ?_, fun c => ?_⟩
  · replace c : cnd .lt most (M.1 55 42) := c
    rw [e42, c_lt] at c
    conv => whnf
    exact put (fun z => by omega) _ rfl rfl rfl
  · replace c : ¬ cnd .lt most (M.1 55 42) := c
    rw [e42, c_lt] at c
    have em : mO (fun p => lM (envS s) (wpR (sK s) r hs p) r) (envS s).2.2.1 n 0 pth used most st = st := if_pos ⟨by omega, by omega⟩
    rw [em] at hZ
    conv => whnf
    exact hZ _ _ ⟨rfl, ⟨FrM_refl, fun _ _ => rfl⟩, hw, hR⟩
theorem go_loop {t f : Nat} {l : List Int64} (hv : inv s) (hn : n ≤ 7) (hr : r < (sK s).length) (hh : hgt (sK s) r + n ≤ 12) (hxi : xi < 6) (hsl : sSh s xi = some (.inr (t, l))) (hH : ∀ i, i < n → ∃ x, l[i]? = some x ∧ x.toInt32 = nI (hs i) ∧ okL (lyN (hs i)) ∧ hs i < 1000) (ih : GOs s r xi n hs f)
    {D used : Nat} {pth : List Nat} {most : Int32} {M0 : Mem} (hD : f + 10 ≤ D) (hf : pth.length + (f + 1) = n) (hu : used < 4096) (h0 : RM M0 s) (ho : okR (wpR (sK s) r hs pth)) (h41 : M0.1 55 41 = nI n) (hP : RPl M0 pth) : ∀ (m i : Nat) (st : DS) (M : Mem), i + m = n → FO M0 M pth.length → YM M 75 (wpR (sK s) r hs pth) → RO M st →
    BodyK D 218 64 [(0, .ref 55), (1, .int (nI xi)), (2, .int (nI r)), (3, .int (nI pth.length)), (4, .int (nI used)), (5, .int most), (6, .int (nI i))] [] M (fun v M' => v = none ∧ FO M0 M' pth.length ∧ YM M' 75 (wpR (sK s) r hs pth) ∧ RO M' (((List.range n).drop i).foldl (fun st i => if used.testBit i = true then st else if (lM (envS s) (wpR (sK s) r hs (pth ++ [i])) r).toInt ≤ (envS s).2.2.1.toInt then mO (fun p => lM (envS s) (wpR (sK s) r hs p) r) (envS s).2.2.1 n f (pth ++ [i]) (used ||| 2 ^ i) (maxI most (lM (envS s) (wpR (sK s) r hs (pth ++ [i])) r)) st else st) st)) := by
  obtain ⟨d, rfl⟩ : ∃ d, D = d + 10 := ⟨D - 10, by omega⟩
  have en := nI_v (n := n) (by omega)
  have h4 := hv.1.1
  have hrw : r < (wpR (sK s) r hs pth).length := by rw [wp_len]; exact hr
  intro m
  induction m with
  | zero =>
    intro i st M hi hF hw hR
    have ei := nI_v (n := i) (by omega)
    have hd : (List.range n).drop i = [] := List.drop_eq_nil_of_le (by simp; omega)
    have e41 : M.1 55 41 = nI n := by rw [FrM_j hF.1 41 (by decide)]; exact h41
    rw [hd]
    refine body_run 400 rfl (fun B Cl Z hZ hB hC => ?_)
    (conv => whnf); refine ⟨fun k => ?_, fun k => ?_⟩
    · conv => whnf
      exact hZ _ _ ⟨rfl, hF, hw, hR⟩
    · replace k : ¬ cnd .ge (nI i) (M.1 55 41) := k
      rw [e41, c_ge, en, ei] at k
      omega
  | succ m ihm =>
    intro i st M hi hF hw hR
    have hin : i < n := by omega
    have ei := nI_v (n := i) (by omega)
    have e41 : M.1 55 41 = nI n := by rw [FrM_j hF.1 41 (by decide)]; exact h41
    rw [range_drop n i hin, List.foldl_cons]
    generalize hst : (if used.testBit i = true then st else if (lM (envS s) (wpR (sK s) r hs (pth ++ [i])) r).toInt ≤ (envS s).2.2.1.toInt then mO (fun p => lM (envS s) (wpR (sK s) r hs p) r) (envS s).2.2.1 n f (pth ++ [i]) (used ||| 2 ^ i) (maxI most (lM (envS s) (wpR (sK s) r hs (pth ++ [i])) r)) st else st) = st2
    have step : ∀ M1, FO M0 M1 pth.length → YM M1 75 (wpR (sK s) r hs pth) → RO M1 st2 → _ := fun M1 f1 w1 r1 => ihm (i + 1) st2 M1 (by omega) f1 w1 r1
    have h := RM_x h0 (OAx hF.1)
    refine body_run 400 rfl (fun B Cl Z hZ hB hC => ?_)
    (conv => whnf); refine ⟨fun k => ?_, fun k => ?_⟩
    · replace k : cnd .ge (nI i) (M.1 55 41) := k
      rw [e41, c_ge, en, ei] at k
      omega
    (conv => whnf); refine ret_k hC (m_has hu (show i < 31 by omega)) ?_
    (conv => whnf); refine ⟨fun a => ?_, fun a => ?_⟩
    case' refine_2 =>
      rw [b2_z] at a
      have a := Classical.not_not.mp a
      rw [if_pos a] at hst
      subst hst
      (conv => whnf)
      exact hB _ _ _ _ (Body_lv (step M hF hw hR) ⟨rfl, rfl, rfl, rfl, rfl, rfl, v_eq (nI_i1 i), trivial⟩)
    rw [b2_z] at a
    rw [if_neg a] at hst
    obtain ⟨x, hx, ex, okx, x1000⟩ := hH i hin
    have y1 : nI (hs i) / cI 10 = nI (hs i / 10) := nI_div (b := 10) (by omega) (by decide)
    have y2 : nI (hs i / 10) - nI (hs i / 10) / cI 10 * cI 10 = nI (hs i / 10 % 10) := nI_rem (b := 10) (by omega) (by decide)
    have y3 : nI (hs i) / cI 100 = nI (hs i / 100) := nI_div (b := 100) (by omega) (by decide)
    have y4 : nI (hs i) - nI (hs i) / cI 10 * cI 10 = nI (hs i % 10) := nI_rem (b := 10) (by omega) (by decide)
    rw [y1] at y4
    have hr4 : r < 4 := by omega
    have vr : vp_in (nI r) 4 := nI_vp hr4 (by decide)
    have cr := nI_c (n := r) (by omega)
    (conv => whnf)
    refine ⟨nI_vp (by omega) (by decide), ?_⟩
    (conv => whnf)
    rw [nI_c (n := pth.length) (by omega)]
    have hF1 : FO M0 (mI M 80 pth.length (nI i)) pth.length := ⟨FrM_a hF.1 (by decide) (by decide), fun j hj => by rw [mI_at, if_neg (by omega)]; exact hF.2 j hj⟩
    have hP1 : RPl (mI M 80 pth.length (nI i)) (pth ++ [i]) := by
      intro j p hj
      rw [mI_at]
      by_cases z : j = pth.length
      · rw [if_pos ⟨rfl, z⟩]
        rw [z, List.getElem?_append_right (Nat.le_refl _), Nat.sub_self] at hj
        cases hj
        rfl
      · rw [if_neg (fun y => z y.2)]
        have hjl : j < pth.length := by
          have := (List.getElem?_eq_some_iff.mp hj).1
          rw [List.length_append] at this
          simp at this
          omega
        rw [List.getElem?_append_left hjl] at hj
        rw [hF.2 j hjl]
        exact hP j p hj
    have hw1 : YM (mI M 80 pth.length (nI i)) 75 (wpR (sK s) r hs pth) := YM_f (A := [80]) (J := []) hw (FrM_a FrM_refl (by decide) (by decide)) (by decide)
    have hR1 : RO (mI M 80 pth.length (nI i)) st := ⟨hR.1, fun j p hj => hR.2 j p hj⟩
    generalize mI M 80 pth.length (nI i) = Ma at hF1 hP1 hw1 hR1 ⊢
    have ha := RM_x h0 (OAx hF1.1)
    refine ret_k hC (m_at ha hv hxi hsl hx) ?_
    rw [ex]
    (conv => whnf)
    refine ⟨by decide, ?_⟩
    (conv => whnf)
    refine ⟨by decide, ?_⟩
    (conv => whnf)
    refine ret_k hC (m_at ha hv hxi hsl hx) ?_
    rw [ex]
    (conv => whnf)
    refine ⟨by decide, ?_⟩
    (conv => whnf)
    refine ret_k hC (m_at ha hv hxi hsl hx) ?_
    rw [ex]
    (conv => whnf)
    refine ⟨by decide, ?_⟩
    (conv => whnf)
    rw [y1, y2, y3, y4]
    have hgw : hgt (wpR (sK s) r hs pth) r = hgt (sK s) r + pth.length := wp_hgt pth hr
    refine hC _ _ _ _ _ (m_layOn hw1 ho hrw (by omega)) (fun v M2 p => ?_)
    obtain ⟨rfl, p2, p3⟩ := p
    have e2 : put (wpR (sK s) r hs pth) r (hs i / 10 % 10, hs i / 100, hs i % 10, 0) = wpR (sK s) r hs (pth ++ [i]) := wp_s.symm
    rw [e2] at p3
    have hF2 : FO M0 M2 pth.length := FO_trans hF1 ⟨FrM_sub p2 (by decide) (by decide), fun j _ => by rw [FrM_c p2 (by decide) (by decide)]⟩
    have h2 := RM_x h0 (OAx hF2.1)
    have ho2 : okR (wpR (sK s) r hs (pth ++ [i])) := by rw [← e2]; exact okR_put ho hrw (by omega) okx
    (conv => whnf)
    refine hC _ _ _ _ _ (m_leanMost h2 hv p3 ho2 (by rw [wp_len]; exact hr)) (fun v M3 p => ?_)
    obtain ⟨rfl, q2⟩ := p
    have hF3 : FO M0 M3 pth.length := FO_trans hF2 ⟨FrM_sub q2 (by decide) (by decide), fun j _ => by rw [FrM_c q2 (by decide) (by decide)]⟩
    have h3 := RM_x h0 (OAx hF3.1)
    have hw3 := YM_f p3 q2 (by decide)
    have hP3 : RPl M3 (pth ++ [i]) := fun j p hj => by rw [FrM_c q2 (by decide) (by decide), FrM_c p2 (by decide) (by decide)]; exact hP1 j p hj
    have hR3 : RO M3 st := ⟨by rw [FrM_j q2 42 (by decide), FrM_j p2 42 (by decide)]; exact hR1.1, fun j p hj => by rw [FrM_c q2 (by decide) (by decide), FrM_c p2 (by decide) (by decide)]; exact hR1.2 j p hj⟩
    have e41' : M3.1 55 41 = nI n := by rw [FrM_j hF3.1 41 (by decide)]; exact h41
    have elim : M3.1 61 1 = (envS s).2.2.1 := h3.2.1.2.1
    generalize lM (envS s) (wpR (sK s) r hs (pth ++ [i])) r = y at hst ⊢
    have done : ∀ (M4 : Mem) (lv : Lv), FO M0 M4 pth.length → YM M4 75 (wpR (sK s) r hs (pth ++ [i])) → RO M4 st2 → lkp lv 0 = some (.ref 55) → lkp lv 1 = some (.int (nI xi)) → lkp lv 2 = some (.int (nI r)) → lkp lv 3 = some (.int (nI pth.length)) → lkp lv 4 = some (.int (nI used)) → lkp lv 5 = some (.int most) → lkp lv 6 = some (.int (nI i + cI 1)) → B 64 lv [] (mI M4 75 r (M4.1 75 r - cI 1)) := by
      intro M4 lv f4 w4 r4 l0 l1 l2 l3 l4 l5 l6
      refine hB _ _ _ _ (Body_lv (step (mI M4 75 r (M4.1 75 r - cI 1)) ⟨FrM_a f4.1 (by decide) (by decide), fun j hj => f4.2 j hj⟩ (YM_un (by rw [← e2] at w4; exact w4) hrw) ⟨r4.1, fun j p hj => r4.2 j p hj⟩) ⟨l0, l1, l2, l3, l4, l5, ?_, trivial⟩)
      rw [← nI_i1 i]
      exact l6
    (conv => whnf)
    refine ⟨nI_vp (c := 1) (by decide) (by decide), ?_⟩
    (conv => whnf); refine ⟨fun g => ?_, fun g => ?_⟩
    · replace g : cnd .gt y (M3.1 61 1) := g
      rw [elim, c_gt] at g
      rw [if_neg (by omega)] at hst
      subst hst
      (conv => whnf)
      refine ⟨vr, ?_⟩
      (conv => whnf)
      refine ⟨vr, ?_⟩
      conv => whnf
      rw [cr]
      exact done M3 _ hF3 hw3 hR3 rfl rfl rfl rfl rfl rfl rfl
    replace g : ¬ cnd .gt y (M3.1 61 1) := g
    rw [elim, c_gt] at g
    rw [if_pos (by omega)] at hst
    have hlen : (pth ++ [i]).length = pth.length + 1 := by rw [List.length_append]; rfl
    have hcall : ∀ z, z = maxI most y → Call (d + 9) 218 [.ref 55, .int (nI xi), .int (nI r), .int (nI pth.length + cI 1), .int (nI used ||| (cI 1 <<< (nI i &&& 31))), .int z] M3 (fun v M' => v = none ∧ FO M3 M' (pth.length + 1) ∧ YM M' 75 (wpR (sK s) r hs (pth ++ [i])) ∧ RO M' st2) := by
      rintro z rfl
      have := ih (d + 9) (used ||| 2 ^ i) (pth ++ [i]) (maxI most y) st M3 (by omega) (by omega) (by
        have : 2 ^ i < 2 ^ 12 := Nat.pow_lt_pow_right (by omega) (by omega)
        exact Nat.or_lt_two_pow (n := 12) hu this) h3 hw3 ho2 e41' hP3 hR3
      rw [hst, hlen] at this
      rw [add_i hu (by omega), nI_i1]
      exact this
    (conv => whnf); refine ⟨fun q => ?_, fun q => ?_⟩
    · replace q : cnd .le y most := q
      rw [c_le] at q
      (conv => whnf)
      refine hC _ _ _ _ _ (hcall most (by unfold maxI; rw [if_neg (by rw [lt_i]; omega)])) (fun v M4 p => ?_)
      obtain ⟨rfl, z2, z3, z4⟩ := p
      (conv => whnf)
      refine ⟨vr, ?_⟩
      (conv => whnf)
      refine ⟨vr, ?_⟩
      conv => whnf
      rw [cr]
      exact done M4 _ (FO_trans hF3 (FO_le z2 (by omega))) z3 z4 rfl rfl rfl rfl rfl rfl rfl
    · replace q : ¬ cnd .le y most := q
      rw [c_le] at q
      (conv => whnf)
      refine hC _ _ _ _ _ (hcall y (by unfold maxI; rw [if_pos (by rw [lt_i]; omega)])) (fun v M4 p => ?_)
      obtain ⟨rfl, z2, z3, z4⟩ := p
      (conv => whnf)
      refine ⟨vr, ?_⟩
      (conv => whnf)
      refine ⟨vr, ?_⟩
      conv => whnf
      rw [cr]
      exact done M4 _ (FO_trans hF3 (FO_le z2 (by omega))) z3 z4 rfl rfl rfl rfl rfl rfl rfl
theorem go_s {t : Nat} {l : List Int64} (hv : inv s) (hn : n ≤ 7) (hr : r < (sK s).length) (hh : hgt (sK s) r + n ≤ 12) (hxi : xi < 6) (hsl : sSh s xi = some (.inr (t, l))) (hH : ∀ i, i < n → ∃ x, l[i]? = some x ∧ x.toInt32 = nI (hs i) ∧ okL (lyN (hs i)) ∧ hs i < 1000) : ∀ f, GOs s r xi n hs f
  | 0 => go_0 hn
  | f + 1 => by
    have ih := go_s hv hn hr hh hxi hsl hH f
    intro D used pth most st M hD hf hu h hw ho h41 hP hR
    obtain ⟨d, rfl⟩ : ∃ d, D = d + 10 := ⟨D - 10, by omega⟩
    have en := nI_v (n := n) (by omega)
    have ek := nI_v (n := pth.length) (by omega)
    refine call_run 400 rfl rfl (fun B Cl Z hZ hB hC => ?_)
    (conv => whnf); refine ⟨fun b => ?_, fun b => ?_⟩
    case' refine_2 =>
      replace b : ¬ cnd .ne (nI pth.length) (M.1 55 41) := b
      rw [h41, c_ne, ek, en] at b
      omega
    (conv => whnf)
    exact hB _ _ _ _ (Body_lv (go_loop (t := t) (f := f) hv hn hr hh hxi hsl hH ih (D := d + 10) (M0 := M) (by omega) hf hu h ho h41 hP n 0 st M (by omega) ⟨FrM_refl, fun _ _ => rfl⟩ hw hR) ⟨rfl, rfl, rfl, rfl, rfl, rfl, rfl, trivial⟩)
end MORDER
