/-! the reference: order; the class's search and the reference's -/
theorem maxI_le (x y : Int32) : x.toInt ≤ (maxI x y).toInt ∧ y.toInt ≤ (maxI x y).toInt ∧ ((maxI x y).toInt = x.toInt ∨ (maxI x y).toInt = y.toInt) := by
  rw [maxI_v]
  split <;> omega
theorem mO_keep {g : List Nat → Int32} {lim : Int32} {n : Nat} : ∀ (f : Nat) (pth : List Nat) (used : Nat) (most : Int32) (st : DS), 0 ≤ st.1.toInt → st.1.toInt ≤ most.toInt → mO g lim n f pth used most st = st
  | 0, pth, used, most, st, h0, h1 => if_pos ⟨h0, h1⟩
  | f + 1, pth, used, most, st, h0, h1 => by
    rw [mO]
    generalize List.range n = L
    induction L with
    | nil => rfl
    | cons i L ih =>
      rw [List.foldl_cons]
      have e : (if used.testBit i = true then st else if (g (pth ++ [i])).toInt ≤ lim.toInt then mO g lim n f (pth ++ [i]) (used ||| 2 ^ i) (maxI most (g (pth ++ [i]))) st else st) = st := by
        split
        · rfl
        · split
          · exact mO_keep f _ _ _ st h0 (by have := (maxI_le most (g (pth ++ [i]))).1; omega)
          · rfl
      rw [e]
      exact ih
def relO (lim : Int32) (n : Nat) (a b : DS) : Prop := (b = a ∧ 0 ≤ a.1.toInt ∧ a.1.toInt ≤ lim.toInt ∧ a.2.length = n) ∨ (a.1.toInt = lim.toInt + 1 ∧ b.1 = cI (-2))
theorem dC_mO {g : List Nat → Int32} {lim : Int32} {n : Nat} : ∀ (f : Nat) (pth : List Nat) (used : Nat) (worst : Int32) (a b : DS), pth.length + f = n → 0 ≤ worst.toInt → worst.toInt ≤ lim.toInt → worst.toInt < a.1.toInt → relO lim n a b → relO lim n (dC g n f pth used worst a) (mO g lim n f pth used worst b)
  | 0, pth, used, worst, a, b, hl, h0, h1, h2, hr => by
    show relO lim n (worst, pth) (if 0 ≤ b.1.toInt ∧ b.1.toInt ≤ worst.toInt then b else (worst, pth))
    have e : ¬ (0 ≤ b.1.toInt ∧ b.1.toInt ≤ worst.toInt) := by
      rcases hr with ⟨rfl, r1, r2, r3⟩ | ⟨r1, r2⟩
      · omega
      · rw [r2, kv_m2]; omega
    rw [if_neg e]
    exact Or.inl ⟨rfl, h0, h1, by omega⟩
  | f + 1, pth, used, worst, a, b, hl, h0, h1, h2, hr => by
    rw [dC, mO]
    clear h2
    generalize List.range n = L
    induction L generalizing a b with
    | nil => exact hr
    | cons i L ih =>
      rw [List.foldl_cons, List.foldl_cons]
      refine ih _ _ ?_
      by_cases u : used.testBit i = true
      · rw [if_pos u, if_pos u]; exact hr
      rw [if_neg u, if_neg u]
      obtain ⟨m1, m2, m3⟩ := maxI_le worst (g (pth ++ [i]))
      have hl2 : (pth ++ [i]).length + f = n := by rw [List.length_append]; simp; omega
      by_cases z : maxI worst (g (pth ++ [i])) < a.1
      · rw [if_pos z]
        rw [lt_i] at z
        have hle : (g (pth ++ [i])).toInt ≤ lim.toInt := by
          rcases hr with ⟨rfl, r1, r2, r3⟩ | ⟨r1, r2⟩
          · omega
          · omega
        rw [if_pos hle]
        exact dC_mO f _ _ _ a b hl2 (by omega) (by omega) z hr
      · rw [if_neg z]
        rw [lt_i] at z
        rcases hr with ⟨rfl, r1, r2, r3⟩ | ⟨r1, r2⟩
        · have e : (if (g (pth ++ [i])).toInt ≤ lim.toInt then mO g lim n f (pth ++ [i]) (used ||| 2 ^ i) (maxI worst (g (pth ++ [i]))) b else b) = b := by
            split
            · exact mO_keep f _ _ _ b r1 (by omega)
            · rfl
          rw [e]
          exact Or.inl ⟨rfl, r1, r2, r3⟩
        · rw [if_neg (by omega)]
          exact Or.inr ⟨r1, r2⟩
theorem dC_cg {g g' : List Nat → Int32} {n : Nat} (h : ∀ pth, (∀ p ∈ pth, p < n) → g pth = g' pth) : ∀ (f : Nat) (pth : List Nat) (used : Nat) (worst : Int32) (a : DS), (∀ p ∈ pth, p < n) → dC g n f pth used worst a = dC g' n f pth used worst a
  | 0, _, _, _, _, _ => rfl
  | f + 1, pth, used, worst, a, hp => by
    rw [dC, dC]
    refine foldl_cg _ _ (fun c i hi => ?_)
    have hi := List.mem_range.mp hi
    have hp2 : ∀ p ∈ pth ++ [i], p < n := fun p q => by
      rcases List.mem_append.mp q with q | q
      · exact hp p q
      · rw [List.mem_singleton.mp q]; exact hi
    rw [h _ hp2, dC_cg h f (pth ++ [i]) (used ||| 2 ^ i) _ c hp2]
theorem lnX_app {w : Nat → Int32} {g : Nat → Lyr → Int32} : ∀ (l m : List Lyr) (i : Nat) (a : Int32), lnX w g (l ++ m) i a = lnX w g m (i + l.length) (lnX w g l i a)
  | [], _, _, _ => rfl
  | x :: l, m, i, a => by
    show lnX w g (l ++ m) (i + 1) _ = lnX w g m _ (lnX w g l (i + 1) _)
    rw [lnX_app l, List.length_cons, show i + 1 + l.length = i + (l.length + 1) by omega]
theorem wp_get {r : Nat} {hs : Nat → Nat} : ∀ (pth : List Nat) {w : Rk}, r < w.length → (wpR w r hs pth).getD r [] = w.getD r [] ++ pth.map (fun p => lyN (hs p)) := by
  intro pth
  unfold wpR
  induction pth with
  | nil => intro w _; simp
  | cons a l ih =>
    intro w hr
    rw [List.foldl_cons, ih (by rw [put_len]; exact hr), getD_put hr, List.map_cons, List.append_assoc]
    rfl
theorem gP_lM {E : EnvK} {w : Rk} {r n : Nat} {hs : Nat → Nat} {hl : List Lyr} (hr : r < w.length) (hH : ∀ p, p < n → hl[p]? = some (lyN (hs p))) : ∀ pth : List Nat, (∀ p ∈ pth, p < n) → gP E (w.getD r [] ++ hl) (hgt w r) pth = lM E (wpR w r hs pth) r := by
  intro pth hp
  have e1 : pth.map (hL (w.getD r [] ++ hl) (hgt w r)) = pth.map (fun p => lyN (hs p)) := by
    refine List.map_congr_left (fun p q => ?_)
    unfold hL
    have : (w.getD r [] ++ hl)[hgt w r + p]? = some (lyN (hs p)) := by
      rw [List.getElem?_append_right (by show (w.getD r []).length ≤ hgt w r + p; exact Nat.le_add_right _ _)]
      rw [show hgt w r + p - (w.getD r []).length = p by show hgt w r + p - hgt w r = p; omega]
      exact hH p (hp p q)
    rw [List.getD, this]
    rfl
  have e2 : (w.getD r [] ++ hl).take (hgt w r) = w.getD r [] := by
    rw [List.take_append_of_le_length (by show hgt w r ≤ hgt w r; exact Nat.le_refl _)]
    exact List.take_of_length_le (Nat.le_refl _)
  have e3 : ∀ f, gX E f (w.getD r [] ++ hl) (hgt w r) pth = lnX f (kpt E.1 E.2.1 (hgt (wpR w r hs pth) r)) ((wpR w r hs pth).getD r []) 0 0 := by
    intro f
    unfold gX bX
    rw [e1, e2, wp_get pth hr, lnX_app, wp_hgt pth hr, Nat.zero_add]
    rfl
  unfold gP lM lX lY
  rw [e3, e3]
def oAns (s : St) (r : Nat) (l : List Int64) (k : Int32) : Int32 := if 7 < hrs 12 l then cI (-5) else if 12 < hgt (sK s) r + hrs 12 l ∨ (hrs 12 l : Int) ≤ k.toInt then cI (-2)
      else if (dres (envS s) ((sK s).getD r [] ++ hrL (hrs 12 l) l) (hgt (sK s) r) (hrs 12 l)).1 ≤ (envS s).2.2.1 then (if k.toInt < 0 then (dres (envS s) ((sK s).getD r [] ++ hrL (hrs 12 l) l) (hgt (sK s) r) (hrs 12 l)).1 else nI ((dres (envS s) ((sK s).getD r [] ++ hrL (hrs 12 l) l) (hgt (sK s) r) (hrs 12 l)).2.getD k.toInt.toNat 0)) else cI (-2)
def hsO (l : List Int64) (i : Nat) : Nat := (l.getD i 0).toInt.toNat
def mOr (s : St) (r : Nat) (l : List Int64) : DS := mO (fun p => lM (envS s) (wpR (sK s) r (hsO l) p) r) (envS s).2.2.1 (hrs 12 l) (hrs 12 l) [] 0 (cI 0) (cI (-2), [])
theorem lim_v {s : St} (hv : inv s) : (envS s).2.2.1.toInt = (sSt s : Int) ∧ sSt s ≤ 99 := by
  have h := hv.2.2.1.2.1
  exact ⟨by show (nI (sSt s)).toInt = _; exact nI_v (by omega), h⟩
theorem ord_rel {s : St} {r : Nat} {l : List Int64} (hv : inv s) (hr : r < (sK s).length) : relO (envS s).2.2.1 (hrs 12 l) (dres (envS s) ((sK s).getD r [] ++ hrL (hrs 12 l) l) (hgt (sK s) r) (hrs 12 l)) (mOr s r l) := by
  obtain ⟨e1, e2⟩ := lim_v hv
  have hle := hrs_le 12 l
  have hH : ∀ p, p < hrs 12 l → (hrL (hrs 12 l) l)[p]? = some (lyN (hsO l p)) := by
    intro p hp
    unfold hrL hsO
    rw [List.getElem?_map, List.getElem?_take, if_pos hp, get_d (by omega)]
    rfl
  unfold dres mOr
  rw [dC_cg (gP_lM (E := envS s) hr hH) _ _ _ _ _ (fun p q => by cases q)]
  have ea : ((envS s).2.2.1 + cI 1).toInt = (envS s).2.2.1.toInt + 1 := by
    rw [ad_v (by rw [e1, kv_1]; omega) (by rw [e1, kv_1]; omega), kv_1]
  refine dC_mO _ _ _ _ _ _ (Nat.zero_add _) (by rw [kv_0]; omega) (by rw [kv_0, e1]; omega) ?_ (Or.inr ⟨ea, rfl⟩)
  show (cI 0).toInt < ((envS s).2.2.1 + cI 1).toInt
  rw [ea, e1, kv_0]
  omega
/-- the answer by the reference's search -/
theorem oAns_m {s : St} {r : Nat} {l : List Int64} {k : Int32} (hv : inv s) (hr : r < (sK s).length) (hk : -1 ≤ k.toInt) (h7 : hrs 12 l ≤ 7) (h12 : hgt (sK s) r + hrs 12 l ≤ 12) :
    ((mOr s r l).1.toInt < 0 → oAns s r l k = cI (-2)) ∧ ((hrs 12 l : Int) ≤ k.toInt → oAns s r l k = cI (-2)) ∧ (0 ≤ (mOr s r l).1.toInt → k.toInt < 0 → oAns s r l k = (mOr s r l).1) ∧
    (0 ≤ (mOr s r l).1.toInt → ∀ j : Nat, k = nI j → j < hrs 12 l → ∃ p, (mOr s r l).2[j]? = some p ∧ oAns s r l k = nI p) := by
  have hrel := ord_rel (l := l) hv hr
  unfold oAns
  rw [if_neg (by omega)]
  generalize mOr s r l = O at hrel ⊢
  generalize dres (envS s) ((sK s).getD r [] ++ hrL (hrs 12 l) l) (hgt (sK s) r) (hrs 12 l) = D at hrel ⊢
  refine ⟨fun h => ?_, fun h => if_pos (Or.inr h), fun h h2 => ?_, fun h j hj hjn => ?_⟩
  · rcases hrel with ⟨rfl, r1, r2, r3⟩ | ⟨r1, r2⟩
    · omega
    · split
      · rfl
      · rw [if_neg (by rw [le_i]; omega)]
  · rw [if_neg (by omega)]
    rcases hrel with ⟨rfl, r1, r2, r3⟩ | ⟨r1, r2⟩
    · rw [if_pos (by rw [le_i]; exact r2), if_pos h2]
    · rw [r2, kv_m2] at h; omega
  · subst hj
    have ej := nI_v (n := j) (by omega)
    rw [if_neg (by omega)]
    rcases hrel with ⟨rfl, r1, r2, r3⟩ | ⟨r1, r2⟩
    · have hjl : j < O.2.length := by omega
      refine ⟨O.2[j], List.getElem?_eq_getElem hjl, ?_⟩
      rw [if_pos (by rw [le_i]; exact r2), if_neg (by omega), ej]
      show nI (O.2.getD j 0) = _
      rw [List.getD, List.getElem?_eq_getElem hjl]
      rfl
    · rw [r2, kv_m2] at h; omega
theorem hrs_s {n : Nat} {x : Int64} {l : List Int64} : hrs (n + 1) (x :: l) = if hrZ x.toInt then hrs n l + 1 else 0 := rfl
theorem nrw_1 {x : Int64} (h : nrw 1 x = x) : x.toInt32.toInt = x.toInt := by
  have e : x = x.toInt32.toInt16.toInt32.toInt64 := by
    have := h
    unfold nrw at this
    rw [if_neg (by decide), if_pos rfl] at this
    exact this.symm
  generalize x.toInt32.toInt16.toInt32 = y at e
  rw [e]
  simp
set_option maxHeartbeats 2000000 in
theorem ord_loop {d r xi : Nat} {M0 : Mem} {s : St} {l : List Int64} {k : Int32} (h0 : RM M0 s) (hv : inv s) (hr : r < (sK s).length) (hk : -1 ≤ k.toInt) (hxi : xi < 6) (hsl : sSh s xi = some (.inr (1, l))) : ∀ (m j : Nat) (M : Mem), j + m = 12 → j ≤ l.length → j + hrs m (l.drop j) = hrs 12 l → M.1 55 41 = nI j → FrM [] [41] M0 M →
    BodyK (d + 17) 219 43 [(0, .ref 55), (1, .int (nI xi)), (2, .int (nI r)), (3, .int k)] [] M (QP M0 (.int (oAns s r l k)) s) := by
  have hle := hrs_le 12 l
  have enH := nI_v (n := hrs 12 l) (by omega)
  have h4 := hv.1.1
  have h12r := hv.1.2.1 r
  have cr := nI_c (n := r) (by omega)
  have vr : vp_in (nI r) 4 := nI_vp (by omega) (by decide)
  have vx : vp_in (nI xi) 6 := nI_vp hxi (by decide)
  have cx := nI_c (n := xi) (by omega)
  have hso := hv.2.2.2.1 xi hxi
  rw [hsl] at hso
  have hl60 := hso.2.2
  have el := nI_v (n := l.length) (by omega)
  have hH : ∀ i, i < hrs 12 l → ∃ x, l[i]? = some x ∧ x.toInt32 = nI (hsO l i) ∧ okL (lyN (hsO l i)) ∧ hsO l i < 1000 := by
    intro i hi
    obtain ⟨x, hx, hz⟩ := hrs_at 12 l i hi
    have e : hsO l i = x.toInt.toNat := by
      unfold hsO
      rw [List.getD, hx]
      rfl
    obtain ⟨n1, n2, n3⟩ := hr_n hz
    rw [e]
    exact ⟨x, hx, n1, n2, n3⟩
  intro m
  induction m with
  | zero =>
    intro j M hj hjl hH2 e41 hF
    have hM := RM_x h0 (FrM_sub hF (by decide) (by decide) : FrM XM XJ M0 M)
    have ej := nI_v (n := j) (by omega)
    obtain rfl : j = hrs 12 l := by
      have : hrs 0 (l.drop j) = 0 := rfl
      omega
    refine body_run 400 rfl (fun B Cl Z hZ hB hC => ?_)
    (conv => whnf); refine ⟨fun a => ?_, fun a => ?_⟩
    case' refine_2 =>
      replace a : ¬ cnd .ge (M.1 55 41) (cI 12) := a
      rw [e41, c_ge, ej, kv_12] at a
      omega
    (conv => whnf); refine ⟨fun t7 => ?_, fun t7 => ?_⟩
    case' refine_2 =>
      replace t7 : ¬ cnd .le (M.1 55 41) (cI 7) := t7
      rw [e41, c_le, enH, kv_7] at t7
      have e9 : oAns s r l k = cI (-5) := if_pos (by omega)
      rw [e9] at hZ
      conv => whnf
      exact hZ _ _ (QP_same h0 (FrM_sub hF (by decide) (by decide)))
    replace t7 : cnd .le (M.1 55 41) (cI 7) := t7
    rw [e41, c_le, enH, kv_7] at t7
    (conv => whnf)
    refine ⟨vr, ?_⟩
    (conv => whnf); refine ⟨fun u => ?_, fun u => ?_⟩
    case' refine_2 =>
      replace u : ¬ cnd .le (M.1 56 (nI r).toNatClampNeg + M.1 55 41) (cI 12) := u
      rw [e41, cr, (hM.1.2 r hr).1, nI_add, c_le, nI_v (by omega), kv_12] at u
      have e9 : oAns s r l k = cI (-2) := by unfold oAns; rw [if_neg (by omega), if_pos (Or.inl (by omega))]
      rw [e9] at hZ
      conv => whnf
      exact hZ _ _ (QP_same h0 (FrM_sub hF (by decide) (by decide)))
    replace u : cnd .le (M.1 56 (nI r).toNatClampNeg + M.1 55 41) (cI 12) := u
    rw [e41, cr, (hM.1.2 r hr).1, nI_add, c_le, nI_v (by omega), kv_12] at u
    have ans := oAns_m (s := s) (r := r) (l := l) (k := k) hv hr hk (by omega) (by omega)
    (conv => whnf)
    refine hC _ _ _ _ _ (m_layNow hM.1 hv.1) (fun v M1 p => ?_)
    obtain ⟨rfl, p2, p3⟩ := p
    (conv => whnf)
    have fa : FrM OA [42, 41] M0 (mI M1 55 42 (cI (-2))) := FrM_s (FrM_trans (FrM_sub hF (by decide) (by decide)) (FrM_sub p2 (by decide) (by decide))) (by decide)
    have ha := RM_x h0 (FrM_sub fa (by decide) (by decide) : FrM XM XJ M0 (mI M1 55 42 (cI (-2))))
    have wa : YM (mI M1 55 42 (cI (-2))) 75 (wpR (sK s) r (hsO l) []) := YM_f (A := []) (J := [42]) p3 (FrM_s FrM_refl (by decide)) (by decide)
    have ea : (mI M1 55 42 (cI (-2))).1 55 41 = nI (hrs 12 l) := by rw [mI_at, if_neg (by decide), FrM_j p2 41 (by decide)]; exact e41
    have ra : RO (mI M1 55 42 (cI (-2))) (cI (-2), []) := ⟨rfl, fun j p q => by cases q⟩
    have hcall := go_s (t := 1) (xi := xi) (hs := hsO l) (n := hrs 12 l) hv (by omega) hr (by omega) hxi hsl hH (hrs 12 l) (d + 16) 0 [] (cI 0) (cI (-2), []) (mI M1 55 42 (cI (-2))) (by omega) (Nat.zero_add _) (by omega) ha wa hv.1 ea (fun i p q => by cases q) ra
    show Cl 218 [.ref 55, .int (nI xi), .int (nI r), .int (nI 0), .int (nI 0), .int (cI 0)] (mI M1 55 42 (cI (-2))) _
    generalize mI M1 55 42 (cI (-2)) = Ma at fa hcall ea ⊢
    refine hC _ _ _ _ _ hcall (fun v M2 p => ?_)
    obtain ⟨rfl, z2, z3, z4⟩ := p
    have fb : FrM XM XJ M0 M2 := FrM_trans (FrM_sub fa (by decide) (by decide)) (FrM_sub z2.1 (by decide) (by decide))
    replace z4 : RO M2 (mOr s r l) := z4
    have e42 := z4.1
    have eb : M2.1 55 41 = nI (hrs 12 l) := by rw [FrM_j z2.1 41 (by decide)]; exact ea
    obtain ⟨a1, a2, a3, a4⟩ := ans
    (conv => whnf); refine ⟨fun g => ?_, fun g => ?_⟩
    · replace g : cnd .lt (M2.1 55 42) 0 := g
      rw [e42, c_lt, t0] at g
      rw [a1 g] at hZ
      conv => whnf
      exact hZ _ _ (QP_same h0 fb)
    replace g : ¬ cnd .lt (M2.1 55 42) 0 := g
    rw [e42, c_lt, t0] at g
    (conv => whnf); refine ⟨fun y => ?_, fun y => ?_⟩
    case' refine_2 =>
      replace y : ¬ cnd .lt k (M2.1 55 41) := y
      rw [eb, c_lt, enH] at y
      rw [a2 (by omega)] at hZ
      conv => whnf
      exact hZ _ _ (QP_same h0 fb)
    replace y : cnd .lt k (M2.1 55 41) := y
    rw [eb, c_lt, enH] at y
    (conv => whnf); refine ⟨fun x => ?_, fun x => ?_⟩
    · simp only [c_lt, c_gt, c_le, c_ge, c_eq, c_ne, b2_z, b2_nz, b2_i, Classical.not_not, t0, t1, Nat.reduceMod, Nat.reduceDiv, Int.reduceAdd, Int.reduceNeg, Nat.reduceAdd, kv_m5, kv_m2, kv_m1, kv_0, kv_1, kv_7, kv_12, kc_0, kc_1, kc_7, kc_12] at x
      obtain ⟨j, rfl, ej, hj⟩ := to_nI (x := k) (by omega)
      obtain ⟨p, q1, q2⟩ := a4 (by omega) j rfl (by omega)
      rw [q2] at hZ
      (conv => whnf)
      refine ⟨nI_vp (by omega) (by decide), ?_⟩
      conv => whnf
      rw [nI_c hj, z4.2 j p q1]
      exact hZ _ _ (QP_same h0 fb)
    · simp only [c_lt, c_gt, c_le, c_ge, c_eq, c_ne, b2_z, b2_nz, b2_i, Classical.not_not, t0, t1, Nat.reduceMod, Nat.reduceDiv, Int.reduceAdd, Int.reduceNeg, Nat.reduceAdd, kv_m5, kv_m2, kv_m1, kv_0, kv_1, kv_7, kv_12, kc_0, kc_1, kc_7, kc_12] at x
      rw [a3 (by omega) (by omega)] at hZ
      conv => whnf
      show Z (some (.int (M2.1 55 42))) M2
      rw [e42]
      exact hZ _ _ (QP_same h0 fb)
  | succ m ih =>
    intro j M hj hjl hH2 e41 hF
    have hM := RM_x h0 (FrM_sub hF (by decide) (by decide) : FrM XM XJ M0 M)
    have ej := nI_v (n := j) (by omega)
    have hsh := hM.2.2.2.2.2.2.2.2.1 xi hxi
    rw [hsl] at hsh
    obtain ⟨s1, s2, s3⟩ := hsh
    refine body_run 400 rfl (fun B Cl Z hZ hB hC => ?_)
    (conv => whnf); refine ⟨fun a => ?_, fun a => ?_⟩
    · replace a : cnd .ge (M.1 55 41) (cI 12) := a
      rw [e41, c_ge, ej, kv_12] at a
      omega
    (conv => whnf)
    refine ⟨vx, ?_⟩
    (conv => whnf); refine ⟨fun b => ?_, fun b => ?_⟩
    · replace b : cnd .ge (M.1 55 41) (M.1 96 (nI xi).toNatClampNeg) := b
      rw [e41, cx, s2, c_ge, ej, el] at b
      have hd : l.drop j = [] := List.drop_eq_nil_of_le (by omega)
      rw [hd, show hrs (m + 1) [] = 0 from rfl, Nat.add_zero] at hH2
      subst hH2
      (conv => whnf); refine ⟨fun t7 => ?_, fun t7 => ?_⟩
      case' refine_2 =>
        replace t7 : ¬ cnd .le (M.1 55 41) (cI 7) := t7
        rw [e41, c_le, enH, kv_7] at t7
        have e9 : oAns s r l k = cI (-5) := if_pos (by omega)
        rw [e9] at hZ
        conv => whnf
        exact hZ _ _ (QP_same h0 (FrM_sub hF (by decide) (by decide)))
      replace t7 : cnd .le (M.1 55 41) (cI 7) := t7
      rw [e41, c_le, enH, kv_7] at t7
      (conv => whnf)
      refine ⟨vr, ?_⟩
      (conv => whnf); refine ⟨fun u => ?_, fun u => ?_⟩
      case' refine_2 =>
        replace u : ¬ cnd .le (M.1 56 (nI r).toNatClampNeg + M.1 55 41) (cI 12) := u
        rw [e41, cr, (hM.1.2 r hr).1, nI_add, c_le, nI_v (by omega), kv_12] at u
        have e9 : oAns s r l k = cI (-2) := by unfold oAns; rw [if_neg (by omega), if_pos (Or.inl (by omega))]
        rw [e9] at hZ
        conv => whnf
        exact hZ _ _ (QP_same h0 (FrM_sub hF (by decide) (by decide)))
      replace u : cnd .le (M.1 56 (nI r).toNatClampNeg + M.1 55 41) (cI 12) := u
      rw [e41, cr, (hM.1.2 r hr).1, nI_add, c_le, nI_v (by omega), kv_12] at u
      have ans := oAns_m (s := s) (r := r) (l := l) (k := k) hv hr hk (by omega) (by omega)
      (conv => whnf)
      refine hC _ _ _ _ _ (m_layNow hM.1 hv.1) (fun v M1 p => ?_)
      obtain ⟨rfl, p2, p3⟩ := p
      (conv => whnf)
      have fa : FrM OA [42, 41] M0 (mI M1 55 42 (cI (-2))) := FrM_s (FrM_trans (FrM_sub hF (by decide) (by decide)) (FrM_sub p2 (by decide) (by decide))) (by decide)
      have ha := RM_x h0 (FrM_sub fa (by decide) (by decide) : FrM XM XJ M0 (mI M1 55 42 (cI (-2))))
      have wa : YM (mI M1 55 42 (cI (-2))) 75 (wpR (sK s) r (hsO l) []) := YM_f (A := []) (J := [42]) p3 (FrM_s FrM_refl (by decide)) (by decide)
      have ea : (mI M1 55 42 (cI (-2))).1 55 41 = nI (hrs 12 l) := by rw [mI_at, if_neg (by decide), FrM_j p2 41 (by decide)]; exact e41
      have ra : RO (mI M1 55 42 (cI (-2))) (cI (-2), []) := ⟨rfl, fun j p q => by cases q⟩
      have hcall := go_s (t := 1) (xi := xi) (hs := hsO l) (n := hrs 12 l) hv (by omega) hr (by omega) hxi hsl hH (hrs 12 l) (d + 16) 0 [] (cI 0) (cI (-2), []) (mI M1 55 42 (cI (-2))) (by omega) (Nat.zero_add _) (by omega) ha wa hv.1 ea (fun i p q => by cases q) ra
      show Cl 218 [.ref 55, .int (nI xi), .int (nI r), .int (nI 0), .int (nI 0), .int (cI 0)] (mI M1 55 42 (cI (-2))) _
      generalize mI M1 55 42 (cI (-2)) = Ma at fa hcall ea ⊢
      refine hC _ _ _ _ _ hcall (fun v M2 p => ?_)
      obtain ⟨rfl, z2, z3, z4⟩ := p
      have fb : FrM XM XJ M0 M2 := FrM_trans (FrM_sub fa (by decide) (by decide)) (FrM_sub z2.1 (by decide) (by decide))
      replace z4 : RO M2 (mOr s r l) := z4
      have e42 := z4.1
      have eb : M2.1 55 41 = nI (hrs 12 l) := by rw [FrM_j z2.1 41 (by decide)]; exact ea
      obtain ⟨a1, a2, a3, a4⟩ := ans
      (conv => whnf); refine ⟨fun g => ?_, fun g => ?_⟩
      · replace g : cnd .lt (M2.1 55 42) 0 := g
        rw [e42, c_lt, t0] at g
        rw [a1 g] at hZ
        conv => whnf
        exact hZ _ _ (QP_same h0 fb)
      replace g : ¬ cnd .lt (M2.1 55 42) 0 := g
      rw [e42, c_lt, t0] at g
      (conv => whnf); refine ⟨fun y => ?_, fun y => ?_⟩
      case' refine_2 =>
        replace y : ¬ cnd .lt k (M2.1 55 41) := y
        rw [eb, c_lt, enH] at y
        rw [a2 (by omega)] at hZ
        conv => whnf
        exact hZ _ _ (QP_same h0 fb)
      replace y : cnd .lt k (M2.1 55 41) := y
      rw [eb, c_lt, enH] at y
      (conv => whnf); refine ⟨fun x => ?_, fun x => ?_⟩
      · simp only [c_lt, c_gt, c_le, c_ge, c_eq, c_ne, b2_z, b2_nz, b2_i, Classical.not_not, t0, t1, Nat.reduceMod, Nat.reduceDiv, Int.reduceAdd, Int.reduceNeg, Nat.reduceAdd, kv_m5, kv_m2, kv_m1, kv_0, kv_1, kv_7, kv_12, kc_0, kc_1, kc_7, kc_12] at x
        obtain ⟨j, rfl, ej, hj⟩ := to_nI (x := k) (by omega)
        obtain ⟨p, q1, q2⟩ := a4 (by omega) j rfl (by omega)
        rw [q2] at hZ
        (conv => whnf)
        refine ⟨nI_vp (by omega) (by decide), ?_⟩
        conv => whnf
        rw [nI_c hj, z4.2 j p q1]
        exact hZ _ _ (QP_same h0 fb)
      · simp only [c_lt, c_gt, c_le, c_ge, c_eq, c_ne, b2_z, b2_nz, b2_i, Classical.not_not, t0, t1, Nat.reduceMod, Nat.reduceDiv, Int.reduceAdd, Int.reduceNeg, Nat.reduceAdd, kv_m5, kv_m2, kv_m1, kv_0, kv_1, kv_7, kv_12, kc_0, kc_1, kc_7, kc_12] at x
        rw [a3 (by omega) (by omega)] at hZ
        conv => whnf
        show Z (some (.int (M2.1 55 42))) M2
        rw [e42]
        exact hZ _ _ (QP_same h0 fb)
    replace b : ¬ cnd .ge (M.1 55 41) (M.1 96 (nI xi).toNatClampNeg) := b
    rw [e41, cx, s2, c_ge, ej, el] at b
    have hx := get_d (l := l) (j := j) (by omega)
    have n1 := nrw_1 (hso.1 _ (List.mem_of_getElem? hx))
    have hd : l.drop j = l.getD j 0 :: l.drop (j + 1) := by
      rw [List.drop_eq_getElem_cons (show j < l.length by omega)]
      congr 1
      rw [List.getD, List.getElem?_eq_getElem (show j < l.length by omega)]
      rfl
    rw [hd, hrs_s] at hH2
    generalize l.getD j 0 = x at hx n1 hd hH2
    (conv => whnf)
    have hcall : Call (d + 16) 212 [.ref 55, .int (nI xi), .int (M.1 55 41)] M (RV (some (.int x.toInt32)) M) := by
      rw [e41]
      exact m_at hM hv hxi hsl hx
    refine ret_k hC hcall ?_
    (conv => whnf); refine ret_k hC (m_isHour) ?_
    rw [n1]
    (conv => whnf); refine ⟨fun c => ?_, fun c => ?_⟩
    · rw [b2_z] at c
      rw [if_neg c, Nat.add_zero] at hH2
      subst hH2
      (conv => whnf); refine ⟨fun t7 => ?_, fun t7 => ?_⟩
      case' refine_2 =>
        replace t7 : ¬ cnd .le (M.1 55 41) (cI 7) := t7
        rw [e41, c_le, enH, kv_7] at t7
        have e9 : oAns s r l k = cI (-5) := if_pos (by omega)
        rw [e9] at hZ
        conv => whnf
        exact hZ _ _ (QP_same h0 (FrM_sub hF (by decide) (by decide)))
      replace t7 : cnd .le (M.1 55 41) (cI 7) := t7
      rw [e41, c_le, enH, kv_7] at t7
      (conv => whnf)
      refine ⟨vr, ?_⟩
      (conv => whnf); refine ⟨fun u => ?_, fun u => ?_⟩
      case' refine_2 =>
        replace u : ¬ cnd .le (M.1 56 (nI r).toNatClampNeg + M.1 55 41) (cI 12) := u
        rw [e41, cr, (hM.1.2 r hr).1, nI_add, c_le, nI_v (by omega), kv_12] at u
        have e9 : oAns s r l k = cI (-2) := by unfold oAns; rw [if_neg (by omega), if_pos (Or.inl (by omega))]
        rw [e9] at hZ
        conv => whnf
        exact hZ _ _ (QP_same h0 (FrM_sub hF (by decide) (by decide)))
      replace u : cnd .le (M.1 56 (nI r).toNatClampNeg + M.1 55 41) (cI 12) := u
      rw [e41, cr, (hM.1.2 r hr).1, nI_add, c_le, nI_v (by omega), kv_12] at u
      have ans := oAns_m (s := s) (r := r) (l := l) (k := k) hv hr hk (by omega) (by omega)
      (conv => whnf)
      refine hC _ _ _ _ _ (m_layNow hM.1 hv.1) (fun v M1 p => ?_)
      obtain ⟨rfl, p2, p3⟩ := p
      (conv => whnf)
      have fa : FrM OA [42, 41] M0 (mI M1 55 42 (cI (-2))) := FrM_s (FrM_trans (FrM_sub hF (by decide) (by decide)) (FrM_sub p2 (by decide) (by decide))) (by decide)
      have ha := RM_x h0 (FrM_sub fa (by decide) (by decide) : FrM XM XJ M0 (mI M1 55 42 (cI (-2))))
      have wa : YM (mI M1 55 42 (cI (-2))) 75 (wpR (sK s) r (hsO l) []) := YM_f (A := []) (J := [42]) p3 (FrM_s FrM_refl (by decide)) (by decide)
      have ea : (mI M1 55 42 (cI (-2))).1 55 41 = nI (hrs 12 l) := by rw [mI_at, if_neg (by decide), FrM_j p2 41 (by decide)]; exact e41
      have ra : RO (mI M1 55 42 (cI (-2))) (cI (-2), []) := ⟨rfl, fun j p q => by cases q⟩
      have hcall := go_s (t := 1) (xi := xi) (hs := hsO l) (n := hrs 12 l) hv (by omega) hr (by omega) hxi hsl hH (hrs 12 l) (d + 16) 0 [] (cI 0) (cI (-2), []) (mI M1 55 42 (cI (-2))) (by omega) (Nat.zero_add _) (by omega) ha wa hv.1 ea (fun i p q => by cases q) ra
      show Cl 218 [.ref 55, .int (nI xi), .int (nI r), .int (nI 0), .int (nI 0), .int (cI 0)] (mI M1 55 42 (cI (-2))) _
      generalize mI M1 55 42 (cI (-2)) = Ma at fa hcall ea ⊢
      refine hC _ _ _ _ _ hcall (fun v M2 p => ?_)
      obtain ⟨rfl, z2, z3, z4⟩ := p
      have fb : FrM XM XJ M0 M2 := FrM_trans (FrM_sub fa (by decide) (by decide)) (FrM_sub z2.1 (by decide) (by decide))
      replace z4 : RO M2 (mOr s r l) := z4
      have e42 := z4.1
      have eb : M2.1 55 41 = nI (hrs 12 l) := by rw [FrM_j z2.1 41 (by decide)]; exact ea
      obtain ⟨a1, a2, a3, a4⟩ := ans
      (conv => whnf); refine ⟨fun g => ?_, fun g => ?_⟩
      · replace g : cnd .lt (M2.1 55 42) 0 := g
        rw [e42, c_lt, t0] at g
        rw [a1 g] at hZ
        conv => whnf
        exact hZ _ _ (QP_same h0 fb)
      replace g : ¬ cnd .lt (M2.1 55 42) 0 := g
      rw [e42, c_lt, t0] at g
      (conv => whnf); refine ⟨fun y => ?_, fun y => ?_⟩
      case' refine_2 =>
        replace y : ¬ cnd .lt k (M2.1 55 41) := y
        rw [eb, c_lt, enH] at y
        rw [a2 (by omega)] at hZ
        conv => whnf
        exact hZ _ _ (QP_same h0 fb)
      replace y : cnd .lt k (M2.1 55 41) := y
      rw [eb, c_lt, enH] at y
      (conv => whnf); refine ⟨fun x => ?_, fun x => ?_⟩
      · simp only [c_lt, c_gt, c_le, c_ge, c_eq, c_ne, b2_z, b2_nz, b2_i, Classical.not_not, t0, t1, Nat.reduceMod, Nat.reduceDiv, Int.reduceAdd, Int.reduceNeg, Nat.reduceAdd, kv_m5, kv_m2, kv_m1, kv_0, kv_1, kv_7, kv_12, kc_0, kc_1, kc_7, kc_12] at x
        obtain ⟨j, rfl, ej, hj⟩ := to_nI (x := k) (by omega)
        obtain ⟨p, q1, q2⟩ := a4 (by omega) j rfl (by omega)
        rw [q2] at hZ
        (conv => whnf)
        refine ⟨nI_vp (by omega) (by decide), ?_⟩
        conv => whnf
        rw [nI_c hj, z4.2 j p q1]
        exact hZ _ _ (QP_same h0 fb)
      · simp only [c_lt, c_gt, c_le, c_ge, c_eq, c_ne, b2_z, b2_nz, b2_i, Classical.not_not, t0, t1, Nat.reduceMod, Nat.reduceDiv, Int.reduceAdd, Int.reduceNeg, Nat.reduceAdd, kv_m5, kv_m2, kv_m1, kv_0, kv_1, kv_7, kv_12, kc_0, kc_1, kc_7, kc_12] at x
        rw [a3 (by omega) (by omega)] at hZ
        conv => whnf
        show Z (some (.int (M2.1 55 42))) M2
        rw [e42]
        exact hZ _ _ (QP_same h0 fb)
    rw [b2_z] at c
    have c := Classical.not_not.mp c
    rw [if_pos c] at hH2
    (conv => whnf)
    refine hB _ _ _ _ (Body_lv (ih (j + 1) (mI M 55 41 (M.1 55 41 + cI 1)) (by omega) (by omega) (by omega) ?_ (FrM_s hF (by decide))) ⟨rfl, rfl, rfl, rfl, trivial⟩)
    rw [mI_at, if_pos ⟨rfl, rfl⟩, e41]
    exact nI_i1 j
theorem m_order {d : Nat} {M : Mem} {s : St} {x r k : Int32} (h : RM M s) (hv : inv s) : Call (d + 17) 219 [.ref 55, .int x, .int r, .int k] M (QP M (.int (aOrder s x r k)) s) := by
  have h4 := hv.1.1
  refine call_run 400 rfl rfl (fun B Cl Z hZ hB hC => ?_)
  (conv => whnf); refine ret_k hC (m_isShelf) ?_
  (conv => whnf); refine ⟨fun a => ?_, fun a => ?_⟩
  · rw [b2_z] at a
    have e9 : aOrder s x r k = cI (-1) := if_neg (fun z => a z.1)
    rw [e9] at hZ
    conv => whnf
    exact hZ _ _ (QP_same h FrM_refl)
  rw [b2_z] at a
  have a := Classical.not_not.mp a
  obtain ⟨xi, rfl, ei, hi⟩ := to_nI a.1
  have hxi : xi < 6 := by omega
  have out : ¬ ((0 ≤ r.toInt ∧ r.toInt < ((sK s).length : Int)) ∧ -1 ≤ k.toInt) → aOrder s (nI xi) r k = cI (-1) := fun z => if_neg (fun y => z y.2)
  (conv => whnf); refine ret_k hC (m_isRick h.1.1 h4) ?_
  (conv => whnf); refine ⟨fun b => ?_, fun b => ?_⟩
  · rw [b2_z] at b
    rw [out (fun z => b z.1)] at hZ
    conv => whnf
    exact hZ _ _ (QP_same h FrM_refl)
  rw [b2_z] at b
  have b := Classical.not_not.mp b
  (conv => whnf); refine ⟨fun g => ?_, fun g => ?_⟩
  case' refine_2 =>
    simp only [c_lt, c_gt, c_le, c_ge, c_eq, c_ne, b2_z, b2_nz, b2_i, Classical.not_not, t0, t1, Nat.reduceMod, Nat.reduceDiv, Int.reduceAdd, Int.reduceNeg, Nat.reduceAdd, kv_m5, kv_m2, kv_m1, kv_0, kv_1, kv_7, kv_12, kc_0, kc_1, kc_7, kc_12] at g
    rw [out (by omega)] at hZ
    conv => whnf
    exact hZ _ _ (QP_same h FrM_refl)
  simp only [c_lt, c_gt, c_le, c_ge, c_eq, c_ne, b2_z, b2_nz, b2_i, Classical.not_not, t0, t1, Nat.reduceMod, Nat.reduceDiv, Int.reduceAdd, Int.reduceNeg, Nat.reduceAdd, kv_m5, kv_m2, kv_m1, kv_0, kv_1, kv_7, kv_12, kc_0, kc_1, kc_7, kc_12] at g
  obtain ⟨j, rfl, ej, hj⟩ := to_nI (x := r) (by omega)
  have e8 : aOrder s (nI xi) (nI j) k = (match rowL (sSh s xi) 1 with
    | some l => oAns s j l k
    | none => rfu (sSh s xi) 1) := by
    unfold aOrder
    rw [if_pos (by omega), ei, ej]
    show _ = match rowL (sSh s xi) 1 with
    | some l => oAns s j l k
    | none => rfu (sSh s xi) 1
    rfl
  rw [e8] at hZ hB
  (conv => whnf); refine ret_k hC (m_rowFault h hv hxi (show 1 < 5 by decide)) ?_
  rcases rowL_c (sSh s xi) 1 with ⟨l, q1, q2, q3⟩ | ⟨q1, q2⟩
  · rw [q2] at hZ hB
    rw [q3]
    dsimp only at hZ hB
    (conv => whnf); refine ⟨fun t => ?_, fun t => ?_⟩
    case' refine_2 => exact absurd (show (0 : Int32).toInt ≤ (cI 0).toInt by decide) (by rw [c_ge] at t; exact t)
    (conv => whnf)
    exact hB _ _ _ _ (Body_lv (ord_loop (d := d) (r := j) (M0 := M) (l := l) (k := k) h hv (by omega) (by omega) hxi q1 12 0 (mI M 55 41 (cI 0)) rfl (Nat.zero_le _) (by rw [List.drop_zero, Nat.zero_add]) rfl (FrM_s FrM_refl (by decide))) ⟨rfl, rfl, rfl, rfl, trivial⟩)
  · rw [q1] at hZ
    dsimp only at hZ
    (conv => whnf); refine ⟨fun t => ?_, fun t => ?_⟩
    · rw [c_ge, t0] at t
      exact absurd q2 (Int.not_lt.mpr t)
    (conv => whnf); refine ret_k hC (m_rowFault h hv hxi (show 1 < 5 by decide)) ?_
    conv => whnf
    exact hZ _ _ (QP_same h FrM_refl)
