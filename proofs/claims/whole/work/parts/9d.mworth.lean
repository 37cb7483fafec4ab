/-! the reference: worth, all orders of selling gone through; the class's search finds the same -/
theorem pcn_clrx {s i : Nat} (hs : s < 4096) (hb : s.testBit i = true) : ∀ n, pcn (clr s i) n + (if i < n then 1 else 0) = pcn s n
  | 0 => rfl
  | n + 1 => by
    have ih := pcn_clrx hs hb n
    rw [pcn, pcn, tb_clr hs]
    by_cases z : i = n
    · subst z
      rw [if_neg (Nat.lt_irrefl _)] at ih
      rw [if_pos (Nat.lt_succ_self _), hb, decide_eq_true rfl]
      simp
      omega
    · rw [decide_eq_false z]
      simp only [Bool.not_false, Bool.and_true]
      by_cases y : i < n
      · rw [if_pos y] at ih; rw [if_pos (show i < n + 1 by omega)]; omega
      · rw [if_neg y] at ih; rw [if_neg (show ¬ i < n + 1 by omega)]; omega
theorem pcn_fullx : ∀ n, n ≤ 12 → pcn (2 ^ n - 1) 12 = n := by decide +kernel
def vI (E : EnvK) (ls : List Lyr) (s i days : Nat) : Int32 := match ls[i]? with
  | some q => kI E s i days q
  | none => 0
def mW (E : EnvK) (ls : List Lyr) : Nat → List Nat → Nat → Int32 → DS → DS
  | 0, pth, _, paid, st => if paid.toInt ≤ st.1.toInt then st else (paid, pth)
  | f + 1, pth, s, paid, st => (List.range ls.length).foldl (fun st i => if s.testBit i = true then mW E ls f (pth ++ [i]) (clr s i) (paid + vI E ls s i pth.length) st else st) st
theorem vI_r {E : EnvK} {ls : List Lyr} {s i days : Nat} : 0 ≤ (vI E ls s i days).toInt ∧ (vI E ls s i days).toInt ≤ 9 := by
  unfold vI
  split
  · exact amt_r _ _ _ _ _ _ _
  · rw [t0]; omega
theorem mW_keep {E : EnvK} {ls : List Lyr} : ∀ (f : Nat) (pth : List Nat) (s : Nat) (paid : Int32) (st : DS), 0 ≤ paid.toInt → paid.toInt + 9 * f ≤ 1000 → paid.toInt + 9 * f ≤ st.1.toInt → mW E ls f pth s paid st = st
  | 0, pth, s, paid, st, h0, hB, h => if_pos (by omega)
  | f + 1, pth, s, paid, st, h0, hB, h => by
    rw [mW]
    generalize List.range ls.length = L
    induction L with
    | nil => rfl
    | cons i L ih =>
      rw [List.foldl_cons]
      have e : (if s.testBit i = true then mW E ls f (pth ++ [i]) (clr s i) (paid + vI E ls s i pth.length) st else st) = st := by
        split
        · have hv := vI_r (E := E) (ls := ls) (s := s) (i := i) (days := pth.length)
          have ha := ad_v (x := paid) (y := vI E ls s i pth.length) (by omega) (by omega)
          exact mW_keep f _ _ _ st (by omega) (by omega) (by omega)
        · rfl
      rw [e]
      exact ih
theorem pS_vI {E : EnvK} {ls : List Lyr} {s i days : Nat} (h12 : ls.length ≤ 12) (hb : s.testBit i = true) (hi : i < 12) (hd : pcn s 12 + days = ls.length) : pS E ls s i = vI E ls s i days := by
  unfold pS vI
  cases ls[i]? with
  | none => rfl
  | some q =>
    show amS E true ls.length q (pcn s i) (pcn s 12 - 1 - pcn s i) = kI E s i days q
    have h1 := pcn_lt hb 12 hi
    unfold amS kI agS
    rw [if_pos rfl, show ls.length - 1 - pcn s i - (pcn s 12 - 1 - pcn s i) = days by omega]
    congr 2
    by_cases z : q.2.2.2 + days < 99
    · rw [if_pos z, if_neg (by omega)]
    · rw [if_neg z]
      by_cases y : 99 < q.2.2.2 + days
      · rw [if_pos y]
      · rw [if_neg y]; omega
theorem sC_mW {E : EnvK} {ls : List Lyr} {t : Nat} (h12 : ls.length ≤ 12) (ht : t ≤ 4) : ∀ (f : Nat) (pth : List Nat) (s : Nat) (paid : Int32) (st : DS), pth.length + f = t → s < 4096 → pcn s 12 + pth.length = ls.length → 0 ≤ paid.toInt → paid.toInt ≤ 9 * pth.length → st.1.toInt < paid.toInt + 9 * f → sC E ls t f pth s paid st = mW E ls f pth s paid st
  | 0, pth, s, paid, st, _, _, _, h0, h1, h2 => by
    rw [mW, if_neg (by omega)]
    rfl
  | f + 1, pth, s, paid, st, hl, hs, hp, h0, h1, _ => by
    rw [sC, mW]
    refine foldl_cg _ _ (fun c i hi => ?_)
    have hi := List.mem_range.mp hi
    by_cases hb : s.testBit i = true
    · rw [if_pos hb, if_pos hb, pS_vI h12 hb (by omega) hp]
      have hv := vI_r (E := E) (ls := ls) (s := s) (i := i) (days := pth.length)
      generalize vI E ls s i pth.length = v at hv ⊢
      have ha := ad_v (x := paid) (y := v) (by omega) (by omega)
      have e9 : cI 9 * (nI t - cI 1 - nI pth.length) = nI (9 * f) := by
        rw [show nI t - cI 1 = nI (t - 1) from nI_sub (b := 1) (by omega), nI_sub (by omega), show cI 9 = nI 9 from rfl, nI_mul]
        congr 1
        omega
      have hn := nI_v (n := 9 * f) (by omega)
      have hs9 := ad_v (x := paid + v) (y := nI (9 * f)) (by omega) (by omega)
      have hl2 : (pth ++ [i]).length = pth.length + 1 := by rw [List.length_append]; rfl
      rw [e9]
      by_cases z : c.1 < paid + v + nI (9 * f)
      · rw [if_pos z]
        rw [lt_i] at z
        have hpc := pcn_clrx hs hb 12
        rw [if_pos (by omega)] at hpc
        exact sC_mW h12 ht f _ _ _ c (by omega) (clr_lt hs) (by omega) (by omega) (by omega) (by omega)
      · rw [if_neg z]
        rw [lt_i] at z
        exact (mW_keep f _ _ _ c (by omega) (by omega) (by omega)).symm
    · rw [if_neg hb, if_neg hb]
theorem sres_mW {E : EnvK} {ls : List Lyr} {t : Nat} (h12 : ls.length ≤ 12) (ht : t ≤ 4) : sres E ls t = mW E ls t [] (2 ^ ls.length - 1) (cI 0) (cI (-1), []) := by
  unfold sres
  have hp : 2 ^ ls.length ≤ 2 ^ 12 := Nat.pow_le_pow_right (by omega) h12
  refine sC_mW h12 ht t [] _ _ _ (Nat.zero_add _) (by omega) (by rw [pcn_fullx _ h12]; rfl) (by rw [kv_0]; omega) (by rw [kv_0]; exact Int.le_refl _) ?_
  show (cI (-1)).toInt < _
  rw [kv_m1, kv_0]
  omega
def WA : List Nat := [73, 74, 84, 85]
def FW (M M' : Mem) (k : Nat) : Prop := FrM WA [47] M M' ∧ ∀ j, j < k → M'.1 84 j = M.1 84 j
theorem FW_trans {M M1 M2 : Mem} {k : Nat} (h1 : FW M M1 k) (h2 : FW M1 M2 k) : FW M M2 k := ⟨FrM_trans h1.1 h2.1, fun j hj => (h2.2 j hj).trans (h1.2 j hj)⟩
theorem FW_le {M M1 : Mem} {k k' : Nat} (h1 : FW M M1 k) (h : k' ≤ k) : FW M M1 k' := ⟨h1.1, fun j hj => h1.2 j (by omega)⟩
theorem WAx {M M' : Mem} (h : FrM WA [47] M M') : FrM XM XJ M M' := FrM_sub h (by decide) (by decide)
def RWo (M : Mem) (st : DS) : Prop := M.1 55 47 = st.1 ∧ ∀ j p, st.2[j]? = some p → M.1 85 j = nI p
def RPs (M : Mem) (pth : List Nat) : Prop := ∀ i p, pth[i]? = some p → M.1 84 i = nI p
theorem gw_copy {D t : Nat} {M0 : Mem} {Q : Po} (ht : t ≤ 4) (fin : ∀ M', FrM [85] [] M0 M' → (∀ j, j < t → M'.1 85 j = M0.1 84 j) → Q none M') : ∀ (m i : Nat) (M : Mem), i + m = t → FrM [85] [] M0 M → (∀ j, j < i → M.1 85 j = M0.1 84 j) →
    BodyK (D + 1) 226 24 [(0, .ref 55), (3, .int (nI t)), (6, .int (nI i))] [] M Q := by
  have ek := nI_v (n := t) (by omega)
  intro m
  induction m with
  | zero =>
    intro i M hi hF h4
    obtain rfl : i = t := by omega
    refine body_run 400 rfl (fun B Cl Z hZ hB hC => ?_)
    (conv => whnf); refine ⟨fun b => ?_, fun b => ?_⟩
    · conv => whnf
      exact hZ _ _ (fin M hF h4)
    · simp only [c_lt, c_gt, c_le, c_ge, c_eq, c_ne, b2_z, b2_nz, b2_i, Classical.not_not, t0, t1, Nat.reduceMod, Nat.reduceDiv, Int.reduceAdd, Int.reduceNeg, Nat.reduceAdd, kv_m1, kv_0, kv_1, kc_0, kc_1, ek] at b
      omega
  | succ m ih =>
    intro i M hi hF h4
    have e := nI_v (n := i) (by omega)
    have ci := nI_c (n := i) (by omega)
    refine body_run 400 rfl (fun B Cl Z hZ hB hC => ?_)
    (conv => whnf); refine ⟨fun b => ?_, fun b => ?_⟩
    · simp only [c_lt, c_gt, c_le, c_ge, c_eq, c_ne, b2_z, b2_nz, b2_i, Classical.not_not, t0, t1, Nat.reduceMod, Nat.reduceDiv, Int.reduceAdd, Int.reduceNeg, Nat.reduceAdd, kv_m1, kv_0, kv_1, kc_0, kc_1, ek, e] at b
      omega
    (conv => whnf)
    refine ⟨nI_vp (by omega) (by decide), ?_⟩
    (conv => whnf)
    refine ⟨nI_vp (by omega) (by decide), ?_⟩
    (conv => whnf)
    rw [ci]
    have e80 : M.1 84 = M0.1 84 := FrM_c hF (by decide) (by decide)
    refine hB _ _ _ _ (Body_lv (ih (i + 1) (mI M 85 i (M.1 84 i)) (by omega) (FrM_a hF (by decide) (by decide)) (fun j hj => ?_)) ⟨rfl, rfl, v_eq (nI_i1 i), trivial⟩)
    rw [mI_at, e80]
    by_cases z : j = i
    · rw [if_pos ⟨rfl, z⟩, z]
    · rw [if_neg (fun y => z y.2)]; exact h4 j (by omega)
section MWORTH
variable {s : St} {r t : Nat}
def GWs (s : St) (r t f : Nat) : Prop := ∀ (D st : Nat) (pth : List Nat) (paid : Int32) (a : DS) (M : Mem), f + 7 ≤ D → pth.length + f = t → st < 4096 → RM M s → RPs M pth → RWo M a →
  Call D 226 [.ref 55, .int (nI r), .int (nI pth.length), .int (nI t), .int (nI st), .int paid] M (fun v M' => v = none ∧ FW M M' pth.length ∧ RWo M' (mW (envS s) ((sK s).getD r []) f pth st paid a))
theorem gw_0 (ht : t ≤ 4) : GWs s r t 0 := by
  intro D st pth paid a M hD hf hs h hP hR
  obtain ⟨d, rfl⟩ : ∃ d, D = d + 7 := ⟨D - 7, by omega⟩
  have et : pth.length = t := by omega
  have ek := nI_v (n := pth.length) (by omega)
  have e2 := nI_v (n := t) (by omega)
  have e47 : M.1 55 47 = a.1 := hR.1
  refine call_run 400 rfl rfl (fun B Cl Z hZ hB hC => ?_)
  (conv => whnf); refine ⟨fun b => ?_, fun b => ?_⟩
  · simp only [c_lt, c_gt, c_le, c_ge, c_eq, c_ne, b2_z, b2_nz, b2_i, Classical.not_not, t0, t1, Nat.reduceMod, Nat.reduceDiv, Int.reduceAdd, Int.reduceNeg, Nat.reduceAdd, kv_m1, kv_0, kv_1, kc_0, kc_1, ek, e2] at b
    omega
  (conv => whnf); refine ⟨fun c => ?_, fun c => ?_⟩
  · replace c : cnd .gt paid (M.1 55 47) := c
    rw [e47, c_gt] at c
    have em : mW (envS s) ((sK s).getD r []) 0 pth st paid a = (paid, pth) := if_neg (by omega)
    rw [em] at hB
    have hF : FrM [] [47] M (mI M 55 47 paid) := FrM_s FrM_refl (by decide)
    (conv => whnf)
    refine hB _ _ _ _ (Body_lv (gw_copy (D := d + 6) (t := t) (M0 := mI M 55 47 paid) ht (fun M' f' p' => ⟨rfl, ⟨FrM_trans (FrM_sub hF (by decide) (by decide)) (FrM_sub f' (by decide) (by decide)), fun j _ => by rw [FrM_c f' (by decide) (by decide)]; rfl⟩, by rw [FrM_j f' 47 (by decide)]; rfl, fun j p hj => ?_⟩) t 0 _ (by omega) FrM_refl (fun j hj => absurd hj (Nat.not_lt_zero j))) ⟨rfl, rfl, rfl, trivial⟩)
    have hjl : j < pth.length := (List.getElem?_eq_some_iff.mp hj).1
    rw [p' j (by omega)]
    show M.1 84 j = nI p
    exact hP j p hj
  · replace c : ¬ cnd .gt paid (M.1 55 47) := c
    rw [e47, c_gt] at c
    have em : mW (envS s) ((sK s).getD r []) 0 pth st paid a = a := if_pos (by omega)
    rw [em] at hZ
    conv => whnf
    exact hZ _ _ ⟨rfl, ⟨FrM_refl, fun _ _ => rfl⟩, hR⟩
theorem gw_loop {f : Nat} (hv : inv s) (hr : r < (sK s).length) (ht : t ≤ 4) (ih : GWs s r t f) {D st : Nat} {pth : List Nat} {paid : Int32} {M0 : Mem} (hD : f + 8 ≤ D) (hf : pth.length + (f + 1) = t) (hs : st < 4096) (h0 : RM M0 s) (hP : RPs M0 pth) : ∀ (m i : Nat) (a : DS) (M : Mem), i + m = hgt (sK s) r → FW M0 M pth.length → RWo M a →
    BodyK D 226 54 [(0, .ref 55), (1, .int (nI r)), (2, .int (nI pth.length)), (3, .int (nI t)), (4, .int (nI st)), (5, .int paid), (6, .int (nI i))] [] M (fun v M' => v = none ∧ FW M0 M' pth.length ∧ RWo M' (((List.range ((sK s).getD r []).length).drop i).foldl (fun a i => if st.testBit i = true then mW (envS s) ((sK s).getD r []) f (pth ++ [i]) (clr st i) (paid + vI (envS s) ((sK s).getD r []) st i pth.length) a else a) a)) := by
  obtain ⟨d, rfl⟩ : ∃ d, D = d + 8 := ⟨D - 8, by omega⟩
  have h4 := hv.1.1
  have h12 := hv.1.2.1 r
  have en := nI_v (n := hgt (sK s) r) (by omega)
  have cr := nI_c (n := r) (by omega)
  have vr : vp_in (nI r) 4 := nI_vp (by omega) (by decide)
  intro m
  induction m with
  | zero =>
    intro i a M hi hF hR
    have ei := nI_v (n := i) (by omega)
    have hd : (List.range ((sK s).getD r []).length).drop i = [] := List.drop_eq_nil_of_le (by simp; show hgt (sK s) r ≤ i; omega)
    have h := RM_x h0 (WAx hF.1)
    rw [hd]
    refine body_run 400 rfl (fun B Cl Z hZ hB hC => ?_)
    (conv => whnf)
    refine ⟨vr, ?_⟩
    (conv => whnf); refine ⟨fun k => ?_, fun k => ?_⟩
    · conv => whnf
      exact hZ _ _ ⟨rfl, hF, hR⟩
    · replace k : ¬ cnd .ge (nI i) (M.1 56 (nI r).toNatClampNeg) := k
      rw [cr, (h.1.2 r hr).1, c_ge, en, ei] at k
      omega
  | succ m ihm =>
    intro i a M hi hF hR
    have ei := nI_v (n := i) (by omega)
    have h := RM_x h0 (WAx hF.1)
    rw [range_drop ((sK s).getD r []).length i (by show i < hgt (sK s) r; omega), List.foldl_cons]
    obtain ⟨q, hq⟩ := ly_at (rk := sK s) (r := r) (l := i) (by omega)
    have eV : vI (envS s) ((sK s).getD r []) st i pth.length = kI (envS s) st i pth.length q := by unfold vI; rw [hq]
    rw [eV]
    generalize ha2 : (if st.testBit i = true then mW (envS s) ((sK s).getD r []) f (pth ++ [i]) (clr st i) (paid + kI (envS s) st i pth.length q) a else a) = a2
    have step : ∀ M1, FW M0 M1 pth.length → RWo M1 a2 → _ := fun M1 f1 r1 => ihm (i + 1) a2 M1 (by omega) f1 r1
    refine body_run 400 rfl (fun B Cl Z hZ hB hC => ?_)
    (conv => whnf)
    refine ⟨vr, ?_⟩
    (conv => whnf); refine ⟨fun k => ?_, fun k => ?_⟩
    · replace k : cnd .ge (nI i) (M.1 56 (nI r).toNatClampNeg) := k
      rw [cr, (h.1.2 r hr).1, c_ge, en, ei] at k
      omega
    (conv => whnf); refine ret_k hC (m_has hs (show i < 31 by omega)) ?_
    (conv => whnf); refine ⟨fun b => ?_, fun b => ?_⟩
    case' refine_2 =>
      rw [b2_nz] at b
      rw [if_neg b] at ha2
      subst ha2
      (conv => whnf)
      exact hB _ _ _ _ (Body_lv (step M hF hR) ⟨rfl, rfl, rfl, rfl, rfl, rfl, v_eq (nI_i1 i), trivial⟩)
    rw [b2_nz] at b
    rw [if_pos b] at ha2
    (conv => whnf)
    refine ⟨nI_vp (by omega) (by decide), ?_⟩
    (conv => whnf)
    rw [nI_c (n := pth.length) (by omega)]
    have hF1 : FW M0 (mI M 84 pth.length (nI i)) pth.length := ⟨FrM_a hF.1 (by decide) (by decide), fun j hj => by rw [mI_at, if_neg (by omega)]; exact hF.2 j hj⟩
    have hP1 : RPs (mI M 84 pth.length (nI i)) (pth ++ [i]) := by
      intro j p hj
      rw [mI_at]
      by_cases z : j = pth.length
      · rw [if_pos ⟨rfl, z⟩]
        rw [z, List.getElem?_append_right (Nat.le_refl _), Nat.sub_self] at hj
        cases hj
        rfl
      · rw [if_neg (fun y => z y.2)]
        have hjl : j < pth.length := by
          have := (List.getElem?_eq_some_iff.mp hj).1
          rw [List.length_append] at this
          simp at this
          omega
        rw [List.getElem?_append_left hjl] at hj
        rw [hF.2 j hjl]
        exact hP j p hj
    have hR1 : RWo (mI M 84 pth.length (nI i)) a := ⟨hR.1, fun j p hj => hR.2 j p hj⟩
    generalize mI M 84 pth.length (nI i) = Ma at hF1 hP1 hR1 ⊢
    have h1 := RM_x h0 (WAx hF1.1)
    refine hC _ _ _ _ _ (m_keptIn (days := pth.length) h1 hv hq hs b (by omega)) (fun v M1 p => ?_)
    obtain ⟨rfl, p2⟩ := p
    have hF2 : FW M0 M1 pth.length := FW_trans hF1 ⟨FrM_sub p2 (by decide) (by decide), fun j _ => by rw [FrM_c p2 (by decide) (by decide)]⟩
    have hP2 : RPs M1 (pth ++ [i]) := fun j p hj => by rw [FrM_c p2 (by decide) (by decide)]; exact hP1 j p hj
    have hR2 : RWo M1 a := ⟨by rw [FrM_j p2 47 (by decide)]; exact hR1.1, fun j p hj => by rw [FrM_c p2 (by decide) (by decide)]; exact hR1.2 j p hj⟩
    have hlen : (pth ++ [i]).length = pth.length + 1 := by rw [List.length_append]; rfl
    (conv => whnf)
    have hcall : Call (d + 7) 226 [.ref 55, .int (nI r), .int (nI pth.length + cI 1), .int (nI t), .int (nI st &&& ((cI 1 <<< (nI i &&& 31)) ^^^ cI (-1))), .int (paid + kI (envS s) st i pth.length q)] M1 (fun v M' => v = none ∧ FW M1 M' (pth.length + 1) ∧ RWo M' a2) := by
      have := ih (d + 7) (clr st i) (pth ++ [i]) (paid + kI (envS s) st i pth.length q) a M1 (by omega) (by omega) (clr_lt hs) (RM_x h0 (WAx hF2.1)) hP2 hR2
      rw [ha2, hlen] at this
      rw [clr_i hs (by omega), nI_i1]
      exact this
    refine hC _ _ _ _ _ hcall (fun v M3 p => ?_)
    obtain ⟨rfl, z2, z3⟩ := p
    (conv => whnf)
    exact hB _ _ _ _ (Body_lv (step M3 (FW_trans hF2 (FW_le z2 (by omega))) z3) ⟨rfl, rfl, rfl, rfl, rfl, rfl, v_eq (nI_i1 i), trivial⟩)
theorem gw_s (hv : inv s) (hr : r < (sK s).length) (ht : t ≤ 4) : ∀ f, GWs s r t f
  | 0 => gw_0 ht
  | f + 1 => by
    have ih := gw_s hv hr ht f
    intro D st pth paid a M hD hf hs h hP hR
    obtain ⟨d, rfl⟩ : ∃ d, D = d + 8 := ⟨D - 8, by omega⟩
    have ek := nI_v (n := pth.length) (by omega)
    have e2 := nI_v (n := t) (by omega)
    refine call_run 400 rfl rfl (fun B Cl Z hZ hB hC => ?_)
    (conv => whnf); refine ⟨fun b => ?_, fun b => ?_⟩
    case' refine_2 =>
      simp only [c_lt, c_gt, c_le, c_ge, c_eq, c_ne, b2_z, b2_nz, b2_i, Classical.not_not, t0, t1, Nat.reduceMod, Nat.reduceDiv, Int.reduceAdd, Int.reduceNeg, Nat.reduceAdd, kv_m1, kv_0, kv_1, kc_0, kc_1, ek, e2] at b
      omega
    (conv => whnf)
    exact hB _ _ _ _ (Body_lv (gw_loop (f := f) hv hr ht ih (D := d + 8) (M0 := M) (by omega) hf hs h hP (hgt (sK s) r) 0 a M (by omega) ⟨FrM_refl, fun _ _ => rfl⟩ hR) ⟨rfl, rfl, rfl, rfl, rfl, rfl, rfl, trivial⟩)
end MWORTH
theorem m_worth {d : Nat} {M : Mem} {s : St} {r t k : Int32} (h : RM M s) (hv : inv s) : Call (d + 12) 227 [.ref 55, .int r, .int t, .int k] M (QP M (.int (aWorth s r t k)) s) := by
  have h4 := hv.1.1
  refine call_run 400 rfl rfl (fun B Cl Z hZ hB hC => ?_)
  (conv => whnf); refine ret_k hC (m_isRick h.1.1 h4) ?_
  (conv => whnf); refine ⟨fun a => ?_, fun a => ?_⟩
  · rw [b2_z] at a
    have e9 : aWorth s r t k = cI (-1) := if_neg (fun z => a z.1)
    rw [e9] at hZ
    conv => whnf
    exact hZ _ _ (QP_same h FrM_refl)
  rw [b2_z] at a
  have a := Classical.not_not.mp a
  have out : ¬ ((0 ≤ t.toInt ∧ t.toInt ≤ 4) ∧ -1 ≤ k.toInt ∧ k.toInt < t.toInt) → aWorth s r t k = cI (-1) := fun z => if_neg (fun y => z y.2)
  (conv => whnf); refine ret_k hC (m_in) ?_
  rw [kv_0, kv_4]
  (conv => whnf); refine ⟨fun b => ?_, fun b => ?_⟩
  · rw [b2_z] at b
    rw [out (fun z => b z.1)] at hZ
    conv => whnf
    exact hZ _ _ (QP_same h FrM_refl)
  rw [b2_z] at b
  have b := Classical.not_not.mp b
  obtain ⟨n, rfl, en, hn⟩ := to_nI (x := t) (by omega)
  have em := n_m1 (n := n) (by omega)
  (conv => whnf); refine ret_k hC (m_in) ?_
  rw [em, kv_m1]
  (conv => whnf); refine ⟨fun c => ?_, fun c => ?_⟩
  case' refine_2 =>
    rw [b2_nz] at c
    rw [out (by omega)] at hZ
    conv => whnf
    exact hZ _ _ (QP_same h FrM_refl)
  rw [b2_nz] at c
  obtain ⟨i, rfl, ei, hi⟩ := to_nI a.1
  have h12 : hgt (sK s) i ≤ 12 := hv.1.2.1 i
  have hil : i < (sK s).length := by omega
  have hl12 : ((sK s).getD i []).length ≤ 12 := h12
  have e8 : aWorth s (nI i) (nI n) k = (if hgt (sK s) i < n then cI (-2) else if k.toInt < 0 then (sres (envS s) ((sK s).getD i []) n).1 else nI ((sres (envS s) ((sK s).getD i []) n).2.getD k.toInt.toNat 0)) := by
    unfold aWorth
    rw [if_pos (by omega), ei, en]
    rfl
  rw [e8] at hZ
  have mm := (h.1.2 i hil).1
  have eh := nI_v (n := hgt (sK s) i) (by omega)
  have vr : vp_in (nI i) 4 := nI_vp (by omega) (by decide)
  have cr := nI_c (n := i) (by omega)
  (conv => whnf)
  refine ⟨vr, ?_⟩
  (conv => whnf); refine ⟨fun u => ?_, fun u => ?_⟩
  case' refine_2 =>
    replace u : ¬ cnd .le (nI n) (M.1 56 (nI i).toNatClampNeg) := u
    rw [cr, mm, c_le, eh, en] at u
    rw [if_pos (by omega)] at hZ
    conv => whnf
    exact hZ _ _ (QP_same h FrM_refl)
  replace u : cnd .le (nI n) (M.1 56 (nI i).toNatClampNeg) := u
  rw [cr, mm, c_le, eh, en] at u
  rw [if_neg (by omega)] at hZ
  have hlen := sres_len (E := envS s) (ls := (sK s).getD i []) (t := n) (by omega) hl12 (by show n ≤ hgt (sK s) i; omega)
  rw [sres_mW hl12 (by omega)] at hZ hlen
  have hp : 2 ^ ((sK s).getD i []).length ≤ 2 ^ 12 := Nat.pow_le_pow_right (by omega) hl12
  (conv => whnf)
  refine ⟨vr, ?_⟩
  (conv => whnf)
  have hrec := gw_s (s := s) (r := i) (t := n) hv hil (by omega) n (d + 11) (2 ^ ((sK s).getD i []).length - 1) [] (cI 0) (cI (-1), []) (mI M 55 47 (cI (-1))) (by omega) (Nat.zero_add _) (by omega) (RM_x h (FrM_s FrM_refl (by decide))) (fun j p q => by cases q) ⟨rfl, fun j p q => by cases q⟩
  have hcall : Call (d + 11) 226 [.ref 55, .int (nI i), .int (cI 0), .int (nI n), .int ((cI 1 <<< ((mI M 55 47 (cI (-1))).1 56 (nI i).toNatClampNeg &&& 31)) - cI 1), .int (cI 0)] (mI M 55 47 (cI (-1))) (fun v M' => v = none ∧ FW (mI M 55 47 (cI (-1))) M' 0 ∧ RWo M' (mW (envS s) ((sK s).getD i []) n [] (2 ^ ((sK s).getD i []).length - 1) (cI 0) (cI (-1), []))) := by
    have e : (cI 1 <<< ((mI M 55 47 (cI (-1))).1 56 (nI i).toNatClampNeg &&& 31)) - cI 1 = nI (2 ^ ((sK s).getD i []).length - 1) := by
      rw [cr, mI_ne _ _ _ (by decide), mm]
      exact full_i _ h12
    rw [e]
    exact hrec
  refine hC _ _ _ _ _ hcall (fun v M1 p => ?_)
  obtain ⟨rfl, p2, p3⟩ := p
  have hF : FrM XM XJ M M1 := FrM_trans (FrM_s FrM_refl (by decide)) (WAx p2.1)
  generalize mW (envS s) ((sK s).getD i []) n [] (2 ^ ((sK s).getD i []).length - 1) (cI 0) (cI (-1), []) = O at p3 hZ hlen
  (conv => whnf); refine ⟨fun g => ?_, fun g => ?_⟩
  · simp only [c_lt, c_gt, c_le, c_ge, c_eq, c_ne, b2_z, b2_nz, b2_i, Classical.not_not, t0, t1, Nat.reduceMod, Nat.reduceDiv, Int.reduceAdd, Int.reduceNeg, Nat.reduceAdd, kv_m2, kv_m1, kv_0, kv_1, kv_4, kc_0, kc_1, kc_4] at g
    obtain ⟨j, rfl, ej, hj⟩ := to_nI (x := k) (by omega)
    rw [if_neg (by omega), ej] at hZ
    (conv => whnf)
    refine ⟨nI_vp (by omega) (by decide), ?_⟩
    conv => whnf
    rw [nI_c hj, p3.2 j _ (at_get (by omega))]
    exact hZ _ _ (QP_same h hF)
  · simp only [c_lt, c_gt, c_le, c_ge, c_eq, c_ne, b2_z, b2_nz, b2_i, Classical.not_not, t0, t1, Nat.reduceMod, Nat.reduceDiv, Int.reduceAdd, Int.reduceNeg, Nat.reduceAdd, kv_m2, kv_m1, kv_0, kv_1, kv_4, kc_0, kc_1, kc_4] at g
    rw [if_pos (by omega)] at hZ
    conv => whnf
    show Z (some (.int (M1.1 55 47))) M1
    rw [p3.1]
    exact hZ _ _ (QP_same h hF)
