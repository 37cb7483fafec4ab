/-! the reference: youngest, top -/
theorem dvN {N K : Nat} (hN : N ≤ 99) (hK : K ≤ 9) : nI N / (cI 1 + nI K) = nI (N / (1 + K)) := by
  rw [show cI 1 = nI 1 from rfl, nI_add, nI_div (by omega) (by omega)]
theorem myoung_loop {d r N : Nat} {M0 : Mem} {s : St} (h : RM M0 s) (hv : inv s) (hr : r < (sK s).length) (hN : N ≤ 99) : ∀ (m i : Nat) (b le : Int32) (M : Mem), i + m = hgt (sK s) r → FrM XM XJ M0 M → YM M 75 (sK s) → ((b = cI (-2) ∧ le = cI 100) ∨ ∃ j q, b = nI j ∧ ((sK s).getD r [])[j]? = some q ∧ le = nI N / (cI 1 + kp (envS s) (sK s) r j q)) →
    BodyK (d + 6) 235 30 [(0, .ref 55), (1, .int (nI r)), (2, .int (nI N)), (3, .int b), (4, .int (nI i))] [] M (QP M0 (.int (yC (kp (envS s) (sK s) r) (nI N) (((sK s).getD r []).drop i) i b le)) s) := by
  have h4 := hv.1.1
  have h12 := hv.1.2.1 r
  have eh := nI_v (n := hgt (sK s) r) (by omega)
  have vr : vp_in (nI r) 4 := nI_vp (by omega) (by decide)
  have cr := nI_c (n := r) (by omega)
  have rd : ∀ M, FrM XM XJ M0 M → M.1 56 (nI r).toNatClampNeg = nI (hgt (sK s) r) := fun M hf => by rw [cr]; exact ((RM_x h hf).1.2 r hr).1
  intro m
  induction m with
  | zero =>
    intro i b le M hi hF hw hb
    obtain rfl : i = hgt (sK s) r := by omega
    have hd : ((sK s).getD r []).drop (hgt (sK s) r) = [] := List.drop_eq_nil_of_le (Nat.le_refl _)
    rw [hd]
    have r56 := rd M hF
    refine body_run 400 rfl (fun B Cl Z hZ hB hC => ?_)
    (conv => whnf)
    refine ⟨vr, ?_⟩
    (conv => whnf); refine ⟨fun k => ?_, fun k => ?_⟩
    case' refine_2 =>
      replace k : ¬ cnd .ge (nI (hgt (sK s) r)) (M.1 56 (nI r).toNatClampNeg) := k
      rw [r56, c_ge] at k
      omega
    conv => whnf
    exact hZ _ _ (QP_same h hF)
  | succ m ih =>
    intro i b le M hi hF hw hb
    have ei := nI_v (n := i) (by omega)
    obtain ⟨q, hq⟩ := ly_at (rk := sK s) (r := r) (l := i) (by omega)
    rw [drop_at hq]
    have e9 : yC (kp (envS s) (sK s) r) (nI N) (q :: ((sK s).getD r []).drop (i + 1)) i b le = if nI N / (cI 1 + kp (envS s) (sK s) r i q) < le then yC (kp (envS s) (sK s) r) (nI N) (((sK s).getD r []).drop (i + 1)) (i + 1) (nI i) (nI N / (cI 1 + kp (envS s) (sK s) r i q)) else yC (kp (envS s) (sK s) r) (nI N) (((sK s).getD r []).drop (i + 1)) (i + 1) b le := rfl
    rw [e9]
    have hk := kN_e (envS s) (hgt (sK s) r) i q
    have r56 := rd M hF
    refine body_run 400 rfl (fun B Cl Z hZ hB hC => ?_)
    (conv => whnf)
    refine ⟨vr, ?_⟩
    (conv => whnf); refine ⟨fun k => ?_, fun k => ?_⟩
    · replace k : cnd .ge (nI i) (M.1 56 (nI r).toNatClampNeg) := k
      rw [r56, c_ge, eh, ei] at k
      omega
    rcases hb with ⟨rfl, rfl⟩ | ⟨j, qj, rfl, hj, rfl⟩
    · (conv => whnf); refine ⟨fun g => ?_, fun g => ?_⟩
      case' refine_2 => exact absurd (show cnd .lt (cI (-2)) 0 by rw [c_lt, kv_m2]; decide) g
      have hlt : nI N / (cI 1 + kp (envS s) (sK s) r i q) < cI 100 := by
        rw [show kp (envS s) (sK s) r i q = nI (kN (envS s) (hgt (sK s) r) i q) from hk.1, dvN hN hk.2, lt_i, kv_100]
        have := Nat.div_le_self N (1 + kN (envS s) (hgt (sK s) r) i q)
        rw [nI_v (by omega)]
        omega
      rw [if_pos hlt] at hB
      (conv => whnf)
      exact hB _ _ _ _ (Body_lv (ih (i + 1) (nI i) _ M (by omega) hF hw (Or.inr ⟨i, q, rfl, hq, rfl⟩)) ⟨rfl, rfl, rfl, rfl, v_eq (nI_i1 i), trivial⟩)
    · have hjl := ly_lt hj
      have ej := nI_v (n := j) (by omega)
      (conv => whnf); refine ⟨fun g => ?_, fun g => ?_⟩
      · replace g : cnd .lt (nI j) 0 := g
        rw [c_lt, ej, t0] at g
        omega
      (conv => whnf)
      refine hC _ _ _ _ _ (m_keptAt (RM_x h hF) hv hw hv.1 hq) (fun v M1 y => ?_)
      obtain ⟨rfl, y2⟩ := y
      have hF1 := FrM_trans hF (KJx y2)
      have hw1 := YM_f hw y2 (by decide)
      (conv => whnf)
      refine ⟨kp1 (envS s) (sK s) r i q, ?_⟩
      (conv => whnf)
      refine hC _ _ _ _ _ (m_keptAt (RM_x h hF1) hv hw1 hv.1 hj) (fun v M2 z => ?_)
      obtain ⟨rfl, z2⟩ := z
      have hF2 := FrM_trans hF1 (KJx z2)
      have hw2 := YM_f hw1 z2 (by decide)
      (conv => whnf)
      refine ⟨kp1 (envS s) (sK s) r j qj, ?_⟩
      (conv => whnf); refine ⟨fun t => ?_, fun t => ?_⟩
      · rw [c_ge] at t
        rw [if_neg (by rw [lt_i]; omega)] at hB
        (conv => whnf)
        exact hB _ _ _ _ (Body_lv (ih (i + 1) (nI j) _ M2 (by omega) hF2 hw2 (Or.inr ⟨j, qj, rfl, hj, rfl⟩)) ⟨rfl, rfl, rfl, rfl, v_eq (nI_i1 i), trivial⟩)
      · rw [c_ge] at t
        rw [if_pos (by rw [lt_i]; omega)] at hB
        (conv => whnf)
        exact hB _ _ _ _ (Body_lv (ih (i + 1) (nI i) _ M2 (by omega) hF2 hw2 (Or.inr ⟨i, q, rfl, hq, rfl⟩)) ⟨rfl, rfl, rfl, rfl, v_eq (nI_i1 i), trivial⟩)
theorem m_young {d : Nat} {M : Mem} {s : St} {r n : Int32} (h : RM M s) (hv : inv s) : Call (d + 6) 235 [.ref 55, .int r, .int n] M (QP M (.int (aYoung s r n)) s) := by
  refine call_run 400 rfl rfl (fun B Cl Z hZ hB hC => ?_)
  (conv => whnf); refine ret_k hC (m_isRick h.1.1 hv.1.1) ?_
  (conv => whnf); refine ⟨fun a => ?_, fun a => ?_⟩
  · rw [b2_z] at a
    have e9 : aYoung s r n = cI (-1) := if_neg (fun z => a z.1)
    rw [e9] at hZ
    conv => whnf
    exact hZ _ _ (QP_same h FrM_refl)
  rw [b2_z] at a
  have a := Classical.not_not.mp a
  (conv => whnf); refine ret_k hC (m_in) ?_
  rw [kv_0, kv_99]
  (conv => whnf); refine ⟨fun b => ?_, fun b => ?_⟩
  case' refine_2 =>
    rw [b2_nz] at b
    have e9 : aYoung s r n = cI (-1) := if_neg (fun z => b z.2)
    rw [e9] at hZ
    conv => whnf
    exact hZ _ _ (QP_same h FrM_refl)
  rw [b2_nz] at b
  obtain ⟨i, rfl, ei, hi⟩ := to_nI a.1
  obtain ⟨N, rfl, eN, hN⟩ := to_nI b.1
  have e8 : aYoung s (nI i) (nI N) = yC (kp (envS s) (sK s) i) (nI N) ((sK s).getD i []) 0 (cI (-2)) (cI 100) := by
    unfold aYoung
    rw [if_pos ⟨a, b⟩, ei]
    rfl
  rw [e8] at hB
  (conv => whnf)
  refine hC _ _ _ _ _ (m_layNow h.1 hv.1) (fun v M1 y => ?_)
  obtain ⟨rfl, p2, p3⟩ := y
  (conv => whnf)
  exact hB _ _ _ _ (Body_lv (myoung_loop (d := d) h hv (show i < (sK s).length by omega) (show N ≤ 99 by omega) (hgt (sK s) i) 0 (cI (-2)) (cI 100) M1 (by omega) (NOWx p2) p3 (Or.inl ⟨rfl, rfl⟩)) ⟨rfl, rfl, rfl, rfl, rfl, trivial⟩)
/-- sums with a top layer -/
theorem lnX_snoc {w : Nat → Int32} {g : Nat → Lyr → Int32} {q : Lyr} : ∀ (l : List Lyr) (i : Nat) (a : Int32), lnX w g (l ++ [q]) i a = lnX w g l i a + g (i + l.length) q * w q.1
  | [], _, _ => rfl
  | x :: l, i, a => by
    show lnX w g (l ++ [q]) (i + 1) _ = lnX w g l (i + 1) _ + _
    rw [lnX_snoc l, List.length_cons, show i + 1 + l.length = i + (l.length + 1) by omega]
theorem top_split {rk : Rk} {r : Nat} {q : Lyr} (hq : (rk.getD r [])[hgt rk r - 1]? = some q) : rk.getD r [] = (rk.getD r []).take (hgt rk r - 1) ++ [q] ∧ ((rk.getD r []).take (hgt rk r - 1)).length = hgt rk r - 1 ∧ 1 ≤ hgt rk r := by
  have hl := ly_lt hq
  have h1 : (rk.getD r []).take (hgt rk r - 1) ++ [q] = (rk.getD r []).take (hgt rk r - 1 + 1) := by
    rw [List.take_succ, hq]
    rfl
  refine ⟨?_, by rw [List.length_take]; show min _ (hgt rk r) = _; omega, by omega⟩
  rw [h1, List.take_of_length_le (by show hgt rk r ≤ _; omega)]
def pX (E : EnvK) (rk : Rk) (r : Nat) (w : Nat → Int32) : Int32 := lnX w (kpt E.1 E.2.1 (hgt rk r)) ((rk.getD r []).take (hgt rk r - 1)) 0 0
theorem lX_top {E : EnvK} {rk : Rk} {r : Nat} {q : Lyr} (hq : (rk.getD r [])[hgt rk r - 1]? = some q) : lX E rk r = pX E rk r rgt + kp E rk r (hgt rk r - 1) q * rgt q.1 ∧ lY E rk r = pX E rk r dwn + kp E rk r (hgt rk r - 1) q * dwn q.1 ∧ tX E rk r q = pX E rk r rgt ∧ tY E rk r q = pX E rk r dwn := by
  obtain ⟨h1, h2, h3⟩ := top_split hq
  have e1 : lX E rk r = pX E rk r rgt + kp E rk r (hgt rk r - 1) q * rgt q.1 := by
    have : lX E rk r = lnX rgt (kpt E.1 E.2.1 (hgt rk r)) ((rk.getD r []).take (hgt rk r - 1) ++ [q]) 0 0 := by unfold lX; rw [← h1]
    rw [this, lnX_snoc, h2, Nat.zero_add]
    rfl
  have e2 : lY E rk r = pX E rk r dwn + kp E rk r (hgt rk r - 1) q * dwn q.1 := by
    have : lY E rk r = lnX dwn (kpt E.1 E.2.1 (hgt rk r)) ((rk.getD r []).take (hgt rk r - 1) ++ [q]) 0 0 := by unfold lY; rw [← h1]
    rw [this, lnX_snoc, h2, Nat.zero_add]
    rfl
  refine ⟨e1, e2, ?_, ?_⟩
  · unfold tX; rw [e1, ad_sb]
  · unfold tY; rw [e2, ad_sb]
theorem setL_top {rk : Rk} {r j v : Nat} {q : Lyr} (hq : (rk.getD r [])[hgt rk r - 1]? = some q) : ((setL rk r (hgt rk r - 1) j v).getD r [])[hgt (setL rk r (hgt rk r - 1) j v) r - 1]? = some (lySet q j v) ∧ ∀ E w, pX E (setL rk r (hgt rk r - 1) j v) r w = pX E rk r w := by
  have hr := hgt_lt (ly_lt hq)
  refine ⟨?_, fun E w => ?_⟩
  · rw [setL_hgt hr, setL_at hr, if_pos ⟨rfl, rfl⟩, hq]
    rfl
  · unfold pX
    rw [setL_hgt hr]
    congr 1
    unfold setL
    rw [getD_set hr, if_pos rfl]
    apply List.ext_getElem?
    intro i
    rw [List.getElem?_take, List.getElem?_take]
    split
    · have hne : ¬ hgt rk r - 1 = i := by omega
      rw [List.getElem?_modify]
      simp [hne]
    · rfl
theorem okR_set {rk : Rk} {r l j v : Nat} (ho : okR rk) (hl : l < hgt rk r) (hj : j < 4) (hv : okV j v) : okR (setL rk r l j v) := by
  have hr := hgt_lt hl
  refine ⟨by rw [setL_len]; exact ho.1, fun r' => by rw [setL_hgt hr]; exact ho.2.1 r', fun r' l' q hq => ?_⟩
  rw [setL_at hr] at hq
  split at hq
  · obtain ⟨q0, hq0, rfl⟩ := Option.map_eq_some_iff.mp hq
    exact okL_set hj (ho.2.2 _ _ _ hq0) hv
  · exact ho.2.2 _ _ _ hq
theorem YM_set {M M' : Mem} {rk : Rk} {r l j v : Nat} (h : YM M 75 rk) (ho : okR rk) (hl : l < hgt rk r) (hj : j < 4) (h0 : M'.1 75 = M.1 75) (hc : ∀ i, i < 4 → M'.1 (76 + i) = if i = j then upd (M.1 (76 + i)) (12 * r + l) (nI v) else M.1 (76 + i)) : YM M' 75 (setL rk r l j v) := by
  have hr := hgt_lt hl
  intro r' hr'
  refine ⟨?_, fun l' x hx i hi => ?_⟩
  · rw [setL_len] at hr'
    rw [setL_hgt hr, h0]
    exact (h r' hr').1
  · have hl' := ly_lt hx
    rw [setL_hgt hr] at hl'
    have b1 := ho.2.1 r
    have b2 := ho.2.1 r'
    rw [setL_at hr] at hx
    show M'.1 (75 + 1 + i) _ = _
    rw [show 75 + 1 + i = 76 + i by omega, hc i hi]
    by_cases z : r' = r ∧ l' = l
    · rw [if_pos z] at hx
      obtain ⟨x0, hx0, rfl⟩ := Option.map_eq_some_iff.mp hx
      rw [lyF_set hj hi]
      split
      · unfold upd
        rw [if_pos (by rw [z.1, z.2])]
      · have := (h r hr).2 l x0 hx0 i hi
        rw [z.1, z.2]
        rw [show 75 + 1 + i = 76 + i by omega] at this
        exact this
    · rw [if_neg z] at hx
      have := (h r' (hgt_lt hl')).2 l' x hx i hi
      rw [show 75 + 1 + i = 76 + i by omega] at this
      split
      · unfold upd
        rw [if_neg (fun w => z (by
          have : r' = r := by omega
          subst this
          exact ⟨rfl, by omega⟩))]
        exact this
      · exact this
def cntP (p : Nat → Bool) : Nat → Nat
  | 0 => 0
  | k + 1 => cntP p k + (if p (k + 1) = true then 1 else 0)
def lstP (p : Nat → Bool) : Nat → Int32
  | 0 => cI (-2)
  | k + 1 => if p (k + 1) = true then nI (k + 1) else lstP p k
theorem tb91 {p : Nat → Bool} {j : Nat} : (tbl p 9 1 0).testBit j = (decide (1 ≤ j ∧ j < 10) && p j) := by
  rw [tbl_tb, Nat.zero_testBit, Bool.false_or]
theorem cnt_e {p : Nat → Bool} : ∀ k, k ≤ 9 → pcn (tbl p 9 1 0) (k + 1) = cntP p k
  | 0, _ => by
    unfold pcn
    rw [tb91]
    rfl
  | k + 1, h => by
    rw [pcn, cnt_e k (by omega), tb91, decide_eq_true (show 1 ≤ k + 1 ∧ k + 1 < 10 by omega), Bool.true_and]
    rfl
theorem cnt_9 {p : Nat → Bool} : pcn (tbl p 9 1 0) 12 = cntP p 9 := by
  rw [← cnt_e 9 (Nat.le_refl _), show (12 : Nat) = 10 + 1 + 1 from rfl, pcn, pcn, tb91, tb91]
  simp
theorem lst_e {p : Nat → Bool} : ∀ k, k ≤ 9 → gtr (tbl p 9 1 0) k = lstP p k
  | 0, _ => rfl
  | k + 1, h => by
    rw [gtr, lst_e k (by omega), tb91, decide_eq_true (show 1 ≤ k + 1 ∧ k + 1 < 10 by omega), Bool.true_and]
    rfl
