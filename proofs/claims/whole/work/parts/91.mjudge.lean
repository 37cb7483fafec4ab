/-! the reference: likely, mean, judge, youngest -/
theorem lk_7 : (nth (0, 0, 0, 0) ltL 7).2.2.1 = noL := by decide +kernel
theorem m_likely {d : Nat} {M : Mem} {s : St} {x t p : Int32} (h : RM M s) (hv : inv s) : Call (d + 3) 230 [.ref 55, .int x, .int t, .int p] M (QP M (.long (aLikely s x t p)) s) := by
  have out : ¬ ((0 ≤ x.toInt ∧ x.toInt.toNat / 10 < (sK s).length) ∧ (1 ≤ x.toInt.toNat % 10 ∧ x.toInt.toNat % 10 ≤ 7) ∧ (0 ≤ t.toInt ∧ t.toInt ≤ 12) ∧ 0 ≤ p.toInt ∧ p.toInt ≤ 1) → aLikely s x t p = noL := fun z => if_neg z
  have h4 := hv.1.1
  refine call_run 400 rfl rfl (fun B Cl Z hZ hB hC => ?_)
  (conv => whnf); refine ⟨fun a => ?_, fun a => ?_⟩
  · simp only [c_lt, c_gt, c_le, c_ge, c_eq, c_ne, b2_z, b2_nz, b2_i, Classical.not_not, t0, t1, Nat.reduceMod, Nat.reduceDiv, Int.reduceAdd, Int.reduceNeg, Nat.reduceAdd, kv_0, kv_1, kv_7, kv_10, kv_12, kc_0, kc_1, kc_7, kc_10, kc_12] at a
    rw [out (by omega)] at hZ
    conv => whnf
    rw [lk_7]
    exact hZ _ _ (QP_same h FrM_refl)
  simp only [c_lt, c_gt, c_le, c_ge, c_eq, c_ne, b2_z, b2_nz, b2_i, Classical.not_not, t0, t1, Nat.reduceMod, Nat.reduceDiv, Int.reduceAdd, Int.reduceNeg, Nat.reduceAdd, kv_0, kv_1, kv_7, kv_10, kv_12, kc_0, kc_1, kc_7, kc_10, kc_12] at a
  obtain ⟨n, rfl, en, hn⟩ := to_nI (x := x) (by omega)
  have e0 : (nI n).toInt.toNat = n := by rw [en]; rfl
  rw [e0] at out
  have y1 : nI n / cI 10 = nI (n / 10) := nI_div (b := 10) hn (by decide)
  have y2 : nI n - nI n / cI 10 * cI 10 = nI (n % 10) := nI_rem (b := 10) hn (by decide)
  have f1 := nI_v (n := n / 10) (by omega)
  have f2 := nI_v (n := n % 10) (by omega)
  (conv => whnf)
  refine ⟨by decide, ?_⟩
  (conv => whnf)
  rw [y1]
  refine ret_k hC (m_isRick h.1.1 h4) ?_
  (conv => whnf); refine ⟨fun b => ?_, fun b => ?_⟩
  · rw [b2_z, f1] at b
    rw [out (by omega)] at hZ
    conv => whnf
    rw [lk_7]
    exact hZ _ _ (QP_same h FrM_refl)
  rw [b2_z, f1] at b
  have b := Classical.not_not.mp b
  (conv => whnf)
  refine ⟨by decide, ?_⟩
  (conv => whnf)
  rw [y2]
  refine ret_k hC (m_in) ?_
  rw [kv_1, kv_7, f2]
  (conv => whnf); refine ⟨fun c => ?_, fun c => ?_⟩
  · rw [b2_z] at c
    rw [out (by omega)] at hZ
    conv => whnf
    rw [lk_7]
    exact hZ _ _ (QP_same h FrM_refl)
  rw [b2_z] at c
  have c := Classical.not_not.mp c
  (conv => whnf); refine ret_k hC (m_in) ?_
  rw [kv_0, kv_12]
  (conv => whnf); refine ⟨fun g => ?_, fun g => ?_⟩
  · rw [b2_z] at g
    rw [out (by omega)] at hZ
    conv => whnf
    rw [lk_7]
    exact hZ _ _ (QP_same h FrM_refl)
  rw [b2_z] at g
  have g := Classical.not_not.mp g
  (conv => whnf); refine ret_k hC (m_in) ?_
  rw [kv_0, kv_1]
  (conv => whnf); refine ⟨fun k => ?_, fun k => ?_⟩
  case' refine_2 =>
    rw [b2_nz] at k
    rw [out (by omega)] at hZ
    conv => whnf
    rw [lk_7]
    exact hZ _ _ (QP_same h FrM_refl)
  rw [b2_nz] at k
  obtain ⟨m, rfl, em, hm⟩ := to_nI g.1
  obtain ⟨q, rfl, eq, hq⟩ := to_nI k.1
  have e8 : aLikely s (nI n) (nI m) (nI q) = lN (lkl ((sK s).getD (n / 10) []) (n % 10) m q) := by
    unfold aLikely
    rw [e0, em, eq, if_pos (by omega)]
    rfl
  rw [e8] at hB
  (conv => whnf)
  refine ⟨by decide, ?_⟩
  (conv => whnf)
  exact hB _ _ _ _ (Body_lv (mlik_loop (d := d + 1) (r := n / 10) (x := n) h hv (show n / 10 < (sK s).length by omega) hn rfl (show m ≤ 12 by omega) (show q < 2 by omega) (hgt (sK s) (n / 10)) 0 0 (by omega) (by rw [List.drop_zero, Nat.zero_add])) ⟨rfl, rfl, rfl, rfl, v_eq y1, rfl, rfl, trivial⟩)
theorem mmean_loop {d r p : Nat} {M0 : Mem} {s : St} (h : RM M0 s) (hv : inv s) (hr : r < (sK s).length) (hp : p < 2) : ∀ (m i a : Nat) (M : Mem), i + m = hgt (sK s) r → FrM XM XJ M0 M → YM M 75 (sK s) → a + sumN (envS s) (hgt (sK s) r) (((sK s).getD r []).drop i) i = sumN (envS s) (hgt (sK s) r) ((sK s).getD r []) 0 →
    BodyK (d + 6) 231 30 [(0, .ref 55), (1, .int (nI r)), (2, .int (nI p)), (3, .long (lN a)), (5, .int (nI i))] [] M (QP M0 (.long (lN (lowN (sumN (envS s) (hgt (sK s) r) ((sK s).getD r []) 0) (hgt (sK s) r) p))) s) := by
  have h4 := hv.1.1
  have h12 := hv.1.2.1 r
  have eh := nI_v (n := hgt (sK s) r) (by omega)
  have hs := sumN_le (E := envS s) (h := hgt (sK s) r) ((sK s).getD r []) 0
  replace hs : sumN (envS s) (hgt (sK s) r) ((sK s).getD r []) 0 ≤ 9 * hgt (sK s) r := hs
  have vr : vp_in (nI r) 4 := nI_vp (by omega) (by decide)
  have cr := nI_c (n := r) (by omega)
  have rd : ∀ M, FrM XM XJ M0 M → M.1 56 (nI r).toNatClampNeg = nI (hgt (sK s) r) := fun M hf => by rw [cr]; exact ((RM_x h hf).1.2 r hr).1
  intro m
  induction m with
  | zero =>
    intro i a M hi hF hw ha
    obtain rfl : i = hgt (sK s) r := by omega
    have hd : ((sK s).getD r []).drop (hgt (sK s) r) = [] := List.drop_eq_nil_of_le (Nat.le_refl _)
    rw [hd] at ha
    replace ha : a = sumN (envS s) (hgt (sK s) r) ((sK s).getD r []) 0 := ha
    rw [← ha]
    have r56 := rd M hF
    have e2 : (nI (hgt (sK s) r)).toInt64 = lN (hgt (sK s) r) := nI_l2 (by omega)
    refine body_run 400 rfl (fun B Cl Z hZ hB hC => ?_)
    (conv => whnf)
    refine ⟨vr, ?_⟩
    (conv => whnf); refine ⟨fun b => ?_, fun b => ?_⟩
    case' refine_2 =>
      replace b : ¬ cnd .ge (nI (hgt (sK s) r)) (M.1 56 (nI r).toNatClampNeg) := b
      rw [r56, c_ge] at b
      omega
    (conv => whnf)
    refine ⟨vr, ?_⟩
    (conv => whnf)
    rw [r56, e2]
    refine ret_k hC (m_lowest (by omega) (by omega) hp (by omega)) ?_
    conv => whnf
    exact hZ _ _ (QP_same h hF)
  | succ m ih =>
    intro i a M hi hF hw ha
    have ei := nI_v (n := i) (by omega)
    obtain ⟨q, hq⟩ := ly_at (rk := sK s) (r := r) (l := i) (by omega)
    rw [drop_at hq, sumN_cons] at ha
    have hk := kN_e (envS s) (hgt (sK s) r) i q
    have r56 := rd M hF
    refine body_run 400 rfl (fun B Cl Z hZ hB hC => ?_)
    (conv => whnf)
    refine ⟨vr, ?_⟩
    (conv => whnf); refine ⟨fun b => ?_, fun b => ?_⟩
    · replace b : cnd .ge (nI i) (M.1 56 (nI r).toNatClampNeg) := b
      rw [r56, c_ge, eh, ei] at b
      omega
    (conv => whnf)
    refine hC _ _ _ _ _ (m_keptAt (RM_x h hF) hv hw hv.1 hq) (fun v M1 y => ?_)
    obtain ⟨rfl, y2⟩ := y
    rw [show kp (envS s) (sK s) r i q = nI (kN (envS s) (hgt (sK s) r) i q) from hk.1]
    have e3 : lN a + (nI (kN (envS s) (hgt (sK s) r) i q)).toInt64 = lN (a + kN (envS s) (hgt (sK s) r) i q) := by rw [nI_l2 (by omega), lN_ad]
    (conv => whnf)
    exact hB _ _ _ _ (Body_lv (ih (i + 1) (a + kN (envS s) (hgt (sK s) r) i q) M1 (by omega) (FrM_trans hF (KJx y2)) (YM_f hw y2 (by decide)) (by omega)) ⟨rfl, rfl, rfl, congrArg (fun z => some (Value.long z)) e3, v_eq (nI_i1 i), trivial⟩)
theorem m_mean {d : Nat} {M : Mem} {s : St} {r p : Int32} (h : RM M s) (hv : inv s) : Call (d + 6) 231 [.ref 55, .int r, .int p] M (QP M (.long (aMean s r p)) s) := by
  refine call_run 400 rfl rfl (fun B Cl Z hZ hB hC => ?_)
  (conv => whnf); refine ret_k hC (m_isRick h.1.1 hv.1.1) ?_
  (conv => whnf); refine ⟨fun a => ?_, fun a => ?_⟩
  · rw [b2_z] at a
    have e9 : aMean s r p = noL := if_neg (fun z => a z.1)
    rw [e9] at hZ
    conv => whnf
    rw [lk_7]
    exact hZ _ _ (QP_same h FrM_refl)
  rw [b2_z] at a
  have a := Classical.not_not.mp a
  (conv => whnf); refine ret_k hC (m_in) ?_
  rw [kv_0, kv_1]
  (conv => whnf); refine ⟨fun b => ?_, fun b => ?_⟩
  case' refine_2 =>
    rw [b2_nz] at b
    have e9 : aMean s r p = noL := if_neg (fun z => b z.2)
    rw [e9] at hZ
    conv => whnf
    rw [lk_7]
    exact hZ _ _ (QP_same h FrM_refl)
  rw [b2_nz] at b
  obtain ⟨i, rfl, ei, hi⟩ := to_nI a.1
  obtain ⟨m, rfl, em, hm⟩ := to_nI b.1
  have e8 : aMean s (nI i) (nI m) = lN (lowN (sumN (envS s) (hgt (sK s) i) ((sK s).getD i []) 0) (hgt (sK s) i) m) := by
    unfold aMean
    rw [if_pos ⟨a, b⟩, ei, em]
    rfl
  rw [e8] at hB
  (conv => whnf)
  refine hC _ _ _ _ _ (m_layNow h.1 hv.1) (fun v M1 y => ?_)
  obtain ⟨rfl, p2, p3⟩ := y
  (conv => whnf)
  exact hB _ _ _ _ (Body_lv (mmean_loop (d := d) h hv (show i < (sK s).length by omega) (show m < 2 by omega) (hgt (sK s) i) 0 0 M1 (by omega) (NOWx p2) p3 (by rw [List.drop_zero, Nat.zero_add])) ⟨rfl, rfl, rfl, rfl, rfl, trivial⟩)
theorem nrw_way {x : Int64} {n : Nat} (h : nrw 0 x = x) (hn : n < 8) : (x.toInt32 = nI n) = (x.toInt = (n : Int)) := by
  have e : x.toInt32.toInt8.toInt32.toInt64 = x := h
  have e2 : x.toInt32.toInt = x.toInt := by
    have h1 : x.toInt = x.toInt32.toInt8.toInt32.toInt64.toInt := by rw [e]
    rw [l_x] at h1
    have h3 : x.toInt32 = x.toInt32.toInt8.toInt32 := by
      have := congrArg Int64.toInt32 e
      rw [Int32.toInt32_toInt64] at this
      exact this.symm
    rw [h1, ← h3]
  apply propext
  constructor
  · intro q
    rw [← e2, q, nI_v (by omega)]
  · intro q
    exact Int32.toInt_inj.mp (by rw [e2, q, nI_v (by omega)])
theorem mjudge_loop {d i r : Nat} {M : Mem} {s : St} {l : List Int64} (h : RM M s) (hv : inv s) (hi : i < 6) (hs : sSh s i = some (.inr (0, l))) (hr : r < (sK s).length) : ∀ (m k : Nat), k + m = l.length →
    BodyK (d + 2) 232 35 [(0, .ref 55), (1, .int (nI i)), (2, .int (nI r)), (3, .int (nI k))] [] M (QP M (.int (jdg ((sK s).getD r []) (l.drop k) k)) s) := by
  have hb := hv.2.2.2.1 i hi
  rw [hs] at hb
  have hl60 := hb.2.2
  have hnr : ∀ x ∈ l, nrw 0 x = x := hb.1
  have h4 := hv.1.1
  have h12 := hv.1.2.1 r
  have eh := nI_v (n := hgt (sK s) r) (by omega)
  have el := nI_v (n := l.length) (by omega)
  have vr : vp_in (nI r) 4 := nI_vp (by omega) (by decide)
  have cr := nI_c (n := r) (by omega)
  have vi : vp_in (nI i) 6 := nI_vp hi (by decide)
  have ci := nI_c (n := i) (by omega)
  have m56 : M.1 56 (nI r).toNatClampNeg = nI (hgt (sK s) r) := by rw [cr]; exact (h.1.2 r hr).1
  have hsz : M.1 96 (nI i).toNatClampNeg = nI l.length := by
    have := h.2.2.2.2.2.2.2.2.1 i hi
    rw [hs] at this
    rw [ci]
    exact this.2.1
  intro m
  induction m with
  | zero =>
    intro k hk
    have hd : l.drop k = [] := List.drop_eq_nil_of_le (by omega)
    rw [hd]
    have ek := nI_v (n := k) (by omega)
    refine body_run 400 rfl (fun B Cl Z hZ hB hC => ?_)
    (conv => whnf)
    refine ⟨vi, ?_⟩
    (conv => whnf); refine ⟨fun b => ?_, fun b => ?_⟩
    · conv => whnf
      exact hZ _ _ (QP_same h FrM_refl)
    · replace b : ¬ cnd .ge (nI k) (M.1 96 (nI i).toNatClampNeg) := b
      rw [hsz, c_ge, el, ek] at b
      omega
  | succ m ih =>
    intro k hk
    have ek := nI_v (n := k) (by omega)
    have hlt : k < l.length := by omega
    have hx := List.getElem?_eq_getElem hlt
    have hmem : l[k] ∈ l := List.getElem_mem hlt
    have hd : l.drop k = l[k] :: l.drop (k + 1) := List.drop_eq_getElem_cons hlt
    generalize l[k] = y at hx hd hmem
    rw [hd]
    refine body_run 400 rfl (fun B Cl Z hZ hB hC => ?_)
    (conv => whnf)
    refine ⟨vi, ?_⟩
    (conv => whnf); refine ⟨fun b => ?_, fun b => ?_⟩
    · replace b : cnd .ge (nI k) (M.1 96 (nI i).toNatClampNeg) := b
      rw [hsz, c_ge, el, ek] at b
      omega
    (conv => whnf)
    refine ⟨vr, ?_⟩
    (conv => whnf); refine ⟨fun g => ?_, fun g => ?_⟩
    · replace g : cnd .ge (nI k) (M.1 56 (nI r).toNatClampNeg) := g
      rw [m56, c_ge, eh, ek] at g
      have e9 : jdg ((sK s).getD r []) (y :: l.drop (k + 1)) k = nI k := by
        unfold jdg
        rw [if_neg (show ¬ k < ((sK s).getD r []).length from (by show ¬ k < hgt (sK s) r; omega))]
      rw [e9] at hZ
      conv => whnf
      exact hZ _ _ (QP_same h FrM_refl)
    replace g : ¬ cnd .ge (nI k) (M.1 56 (nI r).toNatClampNeg) := g
    rw [m56, c_ge, eh, ek] at g
    obtain ⟨q, hq⟩ := ly_at (rk := sK s) (r := r) (l := hgt (sK s) r - 1 - k) (by omega)
    have hql := (hv.1.2.2 _ _ _ hq).1
    have e9 : jdg ((sK s).getD r []) (y :: l.drop (k + 1)) k = if y.toInt = (q.1 : Int) then jdg ((sK s).getD r []) (l.drop (k + 1)) (k + 1) else nI k := by
      rw [show jdg ((sK s).getD r []) (y :: l.drop (k + 1)) k = (match (if k < ((sK s).getD r []).length then ((sK s).getD r [])[((sK s).getD r []).length - 1 - k]? else none) with | some q => if y.toInt = (q.1 : Int) then jdg ((sK s).getD r []) (l.drop (k + 1)) (k + 1) else nI k | none => nI k) from rfl]
      rw [if_pos (show k < ((sK s).getD r []).length from (by show k < hgt (sK s) r; omega)), show ((sK s).getD r [])[((sK s).getD r []).length - 1 - k]? = some q from hq]
    rw [e9] at hZ hB
    have e7 : cI 12 * nI r + nI (hgt (sK s) r) - cI 1 - nI k = nI (12 * r + (hgt (sK s) r - 1 - k)) := by
      rw [show cI 12 = nI 12 from rfl, nI_mul, nI_add, show nI (12 * r + hgt (sK s) r) - cI 1 = nI (12 * r + hgt (sK s) r - 1) from nI_sub (b := 1) (by omega), nI_sub (by omega)]
      congr 1
      omega
    have hway := (h.1.2 r hr).2 _ q hq 0 (by decide)
    replace hway : M.1 57 (12 * r + (hgt (sK s) r - 1 - k)) = nI q.1 := hway
    (conv => whnf); refine ret_k hC (m_at h hv hi hs hx) ?_
    (conv => whnf)
    refine ⟨vr, ?_⟩
    (conv => whnf)
    rw [m56, e7]
    refine ⟨nI_vp (by omega) (by decide), ?_⟩
    (conv => whnf); refine ⟨fun u => ?_, fun u => ?_⟩
    · replace u : y.toInt32 = M.1 57 (nI (12 * r + (hgt (sK s) r - 1 - k))).toNatClampNeg := u
      rw [nI_c (by omega), hway, nrw_way (hnr y hmem) hql] at u
      rw [if_pos u] at hB
      (conv => whnf)
      exact hB _ _ _ _ (Body_lv (ih (k + 1) (by omega)) ⟨rfl, rfl, rfl, v_eq (nI_i1 k), trivial⟩)
    · replace u : ¬ y.toInt32 = M.1 57 (nI (12 * r + (hgt (sK s) r - 1 - k))).toNatClampNeg := u
      rw [nI_c (by omega), hway, nrw_way (hnr y hmem) hql] at u
      rw [if_neg u] at hZ
      conv => whnf
      exact hZ _ _ (QP_same h FrM_refl)
theorem m_judge {d : Nat} {M : Mem} {s : St} {x r : Int32} (h : RM M s) (hv : inv s) : Call (d + 3) 232 [.ref 55, .int x, .int r] M (QP M (.int (aJudge s x r)) s) := by
  have out : ¬ ((0 ≤ x.toInt ∧ x.toInt < 6) ∧ 0 ≤ r.toInt ∧ r.toInt < ((sK s).length : Int)) → aJudge s x r = cI (-1) := fun z => if_neg z
  refine call_run 400 rfl rfl (fun B Cl Z hZ hB hC => ?_)
  (conv => whnf); refine ret_k hC (m_isShelf) ?_
  (conv => whnf); refine ⟨fun a => ?_, fun a => ?_⟩
  · rw [b2_z] at a
    rw [out (fun z => a z.1)] at hZ
    conv => whnf
    exact hZ _ _ (QP_same h FrM_refl)
  rw [b2_z] at a
  have a := Classical.not_not.mp a
  (conv => whnf); refine ret_k hC (m_isRick h.1.1 hv.1.1) ?_
  (conv => whnf); refine ⟨fun b => ?_, fun b => ?_⟩
  case' refine_2 =>
    rw [b2_nz] at b
    rw [out (fun z => b z.2)] at hZ
    conv => whnf
    exact hZ _ _ (QP_same h FrM_refl)
  rw [b2_nz] at b
  obtain ⟨i, rfl, ei, hi⟩ := to_nI a.1
  obtain ⟨j, rfl, ej, hj⟩ := to_nI b.1
  have hi6 : i < 6 := by omega
  have e8 : aJudge s (nI i) (nI j) = (match rowL (sSh s i) 0 with
    | some l => jdg ((sK s).getD j []) l 0
    | none => rfu (sSh s i) 0) := by
    unfold aJudge
    rw [if_pos ⟨a, b⟩, ei, ej]
    rfl
  rw [e8] at hZ hB
  (conv => whnf); refine ret_k hC (m_rowFault (t := 0) h hv hi6 (by decide)) ?_
  rcases rowL_c (sSh s i) 0 with ⟨l, q1, q2, q3⟩ | ⟨q1, q2⟩
  · rw [q2] at hB
    rw [q3]
    (conv => whnf); refine ⟨fun k => ?_, fun k => ?_⟩
    case' refine_2 => exact absurd (show cnd .ge (cI 0) 0 by rw [c_ge]; decide) k
    (conv => whnf)
    exact hB _ _ _ _ (Body_lv (mjudge_loop (d := d + 1) h hv hi6 q1 (show j < (sK s).length by omega) l.length 0 (by omega)) ⟨rfl, rfl, rfl, rfl, trivial⟩)
  · rw [q1] at hZ
    (conv => whnf); refine ⟨fun k => ?_, fun k => ?_⟩
    · rw [c_ge, t0] at k
      omega
    · (conv => whnf); refine ret_k hC (m_rowFault (t := 0) h hv hi6 (by decide)) ?_
      conv => whnf
      exact hZ _ _ (QP_same h FrM_refl)
