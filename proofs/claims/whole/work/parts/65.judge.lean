/-! mean, judge, hours, youngest -/
def kN (E : EnvK) (h i : Nat) (q : Lyr) : Nat := (kpt E.1 E.2.1 h i q).toInt.toNat
theorem kN_e (E : EnvK) (h i : Nat) (q : Lyr) : kpt E.1 E.2.1 h i q = nI (kN E h i q) ∧ kN E h i q ≤ 9 := by
  have := amt_r E.1 E.2.1 (nI q.2.1) (nI q.2.2.2) (nI q.2.2.1) (nI i) (nI (h - 1 - i))
  obtain ⟨n, h1, h2, h3⟩ := to_nI (x := kpt E.1 E.2.1 h i q) this.1
  have h4 : (kpt E.1 E.2.1 h i q).toInt ≤ 9 := this.2
  unfold kN
  rw [h2]
  exact ⟨by rw [h1]; rfl, by omega⟩
def sumN (E : EnvK) (h : Nat) : List Lyr → Nat → Nat
  | [], _ => 0
  | q :: l, i => kN E h i q + sumN E h l (i + 1)
theorem sumN_cons {E : EnvK} {h i : Nat} {q : Lyr} {l : List Lyr} : sumN E h (q :: l) i = kN E h i q + sumN E h l (i + 1) := rfl
theorem sumN_le {E : EnvK} {h : Nat} : ∀ (l : List Lyr) (i : Nat), sumN E h l i ≤ 9 * l.length
  | [], _ => Nat.le_refl _
  | q :: l, i => by
    have h1 := sumN_le (E := E) (h := h) l (i + 1)
    have h2 := (kN_e E h i q).2
    unfold sumN
    rw [List.length_cons]
    omega
def aMean (s : St) (r p : Int32) : Int64 :=
  if (0 ≤ r.toInt ∧ r.toInt < ((sK s).length : Int)) ∧ 0 ≤ p.toInt ∧ p.toInt ≤ 1 then lN (lowN (sumN (envS s) (hgt (sK s) r.toInt.toNat) ((sK s).getD r.toInt.toNat []) 0) (hgt (sK s) r.toInt.toNat) p.toInt.toNat) else noL
theorem drop_at {l : List Lyr} {i : Nat} {q : Lyr} (h : l[i]? = some q) : l.drop i = q :: l.drop (i + 1) := by
  have hlt : i < l.length := by
    rcases Nat.lt_or_ge i l.length with z | z
    · exact z
    · rw [List.getElem?_eq_none z] at h; cases h
  rw [List.drop_eq_getElem_cons hlt]
  rw [List.getElem?_eq_getElem hlt] at h
  cases h
  rfl
theorem mean_loop {d c r p : Nat} {M0 : Mem} {s : St} (h : RC c M0 s) (hr : r < (sK s).length) (hp : p < 2) : ∀ (m i a : Nat) (M : Mem), i + m = hgt (sK s) r → Fr AX M0 M → a + sumN (envS s) (hgt (sK s) r) (((sK s).getD r []).drop i) i = sumN (envS s) (hgt (sK s) r) ((sK s).getD r []) 0 →
    BodyK (d + 5) 115 39 [(0, .ref 0), (1, .int (nI r)), (2, .int (nI p)), (3, .int (nI (hgt (sK s) r))), (4, .int (nI a)), (5, .int (nI i))] [] M (RP c M0 (.long (lN (lowN (sumN (envS s) (hgt (sK s) r) ((sK s).getD r []) 0) (hgt (sK s) r) p))) s) := by
  have h12 : hgt (sK s) r ≤ 12 := h.k.2.2.2.1 r
  have eh := nI_v (n := hgt (sK s) r) (by omega)
  have hs := sumN_le (E := envS s) (h := hgt (sK s) r) ((sK s).getD r []) 0
  replace hs : sumN (envS s) (hgt (sK s) r) ((sK s).getD r []) 0 ≤ 9 * hgt (sK s) r := hs
  intro m
  induction m with
  | zero =>
    intro i a M hi hF ha
    obtain rfl : i = hgt (sK s) r := by omega
    have hd : ((sK s).getD r []).drop (hgt (sK s) r) = [] := List.drop_eq_nil_of_le (Nat.le_refl _)
    rw [hd] at ha
    replace ha : a = sumN (envS s) (hgt (sK s) r) ((sK s).getD r []) 0 := ha
    rw [← ha]
    refine body_run 400 rfl (fun B Cl Z hZ hB hC => ?_)
    (conv => whnf); refine ⟨fun b => ?_, fun b => ?_⟩
    case' refine_2 =>
      simp only [c_lt, c_gt, c_le, c_ge, c_eq, c_ne, b2_z, b2_nz, b2_i, Classical.not_not, t0, t1, Nat.reduceMod, Nat.reduceDiv, Int.reduceAdd, Int.reduceNeg, Nat.reduceAdd, kv_0, kv_1, kc_0, kc_1, eh] at b
      omega
    (conv => whnf)
    have e1 : (nI a).toInt64 = lN a := nI_l2 (by omega)
    have e2 : (nI (hgt (sK s) r)).toInt64 = lN (hgt (sK s) r) := nI_l2 (by omega)
    rw [e1, e2]
    refine ret_k hC (sp_lowest (by omega) (by omega) (by omega) hp) ?_
    conv => whnf
    exact hZ _ _ (RP_same h hF)
  | succ m ih =>
    intro i a M hi hF ha
    have ei := nI_v (n := i) (by omega)
    have hR := RC_fr h hF
    obtain ⟨q, hq⟩ := ly_at (rk := sK s) (r := r) (l := i) (by omega)
    rw [drop_at hq] at ha
    have hk := kN_e (envS s) (hgt (sK s) r) i q
    refine body_run 400 rfl (fun B Cl Z hZ hB hC => ?_)
    (conv => whnf); refine ⟨fun b => ?_, fun b => ?_⟩
    · simp only [c_lt, c_gt, c_le, c_ge, c_eq, c_ne, b2_z, b2_nz, b2_i, Classical.not_not, t0, t1, Nat.reduceMod, Nat.reduceDiv, Int.reduceAdd, Int.reduceNeg, Nat.reduceAdd, kv_0, kv_1, kc_0, kc_1, eh, ei] at b
      omega
    (conv => whnf)
    refine hC _ _ _ _ _ (sp_kept (by simp [isYd]) hR.k hR.e.1 hq) (fun v M1 y => ?_)
    obtain ⟨rfl, y2⟩ := y
    rw [hR.e.2.1, hk.1]
    (conv => whnf)
    rw [nI_add]
    exact hB _ _ _ _ (Body_lv (ih (i + 1) (a + kN (envS s) (hgt (sK s) r) i q) M1 (by omega) (Fr_trans hF (Fr_sub y2 (by decide))) (by rw [← ha, sumN_cons]; omega)) ⟨rfl, rfl, rfl, rfl, rfl, v_eq (nI_i1 i), trivial⟩)
theorem pb_mean {d c : Nat} {M : Mem} {s : St} {r p : Int32} (h : RC c M s) : Call (d + 5) 115 [.ref 0, .int r, .int p] M (RP c M (.long (aMean s r p)) s) := by
  have h1 := h.k
  refine call_run 400 rfl rfl (fun B Cl Z hZ hB hC => ?_)
  (conv => whnf); refine ret_k hC (sp_hasRick (by simp [isYd]) h1) ?_
  (conv => whnf); refine ⟨fun a => ?_, fun a => ?_⟩
  · rw [b2_z] at a
    have e9 : aMean s r p = noL := if_neg (fun z => a z.1)
    rw [e9] at hZ
    conv => whnf
    rw [lk_2]
    exact hZ _ _ (RP_same h Fr_refl)
  rw [b2_z] at a
  have a := Classical.not_not.mp a
  (conv => whnf); refine ⟨fun b => ?_, fun b => ?_⟩
  · simp only [c_lt, c_gt, c_le, c_ge, c_eq, c_ne, b2_z, b2_nz, b2_i, Classical.not_not, t0, t1, Nat.reduceMod, Nat.reduceDiv, Int.reduceAdd, Int.reduceNeg, Nat.reduceAdd, kv_0, kv_1, kc_0, kc_1] at b
    have e9 : aMean s r p = noL := if_neg (by omega)
    rw [e9] at hZ
    conv => whnf
    rw [lk_2]
    exact hZ _ _ (RP_same h Fr_refl)
  simp only [c_lt, c_gt, c_le, c_ge, c_eq, c_ne, b2_z, b2_nz, b2_i, Classical.not_not, t0, t1, Nat.reduceMod, Nat.reduceDiv, Int.reduceAdd, Int.reduceNeg, Nat.reduceAdd, kv_0, kv_1, kc_0, kc_1] at b
  (conv => whnf); refine ⟨fun g => ?_, fun g => ?_⟩
  case' refine_2 =>
    simp only [c_lt, c_gt, c_le, c_ge, c_eq, c_ne, b2_z, b2_nz, b2_i, Classical.not_not, t0, t1, Nat.reduceMod, Nat.reduceDiv, Int.reduceAdd, Int.reduceNeg, Nat.reduceAdd, kv_0, kv_1, kc_0, kc_1] at g
    have e9 : aMean s r p = noL := if_neg (by omega)
    rw [e9] at hZ
    conv => whnf
    rw [lk_2]
    exact hZ _ _ (RP_same h Fr_refl)
  simp only [c_lt, c_gt, c_le, c_ge, c_eq, c_ne, b2_z, b2_nz, b2_i, Classical.not_not, t0, t1, Nat.reduceMod, Nat.reduceDiv, Int.reduceAdd, Int.reduceNeg, Nat.reduceAdd, kv_0, kv_1, kc_0, kc_1] at g
  obtain ⟨i, rfl, ei, hi⟩ := to_nI a.1
  obtain ⟨m, rfl, em, hm⟩ := to_nI (x := p) (by omega)
  have hi4 : i < 4 := by have := h1.2.1; omega
  have e8 : aMean s (nI i) (nI m) = lN (lowN (sumN (envS s) (hgt (sK s) i) ((sK s).getD i []) 0) (hgt (sK s) i) m) := by
    unfold aMean
    rw [if_pos (by omega), ei, em]
    rfl
  rw [e8] at hB
  (conv => whnf); refine ret_k hC (sp_height (r := i) (by simp [isYd]) h1 hi4) ?_
  (conv => whnf)
  exact hB _ _ _ _ (Body_lv (mean_loop (d := d) h (show i < (sK s).length by omega) (show m < 2 by omega) (hgt (sK s) i) 0 0 M (by omega) Fr_refl (by rw [List.drop_zero]; omega)) ⟨rfl, rfl, rfl, rfl, rfl, rfl, trivial⟩)
def jdg (ls : List Lyr) : List Int64 → Nat → Int32
  | [], _ => cI (-2)
  | x :: l, i => match (if i < ls.length then ls[ls.length - 1 - i]? else none) with
    | some q => if x.toInt = (q.1 : Int) then jdg ls l (i + 1) else nI i
    | none => nI i
def aJudge (s : St) (x r : Int32) : Int32 :=
  if (0 ≤ x.toInt ∧ x.toInt < 6) ∧ 0 ≤ r.toInt ∧ r.toInt < ((sK s).length : Int) then (match rowL (sSh s x.toInt.toNat) 0 with
    | some l => jdg ((sK s).getD r.toInt.toNat []) l 0
    | none => rfu (sSh s x.toInt.toNat) 0) else cI (-1)
theorem judge_loop {d c a r t : Nat} {M : Mem} {s : St} {x z : Int32} {l : List Int64} (h : RC c M s) (ha : isSh a) (hs : RS M a (some (.inr (t, l)))) (hr : r < (sK s).length) : ∀ (m i : Nat), i + m = l.length →
    BodyK (d + 3) 116 51 [(0, .ref 0), (1, .int x), (2, .int (nI r)), (3, .ref a), (4, .int z), (5, .int (nI (hgt (sK s) r))), (6, .int (nI i))] [] M (RP c M (.int (jdg ((sK s).getD r []) (l.drop i) i)) s) := by
  have h1 := h.k
  have h12 : hgt (sK s) r ≤ 12 := h1.2.2.2.1 r
  have hl60 := hs.2.2.2.2.1
  have eh := nI_v (n := hgt (sK s) r) (by omega)
  have el := nI_v (n := l.length) (by omega)
  intro m
  induction m with
  | zero =>
    intro i hi
    have hd : l.drop i = [] := List.drop_eq_nil_of_le (by omega)
    rw [hd]
    have ei := nI_v (n := i) (by omega)
    refine body_run 400 rfl (fun B Cl Z hZ hB hC => ?_)
    conv => whnf
    rw [lay_sh ha]
    (conv => whnf); refine ret_k hC (sp_len ha hs) ?_
    (conv => whnf); refine ⟨fun b => ?_, fun b => ?_⟩
    · conv => whnf
      exact hZ _ _ (RP_same h Fr_refl)
    · simp only [c_lt, c_gt, c_le, c_ge, c_eq, c_ne, b2_z, b2_nz, b2_i, Classical.not_not, t0, t1, Nat.reduceMod, Nat.reduceDiv, Int.reduceAdd, Int.reduceNeg, Nat.reduceAdd, kv_m2, kv_m1, kv_0, kv_1, kc_0, kc_1, ei, shLen, el] at b
      omega
  | succ m ih =>
    intro i hi
    have ei := nI_v (n := i) (by omega)
    have hlt : i < l.length := by omega
    have hx := List.getElem?_eq_getElem hlt
    have hd : l.drop i = l[i] :: l.drop (i + 1) := List.drop_eq_getElem_cons hlt
    generalize l[i] = y at hx hd
    rw [hd]
    refine body_run 400 rfl (fun B Cl Z hZ hB hC => ?_)
    conv => whnf
    rw [lay_sh ha]
    (conv => whnf); refine ret_k hC (sp_len ha hs) ?_
    (conv => whnf); refine ⟨fun b => ?_, fun b => ?_⟩
    · simp only [c_lt, c_gt, c_le, c_ge, c_eq, c_ne, b2_z, b2_nz, b2_i, Classical.not_not, t0, t1, Nat.reduceMod, Nat.reduceDiv, Int.reduceAdd, Int.reduceNeg, Nat.reduceAdd, kv_m2, kv_m1, kv_0, kv_1, kc_0, kc_1, ei, shLen, el] at b
      omega
    (conv => whnf); refine ⟨fun g => ?_, fun g => ?_⟩
    · simp only [c_lt, c_gt, c_le, c_ge, c_eq, c_ne, b2_z, b2_nz, b2_i, Classical.not_not, t0, t1, Nat.reduceMod, Nat.reduceDiv, Int.reduceAdd, Int.reduceNeg, Nat.reduceAdd, kv_m2, kv_m1, kv_0, kv_1, kc_0, kc_1, ei, eh] at g
      have e9 : jdg ((sK s).getD r []) (y :: l.drop (i + 1)) i = nI i := by
        unfold jdg
        rw [if_neg (show ¬ i < ((sK s).getD r []).length from (by show ¬ i < hgt (sK s) r; omega))]
      rw [e9] at hZ
      conv => whnf
      exact hZ _ _ (RP_same h Fr_refl)
    · simp only [c_lt, c_gt, c_le, c_ge, c_eq, c_ne, b2_z, b2_nz, b2_i, Classical.not_not, t0, t1, Nat.reduceMod, Nat.reduceDiv, Int.reduceAdd, Int.reduceNeg, Nat.reduceAdd, kv_m2, kv_m1, kv_0, kv_1, kc_0, kc_1, ei, eh] at g
      obtain ⟨q, hq⟩ := ly_at (rk := sK s) (r := r) (l := hgt (sK s) r - 1 - i) (by omega)
      have hql : q.1 < 8 := (h1.2.2.2.2 _ _ _ hq).1.1
      have e9 : jdg ((sK s).getD r []) (y :: l.drop (i + 1)) i = if y.toInt = (q.1 : Int) then jdg ((sK s).getD r []) (l.drop (i + 1)) (i + 1) else nI i := by
        rw [show jdg ((sK s).getD r []) (y :: l.drop (i + 1)) i = (match (if i < ((sK s).getD r []).length then ((sK s).getD r [])[((sK s).getD r []).length - 1 - i]? else none) with | some q => if y.toInt = (q.1 : Int) then jdg ((sK s).getD r []) (l.drop (i + 1)) (i + 1) else nI i | none => nI i) from rfl]
        rw [if_pos (show i < ((sK s).getD r []).length from (by show i < hgt (sK s) r; omega)), show ((sK s).getD r [])[((sK s).getD r []).length - 1 - i]? = some q from hq]
      rw [e9] at hZ hB
      have e7 : nI (hgt (sK s) r) - cI 1 - nI i = nI (hgt (sK s) r - 1 - i) := by
        have a1 : nI (hgt (sK s) r) - cI 1 = nI (hgt (sK s) r - 1) := nI_sub (b := 1) (by omega)
        rw [a1, nI_sub (by omega)]
      conv => whnf
      rw [lay_sh ha]
      (conv => whnf); refine ret_k hC (sp_cell ha hs hx) ?_
      (conv => whnf)
      rw [e7]
      refine ret_k hC (sp_number (by simp [isYd]) h1 hq (show 0 < 4 by omega)) ?_
      have e6 : (nI (lyF q 0)).toInt64 = lN q.1 := nI_l2 (show q.1 < 2147483648 by omega)
      (conv => whnf); refine ⟨fun k => ?_, fun k => ?_⟩
      · replace k : cnd .eq (lg_cmp y (nI (lyF q 0)).toInt64) 0 := k
        rw [e6, c_eq, t0, eq_c, l_v (by omega)] at k
        rw [if_pos k] at hB
        (conv => whnf)
        exact hB _ _ _ _ (Body_lv (ih (i + 1) (by omega)) ⟨rfl, rfl, rfl, rfl, rfl, rfl, v_eq (nI_i1 i), trivial⟩)
      · replace k : ¬ cnd .eq (lg_cmp y (nI (lyF q 0)).toInt64) 0 := k
        rw [e6, c_eq, t0, eq_c, l_v (by omega)] at k
        rw [if_neg k] at hZ
        conv => whnf
        exact hZ _ _ (RP_same h Fr_refl)
theorem pb_judge {d c : Nat} {M : Mem} {s : St} {x r : Int32} (h : RC c M s) : Call (d + 3) 116 [.ref 0, .int x, .int r] M (RP c M (.int (aJudge s x r)) s) := by
  have h1 := h.k
  refine call_run 400 rfl rfl (fun B Cl Z hZ hB hC => ?_)
  (conv => whnf)
  refine hC _ _ _ _ _ (sp_shelfR h) (fun v M1 p => ?_)
  obtain ⟨rfl, ⟨p1, rfl⟩ | ⟨i, a, hi, rfl, ei, hia, ha, hs, rfl⟩⟩ := p
  · have e9 : aJudge s x r = cI (-1) := if_neg (fun z => p1 z.1)
    rw [e9] at hZ
    conv => whnf
    exact hZ _ _ (RP_same h Fr_refl)
  (conv => whnf); refine ret_k hC (sp_hasRick (by simp [isYd]) h1) ?_
  (conv => whnf); refine ⟨fun b => ?_, fun b => ?_⟩
  case' refine_2 =>
    rw [b2_nz] at b
    have e9 : aJudge s (nI i) r = cI (-1) := if_neg (fun z => b z.2)
    rw [e9] at hZ
    conv => whnf
    exact hZ _ _ (RP_same h Fr_refl)
  rw [b2_nz] at b
  obtain ⟨j, rfl, ej, hj⟩ := to_nI (x := r) (by omega)
  have hj4 : j < 4 := by have := h1.2.1; omega
  have e8 : aJudge s (nI i) (nI j) = (match rowL (sSh s i) 0 with
    | some l => jdg ((sK s).getD j []) l 0
    | none => rfu (sSh s i) 0) := by
    unfold aJudge
    rw [if_pos (by omega), ei, ej]
    rfl
  rw [e8] at hZ hB
  conv => whnf
  rw [lay_sh ha]
  (conv => whnf); refine ret_k hC (sp_refusal (w := 0) ha hs (by decide)) ?_
  rcases rowL_c (sSh s i) 0 with ⟨l, q1, q2, q3⟩ | ⟨q1, q2⟩
  · rw [q2] at hZ hB
    rw [q1] at hs
    rw [q3]
    (conv => whnf); refine ⟨fun t => ?_, fun t => ?_⟩
    case' refine_2 => exact absurd rfl t
    (conv => whnf); refine ret_k hC (sp_height (r := j) (by simp [isYd]) h1 hj4) ?_
    (conv => whnf)
    exact hB _ _ _ _ (Body_lv (judge_loop (d := d) (z := cI 0) h ha hs (show j < (sK s).length by omega) l.length 0 (by omega)) ⟨rfl, rfl, rfl, rfl, rfl, rfl, rfl, trivial⟩)
  · rw [q1] at hZ
    (conv => whnf); refine ⟨fun t => ?_, fun t => ?_⟩
    · rw [c_eq, t0] at t
      omega
    · conv => whnf
      exact hZ _ _ (RP_same h Fr_refl)
def aHours (s : St) (x n : Int32) : Int32 := match lyA s x with
  | some q => if 0 ≤ n.toInt ∧ n.toInt ≤ 99 then n / (cI 1 + kp (envS s) (sK s) (x.toInt.toNat / 16) (x.toInt.toNat % 16) q) else cI (-1)
  | none => cI (-1)
theorem kp1 (E : EnvK) (rk : Rk) (r l : Nat) (q : Lyr) : ¬ cI 1 + kp E rk r l q = 0 := by
  intro z
  have h := kN_e E (hgt rk r) l q
  rw [show kp E rk r l q = nI (kN E (hgt rk r) l q) from h.1] at z
  have z2 : nI 1 + nI (kN E (hgt rk r) l q) = 0 := z
  rw [nI_add] at z2
  have := congrArg Int32.toInt z2
  rw [nI_v (by omega), t0] at this
  omega
theorem sp_inside {d : Nat} {M : Mem} {n : Int32} (E : EnvK) (rk : Rk) (r l : Nat) (q : Lyr) : Call (d + 1) 153 [.int n, .int (kp E rk r l q)] M (RV (some (.int (n / (cI 1 + kp E rk r l q)))) M) := by
  have h := kN_e E (hgt rk r) l q
  have hk : kp E rk r l q = nI (kN E (hgt rk r) l q) := h.1
  have hz := kp1 E rk r l q
  rw [hk] at hz ⊢
  generalize kN E (hgt rk r) l q = k at h hz ⊢
  have ek := nI_v (n := k) (by omega)
  refine call_run 400 rfl rfl (fun B Cl Z hZ hB hC => ?_)
  (conv => whnf); refine ⟨fun b => ?_, fun b => ?_⟩
  · simp only [c_lt, c_gt, c_le, c_ge, c_eq, c_ne, b2_z, b2_nz, b2_i, Classical.not_not, t0, t1, Nat.reduceMod, Nat.reduceDiv, Int.reduceAdd, Int.reduceNeg, Nat.reduceAdd, kv_1, kc_1, ek] at b
    obtain rfl : k = 0 := by omega
    conv => whnf
    refine hZ _ _ ⟨v_eq ?_, rfl⟩
    show n = n / 1
    apply Int32.toInt_inj.mp
    rw [Int32.toInt_div]
    show n.toInt = (n.toInt.tdiv 1).bmod (2 ^ 32)
    rw [Int.tdiv_one]
    have := n.le_toInt
    have := n.toInt_lt
    exact (Int.bmod_eq_of_le (by omega) (by omega)).symm
  · (conv => whnf)
    refine ⟨hz, ?_⟩
    conv => whnf
    exact hZ _ _ ⟨rfl, rfl⟩
theorem pb_hours {d c : Nat} {M : Mem} {s : St} {x n : Int32} (h : RC c M s) : Call (d + 5) 118 [.ref 0, .int x, .int n] M (RP c M (.int (aHours s x n)) s) := by
  refine call_run 400 rfl rfl (fun B Cl Z hZ hB hC => ?_)
  (conv => whnf); refine ret_k hC (sp_hasLayerAt h.k) ?_
  (conv => whnf); refine ⟨fun b => ?_, fun b => ?_⟩
  · rw [b2_z] at b
    have e9 : aHours s x n = cI (-1) := by unfold aHours; rw [lyA_n b]
    rw [e9] at hZ
    conv => whnf
    exact hZ _ _ (RP_same h Fr_refl)
  rw [b2_z] at b
  obtain ⟨q, m, rfl, hm, e, hq, ha⟩ := lyA_s (Classical.not_not.mp b)
  have y1 : nI m / cI 16 = nI (m / 16) := nI_div (b := 16) hm (by decide)
  have y2 : nI m - nI m / cI 16 * cI 16 = nI (m % 16) := nI_rem (b := 16) hm (by decide)
  have e8 : aHours s (nI m) n = if 0 ≤ n.toInt ∧ n.toInt ≤ 99 then n / (cI 1 + kp (envS s) (sK s) (m / 16) (m % 16) q) else cI (-1) := by unfold aHours; rw [ha, e]; rfl
  rw [e8] at hZ
  (conv => whnf); refine ⟨fun g => ?_, fun g => ?_⟩
  · simp only [c_lt, c_gt, c_le, c_ge, c_eq, c_ne, b2_z, b2_nz, b2_i, Classical.not_not, t0, t1, Nat.reduceMod, Nat.reduceDiv, Int.reduceAdd, Int.reduceNeg, Nat.reduceAdd, kv_m1, kv_16, kv_99, kc_16, kc_99] at g
    rw [if_neg (by omega)] at hZ
    conv => whnf
    exact hZ _ _ (RP_same h Fr_refl)
  simp only [c_lt, c_gt, c_le, c_ge, c_eq, c_ne, b2_z, b2_nz, b2_i, Classical.not_not, t0, t1, Nat.reduceMod, Nat.reduceDiv, Int.reduceAdd, Int.reduceNeg, Nat.reduceAdd, kv_m1, kv_16, kv_99, kc_16, kc_99] at g
  (conv => whnf); refine ⟨fun k => ?_, fun k => ?_⟩
  · simp only [c_lt, c_gt, c_le, c_ge, c_eq, c_ne, b2_z, b2_nz, b2_i, Classical.not_not, t0, t1, Nat.reduceMod, Nat.reduceDiv, Int.reduceAdd, Int.reduceNeg, Nat.reduceAdd, kv_m1, kv_16, kv_99, kc_16, kc_99] at k
    rw [if_pos (by omega)] at hZ
    (conv => whnf)
    refine ⟨by decide, ?_⟩
    (conv => whnf)
    refine ⟨by decide, ?_⟩
    (conv => whnf)
    rw [y2, y1]
    refine hC _ _ _ _ _ (sp_kept (by simp [isYd]) h.k h.e.1 hq) (fun v M1 p => ?_)
    obtain ⟨rfl, p2⟩ := p
    rw [h.e.2.1]
    (conv => whnf); refine ret_k hC (sp_inside (envS s) (sK s) (m / 16) (m % 16) q) ?_
    conv => whnf
    exact hZ _ _ (RP_same h (Fr_sub p2 (by decide)))
  · simp only [c_lt, c_gt, c_le, c_ge, c_eq, c_ne, b2_z, b2_nz, b2_i, Classical.not_not, t0, t1, Nat.reduceMod, Nat.reduceDiv, Int.reduceAdd, Int.reduceNeg, Nat.reduceAdd, kv_m1, kv_16, kv_99, kc_16, kc_99] at k
    rw [if_neg (by omega)] at hZ
    conv => whnf
    exact hZ _ _ (RP_same h Fr_refl)
def yC (g : Nat → Lyr → Int32) (n : Int32) : List Lyr → Nat → Int32 → Int32 → Int32
  | [], _, b, _ => b
  | q :: l, i, b, le => if n / (cI 1 + g i q) < le then yC g n l (i + 1) (nI i) (n / (cI 1 + g i q)) else yC g n l (i + 1) b le
def aYoung (s : St) (r n : Int32) : Int32 :=
  if (0 ≤ r.toInt ∧ r.toInt < ((sK s).length : Int)) ∧ 0 ≤ n.toInt ∧ n.toInt ≤ 99 then yC (kp (envS s) (sK s) r.toInt.toNat) n ((sK s).getD r.toInt.toNat []) 0 (cI (-2)) (cI 100) else cI (-1)
theorem young_loop {d c r : Nat} {M0 : Mem} {s : St} {n : Int32} (h : RC c M0 s) (hr : r < (sK s).length) : ∀ (m i : Nat) (b le : Int32) (M : Mem), i + m = hgt (sK s) r → Fr AX M0 M →
    BodyK (d + 5) 119 33 [(0, .ref 0), (1, .int (nI r)), (2, .int n), (3, .int b), (4, .int le), (5, .int (nI i))] [] M (RP c M0 (.int (yC (kp (envS s) (sK s) r) n (((sK s).getD r []).drop i) i b le)) s) := by
  have h12 : hgt (sK s) r ≤ 12 := h.k.2.2.2.1 r
  have eh := nI_v (n := hgt (sK s) r) (by omega)
  have hr4 : r < 4 := by have := h.k.2.1; omega
  intro m
  induction m with
  | zero =>
    intro i b le M hi hF
    obtain rfl : i = hgt (sK s) r := by omega
    have hd : ((sK s).getD r []).drop (hgt (sK s) r) = [] := List.drop_eq_nil_of_le (Nat.le_refl _)
    rw [hd]
    have hR := RC_fr h hF
    refine body_run 400 rfl (fun B Cl Z hZ hB hC => ?_)
    (conv => whnf); refine ret_k hC (sp_height (r := r) (by simp [isYd]) hR.k hr4) ?_
    (conv => whnf); refine ⟨fun k => ?_, fun k => ?_⟩
    case' refine_2 =>
      simp only [c_lt, c_gt, c_le, c_ge, c_eq, c_ne, b2_z, b2_nz, b2_i, Classical.not_not, t0, t1, Nat.reduceMod, Nat.reduceDiv, Int.reduceAdd, Int.reduceNeg, Nat.reduceAdd, kv_m2, kv_m1, kv_0, kv_1, kv_99, kv_100, kc_0, kc_1, kc_99, kc_100, eh] at k
      omega
    conv => whnf
    exact hZ _ _ (RP_same h hF)
  | succ m ih =>
    intro i b le M hi hF
    have ei := nI_v (n := i) (by omega)
    have hR := RC_fr h hF
    obtain ⟨q, hq⟩ := ly_at (rk := sK s) (r := r) (l := i) (by omega)
    rw [drop_at hq]
    have e9 : yC (kp (envS s) (sK s) r) n (q :: ((sK s).getD r []).drop (i + 1)) i b le = if n / (cI 1 + kp (envS s) (sK s) r i q) < le then yC (kp (envS s) (sK s) r) n (((sK s).getD r []).drop (i + 1)) (i + 1) (nI i) (n / (cI 1 + kp (envS s) (sK s) r i q)) else yC (kp (envS s) (sK s) r) n (((sK s).getD r []).drop (i + 1)) (i + 1) b le := rfl
    rw [e9]
    refine body_run 400 rfl (fun B Cl Z hZ hB hC => ?_)
    (conv => whnf); refine ret_k hC (sp_height (r := r) (by simp [isYd]) hR.k hr4) ?_
    (conv => whnf); refine ⟨fun k => ?_, fun k => ?_⟩
    · simp only [c_lt, c_gt, c_le, c_ge, c_eq, c_ne, b2_z, b2_nz, b2_i, Classical.not_not, t0, t1, Nat.reduceMod, Nat.reduceDiv, Int.reduceAdd, Int.reduceNeg, Nat.reduceAdd, kv_m2, kv_m1, kv_0, kv_1, kv_99, kv_100, kc_0, kc_1, kc_99, kc_100, eh, ei] at k
      omega
    (conv => whnf)
    refine hC _ _ _ _ _ (sp_kept (by simp [isYd]) hR.k hR.e.1 hq) (fun v M1 y => ?_)
    obtain ⟨rfl, y2⟩ := y
    rw [hR.e.2.1]
    have hF2 : Fr AX M0 M1 := Fr_trans hF (Fr_sub y2 (by decide))
    (conv => whnf); refine ret_k hC (sp_inside (envS s) (sK s) r i q) ?_
    (conv => whnf); refine ⟨fun g => ?_, fun g => ?_⟩
    · replace g : le ≤ n / (cI 1 + kp (envS s) (sK s) r i q) := g
      rw [if_neg (by rw [lt_i]; rw [le_i] at g; omega)] at hB
      (conv => whnf)
      exact hB _ _ _ _ (Body_lv (ih (i + 1) b le M1 (by omega) hF2) ⟨rfl, rfl, rfl, rfl, rfl, v_eq (nI_i1 i), trivial⟩)
    · replace g : ¬ le ≤ n / (cI 1 + kp (envS s) (sK s) r i q) := g
      rw [if_pos (by rw [lt_i]; rw [le_i] at g; omega)] at hB
      (conv => whnf)
      exact hB _ _ _ _ (Body_lv (ih (i + 1) (nI i) (n / (cI 1 + kp (envS s) (sK s) r i q)) M1 (by omega) hF2) ⟨rfl, rfl, rfl, rfl, rfl, v_eq (nI_i1 i), trivial⟩)
theorem pb_young {d c : Nat} {M : Mem} {s : St} {r n : Int32} (h : RC c M s) : Call (d + 5) 119 [.ref 0, .int r, .int n] M (RP c M (.int (aYoung s r n)) s) := by
  have h1 := h.k
  refine call_run 400 rfl rfl (fun B Cl Z hZ hB hC => ?_)
  (conv => whnf); refine ret_k hC (sp_hasRick (by simp [isYd]) h1) ?_
  (conv => whnf); refine ⟨fun a => ?_, fun a => ?_⟩
  · rw [b2_z] at a
    have e9 : aYoung s r n = cI (-1) := if_neg (fun z => a z.1)
    rw [e9] at hZ
    conv => whnf
    exact hZ _ _ (RP_same h Fr_refl)
  rw [b2_z] at a
  have a := Classical.not_not.mp a
  (conv => whnf); refine ⟨fun b => ?_, fun b => ?_⟩
  · simp only [c_lt, c_gt, c_le, c_ge, c_eq, c_ne, b2_z, b2_nz, b2_i, Classical.not_not, t0, t1, Nat.reduceMod, Nat.reduceDiv, Int.reduceAdd, Int.reduceNeg, Nat.reduceAdd, kv_m2, kv_m1, kv_0, kv_1, kv_99, kv_100, kc_0, kc_1, kc_99, kc_100] at b
    have e9 : aYoung s r n = cI (-1) := if_neg (by omega)
    rw [e9] at hZ
    conv => whnf
    exact hZ _ _ (RP_same h Fr_refl)
  simp only [c_lt, c_gt, c_le, c_ge, c_eq, c_ne, b2_z, b2_nz, b2_i, Classical.not_not, t0, t1, Nat.reduceMod, Nat.reduceDiv, Int.reduceAdd, Int.reduceNeg, Nat.reduceAdd, kv_m2, kv_m1, kv_0, kv_1, kv_99, kv_100, kc_0, kc_1, kc_99, kc_100] at b
  (conv => whnf); refine ⟨fun g => ?_, fun g => ?_⟩
  case' refine_2 =>
    simp only [c_lt, c_gt, c_le, c_ge, c_eq, c_ne, b2_z, b2_nz, b2_i, Classical.not_not, t0, t1, Nat.reduceMod, Nat.reduceDiv, Int.reduceAdd, Int.reduceNeg, Nat.reduceAdd, kv_m2, kv_m1, kv_0, kv_1, kv_99, kv_100, kc_0, kc_1, kc_99, kc_100] at g
    have e9 : aYoung s r n = cI (-1) := if_neg (by omega)
    rw [e9] at hZ
    conv => whnf
    exact hZ _ _ (RP_same h Fr_refl)
  simp only [c_lt, c_gt, c_le, c_ge, c_eq, c_ne, b2_z, b2_nz, b2_i, Classical.not_not, t0, t1, Nat.reduceMod, Nat.reduceDiv, Int.reduceAdd, Int.reduceNeg, Nat.reduceAdd, kv_m2, kv_m1, kv_0, kv_1, kv_99, kv_100, kc_0, kc_1, kc_99, kc_100] at g
  obtain ⟨i, rfl, ei, hi⟩ := to_nI a.1
  have e8 : aYoung s (nI i) n = yC (kp (envS s) (sK s) i) n ((sK s).getD i []) 0 (cI (-2)) (cI 100) := by
    unfold aYoung
    rw [if_pos (by omega), ei]
    rfl
  rw [e8] at hB
  (conv => whnf)
  exact hB _ _ _ _ (Body_lv (young_loop (d := d) h (show i < (sK s).length by omega) (hgt (sK s) i) 0 (cI (-2)) (cI 100) M (by omega) Fr_refl) ⟨rfl, rfl, rfl, rfl, rfl, rfl, trivial⟩)
