/-! the reference: cuts in thought -/
theorem m_rowFault {d i t : Nat} {M : Mem} {s : St} (h : RM M s) (hv : inv s) (hi : i < 6) (ht : t < 5) : Call (d + 1) 211 [.ref 55, .int (nI i), .int (nI t)] M (RV (some (.int (rfu (sSh s i) t))) M) := by
  have vi : vp_in (nI i) 6 := nI_vp hi (by decide)
  have ec := nI_c (n := i) (by omega)
  refine call_run 400 rfl rfl (fun B Cl Z hZ hB hC => ?_)
  (conv => whnf)
  refine ⟨vi, ?_⟩
  rcases hv.sv h hi with ⟨q1, q2⟩ | ⟨b, q1, q2, q3, q4⟩ | ⟨t', l, q1, q2, q3, q4, q5, q6⟩
  · rw [q1] at hZ
    (conv => whnf); refine ⟨fun g => ?_, fun g => ?_⟩
    · replace g : cnd .ne (M.1 95 (nI i).toNatClampNeg) (cI (-1)) := g
      rw [ec, c_ne, q2, kv_m1] at g
      omega
    · conv => whnf
      exact hZ _ _ ⟨rfl, rfl⟩
  · rw [q1] at hZ
    (conv => whnf); refine ⟨fun g => ?_, fun g => ?_⟩
    case' refine_2 =>
      replace g : ¬ cnd .ne (M.1 95 (nI i).toNatClampNeg) (cI (-1)) := g
      rw [ec, c_ne, q4, kv_m1] at g
      omega
    (conv => whnf)
    refine ⟨vi, ?_⟩
    (conv => whnf); refine ⟨fun k => ?_, fun k => ?_⟩
    · conv => whnf
      exact hZ _ _ ⟨rfl, rfl⟩
    · replace k : ¬ cnd .ne (M.1 95 (nI i).toNatClampNeg) (cI (-2) - nI t) := k
      rw [ec, c_ne, q4, hold_v ht] at k
      omega
  · rw [q1] at hZ
    have e9 : rfu (some (.inr (t', l))) t = if t' = t then cI 0 else cI (-12) := rfl
    rw [e9] at hZ
    (conv => whnf); refine ⟨fun g => ?_, fun g => ?_⟩
    case' refine_2 =>
      replace g : ¬ cnd .ne (M.1 95 (nI i).toNatClampNeg) (cI (-1)) := g
      rw [ec, c_ne, q5, kv_m1] at g
      omega
    (conv => whnf)
    refine ⟨vi, ?_⟩
    (conv => whnf); refine ⟨fun k => ?_, fun k => ?_⟩
    · replace k : cnd .ne (M.1 95 (nI i).toNatClampNeg) (cI (-2) - nI t) := k
      rw [ec, c_ne, q5, hold_v ht] at k
      rw [if_neg (by omega)] at hZ
      conv => whnf
      exact hZ _ _ ⟨rfl, rfl⟩
    · replace k : ¬ cnd .ne (M.1 95 (nI i).toNatClampNeg) (cI (-2) - nI t) := k
      rw [ec, c_ne, q5, hold_v ht] at k
      rw [if_pos (by omega)] at hZ
      conv => whnf
      exact hZ _ _ ⟨rfl, rfl⟩
theorem m_at {d i t k : Nat} {M : Mem} {s : St} {l : List Int64} {x : Int64} (h : RM M s) (hv : inv s) (hi : i < 6) (hs : sSh s i = some (.inr (t, l))) (hx : l[k]? = some x) : Call (d + 1) 212 [.ref 55, .int (nI i), .int (nI k)] M (RV (some (.int x.toInt32)) M) := by
  have hsh := h.2.2.2.2.2.2.2.2.1 i hi
  have hb := (hv.2.2.2.1 i hi).2
  rw [hs] at hsh hb
  have h60 := hb.2
  have hk : k < l.length := by
    rcases Nat.lt_or_ge k l.length with z | z
    · exact z
    · rw [List.getElem?_eq_none z] at hx; cases hx
  refine call_run 400 rfl rfl (fun B Cl Z hZ hB hC => ?_)
  (conv => whnf)
  refine ⟨by rw [ix60]; exact nI_vp (by omega) (by decide), ?_⟩
  conv => whnf
  rw [ix60, nI_c (by omega), hsh.2.2 k x hx]
  exact hZ _ _ ⟨rfl, rfl⟩
def WMm (M : Mem) (w : Wst) : Prop := YM M 75 w.1 ∧ M.1 55 34 = w.2.1 ∧ M.1 55 35 = w.2.2.1 ∧ M.1 55 36 = w.2.2.2.1 ∧ M.1 55 37 = w.2.2.2.2.1 ∧ M.1 55 38 = w.2.2.2.2.2
def wOk (s : St) (w : Wst) : Prop := okR w.1 ∧ w.1.length = (sK s).length ∧ (w.2.2.2.1 = cI (-2) ∨ 0 ≤ w.2.2.2.1.toInt) ∧ (w.2.2.2.2.1 = cI (-2) ∨ 0 ≤ w.2.2.2.2.1.toInt)
def WC : List Nat := [73, 74, 75, 76, 77, 78, 79]
def WJ : List Nat := [34, 35, 36, 37, 38]
theorem WCx {M M' : Mem} (h : FrM WC WJ M M') : FrM XM XJ M M' := FrM_sub h (by decide) (by decide)
theorem neg_m2 {x : Int32} (h : x = cI (-2) ∨ 0 ≤ x.toInt) : (x.toInt < 0) = (x = cI (-2)) := by
  apply propext
  constructor
  · intro q; exact h.resolve_right (by omega)
  · intro q; rw [q, kv_m2]; decide
theorem winter_cut {d r l k v i n : Nat} {M0 M : Mem} {s : St} {w : Wst} {q : Lyr} {B : Nat → Lv → List Value → Mem → Prop} (hv : inv s) (hw : wOk s w) (hq : (w.1.getD r [])[l]? = some q) (hk : k < 2147483648) : wOk s (wcut (envS s) w r l k q) := by
  obtain ⟨h1, h2, h3, h4⟩ := hw
  have ek := nI_v hk
  refine ⟨okR_cut h1 (ly_lt hq), by show (cutR w.1 r l).length = _; unfold cutR; rw [List.length_set]; exact h2, ?_, ?_⟩
  · show (if _ then nI k else w.2.2.2.1) = _ ∨ _
    split
    · exact Or.inr (by
        show 0 ≤ (if _ then nI k else w.2.2.2.1).toInt
        next z => rw [if_pos z, ek]; omega)
    · next z =>
      rcases h3 with h3 | h3
      · exact Or.inl h3
      · exact Or.inr (by show 0 ≤ (if _ then nI k else w.2.2.2.1).toInt; rw [if_neg z]; exact h3)
  · show (if _ then _ else w.2.2.2.2.1) = _ ∨ 0 ≤ (if _ then _ else w.2.2.2.2.1 : Int32).toInt
    by_cases z : w.2.2.2.2.1 = cI (-2)
    · rw [if_pos z]
      by_cases y : lM (envS s) (cutR w.1 r l) r ≤ (envS s).2.2.1
      · rw [if_pos y]; exact Or.inl rfl
      · rw [if_neg y, ek]; exact Or.inr (by omega)
    · rw [if_neg z]; exact h4
set_option maxHeartbeats 2000000 in
theorem winter_loop {d i t n : Nat} {s : St} {l : List Int64} (hv : inv s) (hi : i < 6) (hs : sSh s i = some (.inr (t, l))) (hn : n ≤ 24) : ∀ (m k : Nat) (M : Mem) (w : Wst), k + m = min n l.length → RM M s → WMm M w → wOk s w →
    BodyK (d + 9) 213 33 [(0, .ref 55), (1, .int (nI i)), (2, .int (nI n)), (3, .int (nI k))] [] M (fun v M' => v = none ∧ FrM WC WJ M M' ∧ WMm M' (wrun (envS s) ((l.take n).drop k) k w) ∧ wOk s (wrun (envS s) ((l.take n).drop k) k w)) := by
  have hb := (hv.2.2.2.1 i hi).2
  rw [hs] at hb
  have hl60 := hb.2
  have en := nI_v (n := n) (by omega)
  have el := nI_v (n := l.length) (by omega)
  have vi : vp_in (nI i) 6 := nI_vp hi (by decide)
  have ci := nI_c (n := i) (by omega)
  have h4 := hv.1.1
  intro m
  induction m with
  | zero =>
    intro k M w hk h hw ho
    have e := nI_v (n := k) (by omega)
    have hd : (l.take n).drop k = [] := List.drop_eq_nil_of_le (by simp; omega)
    rw [hd]
    have hsz : M.1 96 i = nI l.length := by
      have := h.2.2.2.2.2.2.2.2.1 i hi
      rw [hs] at this
      exact this.2.1
    refine body_run 400 rfl (fun B Cl Z hZ hB hC => ?_)
    (conv => whnf); refine ⟨fun b => ?_, fun b => ?_⟩
    · conv => whnf
      exact hZ _ _ ⟨rfl, FrM_refl, hw, ho⟩
    · simp only [c_lt, c_gt, c_le, c_ge, c_eq, c_ne, b2_z, b2_nz, b2_i, Classical.not_not, t0, t1, Nat.reduceMod, Nat.reduceDiv, Int.reduceAdd, Int.reduceNeg, Nat.reduceAdd, kv_m2, kv_0, kv_1, kv_12, kv_16, kc_0, kc_1, kc_12, kc_16, e, en] at b
      (conv => whnf)
      refine ⟨vi, ?_⟩
      (conv => whnf); refine ⟨fun c => ?_, fun c => ?_⟩
      · conv => whnf
        exact hZ _ _ ⟨rfl, FrM_refl, hw, ho⟩
      · replace c : ¬ cnd .ge (nI k) (M.1 96 (nI i).toNatClampNeg) := c
        rw [ci, hsz, c_ge, el, e] at c
        omega
  | succ m ih =>
    intro k M w hk h hw ho
    have e := nI_v (n := k) (by omega)
    have hkl : k < l.length := by omega
    have hx := List.getElem?_eq_getElem hkl
    generalize l[k] = x at hx
    have hd : (l.take n).drop k = x :: (l.take n).drop (k + 1) := by
      have z1 : k < (l.take n).length := by simp; omega
      rw [List.drop_eq_getElem_cons z1]
      congr 1
      rw [List.getElem_take]
      exact (List.getElem?_eq_some_iff.mp hx).2
    rw [hd]
    have hsz : M.1 96 i = nI l.length := by
      have := h.2.2.2.2.2.2.2.2.1 i hi
      rw [hs] at this
      exact this.2.1
    obtain ⟨o1, o2, o3, o4⟩ := id ho
    obtain ⟨w1, w2, w3, w4, w5, w6⟩ := id hw
    refine body_run 400 rfl (fun B Cl Z hZ hB hC => ?_)
    (conv => whnf); refine ⟨fun b => ?_, fun b => ?_⟩
    · simp only [c_lt, c_gt, c_le, c_ge, c_eq, c_ne, b2_z, b2_nz, b2_i, Classical.not_not, t0, t1, Nat.reduceMod, Nat.reduceDiv, Int.reduceAdd, Int.reduceNeg, Nat.reduceAdd, kv_m2, kv_0, kv_1, kv_12, kv_16, kc_0, kc_1, kc_12, kc_16, e, en] at b
      omega
    (conv => whnf)
    refine ⟨vi, ?_⟩
    (conv => whnf); refine ⟨fun c => ?_, fun c => ?_⟩
    · replace c : cnd .ge (nI k) (M.1 96 (nI i).toNatClampNeg) := c
      rw [ci, hsz, c_ge, el, e] at c
      omega
    (conv => whnf); refine ret_k hC (m_at h hv hi hs hx) ?_
    have hstop : (x.toInt32.toInt < 0 ∨ w.1.length ≤ x.toInt32.toInt.toNat / 16 ∨ 12 ≤ x.toInt32.toInt.toNat % 16) → Z none M := fun q => hZ _ _ ⟨rfl, FrM_refl, by rw [wrun, if_pos q]; exact ⟨hw, ho⟩⟩
    (conv => whnf); refine ⟨fun g => ?_, fun g => ?_⟩
    · simp only [c_lt, c_gt, c_le, c_ge, c_eq, c_ne, b2_z, b2_nz, b2_i, Classical.not_not, t0, t1, Nat.reduceMod, Nat.reduceDiv, Int.reduceAdd, Int.reduceNeg, Nat.reduceAdd, kv_m2, kv_0, kv_1, kv_12, kv_16, kc_0, kc_1, kc_12, kc_16] at g
      conv => whnf
      exact hstop (Or.inl g)
    simp only [c_lt, c_gt, c_le, c_ge, c_eq, c_ne, b2_z, b2_nz, b2_i, Classical.not_not, t0, t1, Nat.reduceMod, Nat.reduceDiv, Int.reduceAdd, Int.reduceNeg, Nat.reduceAdd, kv_m2, kv_0, kv_1, kv_12, kv_16, kc_0, kc_1, kc_12, kc_16] at g
    obtain ⟨p, hp, e2, hp2⟩ := to_nI (x := x.toInt32) (by omega)
    have hp3 : x.toInt32.toInt.toNat = p := by omega
    rw [hp3] at hstop
    have y1 : nI p / cI 16 = nI (p / 16) := nI_div (b := 16) hp2 (by decide)
    have y2 : nI p - nI p / cI 16 * cI 16 = nI (p % 16) := nI_rem (b := 16) hp2 (by decide)
    rw [y1] at y2
    have f1 := nI_v (n := p / 16) (by omega)
    have f2 := nI_v (n := p % 16) (by omega)
    rw [hp]
    (conv => whnf)
    refine ⟨by decide, ?_⟩
    (conv => whnf)
    rw [y1]
    refine ret_k hC (m_isRick h.1.1 h4) ?_
    (conv => whnf); refine ⟨fun r1 => ?_, fun r1 => ?_⟩
    · rw [b2_z, f1] at r1
      conv => whnf
      exact hstop (Or.inr (Or.inl (by omega)))
    rw [b2_z, f1] at r1
    have r1 := Classical.not_not.mp r1
    (conv => whnf)
    refine ⟨by decide, ?_⟩
    (conv => whnf); refine ⟨fun r2 => ?_, fun r2 => ?_⟩
    case' refine_2 =>
      replace r2 : ¬ cnd .lt (nI p - nI p / cI 16 * cI 16) (cI 12) := r2
      rw [y1, y2, c_lt, f2, kv_12] at r2
      conv => whnf
      exact hstop (Or.inr (Or.inr (by omega)))
    replace r2 : cnd .lt (nI p - nI p / cI 16 * cI 16) (cI 12) := r2
    rw [y1, y2, c_lt, f2, kv_12] at r2
    have hrun : wrun (envS s) (x :: (l.take n).drop (k + 1)) k w = match (w.1.getD (p / 16) [])[p % 16]? with
        | some q => wrun (envS s) ((l.take n).drop (k + 1)) (k + 1) (wcut (envS s) w (p / 16) (p % 16) k q)
        | none => wrun (envS s) ((l.take n).drop (k + 1)) (k + 1) w := by
      rw [wrun, hp3, if_neg (by omega)] <;> cases (w.1.getD (p / 16) [])[p % 16]? <;> rfl
    rw [hrun] at hB
    have hr : p / 16 < w.1.length := by omega
    have vr : vp_in (nI (p / 16)) 4 := nI_vp (by omega) (by decide)
    have cr := nI_c (n := p / 16) (by omega)
    have m75 := (w1 (p / 16) hr).1
    have b12 := o1.2.1 (p / 16)
    have eh := nI_v (n := hgt w.1 (p / 16)) (by omega)
    (conv => whnf)
    refine ⟨by decide, ?_⟩
    (conv => whnf)
    refine ⟨by decide, ?_⟩
    (conv => whnf)
    rw [y1]
    refine ⟨vr, ?_⟩
    (conv => whnf); refine ⟨fun t1x => ?_, fun t1x => ?_⟩
    case' refine_2 =>
      replace t1x : ¬ cnd .lt (nI p - nI (p / 16) * cI 16) (M.1 75 (nI (p / 16)).toNatClampNeg) := t1x
      rw [y2, cr, m75, c_lt, eh, f2] at t1x
      have hnone : (w.1.getD (p / 16) [])[p % 16]? = none := List.getElem?_eq_none (by show hgt w.1 (p / 16) ≤ _; omega)
      rw [hnone] at hB
      (conv => whnf)
      exact hB _ _ _ _ (Body_lv (ih (k + 1) M w (by omega) h hw ho) ⟨rfl, rfl, rfl, v_eq (nI_i1 k), trivial⟩)
    replace t1x : cnd .lt (nI p - nI (p / 16) * cI 16) (M.1 75 (nI (p / 16)).toNatClampNeg) := t1x
    rw [y2, cr, m75, c_lt, eh, f2] at t1x
    obtain ⟨q, hq⟩ := ly_at (rk := w.1) (r := p / 16) (l := p % 16) (by omega)
    rw [hq] at hB
    dsimp only at hB
    have hl := ly_lt hq
    obtain ⟨z0, z1, z2, z3, z4⟩ := YM_at w1 hq
    have hok := o1.2.2 _ _ _ hq
    have eP : cI 12 * nI (p / 16) + nI (p % 16) = nI (12 * (p / 16) + p % 16) := by rw [show cI 12 = nI 12 from rfl, nI_mul, nI_add]
    (conv => whnf)
    refine ⟨by decide, ?_⟩
    (conv => whnf)
    refine ⟨by decide, ?_⟩
    (conv => whnf)
    rw [y1, y2]
    refine hC _ _ _ _ _ (m_keptAt h hv w1 o1 hq) (fun v M1 y => ?_)
    obtain ⟨rfl, k2⟩ := y
    have hKK : ∀ (a b : Int32), (wcut (envS s) w (p / 16) (p % 16) k q).2.2.1 = w.2.2.1 + kp (envS s) w.1 (p / 16) (p % 16) q := fun _ _ => rfl
    have eD : (wcut (envS s) w (p / 16) (p % 16) k q).2.2.2.1 = if w.2.2.2.1 = cI (-2) ∧ (envS s).2.2.2 q.1 ≤ kp (envS s) w.1 (p / 16) (p % 16) q then nI k else w.2.2.2.1 := rfl
    have eM : (wcut (envS s) w (p / 16) (p % 16) k q).2.2.2.2.2 = if 0 < q.2.2.1 then w.2.2.2.2.2 ||| (cI 1 <<< (nI q.2.2.1 &&& 31)) else w.2.2.2.2.2 := rfl
    have oc : wOk s (wcut (envS s) w (p / 16) (p % 16) k q) := winter_cut (d := 0) (v := 0) (i := 0) (n := 0) (M0 := M) (M := M) (B := B) hv ho hq (by omega)
    have hrc : p / 16 < (wcut (envS s) w (p / 16) (p % 16) k q).1.length := by rw [oc.2.1, ← o2]; exact hr
    have e35 := hKK 0 0
    have eW1 : (wcut (envS s) w (p / 16) (p % 16) k q).1 = cutR w.1 (p / 16) (p % 16) := rfl
    generalize kp (envS s) w.1 (p / 16) (p % 16) q = K at e35 eD ⊢
    have j1 : ∀ j, M1.1 55 j = M.1 55 j := fun j => k2.2 j (by simp)
    have y1' := YM_f w1 k2 (by decide)
    have fin : ∀ Mx, FrM [] WJ M1 Mx → Mx.1 55 34 = w.2.1 + cI 1 → Mx.1 55 35 = (wcut (envS s) w (p / 16) (p % 16) k q).2.2.1 → Mx.1 55 36 = (wcut (envS s) w (p / 16) (p % 16) k q).2.2.2.1 → Mx.1 55 37 = w.2.2.2.2.1 → Mx.1 55 38 = (wcut (envS s) w (p / 16) (p % 16) k q).2.2.2.2.2 → ∀ (P : Po), (∀ M3, FrM WC WJ M M3 → M3.1 55 34 = w.2.1 + cI 1 → M3.1 55 35 = (wcut (envS s) w (p / 16) (p % 16) k q).2.2.1 → M3.1 55 36 = (wcut (envS s) w (p / 16) (p % 16) k q).2.2.2.1 → M3.1 55 37 = w.2.2.2.2.1 → M3.1 55 38 = (wcut (envS s) w (p / 16) (p % 16) k q).2.2.2.2.2 → YM M3 75 (wcut (envS s) w (p / 16) (p % 16) k q).1 → P none M3) → Cl 207 [.ref 55, .int (nI (p / 16)), .int (nI (p % 16))] Mx P := by
      intro Mx fx x34 x35 x36 x37 x38 P hP
      refine hC _ _ _ _ _ (m_cutNow (YM_f y1' fx (by decide)) o1 hl) (fun v M3 z => ?_)
      obtain ⟨rfl, z2', z3'⟩ := z
      have j3 : ∀ j, M3.1 55 j = Mx.1 55 j := fun j => z2'.2 j (by simp)
      exact hP M3 (FrM_trans (FrM_sub k2 (by decide) (by decide)) (FrM_trans (FrM_sub fx (by decide) (by decide)) (FrM_sub z2' (by decide) (by decide)))) (by rw [j3]; exact x34) (by rw [j3]; exact x35) (by rw [j3]; exact x36) (by rw [j3]; exact x37) (by rw [j3]; exact x38) z3'
    have step : ∀ M', FrM WC WJ M M' → M'.1 55 34 = w.2.1 + cI 1 → M'.1 55 35 = (wcut (envS s) w (p / 16) (p % 16) k q).2.2.1 → M'.1 55 36 = (wcut (envS s) w (p / 16) (p % 16) k q).2.2.2.1 → M'.1 55 37 = (wcut (envS s) w (p / 16) (p % 16) k q).2.2.2.2.1 → M'.1 55 38 = (wcut (envS s) w (p / 16) (p % 16) k q).2.2.2.2.2 → YM M' 75 (wcut (envS s) w (p / 16) (p % 16) k q).1 → ∀ lv : Lv, lkp lv 0 = some (.ref 55) → lkp lv 1 = some (.int (nI i)) → lkp lv 2 = some (.int (nI n)) → lkp lv 3 = some (.int (nI k + cI 1)) → B 33 lv [] M' := by
      intro M' f' x34 x35 x36 x37 x38 x75 lv l0 l1 l2 l3
      refine hB _ _ _ _ (Body_lv (Body_mono (ih (k + 1) M' (wcut (envS s) w (p / 16) (p % 16) k q) (by omega) (RM_x h (WCx f')) ⟨x75, x34, x35, x36, x37, x38⟩ oc) (fun v M2 y => ⟨y.1, FrM_trans f' y.2.1, y.2.2⟩)) ⟨l0, l1, l2, ?_, trivial⟩)
      rw [← nI_i1 k]
      exact l3
    have cI6 : (cI 12 * nI (p / 16) + nI (p % 16)).toNatClampNeg = 12 * (p / 16) + p % 16 := by rw [eP]; exact nI_c (by omega)
    have vI6 : vp_in (cI 12 * nI (p / 16) + nI (p % 16)) 48 := by rw [eP]; exact nI_vp (by have := o1.1; omega) (by decide)
    have rWay : M1.1 76 (12 * (p / 16) + p % 16) = nI q.1 := by rw [FrM_c k2 (by decide) (by decide)]; exact z1
    have rMark : M1.1 78 (12 * (p / 16) + p % 16) = nI q.2.2.1 := by rw [FrM_c k2 (by decide) (by decide)]; exact z3
    have rDoor : M1.1 62 q.1 = (envS s).2.2.2 q.1 := by rw [FrM_c k2 (by decide) (by decide)]; exact h.2.1.2.2.2 q.1 hok.1
    have em := nI_v (n := q.2.2.1) (by have := hok.2.2.1; omega)
    have s34 : M1.1 55 34 + cI 1 = w.2.1 + cI 1 := by rw [j1, w2]
    have s35 : M1.1 55 35 + K = (wcut (envS s) w (p / 16) (p % 16) k q).2.2.1 := by rw [j1, w3, e35]
    have s37 : M1.1 55 37 = w.2.2.2.2.1 := by rw [j1, w5]
    have dNo : ¬ (w.2.2.2.1 = cI (-2) ∧ (envS s).2.2.2 q.1 ≤ K) → M1.1 55 36 = (wcut (envS s) w (p / 16) (p % 16) k q).2.2.2.1 := fun z => by rw [eD, if_neg z, j1, w4]
    have mNo : ¬ 0 < q.2.2.1 → M1.1 55 38 = (wcut (envS s) w (p / 16) (p % 16) k q).2.2.2.2.2 := fun z => by rw [eM, if_neg z, j1, w6]
    have mYes : 0 < q.2.2.1 → M1.1 55 38 ||| (cI 1 <<< (M1.1 78 (cI 12 * nI (p / 16) + nI (p % 16)).toNatClampNeg &&& 31)) = (wcut (envS s) w (p / 16) (p % 16) k q).2.2.2.2.2 := fun z => by rw [cI6, rMark, eM, if_pos z, j1, w6]
    have vDoor : vp_in (M1.1 76 (cI 12 * nI (p / 16) + nI (p % 16)).toNatClampNeg) 8 := by rw [cI6, rWay]; exact nI_vp hok.1 (by decide)
    (conv => whnf)
    refine ⟨vI6, ?_⟩
    (conv => whnf)
    refine ⟨vDoor, ?_⟩
    (conv => whnf); refine ⟨fun tt => ?_, fun tt => ?_⟩
    · replace tt : cnd .lt K (M1.1 62 (M1.1 76 (cI 12 * nI (p / 16) + nI (p % 16)).toNatClampNeg).toNatClampNeg) := tt
      rw [cI6, rWay, nI_c (n := q.1) (by have := hok.1; omega), rDoor, c_lt] at tt
      have dno : ¬ (w.2.2.2.1 = cI (-2) ∧ (envS s).2.2.2 q.1 ≤ K) := fun z => by have := z.2; rw [le_i] at this; omega
      (conv => whnf)
      refine ⟨vI6, ?_⟩
      (conv => whnf); refine ⟨fun mm => ?_, fun mm => ?_⟩
      · replace mm : cnd .le (M1.1 78 (cI 12 * nI (p / 16) + nI (p % 16)).toNatClampNeg) 0 := mm
        rw [cI6, rMark, c_le, em, t0] at mm
        have mneg : ¬ 0 < q.2.2.1 := by omega
        (conv => whnf)
        refine ⟨by decide, ?_⟩
        (conv => whnf)
        rw [y1, y2]
        refine fin (mI (mI M1 55 34 (M1.1 55 34 + cI 1)) 55 35 (M1.1 55 35 + K)) (FrM_s (FrM_s FrM_refl (by decide)) (by decide)) s34 s35 (dNo dno) s37 (mNo mneg) _ (fun M3 f3 c34 c35 c36 c37 c38 c75 => ?_)
        have h3 := RM_x h (WCx f3)
        (conv => whnf); refine ⟨fun g1 => ?_, fun g1 => ?_⟩
        · replace g1 : cnd .ge (M3.1 55 37) 0 := g1
          rw [c37, c_ge, t0] at g1
          (conv => whnf)
          refine step M3 f3 c34 c35 c36 ?_ c38 c75 _ rfl rfl rfl rfl
          rw [c37]
          exact (if_neg (fun z => by rw [z, kv_m2] at g1; omega)).symm
        replace g1 : ¬ cnd .ge (M3.1 55 37) 0 := g1
        rw [c37, c_ge, t0] at g1
        have g2 : w.2.2.2.2.1 = cI (-2) := o4.resolve_right (by omega)
        (conv => whnf)
        refine hC _ _ _ _ _ (m_standsNow h3 hv c75 oc.1 hrc) (fun v M4 y => ?_)
        obtain ⟨rfl, k4⟩ := y
        have f4 : FrM WC WJ M M4 := FrM_trans f3 (FrM_sub k4 (by decide) (by decide))
        have j4 : ∀ j, M4.1 55 j = M3.1 55 j := fun j => k4.2 j (by simp)
        have y4 := YM_f c75 k4 (by decide)
        (conv => whnf); refine ⟨fun g3 => ?_, fun g3 => ?_⟩
        · rw [b2_nz, eW1] at g3
          (conv => whnf)
          refine step M4 f4 (by rw [j4]; exact c34) (by rw [j4]; exact c35) (by rw [j4]; exact c36) ?_ (by rw [j4]; exact c38) y4 _ rfl rfl rfl rfl
          rw [j4, c37]
          show w.2.2.2.2.1 = if w.2.2.2.2.1 = cI (-2) then (if lM (envS s) (cutR w.1 (p / 16) (p % 16)) (p / 16) ≤ (envS s).2.2.1 then cI (-2) else nI k) else w.2.2.2.2.1
          rw [if_pos g2, if_pos g3]
          exact g2
        · rw [b2_nz, eW1] at g3
          (conv => whnf)
          refine step (mI M4 55 37 (nI k)) (FrM_s f4 (by decide)) (by rw [mI_2 _ _ (by decide), j4]; exact c34) (by rw [mI_2 _ _ (by decide), j4]; exact c35) (by rw [mI_2 _ _ (by decide), j4]; exact c36) ?_ (by rw [mI_2 _ _ (by decide), j4]; exact c38) (YM_f (A := []) (J := WJ) y4 (FrM_s FrM_refl (by decide)) (by decide)) _ rfl rfl rfl rfl
          rw [mI_1]
          show nI k = if w.2.2.2.2.1 = cI (-2) then (if lM (envS s) (cutR w.1 (p / 16) (p % 16)) (p / 16) ≤ (envS s).2.2.1 then cI (-2) else nI k) else w.2.2.2.2.1
          rw [if_pos g2, if_neg g3]
      · replace mm : ¬ cnd .le (M1.1 78 (cI 12 * nI (p / 16) + nI (p % 16)).toNatClampNeg) 0 := mm
        rw [cI6, rMark, c_le, em, t0] at mm
        have mpos : 0 < q.2.2.1 := by omega
        (conv => whnf)
        refine ⟨vI6, ?_⟩
        (conv => whnf)
        refine ⟨by decide, ?_⟩
        (conv => whnf)
        rw [y1, y2]
        refine fin (mI (mI (mI M1 55 34 (M1.1 55 34 + cI 1)) 55 35 (M1.1 55 35 + K)) 55 38 (M1.1 55 38 ||| (cI 1 <<< (M1.1 78 (cI 12 * nI (p / 16) + nI (p % 16)).toNatClampNeg &&& 31)))) (FrM_s (FrM_s (FrM_s FrM_refl (by decide)) (by decide)) (by decide)) s34 s35 (dNo dno) s37 (mYes mpos) _ (fun M3 f3 c34 c35 c36 c37 c38 c75 => ?_)
        have h3 := RM_x h (WCx f3)
        (conv => whnf); refine ⟨fun g1 => ?_, fun g1 => ?_⟩
        · replace g1 : cnd .ge (M3.1 55 37) 0 := g1
          rw [c37, c_ge, t0] at g1
          (conv => whnf)
          refine step M3 f3 c34 c35 c36 ?_ c38 c75 _ rfl rfl rfl rfl
          rw [c37]
          exact (if_neg (fun z => by rw [z, kv_m2] at g1; omega)).symm
        replace g1 : ¬ cnd .ge (M3.1 55 37) 0 := g1
        rw [c37, c_ge, t0] at g1
        have g2 : w.2.2.2.2.1 = cI (-2) := o4.resolve_right (by omega)
        (conv => whnf)
        refine hC _ _ _ _ _ (m_standsNow h3 hv c75 oc.1 hrc) (fun v M4 y => ?_)
        obtain ⟨rfl, k4⟩ := y
        have f4 : FrM WC WJ M M4 := FrM_trans f3 (FrM_sub k4 (by decide) (by decide))
        have j4 : ∀ j, M4.1 55 j = M3.1 55 j := fun j => k4.2 j (by simp)
        have y4 := YM_f c75 k4 (by decide)
        (conv => whnf); refine ⟨fun g3 => ?_, fun g3 => ?_⟩
        · rw [b2_nz, eW1] at g3
          (conv => whnf)
          refine step M4 f4 (by rw [j4]; exact c34) (by rw [j4]; exact c35) (by rw [j4]; exact c36) ?_ (by rw [j4]; exact c38) y4 _ rfl rfl rfl rfl
          rw [j4, c37]
          show w.2.2.2.2.1 = if w.2.2.2.2.1 = cI (-2) then (if lM (envS s) (cutR w.1 (p / 16) (p % 16)) (p / 16) ≤ (envS s).2.2.1 then cI (-2) else nI k) else w.2.2.2.2.1
          rw [if_pos g2, if_pos g3]
          exact g2
        · rw [b2_nz, eW1] at g3
          (conv => whnf)
          refine step (mI M4 55 37 (nI k)) (FrM_s f4 (by decide)) (by rw [mI_2 _ _ (by decide), j4]; exact c34) (by rw [mI_2 _ _ (by decide), j4]; exact c35) (by rw [mI_2 _ _ (by decide), j4]; exact c36) ?_ (by rw [mI_2 _ _ (by decide), j4]; exact c38) (YM_f (A := []) (J := WJ) y4 (FrM_s FrM_refl (by decide)) (by decide)) _ rfl rfl rfl rfl
          rw [mI_1]
          show nI k = if w.2.2.2.2.1 = cI (-2) then (if lM (envS s) (cutR w.1 (p / 16) (p % 16)) (p / 16) ≤ (envS s).2.2.1 then cI (-2) else nI k) else w.2.2.2.2.1
          rw [if_pos g2, if_neg g3]
    · replace tt : ¬ cnd .lt K (M1.1 62 (M1.1 76 (cI 12 * nI (p / 16) + nI (p % 16)).toNatClampNeg).toNatClampNeg) := tt
      rw [cI6, rWay, nI_c (n := q.1) (by have := hok.1; omega), rDoor, c_lt] at tt
      have dle : (envS s).2.2.2 q.1 ≤ K := by rw [le_i]; omega
      (conv => whnf); refine ⟨fun dd => ?_, fun dd => ?_⟩
      · replace dd : cnd .ge (M1.1 55 36) 0 := dd
        rw [j1, w4, c_ge, t0] at dd
        have dno : ¬ (w.2.2.2.1 = cI (-2) ∧ (envS s).2.2.2 q.1 ≤ K) := fun z => by rw [z.1, kv_m2] at dd; omega
        (conv => whnf)
        refine ⟨vI6, ?_⟩
        (conv => whnf); refine ⟨fun mm => ?_, fun mm => ?_⟩
        · replace mm : cnd .le (M1.1 78 (cI 12 * nI (p / 16) + nI (p % 16)).toNatClampNeg) 0 := mm
          rw [cI6, rMark, c_le, em, t0] at mm
          have mneg : ¬ 0 < q.2.2.1 := by omega
          (conv => whnf)
          refine ⟨by decide, ?_⟩
          (conv => whnf)
          rw [y1, y2]
          refine fin (mI (mI M1 55 34 (M1.1 55 34 + cI 1)) 55 35 (M1.1 55 35 + K)) (FrM_s (FrM_s FrM_refl (by decide)) (by decide)) s34 s35 (dNo dno) s37 (mNo mneg) _ (fun M3 f3 c34 c35 c36 c37 c38 c75 => ?_)
          have h3 := RM_x h (WCx f3)
          (conv => whnf); refine ⟨fun g1 => ?_, fun g1 => ?_⟩
          · replace g1 : cnd .ge (M3.1 55 37) 0 := g1
            rw [c37, c_ge, t0] at g1
            (conv => whnf)
            refine step M3 f3 c34 c35 c36 ?_ c38 c75 _ rfl rfl rfl rfl
            rw [c37]
            exact (if_neg (fun z => by rw [z, kv_m2] at g1; omega)).symm
          replace g1 : ¬ cnd .ge (M3.1 55 37) 0 := g1
          rw [c37, c_ge, t0] at g1
          have g2 : w.2.2.2.2.1 = cI (-2) := o4.resolve_right (by omega)
          (conv => whnf)
          refine hC _ _ _ _ _ (m_standsNow h3 hv c75 oc.1 hrc) (fun v M4 y => ?_)
          obtain ⟨rfl, k4⟩ := y
          have f4 : FrM WC WJ M M4 := FrM_trans f3 (FrM_sub k4 (by decide) (by decide))
          have j4 : ∀ j, M4.1 55 j = M3.1 55 j := fun j => k4.2 j (by simp)
          have y4 := YM_f c75 k4 (by decide)
          (conv => whnf); refine ⟨fun g3 => ?_, fun g3 => ?_⟩
          · rw [b2_nz, eW1] at g3
            (conv => whnf)
            refine step M4 f4 (by rw [j4]; exact c34) (by rw [j4]; exact c35) (by rw [j4]; exact c36) ?_ (by rw [j4]; exact c38) y4 _ rfl rfl rfl rfl
            rw [j4, c37]
            show w.2.2.2.2.1 = if w.2.2.2.2.1 = cI (-2) then (if lM (envS s) (cutR w.1 (p / 16) (p % 16)) (p / 16) ≤ (envS s).2.2.1 then cI (-2) else nI k) else w.2.2.2.2.1
            rw [if_pos g2, if_pos g3]
            exact g2
          · rw [b2_nz, eW1] at g3
            (conv => whnf)
            refine step (mI M4 55 37 (nI k)) (FrM_s f4 (by decide)) (by rw [mI_2 _ _ (by decide), j4]; exact c34) (by rw [mI_2 _ _ (by decide), j4]; exact c35) (by rw [mI_2 _ _ (by decide), j4]; exact c36) ?_ (by rw [mI_2 _ _ (by decide), j4]; exact c38) (YM_f (A := []) (J := WJ) y4 (FrM_s FrM_refl (by decide)) (by decide)) _ rfl rfl rfl rfl
            rw [mI_1]
            show nI k = if w.2.2.2.2.1 = cI (-2) then (if lM (envS s) (cutR w.1 (p / 16) (p % 16)) (p / 16) ≤ (envS s).2.2.1 then cI (-2) else nI k) else w.2.2.2.2.1
            rw [if_pos g2, if_neg g3]
        · replace mm : ¬ cnd .le (M1.1 78 (cI 12 * nI (p / 16) + nI (p % 16)).toNatClampNeg) 0 := mm
          rw [cI6, rMark, c_le, em, t0] at mm
          have mpos : 0 < q.2.2.1 := by omega
          (conv => whnf)
          refine ⟨vI6, ?_⟩
          (conv => whnf)
          refine ⟨by decide, ?_⟩
          (conv => whnf)
          rw [y1, y2]
          refine fin (mI (mI (mI M1 55 34 (M1.1 55 34 + cI 1)) 55 35 (M1.1 55 35 + K)) 55 38 (M1.1 55 38 ||| (cI 1 <<< (M1.1 78 (cI 12 * nI (p / 16) + nI (p % 16)).toNatClampNeg &&& 31)))) (FrM_s (FrM_s (FrM_s FrM_refl (by decide)) (by decide)) (by decide)) s34 s35 (dNo dno) s37 (mYes mpos) _ (fun M3 f3 c34 c35 c36 c37 c38 c75 => ?_)
          have h3 := RM_x h (WCx f3)
          (conv => whnf); refine ⟨fun g1 => ?_, fun g1 => ?_⟩
          · replace g1 : cnd .ge (M3.1 55 37) 0 := g1
            rw [c37, c_ge, t0] at g1
            (conv => whnf)
            refine step M3 f3 c34 c35 c36 ?_ c38 c75 _ rfl rfl rfl rfl
            rw [c37]
            exact (if_neg (fun z => by rw [z, kv_m2] at g1; omega)).symm
          replace g1 : ¬ cnd .ge (M3.1 55 37) 0 := g1
          rw [c37, c_ge, t0] at g1
          have g2 : w.2.2.2.2.1 = cI (-2) := o4.resolve_right (by omega)
          (conv => whnf)
          refine hC _ _ _ _ _ (m_standsNow h3 hv c75 oc.1 hrc) (fun v M4 y => ?_)
          obtain ⟨rfl, k4⟩ := y
          have f4 : FrM WC WJ M M4 := FrM_trans f3 (FrM_sub k4 (by decide) (by decide))
          have j4 : ∀ j, M4.1 55 j = M3.1 55 j := fun j => k4.2 j (by simp)
          have y4 := YM_f c75 k4 (by decide)
          (conv => whnf); refine ⟨fun g3 => ?_, fun g3 => ?_⟩
          · rw [b2_nz, eW1] at g3
            (conv => whnf)
            refine step M4 f4 (by rw [j4]; exact c34) (by rw [j4]; exact c35) (by rw [j4]; exact c36) ?_ (by rw [j4]; exact c38) y4 _ rfl rfl rfl rfl
            rw [j4, c37]
            show w.2.2.2.2.1 = if w.2.2.2.2.1 = cI (-2) then (if lM (envS s) (cutR w.1 (p / 16) (p % 16)) (p / 16) ≤ (envS s).2.2.1 then cI (-2) else nI k) else w.2.2.2.2.1
            rw [if_pos g2, if_pos g3]
            exact g2
          · rw [b2_nz, eW1] at g3
            (conv => whnf)
            refine step (mI M4 55 37 (nI k)) (FrM_s f4 (by decide)) (by rw [mI_2 _ _ (by decide), j4]; exact c34) (by rw [mI_2 _ _ (by decide), j4]; exact c35) (by rw [mI_2 _ _ (by decide), j4]; exact c36) ?_ (by rw [mI_2 _ _ (by decide), j4]; exact c38) (YM_f (A := []) (J := WJ) y4 (FrM_s FrM_refl (by decide)) (by decide)) _ rfl rfl rfl rfl
            rw [mI_1]
            show nI k = if w.2.2.2.2.1 = cI (-2) then (if lM (envS s) (cutR w.1 (p / 16) (p % 16)) (p / 16) ≤ (envS s).2.2.1 then cI (-2) else nI k) else w.2.2.2.2.1
            rw [if_pos g2, if_neg g3]
      · replace dd : ¬ cnd .ge (M1.1 55 36) 0 := dd
        rw [j1, w4, c_ge, t0] at dd
        have dm2 : w.2.2.2.1 = cI (-2) := o3.resolve_right (by omega)
        (conv => whnf)
        refine ⟨vI6, ?_⟩
        (conv => whnf); refine ⟨fun mm => ?_, fun mm => ?_⟩
        · replace mm : cnd .le (M1.1 78 (cI 12 * nI (p / 16) + nI (p % 16)).toNatClampNeg) 0 := mm
          rw [cI6, rMark, c_le, em, t0] at mm
          have mneg : ¬ 0 < q.2.2.1 := by omega
          (conv => whnf)
          refine ⟨by decide, ?_⟩
          (conv => whnf)
          rw [y1, y2]
          refine fin (mI (mI (mI M1 55 34 (M1.1 55 34 + cI 1)) 55 35 (M1.1 55 35 + K)) 55 36 (nI k)) (FrM_s (FrM_s (FrM_s FrM_refl (by decide)) (by decide)) (by decide)) s34 s35 (by rw [eD, if_pos ⟨dm2, dle⟩]; rfl) s37 (mNo mneg) _ (fun M3 f3 c34 c35 c36 c37 c38 c75 => ?_)
          have h3 := RM_x h (WCx f3)
          (conv => whnf); refine ⟨fun g1 => ?_, fun g1 => ?_⟩
          · replace g1 : cnd .ge (M3.1 55 37) 0 := g1
            rw [c37, c_ge, t0] at g1
            (conv => whnf)
            refine step M3 f3 c34 c35 c36 ?_ c38 c75 _ rfl rfl rfl rfl
            rw [c37]
            exact (if_neg (fun z => by rw [z, kv_m2] at g1; omega)).symm
          replace g1 : ¬ cnd .ge (M3.1 55 37) 0 := g1
          rw [c37, c_ge, t0] at g1
          have g2 : w.2.2.2.2.1 = cI (-2) := o4.resolve_right (by omega)
          (conv => whnf)
          refine hC _ _ _ _ _ (m_standsNow h3 hv c75 oc.1 hrc) (fun v M4 y => ?_)
          obtain ⟨rfl, k4⟩ := y
          have f4 : FrM WC WJ M M4 := FrM_trans f3 (FrM_sub k4 (by decide) (by decide))
          have j4 : ∀ j, M4.1 55 j = M3.1 55 j := fun j => k4.2 j (by simp)
          have y4 := YM_f c75 k4 (by decide)
          (conv => whnf); refine ⟨fun g3 => ?_, fun g3 => ?_⟩
          · rw [b2_nz, eW1] at g3
            (conv => whnf)
            refine step M4 f4 (by rw [j4]; exact c34) (by rw [j4]; exact c35) (by rw [j4]; exact c36) ?_ (by rw [j4]; exact c38) y4 _ rfl rfl rfl rfl
            rw [j4, c37]
            show w.2.2.2.2.1 = if w.2.2.2.2.1 = cI (-2) then (if lM (envS s) (cutR w.1 (p / 16) (p % 16)) (p / 16) ≤ (envS s).2.2.1 then cI (-2) else nI k) else w.2.2.2.2.1
            rw [if_pos g2, if_pos g3]
            exact g2
          · rw [b2_nz, eW1] at g3
            (conv => whnf)
            refine step (mI M4 55 37 (nI k)) (FrM_s f4 (by decide)) (by rw [mI_2 _ _ (by decide), j4]; exact c34) (by rw [mI_2 _ _ (by decide), j4]; exact c35) (by rw [mI_2 _ _ (by decide), j4]; exact c36) ?_ (by rw [mI_2 _ _ (by decide), j4]; exact c38) (YM_f (A := []) (J := WJ) y4 (FrM_s FrM_refl (by decide)) (by decide)) _ rfl rfl rfl rfl
            rw [mI_1]
            show nI k = if w.2.2.2.2.1 = cI (-2) then (if lM (envS s) (cutR w.1 (p / 16) (p % 16)) (p / 16) ≤ (envS s).2.2.1 then cI (-2) else nI k) else w.2.2.2.2.1
            rw [if_pos g2, if_neg g3]
        · replace mm : ¬ cnd .le (M1.1 78 (cI 12 * nI (p / 16) + nI (p % 16)).toNatClampNeg) 0 := mm
          rw [cI6, rMark, c_le, em, t0] at mm
          have mpos : 0 < q.2.2.1 := by omega
          (conv => whnf)
          refine ⟨vI6, ?_⟩
          (conv => whnf)
          refine ⟨by decide, ?_⟩
          (conv => whnf)
          rw [y1, y2]
          refine fin (mI (mI (mI (mI M1 55 34 (M1.1 55 34 + cI 1)) 55 35 (M1.1 55 35 + K)) 55 36 (nI k)) 55 38 (M1.1 55 38 ||| (cI 1 <<< (M1.1 78 (cI 12 * nI (p / 16) + nI (p % 16)).toNatClampNeg &&& 31)))) (FrM_s (FrM_s (FrM_s (FrM_s FrM_refl (by decide)) (by decide)) (by decide)) (by decide)) s34 s35 (by rw [eD, if_pos ⟨dm2, dle⟩]; rfl) s37 (mYes mpos) _ (fun M3 f3 c34 c35 c36 c37 c38 c75 => ?_)
          have h3 := RM_x h (WCx f3)
          (conv => whnf); refine ⟨fun g1 => ?_, fun g1 => ?_⟩
          · replace g1 : cnd .ge (M3.1 55 37) 0 := g1
            rw [c37, c_ge, t0] at g1
            (conv => whnf)
            refine step M3 f3 c34 c35 c36 ?_ c38 c75 _ rfl rfl rfl rfl
            rw [c37]
            exact (if_neg (fun z => by rw [z, kv_m2] at g1; omega)).symm
          replace g1 : ¬ cnd .ge (M3.1 55 37) 0 := g1
          rw [c37, c_ge, t0] at g1
          have g2 : w.2.2.2.2.1 = cI (-2) := o4.resolve_right (by omega)
          (conv => whnf)
          refine hC _ _ _ _ _ (m_standsNow h3 hv c75 oc.1 hrc) (fun v M4 y => ?_)
          obtain ⟨rfl, k4⟩ := y
          have f4 : FrM WC WJ M M4 := FrM_trans f3 (FrM_sub k4 (by decide) (by decide))
          have j4 : ∀ j, M4.1 55 j = M3.1 55 j := fun j => k4.2 j (by simp)
          have y4 := YM_f c75 k4 (by decide)
          (conv => whnf); refine ⟨fun g3 => ?_, fun g3 => ?_⟩
          · rw [b2_nz, eW1] at g3
            (conv => whnf)
            refine step M4 f4 (by rw [j4]; exact c34) (by rw [j4]; exact c35) (by rw [j4]; exact c36) ?_ (by rw [j4]; exact c38) y4 _ rfl rfl rfl rfl
            rw [j4, c37]
            show w.2.2.2.2.1 = if w.2.2.2.2.1 = cI (-2) then (if lM (envS s) (cutR w.1 (p / 16) (p % 16)) (p / 16) ≤ (envS s).2.2.1 then cI (-2) else nI k) else w.2.2.2.2.1
            rw [if_pos g2, if_pos g3]
            exact g2
          · rw [b2_nz, eW1] at g3
            (conv => whnf)
            refine step (mI M4 55 37 (nI k)) (FrM_s f4 (by decide)) (by rw [mI_2 _ _ (by decide), j4]; exact c34) (by rw [mI_2 _ _ (by decide), j4]; exact c35) (by rw [mI_2 _ _ (by decide), j4]; exact c36) ?_ (by rw [mI_2 _ _ (by decide), j4]; exact c38) (YM_f (A := []) (J := WJ) y4 (FrM_s FrM_refl (by decide)) (by decide)) _ rfl rfl rfl rfl
            rw [mI_1]
            show nI k = if w.2.2.2.2.1 = cI (-2) then (if lM (envS s) (cutR w.1 (p / 16) (p % 16)) (p / 16) ≤ (envS s).2.2.1 then cI (-2) else nI k) else w.2.2.2.2.1
            rw [if_pos g2, if_neg g3]
theorem m_goWinter {d i t n : Nat} {M : Mem} {s : St} {l : List Int64} (h : RM M s) (hv : inv s) (hi : i < 6) (hs : sSh s i = some (.inr (t, l))) (hn : n ≤ 24) : Call (d + 9) 213 [.ref 55, .int (nI i), .int (nI n)] M (fun v M' => v = none ∧ FrM WC WJ M M' ∧ WMm M' (wrun (envS s) (l.take n) 0 (w0 (sK s))) ∧ wOk s (wrun (envS s) (l.take n) 0 (w0 (sK s)))) := by
  refine call_run 400 rfl rfl (fun B Cl Z hZ hB hC => ?_)
  (conv => whnf)
  refine hC _ _ _ _ _ (m_layNow h.1 hv.1) (fun v M1 p => ?_)
  obtain ⟨rfl, p2, p3⟩ := p
  (conv => whnf)
  show B 33 _ _ (mI (mI (mI (mI (mI M1 55 34 (cI 0)) 55 35 (cI 0)) 55 36 (cI (-2))) 55 37 (cI (-2))) 55 38 (cI 0))
  have hf : FrM [] WJ M1 (mI (mI (mI (mI (mI M1 55 34 (cI 0)) 55 35 (cI 0)) 55 36 (cI (-2))) 55 37 (cI (-2))) 55 38 (cI 0)) := FrM_s (FrM_s (FrM_s (FrM_s (FrM_s FrM_refl (by decide)) (by decide)) (by decide)) (by decide)) (by decide)
  have hw : WMm (mI (mI (mI (mI (mI M1 55 34 (cI 0)) 55 35 (cI 0)) 55 36 (cI (-2))) 55 37 (cI (-2))) 55 38 (cI 0)) (w0 (sK s)) := ⟨YM_f p3 hf (by decide), rfl, rfl, rfl, rfl, rfl⟩
  generalize (mI (mI (mI (mI (mI M1 55 34 (cI 0)) 55 35 (cI 0)) 55 36 (cI (-2))) 55 37 (cI (-2))) 55 38 (cI 0)) = M2 at hf hw ⊢
  have hF : FrM WC WJ M M2 := FrM_trans (FrM_sub p2 (by decide) (by decide)) (FrM_sub hf (by decide) (by decide))
  have h60 : l.length ≤ 60 := by
    have := (hv.2.2.2.1 i hi).2
    rw [hs] at this
    exact this.2
  refine hB _ _ _ _ (Body_lv (Body_mono (winter_loop (d := d) hv hi hs hn (min n l.length) 0 M2 (w0 (sK s)) (by omega) (RM_x h (WCx hF)) hw ⟨hv.1, rfl, Or.inl rfl, Or.inl rfl⟩) (fun v M3 y => ?_)) ⟨rfl, rfl, rfl, rfl, trivial⟩)
  rw [List.drop_zero] at y
  exact ⟨y.1, FrM_trans hF y.2.1, y.2.2⟩
theorem m_winter {d : Nat} {M : Mem} {s : St} {x n w : Int32} (h : RM M s) (hv : inv s) : Call (d + 10) 215 [.ref 55, .int x, .int n, .int w] M (QP M (.int (aWinter s x n w)) s) := by
  have out : ¬ ((0 ≤ x.toInt ∧ x.toInt < 6) ∧ (0 ≤ n.toInt ∧ n.toInt ≤ 24) ∧ 0 ≤ w.toInt ∧ w.toInt ≤ 4) → aWinter s x n w = cI (-1) := fun z => if_neg z
  refine call_run 400 rfl rfl (fun B Cl Z hZ hB hC => ?_)
  (conv => whnf); refine ret_k hC (m_isShelf) ?_
  (conv => whnf); refine ⟨fun a => ?_, fun a => ?_⟩
  · rw [b2_z] at a
    rw [out (fun z => a z.1)] at hZ
    conv => whnf
    exact hZ _ _ (QP_same h FrM_refl)
  rw [b2_z] at a
  have a := Classical.not_not.mp a
  (conv => whnf); refine ret_k hC (m_areMany) ?_
  (conv => whnf); refine ⟨fun b => ?_, fun b => ?_⟩
  · rw [b2_z] at b
    rw [out (fun z => b z.2.1)] at hZ
    conv => whnf
    exact hZ _ _ (QP_same h FrM_refl)
  rw [b2_z] at b
  have b := Classical.not_not.mp b
  (conv => whnf); refine ret_k hC (m_in) ?_
  rw [kv_0, kv_4]
  (conv => whnf); refine ⟨fun c => ?_, fun c => ?_⟩
  case' refine_2 =>
    rw [b2_nz] at c
    rw [out (fun z => c z.2.2)] at hZ
    conv => whnf
    exact hZ _ _ (QP_same h FrM_refl)
  rw [b2_nz] at c
  obtain ⟨i, rfl, ei, hi⟩ := to_nI a.1
  obtain ⟨m, rfl, em, hm⟩ := to_nI b.1
  have hi6 : i < 6 := by omega
  have e8 : aWinter s (nI i) (nI m) w = (match rowL (sSh s i) 0 with
    | some l => wnt (wrun (envS s) (l.take m) 0 (w0 (sK s))) w.toInt
    | none => rfu (sSh s i) 0) := by
    unfold aWinter
    rw [if_pos ⟨a, b, c⟩, ei, em]
    rfl
  rw [e8] at hZ
  (conv => whnf); refine ret_k hC (m_rowFault (t := 0) h hv hi6 (by decide)) ?_
  rcases rowL_c (sSh s i) 0 with ⟨l, q1, q2, q3⟩ | ⟨q1, q2⟩
  · rw [q2] at hZ
    rw [q3]
    (conv => whnf); refine ⟨fun k => ?_, fun k => ?_⟩
    case' refine_2 => exact absurd (show cnd .ge (cI 0) 0 by rw [c_ge]; decide) k
    (conv => whnf)
    refine hC _ _ _ _ _ (m_goWinter h hv hi6 q1 (show m ≤ 24 by omega)) (fun v M2 p => ?_)
    obtain ⟨rfl, f2, ⟨p2, p3, p4, p5, p6, p7⟩, -⟩ := p
    have hF := WCx f2
    dsimp only at hZ
    generalize wrun (envS s) (l.take m) 0 (w0 (sK s)) = W at hZ p2 p3 p4 p5 p6 p7
    unfold wnt at hZ
    (conv => whnf); refine ⟨fun t1x => ?_, fun t1x => ?_⟩
    · simp only [c_lt, c_gt, c_le, c_ge, c_eq, c_ne, b2_z, b2_nz, b2_i, Classical.not_not, t0, t1, Nat.reduceMod, Nat.reduceDiv, Int.reduceAdd, Int.reduceNeg, Nat.reduceAdd, kv_m1, kv_0, kv_1, kv_2, kv_3, kv_4, kc_0, kc_1, kc_2, kc_3, kc_4, x_eq] at t1x
      rw [if_pos t1x] at hZ
      conv => whnf
      exact hZ _ _ (QP_v h hF (congrArg Value.int p3))
    simp only [c_lt, c_gt, c_le, c_ge, c_eq, c_ne, b2_z, b2_nz, b2_i, Classical.not_not, t0, t1, Nat.reduceMod, Nat.reduceDiv, Int.reduceAdd, Int.reduceNeg, Nat.reduceAdd, kv_m1, kv_0, kv_1, kv_2, kv_3, kv_4, kc_0, kc_1, kc_2, kc_3, kc_4, x_eq] at t1x
    rw [if_neg t1x] at hZ
    (conv => whnf); refine ⟨fun t2x => ?_, fun t2x => ?_⟩
    · simp only [c_lt, c_gt, c_le, c_ge, c_eq, c_ne, b2_z, b2_nz, b2_i, Classical.not_not, t0, t1, Nat.reduceMod, Nat.reduceDiv, Int.reduceAdd, Int.reduceNeg, Nat.reduceAdd, kv_m1, kv_0, kv_1, kv_2, kv_3, kv_4, kc_0, kc_1, kc_2, kc_3, kc_4, x_eq] at t2x
      rw [if_pos t2x] at hZ
      conv => whnf
      exact hZ _ _ (QP_v h hF (congrArg Value.int p4))
    simp only [c_lt, c_gt, c_le, c_ge, c_eq, c_ne, b2_z, b2_nz, b2_i, Classical.not_not, t0, t1, Nat.reduceMod, Nat.reduceDiv, Int.reduceAdd, Int.reduceNeg, Nat.reduceAdd, kv_m1, kv_0, kv_1, kv_2, kv_3, kv_4, kc_0, kc_1, kc_2, kc_3, kc_4, x_eq] at t2x
    rw [if_neg t2x] at hZ
    (conv => whnf); refine ⟨fun t3x => ?_, fun t3x => ?_⟩
    · simp only [c_lt, c_gt, c_le, c_ge, c_eq, c_ne, b2_z, b2_nz, b2_i, Classical.not_not, t0, t1, Nat.reduceMod, Nat.reduceDiv, Int.reduceAdd, Int.reduceNeg, Nat.reduceAdd, kv_m1, kv_0, kv_1, kv_2, kv_3, kv_4, kc_0, kc_1, kc_2, kc_3, kc_4, x_eq] at t3x
      rw [if_pos t3x] at hZ
      conv => whnf
      exact hZ _ _ (QP_v h hF (congrArg Value.int p5))
    simp only [c_lt, c_gt, c_le, c_ge, c_eq, c_ne, b2_z, b2_nz, b2_i, Classical.not_not, t0, t1, Nat.reduceMod, Nat.reduceDiv, Int.reduceAdd, Int.reduceNeg, Nat.reduceAdd, kv_m1, kv_0, kv_1, kv_2, kv_3, kv_4, kc_0, kc_1, kc_2, kc_3, kc_4, x_eq] at t3x
    rw [if_neg t3x] at hZ
    (conv => whnf); refine ⟨fun t4x => ?_, fun t4x => ?_⟩
    · simp only [c_lt, c_gt, c_le, c_ge, c_eq, c_ne, b2_z, b2_nz, b2_i, Classical.not_not, t0, t1, Nat.reduceMod, Nat.reduceDiv, Int.reduceAdd, Int.reduceNeg, Nat.reduceAdd, kv_m1, kv_0, kv_1, kv_2, kv_3, kv_4, kc_0, kc_1, kc_2, kc_3, kc_4, x_eq] at t4x
      rw [if_pos t4x] at hZ
      conv => whnf
      exact hZ _ _ (QP_v h hF (congrArg Value.int p6))
    · simp only [c_lt, c_gt, c_le, c_ge, c_eq, c_ne, b2_z, b2_nz, b2_i, Classical.not_not, t0, t1, Nat.reduceMod, Nat.reduceDiv, Int.reduceAdd, Int.reduceNeg, Nat.reduceAdd, kv_m1, kv_0, kv_1, kv_2, kv_3, kv_4, kc_0, kc_1, kc_2, kc_3, kc_4, x_eq] at t4x
      rw [if_neg t4x] at hZ
      conv => whnf
      exact hZ _ _ (QP_v h hF (congrArg Value.int p7))
  · rw [q1] at hZ
    (conv => whnf); refine ⟨fun k => ?_, fun k => ?_⟩
    · rw [c_ge, t0] at k
      omega
    · (conv => whnf); refine ret_k hC (m_rowFault (t := 0) h hv hi6 (by decide)) ?_
      conv => whnf
      exact hZ _ _ (QP_same h FrM_refl)
theorem m_leanThen {d : Nat} {M : Mem} {s : St} {x n r w : Int32} (h : RM M s) (hv : inv s) : Call (d + 10) 216 [.ref 55, .int x, .int n, .int r, .int w] M (QP M (.int (aLeanThen s x n r w)) s) := by
  have out : ¬ ((0 ≤ x.toInt ∧ x.toInt < 6) ∧ (0 ≤ n.toInt ∧ n.toInt ≤ 24) ∧ (0 ≤ r.toInt ∧ r.toInt < ((sK s).length : Int)) ∧ 0 ≤ w.toInt ∧ w.toInt ≤ 1) → aLeanThen s x n r w = voidI := fun z => if_neg z
  refine call_run 400 rfl rfl (fun B Cl Z hZ hB hC => ?_)
  (conv => whnf); refine ret_k hC (m_isShelf) ?_
  (conv => whnf); refine ⟨fun a => ?_, fun a => ?_⟩
  · rw [b2_z] at a
    rw [out (fun z => a z.1)] at hZ
    conv => whnf
    rw [kt_2]
    exact hZ _ _ (QP_same h FrM_refl)
  rw [b2_z] at a
  have a := Classical.not_not.mp a
  (conv => whnf); refine ret_k hC (m_areMany) ?_
  (conv => whnf); refine ⟨fun b => ?_, fun b => ?_⟩
  · rw [b2_z] at b
    rw [out (fun z => b z.2.1)] at hZ
    conv => whnf
    rw [kt_2]
    exact hZ _ _ (QP_same h FrM_refl)
  rw [b2_z] at b
  have b := Classical.not_not.mp b
  (conv => whnf); refine ret_k hC (m_isRick h.1.1 hv.1.1) ?_
  (conv => whnf); refine ⟨fun g => ?_, fun g => ?_⟩
  · rw [b2_z] at g
    rw [out (fun z => g z.2.2.1)] at hZ
    conv => whnf
    rw [kt_2]
    exact hZ _ _ (QP_same h FrM_refl)
  rw [b2_z] at g
  have g := Classical.not_not.mp g
  (conv => whnf); refine ret_k hC (m_in) ?_
  rw [kv_0, kv_1]
  (conv => whnf); refine ⟨fun c => ?_, fun c => ?_⟩
  · rw [b2_z] at c
    rw [out (fun z => c z.2.2.2)] at hZ
    conv => whnf
    rw [kt_2]
    exact hZ _ _ (QP_same h FrM_refl)
  rw [b2_z] at c
  have c := Classical.not_not.mp c
  obtain ⟨i, rfl, ei, hi⟩ := to_nI a.1
  obtain ⟨m, rfl, em, hm⟩ := to_nI b.1
  obtain ⟨j, rfl, ej, hj⟩ := to_nI g.1
  have hi6 : i < 6 := by omega
  have e8 : aLeanThen s (nI i) (nI m) (nI j) w = (match rowL (sSh s i) 0 with
    | some l => if w.toInt = 0 then lX (envS s) (wrun (envS s) (l.take m) 0 (w0 (sK s))).1 j else lY (envS s) (wrun (envS s) (l.take m) 0 (w0 (sK s))).1 j
    | none => voidI) := by
    unfold aLeanThen
    rw [if_pos ⟨a, b, g, c⟩, ei, em, ej]
    rfl
  rw [e8] at hZ
  (conv => whnf); refine ret_k hC (m_rowFault (t := 0) h hv hi6 (by decide)) ?_
  rcases rowL_c (sSh s i) 0 with ⟨l, q1, q2, q3⟩ | ⟨q1, q2⟩
  · rw [q2] at hZ
    rw [q3]
    (conv => whnf); refine ⟨fun k => ?_, fun k => ?_⟩
    case' refine_2 => exact absurd (show cnd .ge (cI 0) 0 by rw [c_ge]; decide) k
    (conv => whnf)
    refine hC _ _ _ _ _ (m_goWinter h hv hi6 q1 (show m ≤ 24 by omega)) (fun v M2 p => ?_)
    obtain ⟨rfl, f2, ⟨p2, -⟩, o1, o2, -⟩ := p
    have hF := WCx f2
    dsimp only at hZ
    generalize (wrun (envS s) (l.take m) 0 (w0 (sK s))).1 = W at hZ p2 o1 o2
    have h2 := RM_x h hF
    (conv => whnf); refine ⟨fun t1x => ?_, fun t1x => ?_⟩
    · simp only [c_lt, c_gt, c_le, c_ge, c_eq, c_ne, b2_z, b2_nz, b2_i, Classical.not_not, t0, t1, Nat.reduceMod, Nat.reduceDiv, Int.reduceAdd, Int.reduceNeg, Nat.reduceAdd, kv_0, kv_1, kc_0, kc_1] at t1x
      rw [if_neg t1x] at hZ
      (conv => whnf)
      refine hC _ _ _ _ _ (m_leanY h2 hv p2 o1 (show j < W.length by omega)) (fun v M3 y => ?_)
      obtain ⟨rfl, y2⟩ := y
      conv => whnf
      exact hZ _ _ (QP_same h (FrM_trans hF (KJx y2)))
    · simp only [c_lt, c_gt, c_le, c_ge, c_eq, c_ne, b2_z, b2_nz, b2_i, Classical.not_not, t0, t1, Nat.reduceMod, Nat.reduceDiv, Int.reduceAdd, Int.reduceNeg, Nat.reduceAdd, kv_0, kv_1, kc_0, kc_1] at t1x
      rw [if_pos t1x] at hZ
      (conv => whnf)
      refine hC _ _ _ _ _ (m_leanX h2 hv p2 o1 (show j < W.length by omega)) (fun v M3 y => ?_)
      obtain ⟨rfl, y2⟩ := y
      conv => whnf
      exact hZ _ _ (QP_same h (FrM_trans hF (KJx y2)))
  · rw [q1] at hZ
    (conv => whnf); refine ⟨fun k => ?_, fun k => ?_⟩
    · rw [c_ge, t0] at k
      omega
    · conv => whnf
      rw [kt_2]
      exact hZ _ _ (QP_same h FrM_refl)
