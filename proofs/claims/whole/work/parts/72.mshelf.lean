/-! the reference: shelves, bodies -/
theorem RMs_set {M M' : Mem} {f : Nat → Shf} {i : Nat} {x : Shf} (h : ∀ j, j < 6 → RMs1 M j (f j)) (hb : ∀ j, j < 6 → shB (f j)) (h1 : ∀ j, j < 6 → ¬ j = i → M'.1 95 j = M.1 95 j) (h2 : ∀ j, j < 6 → ¬ j = i → M'.1 96 j = M.1 96 j) (h3 : ∀ j, j < 6 → ¬ j = i → ∀ k, k < 60 → M'.2 97 (60 * j + k) = M.2 97 (60 * j + k)) (hx : RMs1 M' i x) : ∀ j, j < 6 → RMs1 M' j (upD f i x j) := by
  intro j hj
  by_cases z : j = i
  · subst z; rw [upD_1]; exact hx
  · rw [upD_2 z]
    have := h j hj
    have hbj := hb j hj
    revert this hbj
    rcases f j with _ | b | ⟨t, l⟩
    · intro q _; exact (h1 j hj z).trans q
    · intro q _; exact (h1 j hj z).trans q
    · intro q hbj
      refine ⟨(h1 j hj z).trans q.1, (h2 j hj z).trans q.2.1, fun k y hk => ?_⟩
      have hlt : k < l.length := by
        rcases Nat.lt_or_ge k l.length with w | w
        · exact w
        · rw [List.getElem?_eq_none w] at hk; cases hk
      rw [h3 j hj z k (by have := hbj.2; omega)]
      exact q.2.2 k y hk
theorem hold_v {t : Nat} (h : t < 5) : (cI (-2) - nI t).toInt = -2 - (t : Int) := by
  rw [sb_v (by rw [kv_m2, nI_v (by omega)]; omega) (by rw [kv_m2, nI_v (by omega)]; omega), kv_m2, nI_v (by omega)]
theorem hold_t {t : Nat} (h : t < 5) : cI (-2) - (cI (-2) - nI t) = nI t := by
  apply Int32.toInt_inj.mp
  have e := hold_v h
  rw [sb_v (by rw [kv_m2, e]; omega) (by rw [kv_m2, e]; omega), kv_m2, e, nI_v (by omega)]
  omega
/-- what a shelf's number says -/
theorem RMs_v {M : Mem} {i : Nat} {x : Shf} {ks : List Nat} (h : RMs1 M i x) (hb : shB x) (ho : okSh ks x) (hk : ks.length ≤ 50) : (x = none ∧ (M.1 95 i).toInt = -1) ∨ (∃ b, x = some (.inl b) ∧ b < 50 ∧ M.1 95 i = nI b ∧ (M.1 95 i).toInt = (b : Int)) ∨ ∃ t l, x = some (.inr (t, l)) ∧ t < 5 ∧ l.length ≤ 60 ∧ M.1 95 i = cI (-2) - nI t ∧ (M.1 95 i).toInt = -2 - (t : Int) ∧ M.1 96 i = nI l.length := by
  rcases x with _ | b | ⟨t, l⟩
  · replace h : M.1 95 i = cI (-1) := h
    exact Or.inl ⟨rfl, by rw [h, kv_m1]⟩
  · replace h : M.1 95 i = nI b := h
    replace ho : b < ks.length := ho
    exact Or.inr (Or.inl ⟨b, rfl, by omega, h, by rw [h, nI_v (by omega)]⟩)
  · exact Or.inr (Or.inr ⟨t, l, rfl, hb.1, hb.2, h.1, by rw [h.1]; exact hold_v hb.1, h.2.1⟩)
theorem inv.sv {s : St} (hv : inv s) {M : Mem} (h : RM M s) {i : Nat} (hi : i < 6) : (sSh s i = none ∧ (M.1 95 i).toInt = -1) ∨ (∃ b, sSh s i = some (.inl b) ∧ b < 50 ∧ M.1 95 i = nI b ∧ (M.1 95 i).toInt = (b : Int)) ∨ ∃ t l, sSh s i = some (.inr (t, l)) ∧ t < 5 ∧ l.length ≤ 60 ∧ M.1 95 i = cI (-2) - nI t ∧ (M.1 95 i).toInt = -2 - (t : Int) ∧ M.1 96 i = nI l.length :=
  RMs_v (h.2.2.2.2.2.2.2.2.1 i hi) (hv.2.2.2.1 i hi).2 (hv.2.2.2.1 i hi).1 hv.2.2.2.2.1.1
theorem m_keep {d : Nat} {M : Mem} {s : St} {x b : Int32} (h : RM M s) (hv : inv s) : Call (d + 3) 265 [.ref 55, .int x, .int b] M (QP M (.int (aKeep s x b).1) (aKeep s x b).2) := by
  obtain ⟨h1, h2, h3, h4, h5, h6, h7, h8, h9, h10⟩ := id h
  have out : ¬ ((0 ≤ x.toInt ∧ x.toInt < 6) ∧ -1 ≤ b.toInt ∧ b.toInt < ((sKs s).length : Int)) → aKeep s x b = (cI (-1), s) := fun z => if_neg z
  have yes : ∀ i, x = nI i → i < 6 → -1 ≤ b.toInt ∧ b.toInt < ((sKs s).length : Int) → ∀ r M', QP M (.int (cI 1)) (wSh s (upD (sSh s) i (if b.toInt < 0 then none else some (.inl b.toInt.toNat)))) r M' → QP M (.int (aKeep s x b).1) (aKeep s x b).2 r M' := by
    intro i e hi hb
    have ei := nI_v (n := i) (by omega)
    have : aKeep s x b = (cI 1, wSh s (upD (sSh s) i (if b.toInt < 0 then none else some (.inl b.toInt.toNat)))) := by
      unfold aKeep
      rw [e, if_pos (by omega), ei]
      rfl
    rw [this]
    exact fun _ _ q => q
  have fin : ∀ i, i < 6 → -1 ≤ b.toInt ∧ b.toInt < ((sKs s).length : Int) → QP M (.int (cI 1)) (wSh s (upD (sSh s) i (if b.toInt < 0 then none else some (.inl b.toInt.toNat)))) (some (.int (cI 1))) (mI M 95 i b) := by
    intro i hi hb
    have hf : FrM [95] [] M (mI M 95 i b) := FrM_a FrM_refl (by decide) (by decide)
    refine ⟨rfl, RM_st h hf (RMk_fr h1 hf (by decide) (by decide)) (RMn_f h2 hf (by decide)) (RMd_f h4 hf (by decide)) (RMi_f h5 hf (by decide) (by decide)) (RMt_f h6 hf (by decide) (by decide)) (RMb_f h7 hf (by decide) (by decide)) (RMr_f h8 hf (by decide) (by decide)) (RMs_set h9 (fun j hj => (hv.2.2.2.1 j hj).2) (fun j _ z => ?_) (fun j _ _ => rfl) (fun j _ _ _ _ => rfl) ?_) (RMc_f h10 hf (by decide) (by decide)) (RMl_f h3 hf (by decide) (by decide)), Fr_sub hf.1 (by decide)⟩
    · exact mI_2 _ _ z
    · by_cases z : b.toInt < 0
      · rw [if_pos z]
        show (mI M 95 i b).1 95 i = cI (-1)
        rw [mI_1]
        exact Int32.toInt_inj.mp (by rw [kv_m1]; omega)
      · rw [if_neg z]
        show (mI M 95 i b).1 95 i = nI b.toInt.toNat
        rw [mI_1]
        obtain ⟨n, rfl, en, -⟩ := to_nI (x := b) (by omega)
        rw [en]
        rfl
  refine call_run 400 rfl rfl (fun B Cl Z hZ hB hC => ?_)
  (conv => whnf); refine ret_k hC (m_isShelf) ?_
  (conv => whnf); refine ⟨fun a => ?_, fun a => ?_⟩
  · rw [b2_z] at a
    rw [out (fun z => a z.1)] at hZ
    conv => whnf
    exact hZ _ _ (QP_same h FrM_refl)
  rw [b2_z] at a
  have a := Classical.not_not.mp a
  obtain ⟨i, rfl, ei, hi⟩ := to_nI a.1
  (conv => whnf); refine ⟨fun g => ?_, fun g => ?_⟩
  · simp only [c_lt, c_gt, c_le, c_ge, c_eq, c_ne, b2_z, b2_nz, b2_i, Classical.not_not, t0, t1, Nat.reduceMod, Nat.reduceDiv, Int.reduceAdd, Int.reduceNeg, Nat.reduceAdd, kv_m1, kv_1, kc_1] at g
    (conv => whnf)
    refine ⟨nI_vp (by omega) (by decide), ?_⟩
    conv => whnf
    rw [nI_c hi]
    exact hZ _ _ (yes i rfl (by omega) (by omega) _ _ (fin i (by omega) (by omega)))
  simp only [c_lt, c_gt, c_le, c_ge, c_eq, c_ne, b2_z, b2_nz, b2_i, Classical.not_not, t0, t1, Nat.reduceMod, Nat.reduceDiv, Int.reduceAdd, Int.reduceNeg, Nat.reduceAdd, kv_m1, kv_1, kc_1] at g
  (conv => whnf); refine ret_k hC (m_isBody h7.1 hv.2.2.2.2.1.1) ?_
  (conv => whnf); refine ⟨fun k => ?_, fun k => ?_⟩
  · rw [b2_nz] at k
    (conv => whnf)
    refine ⟨nI_vp (by omega) (by decide), ?_⟩
    conv => whnf
    rw [nI_c hi]
    exact hZ _ _ (yes i rfl (by omega) (by omega) _ _ (fin i (by omega) (by omega)))
  · rw [b2_nz] at k
    rw [out (by omega)] at hZ
    conv => whnf
    exact hZ _ _ (QP_same h FrM_refl)
def whyA (s : St) (x i : Int32) : Int32 := if 0 ≤ x.toInt ∧ x.toInt < 6 then rfa (sSh s x.toInt.toNat) i else cI (-1)
theorem m_why {d : Nat} {M : Mem} {s : St} {x j : Int32} (h : RM M s) (hv : inv s) : Call (d + 3) 267 [.ref 55, .int x, .int j] M (RV (some (.int (whyA s x j))) M) := by
  refine call_run 400 rfl rfl (fun B Cl Z hZ hB hC => ?_)
  (conv => whnf); refine ret_k hC (m_isShelf) ?_
  (conv => whnf); refine ⟨fun a => ?_, fun a => ?_⟩
  case' refine_2 =>
    rw [b2_nz] at a
    have e9 : whyA s x j = cI (-1) := if_neg a
    rw [e9] at hZ
    conv => whnf
    exact hZ _ _ ⟨rfl, rfl⟩
  rw [b2_nz] at a
  obtain ⟨i, rfl, ei, hi⟩ := to_nI a.1
  have e8 : whyA s (nI i) j = rfa (sSh s i) j := by
    unfold whyA
    rw [if_pos a, ei]
    rfl
  rw [e8] at hZ
  have vp : vp_in (nI i) 6 := nI_vp (by omega) (by decide)
  have ec := nI_c hi
  rcases hv.sv h (show i < 6 by omega) with ⟨q1, q2⟩ | ⟨b, q1, q2, q3, q4⟩ | ⟨t, l, q1, q2, q3, q4, q5, q6⟩
  · rw [q1] at hZ
    (conv => whnf)
    refine ⟨vp, ?_⟩
    (conv => whnf); refine ⟨fun g => ?_, fun g => ?_⟩
    · replace g : cnd .ne (M.1 95 (nI i).toNatClampNeg) (cI (-1)) := g
      rw [ec, c_ne, q2, kv_m1] at g
      omega
    · conv => whnf
      exact hZ _ _ ⟨rfl, rfl⟩
  · rw [q1] at hZ
    (conv => whnf)
    refine ⟨vp, ?_⟩
    (conv => whnf); refine ⟨fun g => ?_, fun g => ?_⟩
    case' refine_2 =>
      replace g : ¬ cnd .ne (M.1 95 (nI i).toNatClampNeg) (cI (-1)) := g
      rw [ec, c_ne, q4, kv_m1] at g
      omega
    (conv => whnf)
    refine ⟨vp, ?_⟩
    (conv => whnf); refine ⟨fun k => ?_, fun k => ?_⟩
    · replace k : cnd .lt (M.1 95 (nI i).toNatClampNeg) 0 := k
      rw [ec, c_lt, q4, t0] at k
      omega
    · conv => whnf
      exact hZ _ _ ⟨rfl, rfl⟩
  · rw [q1] at hZ
    have el := n_m1 (n := l.length) (by omega)
    (conv => whnf)
    refine ⟨vp, ?_⟩
    (conv => whnf); refine ⟨fun g => ?_, fun g => ?_⟩
    case' refine_2 =>
      replace g : ¬ cnd .ne (M.1 95 (nI i).toNatClampNeg) (cI (-1)) := g
      rw [ec, c_ne, q5, kv_m1] at g
      omega
    (conv => whnf)
    refine ⟨vp, ?_⟩
    (conv => whnf); refine ⟨fun k => ?_, fun k => ?_⟩
    case' refine_2 =>
      replace k : ¬ cnd .lt (M.1 95 (nI i).toNatClampNeg) 0 := k
      rw [ec, c_lt, q5, t0] at k
      omega
    (conv => whnf)
    refine ⟨vp, ?_⟩
    (conv => whnf)
    rw [ec, q6]
    refine ret_k hC (m_in) ?_
    rw [kv_0, el]
    (conv => whnf); refine ⟨fun u => ?_, fun u => ?_⟩
    · rw [b2_z] at u
      have e9 : rfa (some (.inr (t, l))) j = cI (-13) := if_neg (by omega)
      rw [e9] at hZ
      conv => whnf
      exact hZ _ _ ⟨rfl, rfl⟩
    · rw [b2_z] at u
      have e9 : rfa (some (.inr (t, l))) j = cI 0 := if_pos (by have := Classical.not_not.mp u; omega)
      rw [e9] at hZ
      conv => whnf
      exact hZ _ _ ⟨rfl, rfl⟩
theorem rfa_s {u : Shf} {j : Int32} (h : ¬ (rfa u j).toInt < 0) : ∃ t l, u = some (.inr (t, l)) ∧ 0 ≤ j.toInt ∧ j.toInt < (l.length : Int) := by
  match u with
  | none => exact absurd (show (cI (-11)).toInt < 0 by rw [kv_m11]; decide) h
  | some (.inl _) => exact absurd (show (cI (-12)).toInt < 0 by rw [kv_m12]; decide) h
  | some (.inr (t, l)) =>
    refine ⟨t, l, rfl, ?_⟩
    by_cases z : 0 ≤ j.toInt ∧ j.toInt < (l.length : Int)
    · exact z
    · have : rfa (some (.inr (t, l))) j = cI (-13) := if_neg z
      rw [this, kv_m13] at h
      exact absurd (by decide) h
theorem why_c {s : St} {x j : Int32} : ((whyA s x j).toInt < 0 ∧ (∀ y, aPut s x j y = (whyA s x j, s)) ∧ aElement s x j = noL) ∨ ∃ i m t l, x = nI i ∧ i < 6 ∧ j = nI m ∧ m < l.length ∧ sSh s i = some (.inr (t, l)) ∧ ¬ (whyA s x j).toInt < 0 ∧ (∀ y, aPut s x j y = (cI 1, wSh s (upD (sSh s) i (some (.inr (t, l.set m (nrw t y))))))) ∧ aElement s x j = l.getD m 0 := by
  unfold whyA aPut aElement
  by_cases a : 0 ≤ x.toInt ∧ x.toInt < 6
  · obtain ⟨i, rfl, ei, hi⟩ := to_nI a.1
    rw [if_pos a, if_pos a, ei]
    rw [show ((i : Int)).toNat = i from rfl]
    have a' : 0 ≤ (i : Int) ∧ (i : Int) < 6 := by rw [ei] at a; exact a
    match hq : sSh s i with
    | none => exact Or.inl ⟨by show (cI (-11)).toInt < 0; rw [kv_m11]; decide, fun y => by rw [if_pos a']; rfl, rfl⟩
    | some (.inl b) => exact Or.inl ⟨by show (cI (-12)).toInt < 0; rw [kv_m12]; decide, fun y => by rw [if_pos a']; rfl, rfl⟩
    | some (.inr (t, l)) =>
      by_cases z : 0 ≤ j.toInt ∧ j.toInt < (l.length : Int)
      · obtain ⟨m, rfl, em, hm⟩ := to_nI z.1
        have e1 : rfa (some (.inr (t, l))) (nI m) = cI 0 := if_pos z
        refine Or.inr ⟨i, m, t, l, rfl, by omega, rfl, by omega, hq, by rw [e1, kv_0]; decide, fun y => ?_, ?_⟩
        · rw [if_pos a']
          dsimp only
          rw [if_pos z, em]
          rfl
        · dsimp only
          rw [if_pos z, em]
          rfl
      · have e1 : rfa (some (.inr (t, l))) j = cI (-13) := if_neg z
        refine Or.inl ⟨by rw [e1, kv_m13]; decide, fun y => ?_, ?_⟩
        · rw [if_pos a']
          dsimp only
          rw [if_neg z, e1]
        · dsimp only
          rw [if_neg z]
  · rw [if_neg a]
    exact Or.inl ⟨by rw [kv_m1]; decide, fun y => by rw [if_neg a], if_neg a⟩
theorem ix60 (i m : Nat) : cI 60 * nI i + nI m = nI (60 * i + m) := by rw [show cI 60 = nI 60 from rfl, nI_mul, nI_add]
theorem m_element {d : Nat} {M : Mem} {s : St} {x j : Int32} (h : RM M s) (hv : inv s) : Call (d + 4) 269 [.ref 55, .int x, .int j] M (QP M (.long (aElement s x j)) s) := by
  have lk7 : (nth (0, 0, 0, 0) ltL 7).2.2.1 = noL := by decide +kernel
  refine call_run 400 rfl rfl (fun B Cl Z hZ hB hC => ?_)
  (conv => whnf); refine ret_k hC (m_why h hv) ?_
  rcases why_c (s := s) (x := x) (j := j) with ⟨a, -, a3⟩ | ⟨i, m, t, l, rfl, hi, rfl, hm, hs, b1, -, b3⟩
  · rw [a3] at hZ
    (conv => whnf); refine ⟨fun g => ?_, fun g => ?_⟩
    · rw [c_ge, t0] at g
      omega
    · conv => whnf
      rw [lk7]
      exact hZ _ _ (QP_same h FrM_refl)
  · rw [b3] at hZ
    have hsh := h.2.2.2.2.2.2.2.2.1 i hi
    have hb := (hv.2.2.2.1 i hi).2
    rw [hs] at hsh hb
    have h60 := hb.2
    (conv => whnf); refine ⟨fun g => ?_, fun g => ?_⟩
    case' refine_2 =>
      rw [c_ge, t0] at g
      omega
    (conv => whnf)
    refine ⟨by rw [ix60]; exact nI_vp (by omega) (by decide), ?_⟩
    conv => whnf
    rw [ix60, nI_c (by omega), hsh.2.2 m _ (get_d hm)]
    exact hZ _ _ (QP_same h FrM_refl)
theorem lN_01 : (Int64.ofNat (1 : Fin 2).val) = (1 : Int64) ∧ (Int64.ofNat (0 : Fin 2).val) = (0 : Int64) := ⟨rfl, rfl⟩
theorem put_fin {M : Mem} {s : St} {i m t : Nat} {l : List Int64} {y : Int64} (h : RM M s) (hv : inv s) (hi : i < 6) (hm : m < l.length) (hs : sSh s i = some (.inr (t, l))) : QP M (.int (cI 1)) (wSh s (upD (sSh s) i (some (.inr (t, l.set m (nrw t y)))))) (some (.int (cI 1))) (mL M 97 (60 * i + m) (nrw t y)) := by
  obtain ⟨h1, h2, h3, h4, h5, h6, h7, h8, h9, h10⟩ := id h
  have hf : FrM [97] [] M (mL M 97 (60 * i + m) (nrw t y)) := FrM_l FrM_refl (by decide)
  have hsh := h9 i hi
  have hb := (hv.2.2.2.1 i hi).2
  rw [hs] at hsh hb
  have h60 := hb.2
  refine ⟨rfl, RM_st h hf (RMk_fr h1 hf (by decide) (by decide)) (RMn_f h2 hf (by decide)) (RMd_f h4 hf (by decide)) (RMi_f h5 hf (by decide) (by decide)) (RMt_f h6 hf (by decide) (by decide)) (RMb_f h7 hf (by decide) (by decide)) (RMr_f h8 hf (by decide) (by decide)) (RMs_set h9 (fun j hj => (hv.2.2.2.1 j hj).2) (fun j _ z => rfl) (fun j _ _ => rfl) (fun j _ z k hk => ?_) ⟨hsh.1, by rw [List.length_set]; exact hsh.2.1, fun j x q => ?_⟩) (RMc_f h10 hf (by decide) (by decide)) (RMl_f h3 hf (by decide) (by decide)), Fr_sub hf.1 (by decide)⟩
  · rw [mL_same]
    show (if _ = _ then _ else _) = _
    rw [if_neg (by omega)]
  · rw [mL_same]
    show (if _ = _ then _ else _) = _
    by_cases z : j = m
    · subst z
      rw [if_pos rfl]
      rw [List.getElem?_set_self (by omega)] at q
      cases q
      rfl
    · rw [if_neg (by omega)]
      rw [List.getElem?_set_ne (fun w => z w.symm)] at q
      exact hsh.2.2 j x q
theorem m_put {d : Nat} {M : Mem} {s : St} {x j : Int32} {y : Int64} (h : RM M s) (hv : inv s) : Call (d + 4) 268 [.ref 55, .int x, .int j, .long y] M (QP M (.int (aPut s x j y).1) (aPut s x j y).2) := by
  refine call_run 400 rfl rfl (fun B Cl Z hZ hB hC => ?_)
  (conv => whnf); refine ret_k hC (m_why h hv) ?_
  rcases why_c (s := s) (x := x) (j := j) with ⟨a, a2, -⟩ | ⟨i, m, t, l, rfl, hi, rfl, hm, hs, b1, b2, -⟩
  · rw [a2] at hZ
    (conv => whnf); refine ⟨fun g => ?_, fun g => ?_⟩
    · rw [c_ge, t0] at g
      omega
    · conv => whnf
      exact hZ _ _ (QP_same h FrM_refl)
  · rw [b2] at hZ
    have hsh := h.2.2.2.2.2.2.2.2.1 i hi
    have hb := (hv.2.2.2.1 i hi).2
    rw [hs] at hsh hb
    have h60 := hb.2
    have ht5 := hb.1
    have vL : vp_in (cI 60 * nI i + nI m) 360 := by rw [ix60]; exact nI_vp (by omega) (by decide)
    have vi : vp_in (nI i) 6 := nI_vp hi (by decide)
    have et : cI (-2) - M.1 95 (nI i).toNatClampNeg = nI t := by rw [nI_c (by omega), hsh.1]; exact hold_t ht5
    have hfin := put_fin (y := y) h hv hi hm hs
    have eT := nI_v (n := t) (by omega)
    have done : ∀ z, z = nrw t y → QP M (.int (cI 1)) (wSh s (upD (sSh s) i (some (.inr (t, l.set m (nrw t y)))))) (some (.int (cI 1))) (mL M 97 (cI 60 * nI i + nI m).toNatClampNeg z) := by
      intro z hz
      rw [hz, ix60, nI_c (by omega)]
      exact hfin
    (conv => whnf); refine ⟨fun g => ?_, fun g => ?_⟩
    case' refine_2 =>
      rw [c_ge, t0] at g
      omega
    (conv => whnf)
    refine ⟨vi, ?_⟩
    (conv => whnf); refine ⟨fun k0 => ?_, fun k0 => ?_⟩
    · replace k0 : cnd .ne (cI (-2) - M.1 95 (nI i).toNatClampNeg) 0 := k0
      rw [et, c_ne, eT, t0] at k0
      (conv => whnf); refine ⟨fun k1 => ?_, fun k1 => ?_⟩
      · replace k1 : cnd .ne (cI (-2) - M.1 95 (nI i).toNatClampNeg) (cI 1) := k1
        rw [et, c_ne, eT, kv_1] at k1
        (conv => whnf); refine ⟨fun k2 => ?_, fun k2 => ?_⟩
        · replace k2 : cnd .ne (cI (-2) - M.1 95 (nI i).toNatClampNeg) (cI 2) := k2
          rw [et, c_ne, eT, kv_2] at k2
          (conv => whnf); refine ⟨fun k3 => ?_, fun k3 => ?_⟩
          · replace k3 : cnd .ne (cI (-2) - M.1 95 (nI i).toNatClampNeg) (cI 3) := k3
            rw [et, c_ne, eT, kv_3] at k3
            have e4 : nrw t y = if y = 0 then 0 else 1 := by unfold nrw; rw [if_neg (by omega), if_neg (by omega), if_neg (by omega), if_neg (by omega)]
            (conv => whnf); refine ⟨fun u => ?_, fun u => ?_⟩
            · replace u : cnd .eq (lg_cmp y (Int64.ofNat (0 : Fin 2).val)) 0 := u
              rw [c_eq, t0, lc_0] at u
              (conv => whnf)
              refine ⟨vL, ?_⟩
              conv => whnf
              exact hZ _ _ (done _ (by rw [e4, if_pos (show y = 0 from u)]; rfl))
            · replace u : ¬ cnd .eq (lg_cmp y (Int64.ofNat (0 : Fin 2).val)) 0 := u
              rw [c_eq, t0, lc_0] at u
              (conv => whnf)
              refine ⟨vL, ?_⟩
              conv => whnf
              exact hZ _ _ (done _ (by rw [e4, if_neg (show ¬ y = 0 from u)]; rfl))
          · replace k3 : ¬ cnd .ne (cI (-2) - M.1 95 (nI i).toNatClampNeg) (cI 3) := k3
            rw [et, c_ne, eT, kv_3] at k3
            (conv => whnf)
            refine ⟨vL, ?_⟩
            conv => whnf
            exact hZ _ _ (done _ (by unfold nrw; rw [if_neg (by omega), if_neg (by omega), if_neg (by omega), if_pos (by omega)]))
        · replace k2 : ¬ cnd .ne (cI (-2) - M.1 95 (nI i).toNatClampNeg) (cI 2) := k2
          rw [et, c_ne, eT, kv_2] at k2
          (conv => whnf)
          refine ⟨vL, ?_⟩
          conv => whnf
          exact hZ _ _ (done _ (by unfold nrw; rw [if_neg (by omega), if_neg (by omega), if_pos (by omega)]))
      · replace k1 : ¬ cnd .ne (cI (-2) - M.1 95 (nI i).toNatClampNeg) (cI 1) := k1
        rw [et, c_ne, eT, kv_1] at k1
        (conv => whnf)
        refine ⟨vL, ?_⟩
        conv => whnf
        exact hZ _ _ (done _ (by unfold nrw; rw [if_neg (by omega), if_pos (by omega)]))
    · replace k0 : ¬ cnd .ne (cI (-2) - M.1 95 (nI i).toNatClampNeg) 0 := k0
      rw [et, c_ne, eT, t0] at k0
      (conv => whnf)
      refine ⟨vL, ?_⟩
      conv => whnf
      exact hZ _ _ (done _ (by unfold nrw; rw [if_pos (by omega)]))
