/-! the reference: a day, the image -/
def agP (M : Mem) (rk : Rk) (r k : Nat) : Prop := ∀ r' l' q, (rk.getD r' [])[l']? = some q → M.1 60 (12 * r' + l') = nI (if r' < r ∨ (r' = r ∧ l' < k) then (old1 q).2.2.2 else q.2.2.2)
def dayP (M0 : Mem) (s : St) : Po := QP M0 (.int (nI (dyN (sDy s)))) (aDay s)
theorem dyN_v {n : Nat} (h : n ≤ 99) : dyN n = if n < 99 then n + 1 else n := by
  unfold dyN
  split <;> split <;> omega
theorem day_end {d : Nat} {M0 : Mem} {s : St} (h : RM M0 s) (hv : inv s) {r k : Nat} {x : Value} (M : Mem) (hf : FrM [60] [] M0 M) (hp : agP M (sK s) r 0) (hr : (sK s).length ≤ r) : QP M0 (.int (nI (dyN (sDy s)))) (aDay s) (some (.int (nI (dyN (sDy s))))) (mI (if sDy s < 99 then mI M 61 2 (nI (sDy s + 1)) else M) 86 4 (M.1 86 4 + cI 1)) := by
  obtain ⟨h1, h2, h3, h4, h5, h6, h7, h8, h9, h10⟩ := id h
  have h99 := hv.2.2.1.2.2.2
  generalize hM : (if sDy s < 99 then mI M 61 2 (nI (sDy s + 1)) else M) = M1
  have hf1 : FrM [60, 61] [] M0 M1 := by
    rw [← hM]
    split
    · exact FrM_a (FrM_sub hf (by decide) (by decide)) (by decide) (by decide)
    · exact FrM_sub hf (by decide) (by decide)
  have e61 : ∀ j, M1.1 61 j = if j = 2 then nI (dyN (sDy s)) else M0.1 61 j := by
    intro j
    have q : M.1 61 = M0.1 61 := FrM_c hf (by decide) (by decide)
    rw [← hM, dyN_v h99]
    by_cases z : sDy s < 99
    · rw [if_pos z, if_pos z, mI_at, q]
      by_cases y : j = 2
      · rw [if_pos ⟨rfl, y⟩, if_pos y]
      · rw [if_neg (fun w => y w.2), if_neg y]
    · rw [if_neg z, if_neg z, q]
      split
      · next y => rw [y]; exact h2.2.2.1
      · rfl
  have e60 : M1.1 60 = M.1 60 := by
    rw [← hM]
    split
    · rfl
    · rfl
  have e86 : M.1 86 = M0.1 86 := FrM_c hf (by decide) (by decide)
  have e86' : M1.1 86 = M0.1 86 := FrM_c hf1 (by decide) (by decide)
  have hF : FrM [60, 61, 86] [] M0 (mI M1 86 4 (M.1 86 4 + cI 1)) := FrM_a (FrM_sub hf1 (by decide) (by decide)) (by decide) (by decide)
  refine ⟨rfl, RM_st h hF ⟨?_, fun r' hr' => ⟨?_, fun l q hq j hj => ?_⟩⟩ ⟨?_, ?_, ?_, fun w hw => ?_⟩ (fun i hi => ?_) (RMi_f h5 hF (by decide) (by decide)) (RMt_f h6 hF (by decide) (by decide)) (RMb_f h7 hF (by decide) (by decide)) (RMr_f h8 hF (by decide) (by decide)) (RMs_f h9 hF (by decide)) (RMc_f h10 hF (by decide) (by decide)) (RMl_f h3 hF (by decide) (by decide)), Fr_sub hF.1 (by decide)⟩
  · rw [FrM_j hF 1 (by decide)]
    show _ = nI (older (sK s)).length
    unfold older
    rw [List.length_map]
    exact h1.1
  · replace hr' : r' < (older (sK s)).length := hr'
    unfold older at hr'
    rw [List.length_map] at hr'
    show _ = nI (hgt (older (sK s)) r')
    rw [older_hgt, FrM_c hF (by decide) (by decide)]
    exact (h1.2 r' hr').1
  · replace hq : ((older (sK s)).getD r' [])[l]? = some q := hq
    rw [older_at, List.getElem?_map] at hq
    obtain ⟨q0, hq0, rfl⟩ := Option.map_eq_some_iff.mp hq
    have hlt := hgt_lt (ly_lt hq0)
    have hy := (h1.2 r' hlt).2 l q0 hq0
    match j, hj with
    | 0, _ => rw [FrM_c hF (by decide) (by decide)]; exact hy 0 (by decide)
    | 1, _ => rw [FrM_c hF (by decide) (by decide)]; exact hy 1 (by decide)
    | 2, _ => rw [FrM_c hF (by decide) (by decide)]; exact hy 2 (by decide)
    | 3, _ =>
      show (mI M1 86 4 (M.1 86 4 + cI 1)).1 60 (12 * r' + l) = nI (old1 q0).2.2.2
      rw [mI_ne _ _ _ (by decide), e60, hp r' l q0 hq0, if_pos (by omega)]
  · rw [mI_ne _ _ _ (by decide), e61, if_neg (by decide)]; exact h2.1
  · rw [mI_ne _ _ _ (by decide), e61, if_neg (by decide)]; exact h2.2.1
  · rw [mI_ne _ _ _ (by decide), e61, if_pos rfl]; rfl
  · rw [FrM_c hF (by decide) (by decide)]; exact h2.2.2.2 w hw
  · show (mI M1 86 4 (M.1 86 4 + cI 1)).1 86 i = upD (sDe s) 4 (sDe s 4 + cI 1) i
    rw [mI_at, e86, e86']
    unfold upD
    by_cases z : i = 4
    · rw [if_pos ⟨rfl, z⟩, if_pos z, h4 4 (by decide)]
    · rw [if_neg (fun y => z y.2), if_neg z, h4 i hi]
theorem day_inner {d : Nat} {M0 : Mem} {s : St} (h : RM M0 s) (hv : inv s) {r : Nat} (hr : r < (sK s).length) (ih : ∀ (z : Int32) (M : Mem), FrM [60] [] M0 M → agP M (sK s) (r + 1) 0 → BodyK (d + 1) 241 2 [(0, .ref 55), (1, .int (nI (r + 1)))] [] M (dayP M0 s)) : ∀ (n k : Nat) (M : Mem), k + n = hgt (sK s) r → FrM [60] [] M0 M → agP M (sK s) r k →
    BodyK (d + 1) 241 12 [(0, .ref 55), (1, .int (nI r)), (2, .int (nI k))] [] M (dayP M0 s) := by
  have h1 := h.1
  have h4 := hv.1.1
  have h12 := hv.1.2.1 r
  have eh := nI_v (n := hgt (sK s) r) (by omega)
  have vr : vp_in (nI r) 4 := nI_vp (by omega) (by decide)
  have cr := nI_c (n := r) (by omega)
  intro n
  induction n with
  | zero =>
    intro k M hk hf hp
    obtain rfl : k = hgt (sK s) r := by omega
    have hm : M.1 56 r = nI (hgt (sK s) r) := by rw [FrM_c hf (by decide) (by decide)]; exact (h1.2 r hr).1
    refine body_run 400 rfl (fun B Cl Z hZ hB hC => ?_)
    (conv => whnf)
    refine ⟨vr, ?_⟩
    (conv => whnf); refine ⟨fun b => ?_, fun b => ?_⟩
    · (conv => whnf)
      refine hB _ _ _ _ (Body_lv (ih (nI 0) M hf (fun r' l' q hq => ?_)) ⟨rfl, v_eq (nI_i1 r), trivial⟩)
      rw [hp r' l' q hq]
      have hl := ly_lt hq
      by_cases z : r' < r + 1 ∨ (r' = r + 1 ∧ l' < 0)
      · rw [if_pos z]
        by_cases y : r' = r
        · subst y; rw [if_pos (Or.inr ⟨rfl, hl⟩)]
        · rw [if_pos (by omega)]
      · rw [if_neg z, if_neg (by omega)]
    · replace b : ¬ cnd .ge (nI (hgt (sK s) r)) (M.1 56 (nI r).toNatClampNeg) := b
      rw [cr, hm, c_ge] at b
      omega
  | succ n ih2 =>
    intro k M hk hf hp
    have ek := nI_v (n := k) (by omega)
    have hm : M.1 56 r = nI (hgt (sK s) r) := by rw [FrM_c hf (by decide) (by decide)]; exact (h1.2 r hr).1
    obtain ⟨q, hq⟩ := ly_at (rk := sK s) (r := r) (l := k) (by omega)
    have hok := (hv.1.2.2 r k q hq).2.2.2
    have eP : cI 12 * nI r + nI k = nI (12 * r + k) := by rw [show cI 12 = nI 12 from rfl, nI_mul, nI_add]
    have vP : vp_in (cI 12 * nI r + nI k) 48 := by rw [eP]; exact nI_vp (by omega) (by decide)
    have hag : M.1 60 (12 * r + k) = nI q.2.2.2 := by rw [hp r k q hq, if_neg (by omega)]
    have ea := nI_v (n := q.2.2.2) (by omega)
    refine body_run 400 rfl (fun B Cl Z hZ hB hC => ?_)
    (conv => whnf)
    refine ⟨vr, ?_⟩
    (conv => whnf); refine ⟨fun b => ?_, fun b => ?_⟩
    · replace b : cnd .ge (nI k) (M.1 56 (nI r).toNatClampNeg) := b
      rw [cr, hm, c_ge, eh, ek] at b
      omega
    (conv => whnf)
    refine ⟨vP, ?_⟩
    have step : ∀ M2 : Mem, FrM [60] [] M0 M2 → (∀ i, M2.1 60 i = if i = 12 * r + k then nI (old1 q).2.2.2 else M.1 60 i) → agP M2 (sK s) r (k + 1) := by
      intro M2 _ e r' l' q' hq'
      rw [e]
      have hl' := ly_lt hq'
      have b1 := hv.1.2.1 r'
      by_cases z : 12 * r' + l' = 12 * r + k
      · have : r' = r := by omega
        subst this
        obtain rfl : l' = k := by omega
        rw [hq] at hq'
        cases hq'
        rw [if_pos rfl, if_pos (Or.inr ⟨rfl, by omega⟩)]
      · rw [if_neg z, hp r' l' q' hq']
        by_cases y : r' < r ∨ (r' = r ∧ l' < k)
        · rw [if_pos y, if_pos (by omega)]
        · rw [if_neg y, if_neg (fun w => by
            rcases w with w | ⟨w1, w2⟩
            · omega
            · subst w1; omega)]
    (conv => whnf); refine ⟨fun g => ?_, fun g => ?_⟩
    · replace g : cnd .ge (M.1 60 (cI 12 * nI r + nI k).toNatClampNeg) (cI 99) := g
      rw [eP, nI_c (by omega), hag, c_ge, ea, kv_99] at g
      (conv => whnf)
      refine hB _ _ _ _ (Body_lv (ih2 (k + 1) M (by omega) hf (step M hf (fun i => ?_))) ⟨rfl, rfl, v_eq (nI_i1 k), trivial⟩)
      split
      · next z =>
        rw [z, hag]
        unfold old1
        show nI q.2.2.2 = nI (if q.2.2.2 + 1 < 99 then q.2.2.2 + 1 else 99)
        rw [if_neg (by omega)]
        congr 1
        omega
      · rfl
    · replace g : ¬ cnd .ge (M.1 60 (cI 12 * nI r + nI k).toNatClampNeg) (cI 99) := g
      rw [eP, nI_c (by omega), hag, c_ge, ea, kv_99] at g
      (conv => whnf)
      refine ⟨vP, ?_⟩
      (conv => whnf)
      refine ⟨vP, ?_⟩
      (conv => whnf)
      rw [eP, nI_c (n := 12 * r + k) (by omega), hag, show nI q.2.2.2 + cI 1 = nI (q.2.2.2 + 1) from nI_i1 _]
      have hf2 : FrM [60] [] M0 (mI M 60 (12 * r + k) (nI (q.2.2.2 + 1))) := FrM_a hf (by decide) (by decide)
      refine hB _ _ _ _ (Body_lv (ih2 (k + 1) _ (by omega) hf2 (step _ hf2 (fun i => ?_))) ⟨rfl, rfl, v_eq (nI_i1 k), trivial⟩)
      rw [mI_same]
      show (if i = 12 * r + k then _ else _) = _
      split
      · unfold old1
        show nI (q.2.2.2 + 1) = nI (if q.2.2.2 + 1 < 99 then q.2.2.2 + 1 else 99)
        congr 1
        split <;> omega
      · rfl
theorem day_outer {d : Nat} {M0 : Mem} {s : St} (h : RM M0 s) (hv : inv s) : ∀ (n r : Nat) (M : Mem), r + n = (sK s).length → FrM [60] [] M0 M → agP M (sK s) r 0 →
    BodyK (d + 1) 241 2 [(0, .ref 55), (1, .int (nI r))] [] M (dayP M0 s) := by
  have h1 := h.1
  have h4 := hv.1.1
  have h99 := hv.2.2.1.2.2.2
  have el := nI_v (n := (sK s).length) (by omega)
  have ed := nI_v (n := sDy s) (by omega)
  intro n
  induction n with
  | zero =>
    intro r M hr hf hp
    obtain rfl : r = (sK s).length := by omega
    have hr1 : M.1 55 1 = nI (sK s).length := by rw [FrM_j hf 1 (by decide)]; exact h1.1
    have h61 : M.1 61 2 = nI (sDy s) := by rw [FrM_c hf (by decide) (by decide)]; exact h.2.1.2.2.1
    have fin := day_end (d := d) (k := 0) (x := .null) h hv M hf hp (Nat.le_refl _)
    refine body_run 400 rfl (fun B Cl Z hZ hB hC => ?_)
    (conv => whnf); refine ⟨fun b => ?_, fun b => ?_⟩
    case' refine_2 =>
      replace b : ¬ cnd .ge (nI (sK s).length) (M.1 55 1) := b
      rw [hr1, c_ge] at b
      omega
    (conv => whnf)
    refine ⟨nI_vp (c := 2) (by decide) (by decide), ?_⟩
    (conv => whnf); refine ⟨fun g => ?_, fun g => ?_⟩
    · replace g : cnd .ge (M.1 61 2) (cI 99) := g
      rw [h61, c_ge, ed, kv_99] at g
      rw [if_neg (by omega)] at fin
      (conv => whnf)
      refine ⟨nI_vp (c := 4) (by decide) (by decide), ?_⟩
      (conv => whnf)
      refine ⟨nI_vp (c := 4) (by decide) (by decide), ?_⟩
      (conv => whnf)
      refine ⟨nI_vp (c := 2) (by decide) (by decide), ?_⟩
      show Z (some (.int (M.1 61 2))) (mI M 86 4 (M.1 86 4 + cI 1))
      have e : M.1 61 2 = nI (dyN (sDy s)) := by rw [h61, dyN_v h99, if_neg (by omega)]
      rw [e]
      exact hZ _ _ fin
    · replace g : ¬ cnd .ge (M.1 61 2) (cI 99) := g
      rw [h61, c_ge, ed, kv_99] at g
      rw [if_pos (by omega)] at fin
      (conv => whnf)
      refine ⟨nI_vp (c := 2) (by decide) (by decide), ?_⟩
      (conv => whnf)
      refine ⟨nI_vp (c := 2) (by decide) (by decide), ?_⟩
      (conv => whnf)
      refine ⟨nI_vp (c := 4) (by decide) (by decide), ?_⟩
      (conv => whnf)
      refine ⟨nI_vp (c := 4) (by decide) (by decide), ?_⟩
      (conv => whnf)
      refine ⟨nI_vp (c := 2) (by decide) (by decide), ?_⟩
      show Z (some (.int (M.1 61 2 + cI 1))) (mI (mI M 61 2 (M.1 61 2 + cI 1)) 86 4 (M.1 86 4 + cI 1))
      have e : nI (sDy s + 1) = nI (dyN (sDy s)) := by rw [dyN_v h99, if_pos (by omega)]
      rw [h61, nI_i1, e]
      rw [e] at fin
      exact hZ _ _ fin
  | succ n ih =>
    intro r M hr hf hp
    have er := nI_v (n := r) (by omega)
    have hr1 : M.1 55 1 = nI (sK s).length := by rw [FrM_j hf 1 (by decide)]; exact h1.1
    refine body_run 400 rfl (fun B Cl Z hZ hB hC => ?_)
    (conv => whnf); refine ⟨fun b => ?_, fun b => ?_⟩
    · replace b : cnd .ge (nI r) (M.1 55 1) := b
      rw [hr1, c_ge, el, er] at b
      omega
    (conv => whnf)
    exact hB _ _ _ _ (Body_lv (day_inner (d := d) h hv (by omega) (fun _ M2 f p => ih (r + 1) M2 (by omega) f p) (hgt (sK s) r) 0 M (by omega) hf hp) ⟨rfl, rfl, rfl, trivial⟩)
theorem m_day {d : Nat} {M : Mem} {s : St} (h : RM M s) (hv : inv s) : Call (d + 1) 241 [.ref 55] M (QP M (.int (nI (dyN (sDy s)))) (aDay s)) := by
  refine call_run 400 rfl rfl (fun B Cl Z hZ hB hC => ?_)
  conv => whnf
  refine hB _ _ _ _ (Body_lv (day_outer (d := d) h hv (sK s).length 0 M (by omega) FrM_refl (fun r' l' q hq => ?_)) ⟨rfl, rfl, trivial⟩)
  rw [if_neg (by omega)]
  exact (h.1.2 r' (hgt_lt (ly_lt hq))).2 l' q hq 3 (by decide)
