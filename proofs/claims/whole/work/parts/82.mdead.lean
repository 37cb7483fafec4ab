/-! the reference: changes of layers cut, dead -/
theorem ch_b {g : List AChg} {n : Nat} {rk : Rk} (h : chOk rk g n) {i : Nat} {a : AChg} (ha : g[i]? = some a) : a.1 < 8 ∧ i < 40 := by
  obtain ⟨h1, h2, h3⟩ := h
  refine ⟨(h3 i a ha).1, ?_⟩
  rcases Nat.lt_or_ge i g.length with z | z
  · omega
  · rw [List.getElem?_eq_none z] at ha; cases ha
theorem dead_loop {d n : Nat} {M0 : Mem} {g : List AChg} {rk : Rk} (h : RMc M0 g n) (hv : chOk rk g n) : ∀ (m k : Nat) (M : Mem), k + m = g.length → FrM [64] [] M0 M → (∀ i a, g[i]? = some a → M.1 64 i = if i < k then cgA (deadC a) else cgA a) →
    BodyK (d + 1) 173 2 [(0, .ref 55), (1, .int (nI k))] [] M (fun v M' => v = none ∧ FrM [64] [] M0 M' ∧ RMc M' (g.map deadC) n) := by
  obtain ⟨h1, h2, -⟩ := id hv
  have esum : ∀ M, FrM [64] [] M0 M → M.1 55 9 + M.1 55 10 = nI g.length := fun M hf => by
    rw [FrM_j hf 9 (by decide), FrM_j hf 10 (by decide), h.1, h.2.1, nI_add]
    congr 1
    omega
  have el := nI_v (n := g.length) (by omega)
  intro m
  induction m with
  | zero =>
    intro k M hk hf hp
    obtain rfl : k = g.length := by omega
    have es := esum M hf
    refine body_run 400 rfl (fun B Cl Z hZ hB hC => ?_)
    (conv => whnf); refine ⟨fun b => ?_, fun b => ?_⟩
    · conv => whnf
      refine hZ _ _ ⟨rfl, hf, by rw [FrM_j hf 9 (by decide)]; exact h.1, by rw [FrM_j hf 10 (by decide), List.length_map]; exact h.2.1, fun i a ha => ?_⟩
      rw [List.getElem?_map] at ha
      obtain ⟨a', ha', rfl⟩ := Option.map_eq_some_iff.mp ha
      have q := h.2.2 i a' ha'
      have hlt : i < g.length := by
        rcases Nat.lt_or_ge i g.length with z | z
        · exact z
        · rw [List.getElem?_eq_none z] at ha'; cases ha'
      rw [FrM_c hf (a := 63) (by decide) (by decide), FrM_c hf (a := 65) (by decide) (by decide), FrM_c hf (a := 66) (by decide) (by decide), hp i a' ha', if_pos hlt]
      have e1 : (deadC a').1 = a'.1 := by unfold deadC; split <;> rfl
      have e2 : (deadC a').2.2 = a'.2.2 := by unfold deadC; split <;> rfl
      rw [e1, e2]
      exact ⟨q.1, rfl, q.2.2.1, q.2.2.2⟩
    · replace b : ¬ cnd .ge (nI g.length) (M.1 55 9 + M.1 55 10) := b
      rw [es, c_ge] at b
      omega
  | succ m ih =>
    intro k M hk hf hp
    have ek := nI_v (n := k) (by omega)
    have es := esum M hf
    have hlt : k < g.length := by omega
    have ha := List.getElem?_eq_getElem hlt
    generalize g[k] = a at ha
    have hb := ch_b hv ha
    have q := h.2.2 k a ha
    have e63 : M.1 63 k = nI a.1 := by rw [FrM_c hf (by decide) (by decide)]; exact q.1
    have ea := nI_v (n := a.1) (by omega)
    have vk : vp_in (nI k) 40 := nI_vp (by omega) (by decide)
    have ck := nI_c (n := k) (by omega)
    refine body_run 400 rfl (fun B Cl Z hZ hB hC => ?_)
    (conv => whnf); refine ⟨fun b => ?_, fun b => ?_⟩
    · replace b : cnd .ge (nI k) (M.1 55 9 + M.1 55 10) := b
      rw [es, c_ge, el, ek] at b
      omega
    (conv => whnf)
    refine ⟨vk, ?_⟩
    (conv => whnf); refine ⟨fun c => ?_, fun c => ?_⟩
    · replace c : cnd .gt (M.1 63 (nI k).toNatClampNeg) (cI 3) := c
      rw [ck, e63, c_gt, ea, kv_3] at c
      (conv => whnf)
      refine hB _ _ _ _ (Body_lv (ih (k + 1) M (by omega) hf (fun i x hx => ?_)) ⟨rfl, v_eq (nI_i1 k), trivial⟩)
      rw [hp i x hx]
      by_cases z : i = k
      · subst z
        rw [ha] at hx
        cases hx
        rw [if_neg (by omega), if_pos (by omega)]
        unfold deadC
        rw [if_neg (by omega)]
      · by_cases y : i < k
        · rw [if_pos y, if_pos (by omega)]
        · rw [if_neg y, if_neg (by omega)]
    · replace c : ¬ cnd .gt (M.1 63 (nI k).toNatClampNeg) (cI 3) := c
      rw [ck, e63, c_gt, ea, kv_3] at c
      (conv => whnf)
      refine ⟨vk, ?_⟩
      (conv => whnf)
      rw [ck]
      refine hB _ _ _ _ (Body_lv (ih (k + 1) (mI M 64 k (cI (-1))) (by omega) (FrM_a hf (by decide) (by decide)) (fun i x hx => ?_)) ⟨rfl, v_eq (nI_i1 k), trivial⟩)
      rw [mI_at]
      by_cases z : i = k
      · subst z
        rw [ha] at hx
        cases hx
        rw [if_pos ⟨rfl, rfl⟩, if_pos (by omega)]
        unfold deadC
        rw [if_pos (by omega)]
        rfl
      · rw [if_neg (fun w => z w.2), hp i x hx]
        by_cases y : i < k
        · rw [if_pos y, if_pos (by omega)]
        · rw [if_neg y, if_neg (by omega)]
theorem m_dead {d n : Nat} {M : Mem} {g : List AChg} {rk : Rk} (h : RMc M g n) (hv : chOk rk g n) : Call (d + 1) 173 [.ref 55] M (fun v M' => v = none ∧ FrM [64] [] M M' ∧ RMc M' (g.map deadC) n) := by
  refine call_run 400 rfl rfl (fun B Cl Z hZ hB hC => ?_)
  conv => whnf
  exact hB _ _ _ _ (Body_lv (dead_loop (d := d) h hv g.length 0 M (by omega) FrM_refl (fun i a ha => by rw [if_neg (by omega)]; exact (h.2.2 i a ha).2.1)) ⟨rfl, rfl, trivial⟩)
theorem cgA_cut {p : Nat} {a : AChg} (h : a.1 ≤ 3) : cgA (cutC p a) = posI (a.2.1.bind (cutP p)) := by
  unfold cutC cgA posI
  rw [if_pos h] <;> rfl
theorem cut_loop {d n p : Nat} {M0 : Mem} {g : List AChg} {rk : Rk} (h : RMc M0 g n) (hv : chOk rk g n) (ho : okR rk) (hp64 : p < 64) : ∀ (m k : Nat) (M : Mem), k + m = g.length → FrM [64] [] M0 M → (∀ i a, g[i]? = some a → M.1 64 i = if i < k then cgA (cutC p a) else cgA a) →
    BodyK (d + 1) 172 2 [(0, .ref 55), (1, .int (nI p)), (2, .int (nI k))] [] M (fun v M' => v = none ∧ FrM [64] [] M0 M' ∧ RMc M' (g.map (cutC p)) n) := by
  obtain ⟨h1, h2, h3⟩ := id hv
  have esum : ∀ M, FrM [64] [] M0 M → M.1 55 9 + M.1 55 10 = nI g.length := fun M hf => by
    rw [FrM_j hf 9 (by decide), FrM_j hf 10 (by decide), h.1, h.2.1, nI_add]
    congr 1
    omega
  have el := nI_v (n := g.length) (by omega)
  have ep := nI_v (n := p) (by omega)
  intro m
  induction m with
  | zero =>
    intro k M hk hf hp
    obtain rfl : k = g.length := by omega
    have es := esum M hf
    refine body_run 400 rfl (fun B Cl Z hZ hB hC => ?_)
    (conv => whnf); refine ⟨fun b => ?_, fun b => ?_⟩
    · conv => whnf
      refine hZ _ _ ⟨rfl, hf, by rw [FrM_j hf 9 (by decide)]; exact h.1, by rw [FrM_j hf 10 (by decide), List.length_map]; exact h.2.1, fun i a ha => ?_⟩
      rw [List.getElem?_map] at ha
      obtain ⟨a', ha', rfl⟩ := Option.map_eq_some_iff.mp ha
      have q := h.2.2 i a' ha'
      have hlt : i < g.length := by
        rcases Nat.lt_or_ge i g.length with z | z
        · exact z
        · rw [List.getElem?_eq_none z] at ha'; cases ha'
      rw [FrM_c hf (a := 63) (by decide) (by decide), FrM_c hf (a := 65) (by decide) (by decide), FrM_c hf (a := 66) (by decide) (by decide), hp i a' ha', if_pos hlt]
      have e1 : (cutC p a').1 = a'.1 := by unfold cutC; split <;> rfl
      have e2 : (cutC p a').2.2 = a'.2.2 := by unfold cutC; split <;> rfl
      rw [e1, e2]
      exact ⟨q.1, rfl, q.2.2.1, q.2.2.2⟩
    · replace b : ¬ cnd .ge (nI g.length) (M.1 55 9 + M.1 55 10) := b
      rw [es, c_ge] at b
      omega
  | succ m ih =>
    intro k M hk hf hp
    have ek := nI_v (n := k) (by omega)
    have es := esum M hf
    have hlt : k < g.length := by omega
    have ha := List.getElem?_eq_getElem hlt
    generalize g[k] = a at ha
    have hb := ch_b hv ha
    have q := h.2.2 k a ha
    have e63 : M.1 63 k = nI a.1 := by rw [FrM_c hf (by decide) (by decide)]; exact q.1
    have e64 : M.1 64 k = posI a.2.1 := by rw [hp k a ha, if_neg (by omega)]; exact cgA_pos a
    have ea := nI_v (n := a.1) (by omega)
    have vk : vp_in (nI k) 40 := nI_vp (by omega) (by decide)
    have ck := nI_c (n := k) (by omega)
    have keep : cgA (cutC p a) = cgA a → ∀ i x, g[i]? = some x → M.1 64 i = if i < k + 1 then cgA (cutC p x) else cgA x := fun e i x hx => by
      rw [hp i x hx]
      by_cases z : i = k
      · subst z
        rw [ha] at hx
        cases hx
        rw [if_neg (by omega), if_pos (by omega), e]
      · by_cases y : i < k
        · rw [if_pos y, if_pos (by omega)]
        · rw [if_neg y, if_neg (by omega)]
    have new : ∀ y, cgA (cutC p a) = y → ∀ i x, g[i]? = some x → (mI M 64 k y).1 64 i = if i < k + 1 then cgA (cutC p x) else cgA x := fun y e i x hx => by
      rw [mI_at]
      by_cases z : i = k
      · subst z
        rw [ha] at hx
        cases hx
        rw [if_pos ⟨rfl, rfl⟩, if_pos (by omega), e]
      · rw [if_neg (fun w => z w.2), hp i x hx]
        by_cases y : i < k
        · rw [if_pos y, if_pos (by omega)]
        · rw [if_neg y, if_neg (by omega)]
    refine body_run 400 rfl (fun B Cl Z hZ hB hC => ?_)
    (conv => whnf); refine ⟨fun b => ?_, fun b => ?_⟩
    · replace b : cnd .ge (nI k) (M.1 55 9 + M.1 55 10) := b
      rw [es, c_ge, el, ek] at b
      omega
    (conv => whnf)
    refine ⟨vk, ?_⟩
    (conv => whnf); refine ⟨fun c => ?_, fun c => ?_⟩
    · replace c : cnd .gt (M.1 63 (nI k).toNatClampNeg) (cI 3) := c
      rw [ck, e63, c_gt, ea, kv_3] at c
      (conv => whnf)
      exact hB _ _ _ _ (Body_lv (ih (k + 1) M (by omega) hf (keep (by unfold cutC; rw [if_neg (by omega)]))) ⟨rfl, rfl, v_eq (nI_i1 k), trivial⟩)
    replace c : ¬ cnd .gt (M.1 63 (nI k).toNatClampNeg) (cI 3) := c
    rw [ck, e63, c_gt, ea, kv_3] at c
    have ecut := cgA_cut (p := p) (a := a) (by omega)
    (conv => whnf)
    refine ⟨vk, ?_⟩
    cases hq : a.2.1 with
    | none =>
      rw [hq] at e64 ecut
      (conv => whnf); refine ⟨fun g1 => ?_, fun g1 => ?_⟩
      · (conv => whnf)
        exact hB _ _ _ _ (Body_lv (ih (k + 1) M (by omega) hf (keep (by rw [ecut, cgA_pos, hq]; rfl))) ⟨rfl, rfl, v_eq (nI_i1 k), trivial⟩)
      · replace g1 : ¬ cnd .lt (M.1 64 (nI k).toNatClampNeg) 0 := g1
        rw [ck, e64, c_lt] at g1
        exact absurd (show (cI (-1)).toInt < (0 : Int32).toInt by rw [kv_m1]; decide) g1
    | some r =>
      rw [hq] at e64 ecut
      replace e64 : M.1 64 k = nI r := e64
      replace ecut : cgA (cutC p a) = posI (cutP p r) := ecut
      have hr64 : r < 64 := by
        have := (h3 k a ha).2.2.2
        rw [if_pos (by omega)] at this
        exact (pos_b ho (this r hq)).1
      have er := nI_v (n := r) (by omega)
      have d1 : nI r / cI 16 = nI (r / 16) := nI_div (b := 16) (by omega) (by decide)
      have d2 : nI p / cI 16 = nI (p / 16) := nI_div (b := 16) (by omega) (by decide)
      have f1 := nI_v (n := r / 16) (by omega)
      have f2 := nI_v (n := p / 16) (by omega)
      (conv => whnf); refine ⟨fun g1 => ?_, fun g1 => ?_⟩
      · replace g1 : cnd .lt (M.1 64 (nI k).toNatClampNeg) 0 := g1
        rw [ck, e64, c_lt, er, t0] at g1
        omega
      (conv => whnf)
      refine ⟨vk, ?_⟩
      (conv => whnf)
      refine ⟨by decide, ?_⟩
      (conv => whnf)
      refine ⟨by decide, ?_⟩
      (conv => whnf); refine ⟨fun u => ?_, fun u => ?_⟩
      case' refine_2 =>
        replace u : ¬ cnd .eq (M.1 64 (nI k).toNatClampNeg / cI 16) (nI p / cI 16) := u
        rw [ck, e64, d1, d2, c_eq, f1, f2] at u
        (conv => whnf)
        exact hB _ _ _ _ (Body_lv (ih (k + 1) M (by omega) hf (keep (by
          rw [ecut, cgA_pos, hq]
          unfold cutP
          rw [if_neg (by omega), if_neg (by omega)]))) ⟨rfl, rfl, v_eq (nI_i1 k), trivial⟩)
      replace u : cnd .eq (M.1 64 (nI k).toNatClampNeg / cI 16) (nI p / cI 16) := u
      rw [ck, e64, d1, d2, c_eq, f1, f2] at u
      (conv => whnf)
      refine ⟨vk, ?_⟩
      (conv => whnf); refine ⟨fun w => ?_, fun w => ?_⟩
      case' refine_2 =>
        replace w : ¬ cnd .ne (M.1 64 (nI k).toNatClampNeg) (nI p) := w
        rw [ck, e64, c_ne, er, ep] at w
        (conv => whnf)
        refine ⟨vk, ?_⟩
        (conv => whnf)
        rw [ck]
        exact hB _ _ _ _ (Body_lv (ih (k + 1) (mI M 64 k (cI (-1))) (by omega) (FrM_a hf (by decide) (by decide)) (new _ (by
          rw [ecut]
          unfold cutP
          rw [if_pos (by omega)]
          rfl))) ⟨rfl, rfl, v_eq (nI_i1 k), trivial⟩)
      replace w : cnd .ne (M.1 64 (nI k).toNatClampNeg) (nI p) := w
      rw [ck, e64, c_ne, er, ep] at w
      (conv => whnf)
      refine ⟨vk, ?_⟩
      (conv => whnf); refine ⟨fun y => ?_, fun y => ?_⟩
      · replace y : cnd .le (M.1 64 (nI k).toNatClampNeg) (nI p) := y
        rw [ck, e64, c_le, er, ep] at y
        (conv => whnf)
        exact hB _ _ _ _ (Body_lv (ih (k + 1) M (by omega) hf (keep (by
          rw [ecut, cgA_pos, hq]
          unfold cutP
          rw [if_neg (by omega), if_neg (by omega)]))) ⟨rfl, rfl, v_eq (nI_i1 k), trivial⟩)
      · replace y : ¬ cnd .le (M.1 64 (nI k).toNatClampNeg) (nI p) := y
        rw [ck, e64, c_le, er, ep] at y
        (conv => whnf)
        refine ⟨vk, ?_⟩
        (conv => whnf)
        refine ⟨vk, ?_⟩
        (conv => whnf)
        rw [ck, e64, show nI r - cI 1 = nI (r - 1) from nI_sub (b := 1) (by omega)]
        exact hB _ _ _ _ (Body_lv (ih (k + 1) (mI M 64 k (nI (r - 1))) (by omega) (FrM_a hf (by decide) (by decide)) (new _ (by
          rw [ecut]
          unfold cutP
          rw [if_neg (by omega), if_pos (by omega)]
          rfl))) ⟨rfl, rfl, v_eq (nI_i1 k), trivial⟩)
theorem m_cutCh {d n p : Nat} {M : Mem} {g : List AChg} {rk : Rk} (h : RMc M g n) (hv : chOk rk g n) (ho : okR rk) (hp64 : p < 64) : Call (d + 1) 172 [.ref 55, .int (nI p)] M (fun v M' => v = none ∧ FrM [64] [] M M' ∧ RMc M' (g.map (cutC p)) n) := by
  refine call_run 400 rfl rfl (fun B Cl Z hZ hB hC => ?_)
  conv => whnf
  exact hB _ _ _ _ (Body_lv (cut_loop (d := d) h hv ho hp64 g.length 0 M (by omega) FrM_refl (fun i a ha => by rw [if_neg (by omega)]; exact (h.2.2 i a ha).2.1)) ⟨rfl, rfl, rfl, trivial⟩)
