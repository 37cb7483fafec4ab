/-! the reference: what a law gives, what a layer keeps -/
theorem gives_loop {d n : Nat} {fc : Nat → Int32} {z : Int32} : ∀ (ls : List Ln) (k p : Nat) (M : Mem), k + ls.length = n → n ≤ 61 → M.1 70 0 = nI n → LnR M 0 ls k p → p + lnL ls ≤ 130 → sgT ls → (∀ l ∈ ls, lnOk l) → (∀ j, j < 6 → M.1 73 j = fc j) →
    BodyK (d + 3) 195 7 [(0, .ref 55), (1, .int (nI 0)), (2, .int (nI p)), (3, .int (nI k))] [] M (fun r M' => r = some (.int (gvs fc ls)) ∧ FrM [74] [] M M') := by
  intro ls
  induction ls with
  | nil =>
    intro k p M hk hn h70 hl hp hs hok hf
    have e1 : cI 61 * nI 0 + M.1 70 0 = nI n := by rw [h70, show cI 61 = nI 61 from rfl, nI_mul, nI_add, Nat.mul_zero, Nat.zero_add]
    obtain rfl : k = n := by simpa using hk
    refine body_run 400 rfl (fun B Cl Z hZ hB hC => ?_)
    (conv => whnf)
    refine ⟨nI_vp (c := 0) (by decide) (by decide), ?_⟩
    (conv => whnf); refine ⟨fun a => ?_, fun a => ?_⟩
    · conv => whnf
      exact hZ _ _ ⟨rfl, FrM_refl⟩
    · replace a : ¬ cnd .ge (nI k) (cI 61 * nI 0 + M.1 70 0) := a
      rw [e1, c_ge] at a
      omega
  | cons l ls ih =>
    obtain ⟨ts, vs⟩ := l
    intro k p M hk hn h70 hl hp hs hok hf
    obtain ⟨l1, l2, l3, l4, l5⟩ := hl
    rw [Nat.mul_zero, Nat.zero_add] at l1 l2 l3 l4
    replace hp : p + (ts.length + vs.length + lnL ls) ≤ 130 := hp
    have hk' : k + 1 + ls.length = n := by simp at hk; omega
    have e1 : cI 61 * nI 0 + M.1 70 0 = nI n := by rw [h70, show cI 61 = nI 61 from rfl, nI_mul, nI_add, Nat.mul_zero, Nat.zero_add]
    have en := nI_v (n := n) (by omega)
    have ek := nI_v (n := k) (by omega)
    have ck := nI_c (n := k) (by omega)
    have vk : vp_in (nI k) 122 := nI_vp (by omega) (by decide)
    obtain ⟨o1, o2⟩ := hok (ts, vs) List.mem_cons_self
    obtain ⟨g1, g2⟩ := hs (ts, vs) List.mem_cons_self
    replace o1 : exC vs 42 := o1
    replace o2 : ts = [] ∨ exC ts 42 := o2
    have ep := nI_v (n := p) (by omega)
    have ept := nI_v (n := p + ts.length) (by omega)
    have eg : gvs fc ((ts, vs) :: ls) = if ts = [] ∨ ¬ (evs fc ts []).headD 0 = 0 then (evs fc vs []).headD 0 else gvs fc ls := rfl
    rw [eg]
    have rt : M.1 71 (nI k).toNatClampNeg = nI (p + ts.length) := by rw [ck]; exact l2
    refine body_run 400 rfl (fun B Cl Z hZ hB hC => ?_)
    (conv => whnf)
    refine ⟨nI_vp (c := 0) (by decide) (by decide), ?_⟩
    (conv => whnf); refine ⟨fun a => ?_, fun a => ?_⟩
    · replace a : cnd .ge (nI k) (cI 61 * nI 0 + M.1 70 0) := a
      rw [e1, c_ge, en, ek] at a
      omega
    clear a
    (conv => whnf)
    refine ⟨vk, ?_⟩
    (conv => whnf); refine ⟨fun b => ?_, fun b => ?_⟩
    · replace b : cnd .eq (M.1 71 (nI k).toNatClampNeg) (nI p) := b
      rw [rt, c_eq, ept, ep] at b
      have hts : ts = [] := List.length_eq_zero_iff.mp (by omega)
      rw [if_pos (Or.inl hts)] at hZ
      have rl : M.1 72 (nI k).toNatClampNeg = nI (p + ts.length + vs.length) := by rw [ck]; exact l4
      (conv => whnf)
      refine ⟨vk, ?_⟩
      (conv => whnf)
      refine ⟨vk, ?_⟩
      (conv => whnf)
      rw [rt, rl]
      refine hC _ _ _ _ _ (m_worked (fc := fc) (show p + ts.length + vs.length ≤ 130 by omega) rfl l3 hf g2 o1) (fun r M1 q => ?_)
      obtain ⟨rfl, q2⟩ := q
      conv => whnf
      exact hZ _ _ ⟨rfl, q2⟩
    · replace b : ¬ cnd .eq (M.1 71 (nI k).toNatClampNeg) (nI p) := b
      rw [rt, c_eq, ept, ep] at b
      have hts : ¬ ts = [] := fun w => by subst w; simp at b
      have hex := o2.resolve_left hts
      (conv => whnf)
      refine ⟨vk, ?_⟩
      (conv => whnf)
      rw [rt]
      refine hC _ _ _ _ _ (m_worked (fc := fc) (show p + ts.length ≤ 130 by omega) rfl l1 hf g1 hex) (fun r M1 q => ?_)
      obtain ⟨rfl, q2⟩ := q
      have c1 : ∀ a, Nat.ble 56 a = true → Nat.beq a 74 = false → M1.1 a = M.1 a := fun a h1 h2 => FrM_c q2 (Nat.le_of_ble_eq_true h1) (by simp; intro z; subst z; cases h2)
      have rt1 : M1.1 71 (nI k).toNatClampNeg = nI (p + ts.length) := by rw [c1 71 rfl rfl]; exact rt
      have rl1 : M1.1 72 (nI k).toNatClampNeg = nI (p + ts.length + vs.length) := by rw [c1 72 rfl rfl, ck]; exact l4
      (conv => whnf); refine ⟨fun g => ?_, fun g => ?_⟩
      · replace g : (evs fc ts []).headD 0 = 0 := g
        rw [if_neg (fun w => w.elim hts (fun w2 => w2 g))] at hB
        (conv => whnf)
        refine ⟨vk, ?_⟩
        (conv => whnf)
        rw [rl1]
        exact hB _ _ _ _ (Body_lv (Body_mono (ih (k + 1) (p + ts.length + vs.length) M1 hk' hn (by rw [c1 70 rfl rfl]; exact h70) (LnR_fr (c1 68 rfl rfl) (c1 69 rfl rfl) (c1 71 rfl rfl) (c1 72 rfl rfl) ls _ _ l5) (by omega) (fun l hl => hs l (List.mem_cons_of_mem _ hl)) (fun l hl => hok l (List.mem_cons_of_mem _ hl)) (fun j hj => by rw [c1 73 rfl rfl]; exact hf j hj)) (fun r M' y => ⟨y.1, FrM_trans q2 y.2⟩)) ⟨rfl, rfl, rfl, v_eq (nI_i1 k), trivial⟩)
      · replace g : ¬ (evs fc ts []).headD 0 = 0 := g
        rw [if_pos (Or.inr g)] at hZ
        (conv => whnf)
        refine ⟨vk, ?_⟩
        (conv => whnf)
        refine ⟨vk, ?_⟩
        (conv => whnf)
        rw [rt1, rl1]
        refine hC _ _ _ _ _ (m_worked (fc := fc) (show p + ts.length + vs.length ≤ 130 by omega) rfl (StpR_fr l3 (c1 68 rfl rfl) (c1 69 rfl rfl)) (fun j hj => by rw [c1 73 rfl rfl]; exact hf j hj) g2 o1) (fun r M2 y => ?_)
        obtain ⟨rfl, y2⟩ := y
        conv => whnf
        exact hZ _ _ ⟨rfl, FrM_trans q2 y2⟩
theorem m_gives {d : Nat} {fc : Nat → Int32} {M : Mem} {ls : List Ln} (h : RTm M 0 ls) (hok : ∀ l ∈ ls, lnOk l) (hf : ∀ j, j < 6 → M.1 73 j = fc j) : Call (d + 3) 195 [.ref 55, .int (nI 0)] M (fun r M' => r = some (.int (gvs fc ls)) ∧ FrM [74] [] M M') := by
  obtain ⟨h1, h2, ⟨h3, h4⟩, h5⟩ := h
  have e0 : cI 61 * nI 0 = nI 0 := by rw [show cI 61 = nI 61 from rfl, nI_mul, Nat.mul_zero]
  refine call_run 400 rfl rfl (fun B Cl Z hZ hB hC => ?_)
  conv => whnf
  exact hB _ _ _ _ (Body_lv (gives_loop (d := d) (z := 0) ls 0 0 M (Nat.zero_add _) h2 h1 h5 (by omega) h4 hok hf) ⟨rfl, rfl, rfl, v_eq e0, trivial⟩)
theorem held_v (x : Int32) : heldK x = if x.toInt < 0 then cI 0 else if 9 < x.toInt then cI 9 else x := by
  unfold heldK maxI minI
  have e9 : (9 : Int32).toInt = 9 := rfl
  by_cases a : x.toInt < 0
  · rw [if_pos a]
    rw [if_pos (show x < 9 by rw [lt_i, e9]; omega), if_neg (show ¬ (0 : Int32) < x by rw [lt_i, t0]; omega)]
    rfl
  · rw [if_neg a]
    by_cases b : 9 < x.toInt
    · rw [if_pos b, if_neg (show ¬ x < 9 by rw [lt_i, e9]; omega)]
      rfl
    · rw [if_neg b]
      by_cases c : x < 9
      · rw [if_pos c]
        by_cases g : (0 : Int32) < x
        · rw [if_pos g]
        · rw [if_neg g]
          rw [lt_i, t0] at g
          exact Int32.toInt_inj.mp (by rw [t0]; omega)
      · rw [if_neg c]
        rw [lt_i, e9] at c
        have : x = 9 := Int32.toInt_inj.mp (by rw [e9]; omega)
        rw [this]
        rfl
theorem amt_g {s : St} (hl : lawOk s) {ls : List Ln} (h : sL s = some ls) (f a m k ab : Int32) (cold : Int32) : amt (envS s).1 cold f a m k ab = heldK (gvs (fcs f a ab m cold k) ls) := by
  obtain ⟨h1, h2, h3⟩ := hl ls h
  have e : (envS s).1 = encT ls := by show lwC (sL s) = _; rw [h]; rfl
  rw [e]
  have hw := wk_gvs (fc := fcs f a ab m cold k) ls h2
  cases hq : encT ls with
  | nil =>
    exfalso
    match ls, h1, h2, hq with
    | (ts, vs) :: ls', _, _, hq =>
      rw [encT_cons] at hq
      unfold encL at hq
      simp at hq
  | cons c cs =>
    rw [hq] at hw
    unfold amt
    dsimp only
    rw [hw]
def KJ : List Nat := [73, 74]
theorem m_keptBy {d : Nat} {M : Mem} {s : St} {f a ab m k : Int32} (h : RM M s) (hv : inv s) : Call (d + 4) 197 [.ref 55, .int f, .int a, .int ab, .int m, .int k] M (fun r M' => r = some (.int (amt (envS s).1 (envS s).2.1 f a m k ab)) ∧ FrM KJ [] M M') := by
  have h3 := h.2.2.1
  have hcold := h.2.1.1
  have tail : ∀ (x : Int32) (M' : Mem) (B : Nat → Lv → List Value → Mem → Prop) (Cl : Nat → List Value → Mem → Po → Prop) (Z : Po), True := fun _ _ _ _ _ => trivial
  cases hL : sL s with
  | none =>
    rw [hL] at h3
    replace h3 : M.1 55 28 = 0 := h3
    have e : amt (envS s).1 (envS s).2.1 f a m k ab = heldK (f - a / 10) := by
      have : (envS s).1 = [] := by show lwC (sL s) = _; rw [hL]; rfl
      rw [this]
      rfl
    rw [e, held_v]
    refine call_run 400 rfl rfl (fun B Cl Z hZ hB hC => ?_)
    (conv => whnf)
    refine ⟨by decide, ?_⟩
    (conv => whnf); refine ⟨fun b => ?_, fun b => ?_⟩
    case' refine_2 =>
      replace b : ¬ cnd .eq (M.1 55 28) 0 := b
      rw [h3] at b
      exact absurd rfl b
    (conv => whnf); refine ⟨fun g => ?_, fun g => ?_⟩
    · replace g : cnd .ge (f - a / 10) 0 := g
      rw [c_ge, t0] at g
      rw [if_neg (by omega)] at hZ
      (conv => whnf); refine ⟨fun k1 => ?_, fun k1 => ?_⟩
      · replace k1 : cnd .le (f - a / 10) (cI 9) := k1
        rw [c_le, kv_9] at k1
        rw [if_neg (by omega)] at hZ
        conv => whnf
        exact hZ _ _ ⟨rfl, FrM_refl⟩
      · replace k1 : ¬ cnd .le (f - a / 10) (cI 9) := k1
        rw [c_le, kv_9] at k1
        rw [if_pos (by omega)] at hZ
        conv => whnf
        exact hZ _ _ ⟨rfl, FrM_refl⟩
    · replace g : ¬ cnd .ge (f - a / 10) 0 := g
      rw [c_ge, t0] at g
      rw [if_pos (by omega)] at hZ
      conv => whnf
      exact hZ _ _ ⟨rfl, FrM_refl⟩
  | some ls =>
    rw [hL] at h3
    obtain ⟨h28, hT⟩ := h3
    have e := amt_g hv.2.1 hL f a m k ab (envS s).2.1
    rw [e, held_v]
    have hok := (hv.2.1 ls hL).2.1
    refine call_run 400 rfl rfl (fun B Cl Z hZ hB hC => ?_)
    (conv => whnf)
    refine ⟨by decide, ?_⟩
    (conv => whnf); refine ⟨fun b => ?_, fun b => ?_⟩
    · replace b : cnd .eq (M.1 55 28) 0 := b
      rw [h28] at b
      exact absurd b (by rw [c_eq]; decide)
    (conv => whnf)
    refine ⟨nI_vp (c := 0) (by decide) (by decide), ?_⟩
    (conv => whnf)
    refine ⟨nI_vp (c := 1) (by decide) (by decide), ?_⟩
    (conv => whnf)
    refine ⟨nI_vp (c := 2) (by decide) (by decide), ?_⟩
    (conv => whnf)
    refine ⟨nI_vp (c := 3) (by decide) (by decide), ?_⟩
    (conv => whnf)
    refine ⟨nI_vp (c := 0) (by decide) (by decide), ?_⟩
    (conv => whnf)
    refine ⟨nI_vp (c := 4) (by decide) (by decide), ?_⟩
    (conv => whnf)
    refine ⟨nI_vp (c := 5) (by decide) (by decide), ?_⟩
    (conv => whnf)
    show Cl 195 [.ref 55, .int (nI 0)] (mI (mI (mI (mI (mI (mI M 73 0 f) 73 1 a) 73 2 ab) 73 3 m) 73 4 (M.1 61 0)) 73 5 k) _
    have hf2 : FrM [73] [] M (mI (mI (mI (mI (mI (mI M 73 0 f) 73 1 a) 73 2 ab) 73 3 m) 73 4 (M.1 61 0)) 73 5 k) := FrM_a (FrM_a (FrM_a (FrM_a (FrM_a (FrM_a FrM_refl (by decide) (by decide)) (by decide) (by decide)) (by decide) (by decide)) (by decide) (by decide)) (by decide) (by decide)) (by decide) (by decide)
    have hfc : ∀ j, j < 6 → (mI (mI (mI (mI (mI (mI M 73 0 f) 73 1 a) 73 2 ab) 73 3 m) 73 4 (M.1 61 0)) 73 5 k).1 73 j = fcs f a ab m (envS s).2.1 k j := fun j hj => by
      match j, hj with
      | 0, _ => rfl
      | 1, _ => rfl
      | 2, _ => rfl
      | 3, _ => rfl
      | 4, _ => exact hcold
      | 5, _ => rfl
    generalize (mI (mI (mI (mI (mI (mI M 73 0 f) 73 1 a) 73 2 ab) 73 3 m) 73 4 (M.1 61 0)) 73 5 k) = M1 at hf2 hfc ⊢
    refine hC _ _ _ _ _ (m_gives (RTm_fr hT (FrM_c hf2 (by decide) (by decide)) (FrM_c hf2 (by decide) (by decide)) (FrM_c hf2 (by decide) (by decide)) (FrM_c hf2 (by decide) (by decide)) (FrM_c hf2 (by decide) (by decide))) hok hfc) (fun r M2 q => ?_)
    obtain ⟨rfl, q2⟩ := q
    have hF : FrM KJ [] M M2 := FrM_trans (FrM_sub hf2 (by decide) (by decide)) (FrM_sub q2 (by decide) (by decide))
    generalize gvs (fcs f a ab m (envS s).2.1 k) ls = X at hZ ⊢
    (conv => whnf); refine ⟨fun g => ?_, fun g => ?_⟩
    · replace g : cnd .ge X 0 := g
      rw [c_ge, t0] at g
      rw [if_neg (by omega)] at hZ
      (conv => whnf); refine ⟨fun k1 => ?_, fun k1 => ?_⟩
      · replace k1 : cnd .le X (cI 9) := k1
        rw [c_le, kv_9] at k1
        rw [if_neg (by omega)] at hZ
        conv => whnf
        exact hZ _ _ ⟨rfl, hF⟩
      · replace k1 : ¬ cnd .le X (cI 9) := k1
        rw [c_le, kv_9] at k1
        rw [if_pos (by omega)] at hZ
        conv => whnf
        exact hZ _ _ ⟨rfl, hF⟩
    · replace g : ¬ cnd .ge X 0 := g
      rw [c_ge, t0] at g
      rw [if_pos (by omega)] at hZ
      conv => whnf
      exact hZ _ _ ⟨rfl, hF⟩
