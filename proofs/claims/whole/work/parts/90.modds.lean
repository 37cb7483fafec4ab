/-! the reference: odds -/
theorem mlow_loop {d A B0 p : Nat} {M : Mem} (hA : A < 2147483648) (hB0 : B0 < 2147483648) (hp : p < 2) : ∀ (m x y : Nat), y ≤ m → x < 2147483648 → y < 2147483648 → 0 < Nat.gcd x y →
    BodyK (d + 1) 228 16 [(0, .long (lN A)), (2, .long (lN B0)), (4, .int (nI p)), (5, .long (lN x)), (7, .long (lN y))] [] M (RV (some (.long (lN ((if p = 0 then A else B0) / Nat.gcd x y)))) M) := by
  have ep := nI_v (n := p) (by omega)
  have nz : ∀ x, 0 < x → x < 2147483648 → ¬ lN x = 0 := fun x h h2 z => by
    have := congrArg Int64.toInt z
    rw [l_v (by omega)] at this
    replace this : (x : Int) = 0 := this
    omega
  intro m
  induction m with
  | zero =>
    intro x y hy hx hyb hg
    obtain rfl : y = 0 := by omega
    rw [Nat.gcd_zero_right] at hg ⊢
    refine body_run 400 rfl (fun B Cl Z hZ hB hC => ?_)
    (conv => whnf); refine ⟨fun b => ?_, fun b => ?_⟩
    case' refine_2 => exact absurd (show cnd .eq (lg_cmp (lN 0) (Int64.ofNat (0 : Fin 2).val)) 0 by rw [lN_z (by omega)]) b
    (conv => whnf); refine ⟨fun e => ?_, fun e => ?_⟩
    · simp only [c_lt, c_gt, c_le, c_ge, c_eq, c_ne, b2_z, b2_nz, b2_i, Classical.not_not, t0, t1, Nat.reduceMod, Nat.reduceDiv, Int.reduceAdd, Int.reduceNeg, Nat.reduceAdd, ep] at e
      rw [if_neg (by omega)] at hZ
      (conv => whnf)
      refine ⟨nz x hg hx, ?_⟩
      conv => whnf
      exact hZ _ _ ⟨by rw [lN_dv (by omega) (by omega)], rfl⟩
    · simp only [c_lt, c_gt, c_le, c_ge, c_eq, c_ne, b2_z, b2_nz, b2_i, Classical.not_not, t0, t1, Nat.reduceMod, Nat.reduceDiv, Int.reduceAdd, Int.reduceNeg, Nat.reduceAdd, ep] at e
      rw [if_pos (by omega)] at hZ
      (conv => whnf)
      refine ⟨nz x hg hx, ?_⟩
      conv => whnf
      exact hZ _ _ ⟨by rw [lN_dv (by omega) (by omega)], rfl⟩
  | succ m ih =>
    intro x y hy hx hyb hg
    refine body_run 400 rfl (fun B Cl Z hZ hB hC => ?_)
    (conv => whnf); refine ⟨fun b => ?_, fun b => ?_⟩
    · replace b : cnd .eq (lg_cmp (lN y) (Int64.ofNat (0 : Fin 2).val)) 0 := b
      rw [lN_z (by omega)] at b
      subst b
      rw [Nat.gcd_zero_right] at hg hZ
      (conv => whnf); refine ⟨fun e => ?_, fun e => ?_⟩
      · simp only [c_lt, c_gt, c_le, c_ge, c_eq, c_ne, b2_z, b2_nz, b2_i, Classical.not_not, t0, t1, Nat.reduceMod, Nat.reduceDiv, Int.reduceAdd, Int.reduceNeg, Nat.reduceAdd, ep] at e
        rw [if_neg (by omega)] at hZ
        (conv => whnf)
        refine ⟨nz x hg hx, ?_⟩
        conv => whnf
        exact hZ _ _ ⟨by rw [lN_dv (by omega) (by omega)], rfl⟩
      · simp only [c_lt, c_gt, c_le, c_ge, c_eq, c_ne, b2_z, b2_nz, b2_i, Classical.not_not, t0, t1, Nat.reduceMod, Nat.reduceDiv, Int.reduceAdd, Int.reduceNeg, Nat.reduceAdd, ep] at e
        rw [if_pos (by omega)] at hZ
        (conv => whnf)
        refine ⟨nz x hg hx, ?_⟩
        conv => whnf
        exact hZ _ _ ⟨by rw [lN_dv (by omega) (by omega)], rfl⟩
    · replace b : ¬ cnd .eq (lg_cmp (lN y) (Int64.ofNat (0 : Fin 2).val)) 0 := b
      rw [lN_z (by omega)] at b
      have hr : x % y < y := Nat.mod_lt _ (by omega)
      have e3 : lN x - lN x / lN y * lN y = lN (x % y) := lN_rm (by omega) (by omega)
      (conv => whnf)
      refine ⟨nz y (by omega) hyb, ?_⟩
      (conv => whnf)
      rw [← gcd_st] at hB hg
      exact hB _ _ _ _ (Body_lv (ih y (x % y) (by omega) hyb (by omega) hg) ⟨rfl, rfl, rfl, rfl, congrArg (fun z => some (Value.long z)) e3, trivial⟩)
theorem m_lowest {d a b p : Nat} {M : Mem} (ha : a < 2147483648) (hb : b < 2147483648) (hp : p < 2) (hab : a = 0 ∨ ¬ b = 0) : Call (d + 1) 228 [.long (lN a), .long (lN b), .int (nI p)] M (RV (some (.long (lN (lowN a b p)))) M) := by
  have epl : (nI p).toInt64 = lN p := nI_l2 (by omega)
  refine call_run 400 rfl rfl (fun B Cl Z hZ hB hC => ?_)
  (conv => whnf); refine ⟨fun c => ?_, fun c => ?_⟩
  · replace c : cnd .ne (lg_cmp (lN a) (Int64.ofNat (0 : Fin 2).val)) 0 := c
    rw [lN_nz (by omega)] at c
    have e : lowN a b p = (if p = 0 then a else b) / Nat.gcd a b := if_neg (by omega)
    rw [e] at hB
    (conv => whnf)
    exact hB _ _ _ _ (Body_lv (mlow_loop (d := d) ha hb hp b a b (Nat.le_refl _) ha hb (Nat.gcd_pos_of_pos_left _ (by omega))) ⟨rfl, rfl, rfl, rfl, rfl, trivial⟩)
  · replace c : ¬ cnd .ne (lg_cmp (lN a) (Int64.ofNat (0 : Fin 2).val)) 0 := c
    rw [lN_nz (by omega)] at c
    have e : lowN a b p = p := if_pos (by omega)
    rw [e] at hZ
    conv => whnf
    rw [epl]
    exact hZ _ _ ⟨rfl, rfl⟩
def wof (n k : Nat) : Nat → Nat
  | 0 => 1
  | i + 1 => wof n k i * (n - k + (i + 1)) / (i + 1)
theorem wof_b : ∀ n, n < 13 → ∀ k, k < 13 → ∀ i, i < 13 → i ≤ k → k ≤ n → wof n k i ≤ 924 := by decide +kernel
theorem wof_e : ∀ n, n < 13 → ∀ k, k < 13 → k ≤ n → wof n k k = cho n k := by decide +kernel
theorem wof_loop {d n k : Nat} {M : Mem} (hn : n < 13) (hk : k ≤ n) : ∀ (m i : Nat), i + m = k → BodyK (d + 1) 229 12 [(0, .int (nI n)), (1, .int (nI k)), (2, .long (lN (wof n k i))), (4, .int (nI (i + 1)))] [] M (RV (some (.long (lN (wof n k k)))) M) := by
  have ek := nI_v (n := k) (by omega)
  intro m
  induction m with
  | zero =>
    intro i hi
    obtain rfl : i = k := by omega
    have ei := nI_v (n := i + 1) (by omega)
    refine body_run 400 rfl (fun B Cl Z hZ hB hC => ?_)
    (conv => whnf); refine ⟨fun b => ?_, fun b => ?_⟩
    · conv => whnf
      exact hZ _ _ ⟨rfl, rfl⟩
    · simp only [c_lt, c_gt, c_le, c_ge, c_eq, c_ne, b2_z, b2_nz, b2_i, Classical.not_not, t0, t1, Nat.reduceMod, Nat.reduceDiv, Int.reduceAdd, Int.reduceNeg, Nat.reduceAdd, kv_1, kc_1, ek, ei] at b
      omega
  | succ m ih =>
    intro i hi
    have ei := nI_v (n := i + 1) (by omega)
    have e1 : (nI n - nI k + nI (i + 1)).toInt64 = lN (n - k + (i + 1)) := by rw [nI_sub hk, nI_add, nI_l2 (by omega)]
    have e2 : (nI (i + 1)).toInt64 = lN (i + 1) := nI_l2 (by omega)
    have hb := wof_b n hn k (by omega) i (by omega) (by omega) hk
    have hb2 : wof n k i * (n - k + (i + 1)) ≤ 924 * 12 := Nat.mul_le_mul hb (by omega)
    have hb3 : wof n k i * (n - k + (i + 1)) < 9223372036854775808 := by generalize wof n k i * (n - k + (i + 1)) = q at hb2 ⊢; omega
    have e3 : lN (wof n k i) * (nI n - nI k + nI (i + 1)).toInt64 / (nI (i + 1)).toInt64 = lN (wof n k (i + 1)) := by
      rw [e1, e2, lN_ml, lN_dv hb3 (by omega)]
      rfl
    refine body_run 400 rfl (fun B Cl Z hZ hB hC => ?_)
    (conv => whnf); refine ⟨fun b => ?_, fun b => ?_⟩
    · simp only [c_lt, c_gt, c_le, c_ge, c_eq, c_ne, b2_z, b2_nz, b2_i, Classical.not_not, t0, t1, Nat.reduceMod, Nat.reduceDiv, Int.reduceAdd, Int.reduceNeg, Nat.reduceAdd, kv_1, kc_1, ek, ei] at b
      omega
    (conv => whnf)
    refine ⟨?_, ?_⟩
    · rw [e2]
      intro z
      have := congrArg Int64.toInt z
      rw [l_v (by omega)] at this
      replace this : ((i + 1 : Nat) : Int) = 0 := this
      omega
    · (conv => whnf)
      exact hB _ _ _ _ (Body_lv (ih (i + 1) (by omega)) ⟨rfl, rfl, congrArg (fun z => some (Value.long z)) e3, v_eq (nI_i1 _), trivial⟩)
theorem m_waysOf {d n k : Nat} {M : Mem} (hn : n < 13) (hk : k < 13) : Call (d + 1) 229 [.int (nI n), .int (nI k)] M (RV (some (.long (lN (chN n k)))) M) := by
  have ek := nI_v (n := k) (by omega)
  have en := nI_v (n := n) (by omega)
  refine call_run 400 rfl rfl (fun B Cl Z hZ hB hC => ?_)
  (conv => whnf); refine ⟨fun b => ?_, fun b => ?_⟩
  · simp only [c_lt, c_gt, c_le, c_ge, c_eq, c_ne, b2_z, b2_nz, b2_i, Classical.not_not, t0, t1, Nat.reduceMod, Nat.reduceDiv, Int.reduceAdd, Int.reduceNeg, Nat.reduceAdd, kv_1, kc_1, ek, en] at b
    have e : chN n k = wof n k k := by unfold chN; rw [if_neg (by omega), wof_e n hn k hk (by omega)]
    rw [e] at hB
    (conv => whnf)
    exact hB _ _ _ _ (Body_lv (wof_loop (d := d) hn (by omega) k 0 (by omega)) ⟨rfl, rfl, rfl, rfl, trivial⟩)
  · simp only [c_lt, c_gt, c_le, c_ge, c_eq, c_ne, b2_z, b2_nz, b2_i, Classical.not_not, t0, t1, Nat.reduceMod, Nat.reduceDiv, Int.reduceAdd, Int.reduceNeg, Nat.reduceAdd, kv_1, kc_1, ek, en] at b
    have e : chN n k = 0 := if_pos (by omega)
    rw [e] at hZ
    conv => whnf
    exact hZ _ _ ⟨rfl, rfl⟩
theorem chN_pos : ∀ n, n < 13 → ∀ k, k < 13 → k ≤ n → ¬ chN n k = 0 := by decide +kernel
theorem mlik_loop {d r t p x : Nat} {M : Mem} {s : St} (h : RM M s) (hv : inv s) (hr : r < (sK s).length) (hx : x < 2147483648) (hxr : x / 10 = r) (ht : t ≤ 12) (hp : p < 2) : ∀ (m i a : Nat), i + m = hgt (sK s) r → a + cM (x % 10) (((sK s).getD r []).drop i) = cM (x % 10) ((sK s).getD r []) →
    BodyK (d + 2) 230 63 [(0, .ref 55), (1, .int (nI x)), (2, .int (nI t)), (3, .int (nI p)), (4, .int (nI r)), (5, .int (nI a)), (6, .int (nI i))] [] M (QP M (.long (lN (lkl ((sK s).getD r []) (x % 10) t p))) s) := by
  have h4 := hv.1.1
  have h12 := hv.1.2.1 r
  have eh := nI_v (n := hgt (sK s) r) (by omega)
  have et := nI_v (n := t) (by omega)
  have vr : vp_in (nI r) 4 := nI_vp (by omega) (by decide)
  have cr := nI_c (n := r) (by omega)
  have m56 : M.1 56 (nI r).toNatClampNeg = nI (hgt (sK s) r) := by rw [cr]; exact (h.1.2 r hr).1
  have hcl := cM_le (mk := x % 10) ((sK s).getD r [])
  replace hcl : cM (x % 10) ((sK s).getD r []) ≤ hgt (sK s) r := hcl
  intro m
  induction m with
  | zero =>
    intro i a hi ha
    obtain rfl : i = hgt (sK s) r := by omega
    have hd : ((sK s).getD r []).drop (hgt (sK s) r) = [] := List.drop_eq_nil_of_le (Nat.le_refl _)
    rw [hd] at ha
    replace ha : a = cM (x % 10) ((sK s).getD r []) := ha
    have fin : ∀ (B : Nat → Lv → List Value → Mem → Prop) (Cl : Nat → List Value → Mem → Po → Prop) (Z : Po), True := fun _ _ _ => trivial
    have hk : ∀ k, k = (if hgt (sK s) r < t then hgt (sK s) r else t) → k < 13 ∧ k ≤ hgt (sK s) r := fun k e => by rw [e]; split <;> omega
    refine body_run 400 rfl (fun B Cl Z hZ hB hC => ?_)
    replace hZ : ∀ k, k = (if hgt (sK s) r < t then hgt (sK s) r else t) → ∀ r' M', QP M (.long (lN (lowN (chN (hgt (sK s) r) k - chN (hgt (sK s) r - a) k) (chN (hgt (sK s) r) k) p))) s r' M' → Z r' M' := by
      intro k e
      rw [e, ha]
      exact hZ
    (conv => whnf)
    refine ⟨vr, ?_⟩
    (conv => whnf); refine ⟨fun b => ?_, fun b => ?_⟩
    case' refine_2 =>
      replace b : ¬ cnd .ge (nI (hgt (sK s) r)) (M.1 56 (nI r).toNatClampNeg) := b
      rw [m56, c_ge] at b
      omega
    (conv => whnf)
    refine ⟨vr, ?_⟩
    (conv => whnf); refine ⟨fun g => ?_, fun g => ?_⟩
    · replace g : cnd .ge (nI t) (M.1 56 (nI r).toNatClampNeg) := g
      rw [m56, c_ge, et, eh] at g
      have hke : hgt (sK s) r = (if hgt (sK s) r < t then hgt (sK s) r else t) := by split <;> omega
      obtain ⟨k1, k2⟩ := hk _ hke
      have b2x := chN_m (hgt (sK s) r) (by omega) (hgt (sK s) r - a) (by omega) (hgt (sK s) r) k1 (by omega)
      have b1x := cho_b (hgt (sK s) r) (by omega) (hgt (sK s) r) k1
      have b1y : chN (hgt (sK s) r) (hgt (sK s) r) ≤ 924 := by unfold chN; split <;> omega
      (conv => whnf)
      refine ⟨vr, ?_⟩
      (conv => whnf)
      refine ⟨vr, ?_⟩
      (conv => whnf)
      rw [m56]
      refine ret_k hC (m_waysOf (by omega) k1) ?_
      (conv => whnf)
      refine ⟨vr, ?_⟩
      (conv => whnf)
      rw [m56, nI_sub (show a ≤ hgt (sK s) r by omega)]
      refine ret_k hC (m_waysOf (by omega) k1) ?_
      (conv => whnf)
      refine ⟨vr, ?_⟩
      (conv => whnf)
      rw [m56]
      refine ret_k hC (m_waysOf (by omega) k1) ?_
      (conv => whnf)
      rw [lN_sb b2x]
      refine ret_k hC (m_lowest (by omega) (by omega) hp (Or.inr (chN_pos _ (by omega) _ k1 k2))) ?_
      conv => whnf
      exact hZ _ hke _ _ (QP_same h FrM_refl)
    · replace g : ¬ cnd .ge (nI t) (M.1 56 (nI r).toNatClampNeg) := g
      rw [m56, c_ge, et, eh] at g
      have hke : t = (if hgt (sK s) r < t then hgt (sK s) r else t) := by split <;> omega
      obtain ⟨k1, k2⟩ := hk _ hke
      have b2x := chN_m (hgt (sK s) r) (by omega) (hgt (sK s) r - a) (by omega) t k1 (by omega)
      have b1x := cho_b (hgt (sK s) r) (by omega) t k1
      have b1y : chN (hgt (sK s) r) t ≤ 924 := by unfold chN; split <;> omega
      (conv => whnf)
      refine ⟨vr, ?_⟩
      (conv => whnf)
      rw [m56]
      refine ret_k hC (m_waysOf (by omega) k1) ?_
      (conv => whnf)
      refine ⟨vr, ?_⟩
      (conv => whnf)
      rw [m56, nI_sub (show a ≤ hgt (sK s) r by omega)]
      refine ret_k hC (m_waysOf (by omega) k1) ?_
      (conv => whnf)
      refine ⟨vr, ?_⟩
      (conv => whnf)
      rw [m56]
      refine ret_k hC (m_waysOf (by omega) k1) ?_
      (conv => whnf)
      rw [lN_sb b2x]
      refine ret_k hC (m_lowest (by omega) (by omega) hp (Or.inr (chN_pos _ (by omega) _ k1 k2))) ?_
      conv => whnf
      exact hZ _ hke _ _ (QP_same h FrM_refl)
  | succ m ih =>
    intro i a hi ha
    have ei := nI_v (n := i) (by omega)
    obtain ⟨q, hq⟩ := ly_at (rk := sK s) (r := r) (l := i) (by omega)
    rw [drop_at hq] at ha
    replace ha : a + ((if q.2.2.1 = x % 10 then 1 else 0) + cM (x % 10) (((sK s).getD r []).drop (i + 1))) = cM (x % 10) ((sK s).getD r []) := ha
    have hql := (hv.1.2.2 _ _ _ hq).2.2.1
    have y2 : nI x - nI x / cI 10 * cI 10 = nI (x % 10) := nI_rem (b := 10) hx (by decide)
    have eP : cI 12 * nI r + nI i = nI (12 * r + i) := by rw [show cI 12 = nI 12 from rfl, nI_mul, nI_add]
    have vP : vp_in (cI 12 * nI r + nI i) 48 := by rw [eP]; exact nI_vp (by omega) (by decide)
    have rM : M.1 59 (cI 12 * nI r + nI i).toNatClampNeg = nI q.2.2.1 := by rw [eP, nI_c (by omega)]; exact (h.1.2 r hr).2 i q hq 2 (by decide)
    refine body_run 400 rfl (fun B Cl Z hZ hB hC => ?_)
    (conv => whnf)
    refine ⟨vr, ?_⟩
    (conv => whnf); refine ⟨fun b => ?_, fun b => ?_⟩
    · replace b : cnd .ge (nI i) (M.1 56 (nI r).toNatClampNeg) := b
      rw [m56, c_ge, eh, ei] at b
      omega
    (conv => whnf)
    refine ⟨vP, ?_⟩
    (conv => whnf)
    refine ⟨by decide, ?_⟩
    (conv => whnf); refine ⟨fun g => ?_, fun g => ?_⟩
    · replace g : cnd .ne (M.1 59 (cI 12 * nI r + nI i).toNatClampNeg) (nI x - nI x / cI 10 * cI 10) := g
      rw [rM, y2, c_ne, nI_v (by omega), nI_v (by omega)] at g
      rw [if_neg (by omega)] at ha
      (conv => whnf)
      exact hB _ _ _ _ (Body_lv (ih (i + 1) a (by omega) (by omega)) ⟨rfl, rfl, rfl, rfl, rfl, rfl, v_eq (nI_i1 i), trivial⟩)
    · replace g : ¬ cnd .ne (M.1 59 (cI 12 * nI r + nI i).toNatClampNeg) (nI x - nI x / cI 10 * cI 10) := g
      rw [rM, y2, c_ne, nI_v (by omega), nI_v (by omega)] at g
      rw [if_pos (by omega)] at ha
      (conv => whnf)
      exact hB _ _ _ _ (Body_lv (ih (i + 1) (a + 1) (by omega) (by omega)) ⟨rfl, rfl, rfl, rfl, rfl, v_eq (nI_i1 a), v_eq (nI_i1 i), trivial⟩)
