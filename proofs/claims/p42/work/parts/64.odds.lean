/-! choices, lowest terms, likely, mean -/
theorem nI_l2 {a : Nat} (h : a < 2147483648) : (nI a).toInt64 = lN a := by
  apply Int64.toInt_inj.mp
  rw [l_x, nI_v h, l_v (by omega)]
def cho (n : Nat) : Nat → Nat
  | 0 => 1
  | k + 1 => cho n k * (n - k) / (k + 1)
def chN (n k : Nat) : Nat := if n < k then 0 else cho n k
theorem cho_b : ∀ n, n < 13 → ∀ k, k < 13 → cho n k ≤ 924 := by decide +kernel
theorem chN_m : ∀ n, n < 13 → ∀ m, m < 13 → ∀ k, k < 13 → m ≤ n → chN m k ≤ chN n k := by decide +kernel
theorem lc1 : Int64.ofNat (1 : Fin 2).val = lN 1 := rfl
theorem lc0 : Int64.ofNat (0 : Fin 2).val = lN 0 := rfl
theorem cho_loop {d n k : Nat} {M : Mem} (hn : n < 13) (hk : k ≤ n) : ∀ (m i : Nat), i + m = k → BodyK (d + 1) 110 12 [(0, .int (nI n)), (1, .int (nI k)), (2, .long (lN (cho n i))), (4, .int (nI i))] [] M (RV (some (.long (lN (cho n k)))) M) := by
  have ek := nI_v (n := k) (by omega)
  intro m
  induction m with
  | zero =>
    intro i hi
    obtain rfl : i = k := by omega
    refine body_run 400 rfl (fun B Cl Z hZ hB hC => ?_)
    (conv => whnf); refine ⟨fun b => ?_, fun b => ?_⟩
    · conv => whnf
      exact hZ _ _ ⟨rfl, rfl⟩
    · simp only [c_lt, c_gt, c_le, c_ge, c_eq, c_ne, b2_z, b2_nz, b2_i, Classical.not_not, t0, t1, Nat.reduceMod, Nat.reduceDiv, Int.reduceAdd, Int.reduceNeg, Nat.reduceAdd, kv_0, kv_1, kc_0, kc_1, ek] at b
      omega
  | succ m ih =>
    intro i hi
    have ei := nI_v (n := i) (by omega)
    have e1 : (nI n - nI i).toInt64 = lN (n - i) := by rw [nI_sub (by omega), nI_l2 (by omega)]
    have e2 : (nI i + cI 1).toInt64 = lN (i + 1) := by rw [nI_i1, nI_l2 (by omega)]
    have hb := cho_b n hn i (by omega)
    have hb2 : cho n i * (n - i) ≤ 924 * 12 := Nat.mul_le_mul hb (by omega)
    have hb3 : cho n i * (n - i) < 9223372036854775808 := by generalize cho n i * (n - i) = q at hb2 ⊢; omega
    have e3 : lN (cho n i) * (nI n - nI i).toInt64 / (nI i + cI 1).toInt64 = lN (cho n (i + 1)) := by
      rw [e1, e2, lN_ml, lN_dv hb3 (by omega)]
      rfl
    refine body_run 400 rfl (fun B Cl Z hZ hB hC => ?_)
    (conv => whnf); refine ⟨fun b => ?_, fun b => ?_⟩
    · simp only [c_lt, c_gt, c_le, c_ge, c_eq, c_ne, b2_z, b2_nz, b2_i, Classical.not_not, t0, t1, Nat.reduceMod, Nat.reduceDiv, Int.reduceAdd, Int.reduceNeg, Nat.reduceAdd, kv_0, kv_1, kc_0, kc_1, ek, ei] at b
      omega
    (conv => whnf)
    refine ⟨?_, ?_⟩
    · rw [e2]
      intro z
      have := congrArg Int64.toInt z
      rw [l_v (by omega)] at this
      replace this : ((i + 1 : Nat) : Int) = 0 := this
      omega
    · (conv => whnf)
      exact hB _ _ _ _ (Body_lv (ih (i + 1) (by omega)) ⟨rfl, rfl, congrArg (fun z => some (Value.long z)) e3, v_eq (nI_i1 i), trivial⟩)
theorem sp_choices {d n k : Nat} {M : Mem} (hn : n < 13) (hk : k < 13) : Call (d + 1) 110 [.int (nI n), .int (nI k)] M (RV (some (.long (lN (chN n k)))) M) := by
  have ek := nI_v (n := k) (by omega)
  have en := nI_v (n := n) (by omega)
  refine call_run 400 rfl rfl (fun B Cl Z hZ hB hC => ?_)
  (conv => whnf); refine ⟨fun b => ?_, fun b => ?_⟩
  · simp only [c_lt, c_gt, c_le, c_ge, c_eq, c_ne, b2_z, b2_nz, b2_i, Classical.not_not, t0, t1, Nat.reduceMod, Nat.reduceDiv, Int.reduceAdd, Int.reduceNeg, Nat.reduceAdd, kv_0, kv_1, kc_0, kc_1, ek, en] at b
    have e : chN n k = cho n k := if_neg (by omega)
    rw [e] at hB
    (conv => whnf)
    exact hB _ _ _ _ (Body_lv (cho_loop (d := d) hn (by omega) k 0 (by omega)) ⟨rfl, rfl, rfl, rfl, trivial⟩)
  · simp only [c_lt, c_gt, c_le, c_ge, c_eq, c_ne, b2_z, b2_nz, b2_i, Classical.not_not, t0, t1, Nat.reduceMod, Nat.reduceDiv, Int.reduceAdd, Int.reduceNeg, Nat.reduceAdd, kv_0, kv_1, kc_0, kc_1, ek, en] at b
    have e : chN n k = 0 := if_pos (by omega)
    rw [e] at hZ
    conv => whnf
    exact hZ _ _ ⟨rfl, rfl⟩
/-- enough steps for the greatest common part -/
def eu : Nat → Nat → Nat → Prop
  | 0, _, y => y = 0
  | n + 1, x, y => y = 0 ∨ eu n y (x % y)
theorem eu_0 {n x : Nat} : eu n x 0 := by cases n with
  | zero => rfl
  | succ n => exact Or.inl rfl
theorem eu_ok : ∀ (k n x y : Nat), y < 2 ^ k → 2 * k ≤ n → eu n x y
  | 0, n, x, y, h, _ => by
    obtain rfl : y = 0 := by simp at h; exact h
    exact eu_0
  | k + 1, n, x, y, h, hn => by
    obtain ⟨m, rfl⟩ : ∃ m, n = m + 2 := ⟨n - 2, by omega⟩
    by_cases hy : y = 0
    · exact Or.inl hy
    refine Or.inr ?_
    have hr : x % y < y := Nat.mod_lt _ (by omega)
    generalize x % y = r at hr
    by_cases hr0 : r = 0
    · exact Or.inl hr0
    refine Or.inr (eu_ok k m _ _ ?_ (by omega))
    have h2 : y < 2 * 2 ^ k := by rw [Nat.pow_succ] at h; omega
    generalize 2 ^ k = P at h2
    have h3 : y % r < r := Nat.mod_lt _ (by omega)
    by_cases h4 : 2 * r ≤ y
    · omega
    · have : y % r = y - r := by
        rw [Nat.mod_eq_sub_mod (by omega), Nat.mod_eq_of_lt (by omega)]
      omega
theorem gcd_st {x y : Nat} : Nat.gcd y (x % y) = Nat.gcd x y := by
  rw [Nat.gcd_comm y, ← Nat.gcd_rec, Nat.gcd_comm]
def lowN (a b p : Nat) : Nat := if a = 0 ∨ b = 0 then p else (if p = 0 then a else b) / Nat.gcd a b
theorem lN_z {a : Nat} (h : a < 9223372036854775808) : cnd .eq (lg_cmp (lN a) (Int64.ofNat (0 : Fin 2).val)) 0 = (a = 0) := by
  rw [c_eq, t0, eq_c, l_v h]
  show ((a : Int) = 0) = _
  exact propext Int.ofNat_eq_zero
theorem lN_nz {a : Nat} (h : a < 9223372036854775808) : cnd .ne (lg_cmp (lN a) (Int64.ofNat (0 : Fin 2).val)) 0 = ¬ (a = 0) := by
  rw [← lN_z h, c_ne, c_eq]
theorem low_loop {d A B0 p : Nat} {M : Mem} (hA : A < 2147483648) (hB0 : B0 < 2147483648) (hp : p < 2) : ∀ (n i x y : Nat), i + n = 100 → eu n x y → x < 2147483648 → y < 2147483648 → 0 < Nat.gcd x y →
    BodyK (d + 1) 111 25 [(0, .long (lN A)), (2, .long (lN B0)), (4, .int (nI p)), (5, .long (lN x)), (7, .long (lN y)), (9, .int (nI i))] [] M (RV (some (.long (lN ((if p = 0 then A else B0) / Nat.gcd x y)))) M) := by
  have ep := nI_v (n := p) (by omega)
  have fin : ∀ (x : Nat), 0 < x → x < 2147483648 → ∀ (B : Nat → Lv → List Value → Mem → Prop) (Cl : Nat → List Value → Mem → Po → Prop) (Z : Po), True := fun _ _ _ _ _ _ => trivial
  intro n
  induction n with
  | zero =>
    intro i x y hi he hx hy hg
    obtain rfl : y = 0 := he
    rw [Nat.gcd_zero_right] at hg ⊢
    have ei := nI_v (n := i) (by omega)
    refine body_run 400 rfl (fun B Cl Z hZ hB hC => ?_)
    (conv => whnf); refine ⟨fun b => ?_, fun b => ?_⟩
    · (conv => whnf); refine ⟨fun c => ?_, fun c => ?_⟩
      · replace c : cnd .ne (lg_cmp (lN x) (Int64.ofNat (0 : Fin 2).val)) 0 := c
        (conv => whnf); refine ⟨fun e => ?_, fun e => ?_⟩
        · simp only [c_lt, c_gt, c_le, c_ge, c_eq, c_ne, b2_z, b2_nz, b2_i, Classical.not_not, t0, t1, Nat.reduceMod, Nat.reduceDiv, Int.reduceAdd, Int.reduceNeg, Nat.reduceAdd, kv_0, kv_1, kv_100, kc_0, kc_1, kc_100, ep] at e
          rw [if_neg (by omega)] at hZ
          (conv => whnf)
          refine ⟨fun z => ?_, ?_⟩
          · have := congrArg Int64.toInt z
            rw [l_v (by omega)] at this
            replace this : (x : Int) = 0 := this
            omega
          · conv => whnf
            refine hZ _ _ ⟨?_, rfl⟩
            rw [lN_dv (by omega) (by omega)]
        · simp only [c_lt, c_gt, c_le, c_ge, c_eq, c_ne, b2_z, b2_nz, b2_i, Classical.not_not, t0, t1, Nat.reduceMod, Nat.reduceDiv, Int.reduceAdd, Int.reduceNeg, Nat.reduceAdd, kv_0, kv_1, kv_100, kc_0, kc_1, kc_100, ep] at e
          rw [if_pos (by omega)] at hZ
          (conv => whnf)
          refine ⟨fun z => ?_, ?_⟩
          · have := congrArg Int64.toInt z
            rw [l_v (by omega)] at this
            replace this : (x : Int) = 0 := this
            omega
          · conv => whnf
            refine hZ _ _ ⟨?_, rfl⟩
            rw [lN_dv (by omega) (by omega)]
      · replace c : ¬ cnd .ne (lg_cmp (lN x) (Int64.ofNat (0 : Fin 2).val)) 0 := c
        rw [lN_nz (by omega)] at c
        omega
    · simp only [c_lt, c_gt, c_le, c_ge, c_eq, c_ne, b2_z, b2_nz, b2_i, Classical.not_not, t0, t1, Nat.reduceMod, Nat.reduceDiv, Int.reduceAdd, Int.reduceNeg, Nat.reduceAdd, kv_0, kv_1, kv_100, kc_0, kc_1, kc_100, ei] at b
      omega
  | succ n ih =>
    intro i x y hi he hx hy hg
    have ei := nI_v (n := i) (by omega)
    refine body_run 400 rfl (fun B Cl Z hZ hB hC => ?_)
    (conv => whnf); refine ⟨fun b => ?_, fun b => ?_⟩
    · simp only [c_lt, c_gt, c_le, c_ge, c_eq, c_ne, b2_z, b2_nz, b2_i, Classical.not_not, t0, t1, Nat.reduceMod, Nat.reduceDiv, Int.reduceAdd, Int.reduceNeg, Nat.reduceAdd, kv_0, kv_1, kv_100, kc_0, kc_1, kc_100, ei] at b
      omega
    (conv => whnf); refine ⟨fun g => ?_, fun g => ?_⟩
    · replace g : cnd .eq (lg_cmp (lN y) (Int64.ofNat (0 : Fin 2).val)) 0 := g
      rw [lN_z (by omega)] at g
      subst g
      rw [Nat.gcd_zero_right] at hg hZ
      (conv => whnf); refine ⟨fun c => ?_, fun c => ?_⟩
      · replace c : cnd .ne (lg_cmp (lN x) (Int64.ofNat (0 : Fin 2).val)) 0 := c
        (conv => whnf); refine ⟨fun e => ?_, fun e => ?_⟩
        · simp only [c_lt, c_gt, c_le, c_ge, c_eq, c_ne, b2_z, b2_nz, b2_i, Classical.not_not, t0, t1, Nat.reduceMod, Nat.reduceDiv, Int.reduceAdd, Int.reduceNeg, Nat.reduceAdd, kv_0, kv_1, kv_100, kc_0, kc_1, kc_100, ep] at e
          rw [if_neg (by omega)] at hZ
          (conv => whnf)
          refine ⟨fun z => ?_, ?_⟩
          · have := congrArg Int64.toInt z
            rw [l_v (by omega)] at this
            replace this : (x : Int) = 0 := this
            omega
          · conv => whnf
            refine hZ _ _ ⟨?_, rfl⟩
            rw [lN_dv (by omega) (by omega)]
        · simp only [c_lt, c_gt, c_le, c_ge, c_eq, c_ne, b2_z, b2_nz, b2_i, Classical.not_not, t0, t1, Nat.reduceMod, Nat.reduceDiv, Int.reduceAdd, Int.reduceNeg, Nat.reduceAdd, kv_0, kv_1, kv_100, kc_0, kc_1, kc_100, ep] at e
          rw [if_pos (by omega)] at hZ
          (conv => whnf)
          refine ⟨fun z => ?_, ?_⟩
          · have := congrArg Int64.toInt z
            rw [l_v (by omega)] at this
            replace this : (x : Int) = 0 := this
            omega
          · conv => whnf
            refine hZ _ _ ⟨?_, rfl⟩
            rw [lN_dv (by omega) (by omega)]
      · replace c : ¬ cnd .ne (lg_cmp (lN x) (Int64.ofNat (0 : Fin 2).val)) 0 := c
        rw [lN_nz (by omega)] at c
        omega
    · replace g : ¬ cnd .eq (lg_cmp (lN y) (Int64.ofNat (0 : Fin 2).val)) 0 := g
      rw [lN_z (by omega)] at g
      have hr : x % y < y := Nat.mod_lt _ (by omega)
      have e3 : lN x - lN x / lN y * lN y = lN (x % y) := lN_rm (by omega) (by omega)
      (conv => whnf)
      refine ⟨fun z => ?_, ?_⟩
      · have := congrArg Int64.toInt z
        rw [l_v (by omega)] at this
        replace this : (y : Int) = 0 := this
        omega
      · (conv => whnf)
        rw [← gcd_st] at hB hg
        exact hB _ _ _ _ (Body_lv (ih (i + 1) y (x % y) (by omega) (he.resolve_left g) hy (by omega) hg) ⟨rfl, rfl, rfl, rfl, congrArg (fun z => some (Value.long z)) e3, v_eq (nI_i1 i), trivial⟩)
theorem sp_lowest {d a b p : Nat} {M : Mem} (ha : a < 2147483648) (hb : b < 1125899906842624) (hb2 : b < 2147483648) (hp : p < 2) : Call (d + 1) 111 [.long (lN a), .long (lN b), .int (nI p)] M (RV (some (.long (lN (lowN a b p)))) M) := by
  have epl : (nI p).toInt64 = lN p := nI_l2 (by omega)
  refine call_run 400 rfl rfl (fun B Cl Z hZ hB hC => ?_)
  (conv => whnf); refine ⟨fun c => ?_, fun c => ?_⟩
  · replace c : cnd .eq (lg_cmp (lN a) (Int64.ofNat (0 : Fin 2).val)) 0 := c
    rw [lN_z (by omega)] at c
    have e : lowN a b p = p := if_pos (Or.inl c)
    rw [e] at hZ
    conv => whnf
    rw [epl]
    exact hZ _ _ ⟨rfl, rfl⟩
  replace c : ¬ cnd .eq (lg_cmp (lN a) (Int64.ofNat (0 : Fin 2).val)) 0 := c
  rw [lN_z (by omega)] at c
  (conv => whnf); refine ⟨fun g => ?_, fun g => ?_⟩
  · replace g : cnd .ne (lg_cmp (lN b) (Int64.ofNat (0 : Fin 2).val)) 0 := g
    rw [lN_nz (by omega)] at g
    have e : lowN a b p = (if p = 0 then a else b) / Nat.gcd a b := if_neg (by omega)
    rw [e] at hB
    (conv => whnf)
    exact hB _ _ _ _ (Body_lv (low_loop (d := d) ha hb2 hp 100 0 a b rfl (eu_ok 50 100 a b (by omega) (by omega)) ha hb2 (Nat.gcd_pos_of_pos_left _ (by omega))) ⟨rfl, rfl, rfl, rfl, rfl, rfl, trivial⟩)
  · replace g : ¬ cnd .ne (lg_cmp (lN b) (Int64.ofNat (0 : Fin 2).val)) 0 := g
    rw [lN_nz (by omega)] at g
    have e : lowN a b p = p := if_pos (by omega)
    rw [e] at hZ
    conv => whnf
    rw [epl]
    exact hZ _ _ ⟨rfl, rfl⟩
/-- how many have a mark -/
def cM (mk : Nat) : List Lyr → Nat
  | [] => 0
  | q :: l => (if q.2.2.1 = mk then 1 else 0) + cM mk l
theorem cM_le {mk : Nat} : ∀ l : List Lyr, cM mk l ≤ l.length
  | [] => Nat.le_refl _
  | q :: l => by
    have := cM_le (mk := mk) l
    unfold cM
    rw [List.length_cons]
    split <;> omega
def lkl (ls : List Lyr) (mk t p : Nat) : Nat := lowN (chN ls.length (if ls.length < t then ls.length else t) - chN (ls.length - cM mk ls) (if ls.length < t then ls.length else t)) (chN ls.length (if ls.length < t then ls.length else t)) p
def aLikely (s : St) (rm t p : Int32) : Int64 :=
  if (0 ≤ rm.toInt ∧ rm.toInt.toNat / 10 < (sK s).length) ∧ (1 ≤ rm.toInt.toNat % 10 ∧ rm.toInt.toNat % 10 ≤ 7) ∧ (0 ≤ t.toInt ∧ t.toInt ≤ 12) ∧ 0 ≤ p.toInt ∧ p.toInt ≤ 1 then lN (lkl ((sK s).getD (rm.toInt.toNat / 10) []) (rm.toInt.toNat % 10) t.toInt.toNat p.toInt.toNat) else noL
theorem likely_loop {d c r mk t p : Nat} {M : Mem} {s : St} {x : Int32} (h : RC c M s) (hr : r < (sK s).length) (hmk : mk < 8) (ht : t ≤ 12) (hp : p < 2) : ∀ (m i o : Nat), i + m = hgt (sK s) r → cM mk (((sK s).getD r []).drop i) ≤ o → o ≤ hgt (sK s) r → o = hgt (sK s) r - cM mk ((sK s).getD r []) + cM mk (((sK s).getD r []).drop i) →
    BodyK (d + 3) 91 82 [(0, .ref 0), (1, .int x), (2, .int (nI t)), (3, .int (nI p)), (4, .int (nI r)), (5, .int (nI mk)), (6, .int (nI (hgt (sK s) r))), (7, .int (nI o)), (8, .int (nI i))] [] M (RP c M (.long (lN (lkl ((sK s).getD r []) mk t p))) s) := by
  have h1 := h.k
  have h12 : hgt (sK s) r ≤ 12 := h1.2.2.2.1 r
  have eh := nI_v (n := hgt (sK s) r) (by omega)
  have et := nI_v (n := t) (by omega)
  intro m
  induction m with
  | zero =>
    intro i o hi ho ho2 hoe
    obtain rfl : i = hgt (sK s) r := by omega
    have hd : ((sK s).getD r []).drop (hgt (sK s) r) = [] := List.drop_eq_nil_of_le (Nat.le_refl _)
    rw [hd] at hoe
    replace hoe : o = hgt (sK s) r - cM mk ((sK s).getD r []) := hoe
    refine body_run 400 rfl (fun B Cl Z hZ hB hC => ?_)
    (conv => whnf); refine ⟨fun b => ?_, fun b => ?_⟩
    case' refine_2 =>
      simp only [c_lt, c_gt, c_le, c_ge, c_eq, c_ne, b2_z, b2_nz, b2_i, Classical.not_not, t0, t1, Nat.reduceMod, Nat.reduceDiv, Int.reduceAdd, Int.reduceNeg, Nat.reduceAdd, kv_m1, kv_0, kv_1, kv_2, kv_7, kv_10, kv_12, kc_0, kc_1, kc_2, kc_7, kc_10, kc_12, eh] at b
      omega
    (conv => whnf)
    have emin : (if nI (hgt (sK s) r) < nI t then nI (hgt (sK s) r) else nI t) = nI (if hgt (sK s) r < t then hgt (sK s) r else t) := by
      by_cases z : hgt (sK s) r < t
      · rw [if_pos (show nI (hgt (sK s) r) < nI t by rw [lt_i, eh, et]; omega), if_pos z]
      · rw [if_neg (show ¬ nI (hgt (sK s) r) < nI t by rw [lt_i, eh, et]; omega), if_neg z]
    have hk : (if hgt (sK s) r < t then hgt (sK s) r else t) < 13 := by split <;> omega
    replace hZ : ∀ r' M', RP c M (.long (lN (lowN (chN (hgt (sK s) r) (if hgt (sK s) r < t then hgt (sK s) r else t) - chN o (if hgt (sK s) r < t then hgt (sK s) r else t)) (chN (hgt (sK s) r) (if hgt (sK s) r < t then hgt (sK s) r else t)) p))) s r' M' → Z r' M' := by
      rw [hoe]
      exact hZ
    show Cl 110 [.int (nI (hgt (sK s) r)), .int (if nI (hgt (sK s) r) < nI t then nI (hgt (sK s) r) else nI t)] M _
    simp only [emin]
    generalize (if hgt (sK s) r < t then hgt (sK s) r else t) = k at hk hZ
    have b1 : chN (hgt (sK s) r) k ≤ 924 := by
      unfold chN
      split
      · omega
      · exact cho_b _ (by omega) _ hk
    have b2 := chN_m (hgt (sK s) r) (by omega) o (by omega) k hk ho2
    refine ret_k hC (sp_choices (by omega) hk) ?_
    (conv => whnf)
    refine ret_k hC (sp_choices (by omega) hk) ?_
    (conv => whnf)
    rw [lN_sb b2]
    refine ret_k hC (sp_lowest (by omega) (by omega) (by omega) hp) ?_
    conv => whnf
    exact hZ _ _ (RP_same h Fr_refl)
  | succ m ih =>
    intro i o hi ho ho2 hoe
    have ei := nI_v (n := i) (by omega)
    obtain ⟨q, hq⟩ := ly_at (rk := sK s) (r := r) (l := i) (by omega)
    have hlt : i < ((sK s).getD r []).length := ly_lt hq
    have hd : ((sK s).getD r []).drop i = q :: ((sK s).getD r []).drop (i + 1) := by
      rw [List.drop_eq_getElem_cons hlt]
      rw [List.getElem?_eq_getElem hlt] at hq
      cases hq
      rfl
    rw [hd] at ho hoe
    unfold cM at ho
    rw [show cM mk (q :: ((sK s).getD r []).drop (i + 1)) = (if q.2.2.1 = mk then 1 else 0) + cM mk (((sK s).getD r []).drop (i + 1)) from rfl] at hoe
    have hql : q.2.2.1 < 8 := (h1.2.2.2.2 _ _ _ hq).1.2.2.1
    refine body_run 400 rfl (fun B Cl Z hZ hB hC => ?_)
    (conv => whnf); refine ⟨fun b => ?_, fun b => ?_⟩
    · simp only [c_lt, c_gt, c_le, c_ge, c_eq, c_ne, b2_z, b2_nz, b2_i, Classical.not_not, t0, t1, Nat.reduceMod, Nat.reduceDiv, Int.reduceAdd, Int.reduceNeg, Nat.reduceAdd, kv_m1, kv_0, kv_1, kv_2, kv_7, kv_10, kv_12, kc_0, kc_1, kc_2, kc_7, kc_10, kc_12, eh, ei] at b
      omega
    (conv => whnf); refine ret_k hC (sp_number (by simp [isYd]) h1 hq (show 2 < 4 by omega)) ?_
    (conv => whnf); refine ⟨fun g => ?_, fun g => ?_⟩
    · replace g : cnd .ne (nI q.2.2.1) (nI mk) := g
      rw [c_ne, nI_v (by omega), nI_v (by omega)] at g
      rw [if_neg (by omega)] at ho hoe
      (conv => whnf)
      exact hB _ _ _ _ (Body_lv (ih (i + 1) o (by omega) (by omega) ho2 (by omega)) ⟨rfl, rfl, rfl, rfl, rfl, rfl, rfl, rfl, v_eq (nI_i1 i), trivial⟩)
    · replace g : ¬ cnd .ne (nI q.2.2.1) (nI mk) := g
      rw [c_ne, nI_v (by omega), nI_v (by omega)] at g
      rw [if_pos (by omega)] at ho hoe
      (conv => whnf)
      exact hB _ _ _ _ (Body_lv (ih (i + 1) (o - 1) (by omega) (by omega) (by omega) (by omega)) ⟨rfl, rfl, rfl, rfl, rfl, rfl, rfl, v_eq (nI_d1 (by omega)), v_eq (nI_i1 i), trivial⟩)
theorem pb_likely {d c : Nat} {M : Mem} {s : St} {x t p : Int32} (h : RC c M s) : Call (d + 3) 91 [.ref 0, .int x, .int t, .int p] M (RP c M (.long (aLikely s x t p)) s) := by
  have h1 := h.k
  refine call_run 400 rfl rfl (fun B Cl Z hZ hB hC => ?_)
  (conv => whnf)
  refine ⟨by decide, ?_⟩
  (conv => whnf)
  refine ⟨by decide, ?_⟩
  (conv => whnf); refine ⟨fun a => ?_, fun a => ?_⟩
  · simp only [c_lt, c_gt, c_le, c_ge, c_eq, c_ne, b2_z, b2_nz, b2_i, Classical.not_not, t0, t1, Nat.reduceMod, Nat.reduceDiv, Int.reduceAdd, Int.reduceNeg, Nat.reduceAdd, kv_m1, kv_0, kv_1, kv_2, kv_7, kv_10, kv_12, kc_0, kc_1, kc_2, kc_7, kc_10, kc_12] at a
    have e9 : aLikely s x t p = noL := if_neg (by omega)
    rw [e9] at hZ
    conv => whnf
    rw [lk_2]
    exact hZ _ _ (RP_same h Fr_refl)
  simp only [c_lt, c_gt, c_le, c_ge, c_eq, c_ne, b2_z, b2_nz, b2_i, Classical.not_not, t0, t1, Nat.reduceMod, Nat.reduceDiv, Int.reduceAdd, Int.reduceNeg, Nat.reduceAdd, kv_m1, kv_0, kv_1, kv_2, kv_7, kv_10, kv_12, kc_0, kc_1, kc_2, kc_7, kc_10, kc_12] at a
  obtain ⟨n, rfl, en, hn⟩ := to_nI (x := x) (by omega)
  have y1 : nI n / cI 10 = nI (n / 10) := nI_div (b := 10) hn (by decide)
  have y2 : nI n - nI n / cI 10 * cI 10 = nI (n % 10) := nI_rem (b := 10) hn (by decide)
  rw [y1] at y2
  have e1 := nI_v (n := n / 10) (by omega)
  have e2 := nI_v (n := n % 10) (by omega)
  have e0 : (nI n).toInt.toNat = n := by rw [en]; rfl
  have out : ¬ (n / 10 < (sK s).length ∧ (1 ≤ n % 10 ∧ n % 10 ≤ 7) ∧ (0 ≤ t.toInt ∧ t.toInt ≤ 12) ∧ 0 ≤ p.toInt ∧ p.toInt ≤ 1) → aLikely s (nI n) t p = noL := fun z => if_neg (fun y => z (by rw [e0] at y; exact ⟨y.1.2, y.2⟩))
  (conv => whnf)
  rw [y1]
  refine ret_k hC (sp_hasRick (by simp [isYd]) h1) ?_
  (conv => whnf); refine ⟨fun b => ?_, fun b => ?_⟩
  · rw [b2_z, e1] at b
    rw [out (by omega)] at hZ
    conv => whnf
    rw [lk_2]
    exact hZ _ _ (RP_same h Fr_refl)
  rw [b2_z, e1] at b
  have b := Classical.not_not.mp b
  (conv => whnf); refine ⟨fun g => ?_, fun g => ?_⟩
  · replace g : cnd .lt (nI n - nI (n / 10) * cI 10) (cI 1) := g
    rw [y2, c_lt, e2, kv_1] at g
    rw [out (by omega)] at hZ
    conv => whnf
    rw [lk_2]
    exact hZ _ _ (RP_same h Fr_refl)
  replace g : ¬ cnd .lt (nI n - nI (n / 10) * cI 10) (cI 1) := g
  rw [y2, c_lt, e2, kv_1] at g
  (conv => whnf); refine ⟨fun g2 => ?_, fun g2 => ?_⟩
  · replace g2 : cnd .gt (nI n - nI (n / 10) * cI 10) (cI 7) := g2
    rw [y2, c_gt, e2, kv_7] at g2
    rw [out (by omega)] at hZ
    conv => whnf
    rw [lk_2]
    exact hZ _ _ (RP_same h Fr_refl)
  replace g2 : ¬ cnd .gt (nI n - nI (n / 10) * cI 10) (cI 7) := g2
  rw [y2, c_gt, e2, kv_7] at g2
  (conv => whnf); refine ⟨fun k => ?_, fun k => ?_⟩
  · simp only [c_lt, c_gt, c_le, c_ge, c_eq, c_ne, b2_z, b2_nz, b2_i, Classical.not_not, t0, t1, Nat.reduceMod, Nat.reduceDiv, Int.reduceAdd, Int.reduceNeg, Nat.reduceAdd, kv_m1, kv_0, kv_1, kv_2, kv_7, kv_10, kv_12, kc_0, kc_1, kc_2, kc_7, kc_10, kc_12] at k
    rw [out (by omega)] at hZ
    conv => whnf
    rw [lk_2]
    exact hZ _ _ (RP_same h Fr_refl)
  simp only [c_lt, c_gt, c_le, c_ge, c_eq, c_ne, b2_z, b2_nz, b2_i, Classical.not_not, t0, t1, Nat.reduceMod, Nat.reduceDiv, Int.reduceAdd, Int.reduceNeg, Nat.reduceAdd, kv_m1, kv_0, kv_1, kv_2, kv_7, kv_10, kv_12, kc_0, kc_1, kc_2, kc_7, kc_10, kc_12] at k
  (conv => whnf); refine ⟨fun k2 => ?_, fun k2 => ?_⟩
  · simp only [c_lt, c_gt, c_le, c_ge, c_eq, c_ne, b2_z, b2_nz, b2_i, Classical.not_not, t0, t1, Nat.reduceMod, Nat.reduceDiv, Int.reduceAdd, Int.reduceNeg, Nat.reduceAdd, kv_m1, kv_0, kv_1, kv_2, kv_7, kv_10, kv_12, kc_0, kc_1, kc_2, kc_7, kc_10, kc_12] at k2
    rw [out (by omega)] at hZ
    conv => whnf
    rw [lk_2]
    exact hZ _ _ (RP_same h Fr_refl)
  simp only [c_lt, c_gt, c_le, c_ge, c_eq, c_ne, b2_z, b2_nz, b2_i, Classical.not_not, t0, t1, Nat.reduceMod, Nat.reduceDiv, Int.reduceAdd, Int.reduceNeg, Nat.reduceAdd, kv_m1, kv_0, kv_1, kv_2, kv_7, kv_10, kv_12, kc_0, kc_1, kc_2, kc_7, kc_10, kc_12] at k2
  (conv => whnf); refine ⟨fun k3 => ?_, fun k3 => ?_⟩
  · simp only [c_lt, c_gt, c_le, c_ge, c_eq, c_ne, b2_z, b2_nz, b2_i, Classical.not_not, t0, t1, Nat.reduceMod, Nat.reduceDiv, Int.reduceAdd, Int.reduceNeg, Nat.reduceAdd, kv_m1, kv_0, kv_1, kv_2, kv_7, kv_10, kv_12, kc_0, kc_1, kc_2, kc_7, kc_10, kc_12] at k3
    rw [out (by omega)] at hZ
    conv => whnf
    rw [lk_2]
    exact hZ _ _ (RP_same h Fr_refl)
  simp only [c_lt, c_gt, c_le, c_ge, c_eq, c_ne, b2_z, b2_nz, b2_i, Classical.not_not, t0, t1, Nat.reduceMod, Nat.reduceDiv, Int.reduceAdd, Int.reduceNeg, Nat.reduceAdd, kv_m1, kv_0, kv_1, kv_2, kv_7, kv_10, kv_12, kc_0, kc_1, kc_2, kc_7, kc_10, kc_12] at k3
  (conv => whnf); refine ⟨fun k4 => ?_, fun k4 => ?_⟩
  case' refine_2 =>
    simp only [c_lt, c_gt, c_le, c_ge, c_eq, c_ne, b2_z, b2_nz, b2_i, Classical.not_not, t0, t1, Nat.reduceMod, Nat.reduceDiv, Int.reduceAdd, Int.reduceNeg, Nat.reduceAdd, kv_m1, kv_0, kv_1, kv_2, kv_7, kv_10, kv_12, kc_0, kc_1, kc_2, kc_7, kc_10, kc_12] at k4
    rw [out (by omega)] at hZ
    conv => whnf
    rw [lk_2]
    exact hZ _ _ (RP_same h Fr_refl)
  simp only [c_lt, c_gt, c_le, c_ge, c_eq, c_ne, b2_z, b2_nz, b2_i, Classical.not_not, t0, t1, Nat.reduceMod, Nat.reduceDiv, Int.reduceAdd, Int.reduceNeg, Nat.reduceAdd, kv_m1, kv_0, kv_1, kv_2, kv_7, kv_10, kv_12, kc_0, kc_1, kc_2, kc_7, kc_10, kc_12] at k4
  obtain ⟨m, rfl, em, hm⟩ := to_nI (x := t) (by omega)
  obtain ⟨q, rfl, eq, hq⟩ := to_nI (x := p) (by omega)
  have e8 : aLikely s (nI n) (nI m) (nI q) = lN (lkl ((sK s).getD (n / 10) []) (n % 10) m q) := by
    unfold aLikely
    rw [e0, em, eq, if_pos (by omega)]
    rfl
  rw [e8] at hB
  (conv => whnf)
  rw [y2]
  refine ret_k hC (sp_height (by simp [isYd]) h1 (by have := h1.2.1; omega)) ?_
  (conv => whnf)
  have hcl := cM_le (mk := n % 10) ((sK s).getD (n / 10) [])
  exact hB _ _ _ _ (Body_lv (likely_loop (d := d) h (show n / 10 < (sK s).length by omega) (show n % 10 < 8 by omega) (show m ≤ 12 by omega) (show q < 2 by omega) (hgt (sK s) (n / 10)) 0 (hgt (sK s) (n / 10)) (by omega) (by rw [List.drop_zero]; exact hcl) (Nat.le_refl _) (by rw [List.drop_zero]; have : cM (n % 10) ((sK s).getD (n / 10) []) ≤ hgt (sK s) (n / 10) := hcl; omega)) ⟨rfl, rfl, rfl, rfl, rfl, rfl, rfl, rfl, rfl, trivial⟩)
