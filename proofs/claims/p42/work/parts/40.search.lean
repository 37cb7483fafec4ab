/-! the search: its layers and what they keep -/
def isFi (a n : Nat) : Prop := (a = 45 ∧ n = 1728) ∨ (a = 52 ∧ n = 4096)
theorem fillI_loop {d a N : Nat} {v : Int32} (ha : isFi a N) : ∀ (n k : Nat) (M : Mem), k + n = N → BodyK (d + 1) 122 5 [(0, .ref a), (1, .int v), (2, .int (nI k)), (3, .int (nI N))] [] M (fun w M' => w = none ∧ Fr [a] M M' ∧ ∀ i, M'.1 a i = if k ≤ i ∧ i < N then v else M.1 a i) := by
  intro n
  induction n with
  | zero =>
    intro k M hk
    have hN : N ≤ 4096 := by rcases ha with ⟨-, rfl⟩ | ⟨-, rfl⟩ <;> omega
    have e := nI_v (n := k) (by omega)
    have e2 := nI_v (n := N) (by omega)
    refine body_run 400 rfl (fun B Cl Z hZ hB hC => ?_)
    (conv => whnf); refine ⟨fun b => ?_, fun b => ?_⟩
    · conv => whnf
      refine hZ _ _ ⟨rfl, Fr_refl, fun i => ?_⟩
      rw [if_neg (by omega)]
    · simp only [c_lt, c_gt, c_le, c_ge, c_eq, c_ne, b2_z, b2_nz, b2_i, Classical.not_not, t0, t1, Nat.reduceMod, Nat.reduceDiv, Int.reduceAdd, Int.reduceNeg, Nat.reduceAdd, kv_0, kv_1, kc_0, kc_1, e, e2] at b
      omega
  | succ n ih =>
    intro k M hk
    have hN : N ≤ 4096 := by rcases ha with ⟨-, rfl⟩ | ⟨-, rfl⟩ <;> omega
    have e := nI_v (n := k) (by omega)
    have e2 := nI_v (n := N) (by omega)
    have post : ∀ i, (if k + 1 ≤ i ∧ i < N then v else (mI M a k v).1 a i) = (if k ≤ i ∧ i < N then v else M.1 a i) := by
      intro i
      simp only [mI_at, true_and]
      by_cases z : i = k
      · subst z
        rw [if_neg (by omega), if_pos rfl, if_pos (by omega)]
      · by_cases z2 : k ≤ i ∧ i < N
        · rw [if_pos (by omega), if_pos z2]
        · rw [if_neg (by omega), if_neg z, if_neg z2]
    rcases id ha with ⟨rfl, rfl⟩ | ⟨rfl, rfl⟩ <;>
    · refine body_run 400 rfl (fun B Cl Z hZ hB hC => ?_)
      (conv => whnf); refine ⟨fun b => ?_, fun b => ?_⟩
      · simp only [c_lt, c_gt, c_le, c_ge, c_eq, c_ne, b2_z, b2_nz, b2_i, Classical.not_not, t0, t1, Nat.reduceMod, Nat.reduceDiv, Int.reduceAdd, Int.reduceNeg, Nat.reduceAdd, kv_0, kv_1, kc_0, kc_1, e, e2] at b
        omega
      · (conv => whnf)
        refine ⟨nI_vp (by omega) (by omega), ?_⟩
        (conv => whnf)
        rw [nI_c (n := k) (by omega)]
        exact hB _ _ _ _ (Body_lv (Body_mono (ih (k + 1) _ (by omega)) (fun w M' q => ⟨q.1, Fr_trans (Fr_mI Fr_refl (by decide)) q.2.1, fun i => (q.2.2 i).trans (post i)⟩)) ⟨rfl, rfl, v_eq (nI_i1 k), rfl, trivial⟩)
theorem sp_fillI {d a N : Nat} {M : Mem} {v : Int32} (ha : isFi a N) : Call (d + 1) 122 [.ref a, .int v] M (fun w M' => w = none ∧ Fr [a] M M' ∧ ∀ i, i < N → M'.1 a i = v) := by
  rcases id ha with ⟨rfl, rfl⟩ | ⟨rfl, rfl⟩ <;>
  · refine call_run 400 rfl rfl (fun B Cl Z hZ hB hC => ?_)
    conv => whnf
    exact hB _ _ _ _ (Body_lv (Body_mono (fillI_loop ha _ 0 M (Nat.zero_add _)) (fun w M' q => ⟨q.1, q.2.1, fun i hi => by rw [q.2.2 i, if_pos ⟨Nat.zero_le _, hi⟩]⟩)) ⟨rfl, rfl, rfl, rfl, trivial⟩)
def RSn (M : Mem) (ls : List Lyr) : Prop := M.1 5 5 = nI ls.length ∧ ls.length ≤ 12 ∧ ∀ i q, ls[i]? = some q → okL q ∧ ∀ j, j < 4 → M.1 44 (i * 4 + j) = nI (lyF q j)
def agS (sell : Bool) (n : Nat) (q : Lyr) (b ab : Nat) : Nat := if q.2.2.2 + (if sell = true then n - 1 - b - ab else 0) < 99 then q.2.2.2 + (if sell = true then n - 1 - b - ab else 0) else 99
def amS (E : EnvK) (sell : Bool) (n : Nat) (q : Lyr) (b ab : Nat) : Int32 := amt E.1 E.2.1 (nI q.2.1) (nI (agS sell n q b ab)) (nI q.2.2.1) (nI b) (nI ab)
def RSa (M : Mem) (E : EnvK) (ls : List Lyr) (sell : Bool) : Prop := M.1 5 6 = bI sell ∧ ∀ i b ab, i < 12 → b < 12 → ab < 12 → M.1 45 ((i * 12 + b) * 12 + ab) = cI (-1) ∨ ∃ q, ls[i]? = some q ∧ M.1 45 ((i * 12 + b) * 12 + ab) = amS E sell ls.length q b ab
def RSr (M : Mem) (E : EnvK) (ls : List Lyr) (sell : Bool) : Prop := RSn M ls ∧ RSa M E ls sell
theorem held_r (v : Int32) : 0 ≤ (heldK v).toInt ∧ (heldK v).toInt ≤ 9 := by
  unfold heldK maxI minI
  have h0 : (0 : Int32).toInt = 0 := rfl
  have h9 : (9 : Int32).toInt = 9 := rfl
  by_cases z : v < 9
  · rw [if_pos z]
    have z2 := Int32.lt_iff_toInt_lt.mp z
    by_cases y : (0 : Int32) < v
    · rw [if_pos y]
      have := Int32.lt_iff_toInt_lt.mp y
      omega
    · rw [if_neg y]; omega
  · rw [if_neg z, if_pos (by decide)]
    omega
theorem amt_r (lw : List Nat) (c f a m k b : Int32) : 0 ≤ (amt lw c f a m k b).toInt ∧ (amt lw c f a m k b).toInt ≤ 9 := by
  cases lw with
  | nil => exact held_r _
  | cons x l => exact held_r _
theorem min99 {a : Nat} (h : a < 2147483648) : (if nI a < cI 99 then nI a else cI 99) = nI (if a < 99 then a else 99) := by
  have e := nI_v h
  by_cases z : a < 99
  · rw [if_pos z, if_pos (by rw [Int32.lt_iff_toInt_lt, e, kv_99]; omega)]
  · rw [if_neg z, if_neg (by rw [Int32.lt_iff_toInt_lt, e, kv_99]; omega)]
    rfl
theorem RSn_fr {A : List Nat} {M M' : Mem} {ls : List Lyr} (h : RSn M ls) (hf : Fr A M M') (h5 : M'.1 5 5 = M.1 5 5) (ha : A.contains 44 = false) : RSn M' ls :=
  ⟨by rw [h5]; exact h.1, h.2.1, fun i q hq => ⟨(h.2.2 i q hq).1, fun j hj => by rw [Fr_1 hf 44 ha]; exact (h.2.2 i q hq).2 j hj⟩⟩
theorem RSr_fr {A : List Nat} {M M' : Mem} {E : EnvK} {ls : List Lyr} {sell : Bool} (h : RSr M E ls sell) (hf : Fr A M M') (ha : (A.contains 5 || A.contains 44 || A.contains 45) = false) : RSr M' E ls sell := by
  rw [Bool.or_eq_false_iff, Bool.or_eq_false_iff] at ha
  refine ⟨RSn_fr h.1 hf (by rw [Fr_1 hf 5 ha.1.1]) ha.1.2, by rw [Fr_1 hf 5 ha.1.1]; exact h.2.1, fun i b ab h1 h2 h3 => ?_⟩
  rw [Fr_1 hf 45 ha.2]
  exact h.2.2 i b ab h1 h2 h3
theorem sp_snumber {d i j : Nat} {M : Mem} {ls : List Lyr} {q : Lyr} (h : RSn M ls) (hq : ls[i]? = some q) (hj : j < 4) : Call (d + 1) 38 [.ref 5, .int (nI i), .int (nI j)] M (RV (some (.int (nI (lyF q j)))) M) := by
  obtain ⟨h1, h2, h3⟩ := h
  have hi := (List.getElem?_eq_some_iff.mp hq).1
  have e := nI_v (n := i) (by omega)
  have e2 := nI_v (n := j) (by omega)
  have x1 : nI i * cI 4 + nI j = nI (i * 4 + j) := by simp only [cn_0, cn_3, cn_4, cn_12, nI_add, nI_mul]
  refine call_run 400 rfl rfl (fun B Cl Z hZ hB hC => ?_)
  (conv => whnf); refine ⟨fun a => ?_, fun a => ?_⟩
  · simp only [c_lt, c_gt, c_le, c_ge, c_eq, c_ne, b2_z, b2_nz, b2_i, Classical.not_not, t0, t1, Nat.reduceMod, Nat.reduceDiv, Int.reduceAdd, Int.reduceNeg, Nat.reduceAdd, kv_0, kv_3, kv_4, kv_12, kc_0, kc_3, kc_4, kc_12, e] at a
    omega
  (conv => whnf); refine ⟨fun a => ?_, fun a => ?_⟩
  · simp only [c_lt, c_gt, c_le, c_ge, c_eq, c_ne, b2_z, b2_nz, b2_i, Classical.not_not, t0, t1, Nat.reduceMod, Nat.reduceDiv, Int.reduceAdd, Int.reduceNeg, Nat.reduceAdd, kv_0, kv_3, kv_4, kv_12, kc_0, kc_3, kc_4, kc_12, e] at a
    omega
  (conv => whnf); refine ⟨fun a => ?_, fun a => ?_⟩
  · simp only [c_lt, c_gt, c_le, c_ge, c_eq, c_ne, b2_z, b2_nz, b2_i, Classical.not_not, t0, t1, Nat.reduceMod, Nat.reduceDiv, Int.reduceAdd, Int.reduceNeg, Nat.reduceAdd, kv_0, kv_3, kv_4, kv_12, kc_0, kc_3, kc_4, kc_12, e2] at a
    omega
  (conv => whnf); refine ⟨fun a => ?_, fun a => ?_⟩
  · simp only [c_lt, c_gt, c_le, c_ge, c_eq, c_ne, b2_z, b2_nz, b2_i, Classical.not_not, t0, t1, Nat.reduceMod, Nat.reduceDiv, Int.reduceAdd, Int.reduceNeg, Nat.reduceAdd, kv_0, kv_3, kv_4, kv_12, kc_0, kc_3, kc_4, kc_12, e2] at a
    omega
  (conv => whnf)
  rw [x1]
  refine ⟨nI_vp (by omega) (by omega), ?_⟩
  (conv => whnf)
  refine hZ _ _ ⟨v_eq ?_, rfl⟩
  rw [nI_c (by omega)]
  exact (h3 i q hq).2 j hj
theorem idx12 (i b ab : Nat) : (nI i * cI 12 + nI b) * cI 12 + nI ab = nI ((i * 12 + b) * 12 + ab) := by
  show (nI i * nI 12 + nI b) * nI 12 + nI ab = _
  rw [nI_mul, nI_add, nI_mul, nI_add]
theorem sp_samount {d i b ab : Nat} {M : Mem} {E : EnvK} {ls : List Lyr} {sell : Bool} {q : Lyr} (h : RSr M E ls sell) (he : RE M E) (hq : ls[i]? = some q) (hb : b < 12) (hab : ab < 12) (hs : sell = true → b + ab + 1 ≤ ls.length) :
    Call (d + 4) 39 [.ref 5, .int (nI i), .int (nI b), .int (nI ab)] M (fun v M' => v = some (.int (amS E sell ls.length q b ab)) ∧ RSr M' E ls sell ∧ Fr [37, 38, 45] M M') := by
  obtain ⟨hn, ha1, ha2⟩ := id h
  obtain ⟨h1, h2, h3⟩ := id hn
  have hi := (List.getElem?_eq_some_iff.mp hq).1
  have e := nI_v (n := i) (by omega)
  have eb := nI_v (n := b) (by omega)
  have eab := nI_v (n := ab) (by omega)
  have hok := (h3 i q hq).1
  have hrng := amt_r E.1 E.2.1 (nI q.2.1) (nI (agS sell ls.length q b ab)) (nI q.2.2.1) (nI b) (nI ab)
  have hc := ha2 i b ab (by omega) hb hab
  -- behind the days: the number is asked for
  have t86 : ∀ (m : Nat) (X : Int32) (dd : Nat), X = nI dd → dd = (if sell = true then ls.length - 1 - b - ab else 0) → dd < 100 → ∀ (B : Nat → Lv → List Value → Mem → Prop) (Cl : Nat → List Value → Mem → Po → Prop) (Z : Po), (∀ r M_1, (r = some (.int (amS E sell ls.length q b ab)) ∧ RSr M_1 E ls sell ∧ Fr [37, 38, 45] M M_1) → Z r M_1) →
      (∀ (k' : Nat) (as : List Value) (M : Mem) (Q1 Q2 : Po), Call (d + 3) k' as M Q1 → (∀ r M', Q1 r M' → Q2 r M') → Cl k' as M Q2) →
      wpN 39 B Cl Z (m + 60) (seekK (cdo 39) 86) (put1 5 (.int X) (put1 4 (.int (nI ((i * 12 + b) * 12 + ab))) (lv_args 0 [.ref 5, .int (nI i), .int (nI b), .int (nI ab)]))) [.int (nI (lyF q 3)), .int (cI 99)] M := by
    intro m X dd hX hdd hdd2 B Cl Z hZ hC
    subst hX
    have hage := hok.2.2.2
    have hm : (if nI (lyF q 3) + nI dd < cI 99 then nI (lyF q 3) + nI dd else cI 99) = nI (agS sell ls.length q b ab) := by
      rw [nI_add, min99 (by show q.2.2.2 + dd < _; omega)]
      unfold agS
      rw [← hdd]
      rfl
    (conv => whnf); refine ret_k hC (sp_snumber hn hq (show 1 < 4 by omega)) ?_
    (conv => whnf); refine ret_k hC (sp_snumber hn hq (show 2 < 4 by omega)) ?_
    (conv => whnf)
    rw [hm]
    refine hC _ _ _ _ _ (sp_amount he.1) (fun v M1 p => ?_)
    obtain ⟨rfl, p2⟩ := p
    rw [he.2.1]
    (conv => whnf)
    refine ⟨nI_vp (by omega) (by omega), ?_⟩
    (conv => whnf)
    refine ⟨nI_vp (by omega) (by omega), ?_⟩
    (conv => whnf)
    rw [nI_c (n := (i * 12 + b) * 12 + ab) (by omega)]
    have hF : ∀ x, Fr [37, 38, 45] M (mI M1 45 ((i * 12 + b) * 12 + ab) x) := fun x => Fr_mI (Fr_sub p2 (by decide)) (by decide)
    have hF5 : ∀ x, (mI M1 45 ((i * 12 + b) * 12 + ab) x).1 5 = M.1 5 := fun x => Fr_1 (hF x) 5 (by decide)
    refine hZ _ _ ⟨v_eq (mI_1 _ _ _ _), ⟨RSn_fr hn (hF _) (congrFun (hF5 _) 5) (by decide), (congrFun (hF5 _) 6).trans ha1, fun i' b' ab' z1 z2 z3 => ?_⟩, hF _⟩
    rw [mI_at]
    by_cases z : (i' * 12 + b') * 12 + ab' = (i * 12 + b) * 12 + ab
    · have y1 : i' = i := by omega
      have y2 : b' = b := by omega
      have y3 : ab' = ab := by omega
      subst y1
      subst y2
      subst y3
      rw [if_pos ⟨rfl, rfl⟩]
      exact Or.inr ⟨q, hq, rfl⟩
    · rw [if_neg (fun y => z y.2), Fr_1 p2 45 (by decide)]
      exact ha2 i' b' ab' z1 z2 z3
  refine call_run 400 rfl rfl (fun B Cl Z hZ hB hC => ?_)
  (conv => whnf); refine ⟨fun a => ?_, fun a => ?_⟩
  · simp only [c_lt, c_gt, c_le, c_ge, c_eq, c_ne, b2_z, b2_nz, b2_i, Classical.not_not, t0, t1, Nat.reduceMod, Nat.reduceDiv, Int.reduceAdd, Int.reduceNeg, Nat.reduceAdd, kv_0, kv_1, kv_2, kv_3, kv_12, kv_99, kc_0, kc_1, kc_2, kc_3, kc_12, kc_99, e] at a
    omega
  (conv => whnf); refine ⟨fun a => ?_, fun a => ?_⟩
  · simp only [c_lt, c_gt, c_le, c_ge, c_eq, c_ne, b2_z, b2_nz, b2_i, Classical.not_not, t0, t1, Nat.reduceMod, Nat.reduceDiv, Int.reduceAdd, Int.reduceNeg, Nat.reduceAdd, kv_0, kv_1, kv_2, kv_3, kv_12, kv_99, kc_0, kc_1, kc_2, kc_3, kc_12, kc_99, e] at a
    omega
  (conv => whnf); refine ⟨fun a => ?_, fun a => ?_⟩
  · simp only [c_lt, c_gt, c_le, c_ge, c_eq, c_ne, b2_z, b2_nz, b2_i, Classical.not_not, t0, t1, Nat.reduceMod, Nat.reduceDiv, Int.reduceAdd, Int.reduceNeg, Nat.reduceAdd, kv_0, kv_1, kv_2, kv_3, kv_12, kv_99, kc_0, kc_1, kc_2, kc_3, kc_12, kc_99, eb] at a
    omega
  (conv => whnf); refine ⟨fun a => ?_, fun a => ?_⟩
  · simp only [c_lt, c_gt, c_le, c_ge, c_eq, c_ne, b2_z, b2_nz, b2_i, Classical.not_not, t0, t1, Nat.reduceMod, Nat.reduceDiv, Int.reduceAdd, Int.reduceNeg, Nat.reduceAdd, kv_0, kv_1, kv_2, kv_3, kv_12, kv_99, kc_0, kc_1, kc_2, kc_3, kc_12, kc_99, eb] at a
    omega
  (conv => whnf); refine ⟨fun a => ?_, fun a => ?_⟩
  · simp only [c_lt, c_gt, c_le, c_ge, c_eq, c_ne, b2_z, b2_nz, b2_i, Classical.not_not, t0, t1, Nat.reduceMod, Nat.reduceDiv, Int.reduceAdd, Int.reduceNeg, Nat.reduceAdd, kv_0, kv_1, kv_2, kv_3, kv_12, kv_99, kc_0, kc_1, kc_2, kc_3, kc_12, kc_99, eab] at a
    omega
  (conv => whnf); refine ⟨fun a => ?_, fun a => ?_⟩
  rotate_left
  · simp only [c_lt, c_gt, c_le, c_ge, c_eq, c_ne, b2_z, b2_nz, b2_i, Classical.not_not, t0, t1, Nat.reduceMod, Nat.reduceDiv, Int.reduceAdd, Int.reduceNeg, Nat.reduceAdd, kv_0, kv_1, kv_2, kv_3, kv_12, kv_99, kc_0, kc_1, kc_2, kc_3, kc_12, kc_99, eab] at a
    omega
  (conv => whnf)
  rw [idx12]
  refine ⟨nI_vp (by omega) (by omega), ?_⟩
  have hrd : M.1 45 (nI ((i * 12 + b) * 12 + ab)).toNatClampNeg = M.1 45 ((i * 12 + b) * 12 + ab) := by rw [nI_c (by omega)]
  (conv => whnf); refine ⟨fun g => ?_, fun g => ?_⟩
  · rw [hrd] at g
    rcases hc with z | ⟨q', hq', z⟩
    · rw [z, c_ge, kv_m1] at g
      exact absurd g (by decide)
    · rw [hq] at hq'
      obtain rfl : q = q' := by cases hq'; rfl
      (conv => whnf)
      refine ⟨nI_vp (by omega) (by omega), ?_⟩
      (conv => whnf)
      exact hZ _ _ ⟨v_eq (hrd.trans z), h, Fr_refl⟩
  · (conv => whnf); refine ⟨fun f => ?_, fun f => ?_⟩
    · replace f : M.1 5 6 = 0 := f
      rw [ha1] at f
      have hsell : sell = false := bI_z ▸ f
      (conv => whnf); refine ret_k hC (sp_snumber hn hq (show 3 < 4 by omega)) ?_
      exact t86 _ _ 0 rfl (by rw [hsell]; rfl) (by omega) B Cl Z hZ hC
    · replace f : ¬ M.1 5 6 = 0 := f
      rw [ha1, bI_z] at f
      have hsell : sell = true := by cases sell <;> simp at f ⊢
      have hs2 := hs hsell
      have x1 : nI ls.length - cI 1 - nI b - nI ab = nI (ls.length - 1 - b - ab) := by
        rw [show nI ls.length - cI 1 = nI (ls.length - 1) from nI_sub (b := 1) (by omega), nI_sub (by omega), nI_sub (by omega)]
      (conv => whnf); refine ret_k hC (sp_snumber hn hq (show 3 < 4 by omega)) ?_
      exact t86 _ _ (ls.length - 1 - b - ab) ((congrArg (fun z => z - cI 1 - nI b - nI ab) h1).trans x1) (by rw [hsell]; rfl) (by omega) B Cl Z hZ hC
