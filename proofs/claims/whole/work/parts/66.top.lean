/-! the top layer's forces and ways -/
theorem ad_sb (x k w : Int32) : x + k * w + -k * w = x := by
  rw [Int32.neg_mul, Int32.add_assoc, Int32.add_neg_eq_sub, Int32.sub_self, Int32.add_zero]
def tbl (p : Nat → Bool) : Nat → Nat → Nat → Nat
  | 0, _, b => b
  | n + 1, i, b => tbl p n (i + 1) (if p i = true then b ||| 2 ^ i else b)
theorem tbl_tb {p : Nat → Bool} : ∀ (n i b j : Nat), (tbl p n i b).testBit j = (b.testBit j || (decide (i ≤ j ∧ j < i + n) && p j))
  | 0, i, b, j => by
    have h : decide (i ≤ j ∧ j < i + 0) = false := decide_eq_false (by omega)
    rw [h, Bool.false_and, Bool.or_false]
    rfl
  | n + 1, i, b, j => by
    unfold tbl
    rw [tbl_tb n]
    by_cases z : i = j
    · subst z
      have h1 : ¬ (i + 1 ≤ i ∧ i < i + 1 + n) := by omega
      have h2 : i ≤ i ∧ i < i + (n + 1) := by omega
      cases hp : p i <;> simp [h1, h2, Nat.testBit_or, Nat.testBit_two_pow_self]
    · have h1 : (i + 1 ≤ j ∧ j < i + 1 + n) ↔ (i ≤ j ∧ j < i + (n + 1)) := by omega
      have h2 : (if p i = true then b ||| 2 ^ i else b).testBit j = b.testBit j := by
        split
        · rw [Nat.testBit_or, Nat.testBit_two_pow_of_ne z, Bool.or_false]
        · rfl
      rw [h2]
      simp [h1]
theorem tbl_lt {p : Nat → Bool} : ∀ (n i b : Nat), i + n ≤ 12 → b < 4096 → tbl p n i b < 4096
  | 0, _, _, _, h => h
  | n + 1, i, b, hi, h => by
    unfold tbl
    refine tbl_lt n (i + 1) _ (by omega) ?_
    split
    · exact Nat.or_lt_two_pow (n := 12) h (Nat.pow_lt_pow_right (by omega) (by omega : i < 12))
    · exact h
theorem or_b {b i : Nat} {P : Prop} [Decidable P] (hb : b < 4096) (hi : i < 12) : (nI b ||| (if P then cI 1 <<< (nI i &&& 31) else cI 0)) = nI (if decide P = true then b ||| 2 ^ i else b) := by
  by_cases h : P
  · rw [if_pos h, if_pos (decide_eq_true h)]
    exact add_i hb hi
  · rw [if_neg h, if_neg (by simp [h])]
    show nI b ||| 0 = nI b
    exact Int32.or_zero
/-- the sum below the top layer -/
def tX (E : EnvK) (rk : Rk) (r : Nat) (q : Lyr) : Int32 := lX E rk r + -(kp E rk r (hgt rk r - 1) q) * rgt q.1
def tY (E : EnvK) (rk : Rk) (r : Nat) (q : Lyr) : Int32 := lY E rk r + -(kp E rk r (hgt rk r - 1) q) * dwn q.1
theorem sp_below {d c r : Nat} {M : Mem} {s : St} {q : Lyr} (h : RC c M s) (hq : ((sK s).getD r [])[hgt (sK s) r - 1]? = some q) : Call (d + 6) 149 [.ref 0, .int (nI r)] M (fun v M' => v = none ∧ RLn M' 3 (tX (envS s) (sK s) r q) (tY (envS s) (sK s) r q) ∧ Fr AX M M') := by
  have h1 := h.k
  have h2 := h.e
  have hl := ly_lt hq
  have hr := hgt_lt hl
  have hr4 : r < 4 := by have := h1.2.1; omega
  have e7 : nI (hgt (sK s) r) - cI 1 = nI (hgt (sK s) r - 1) := nI_sub (b := 1) (by omega)
  have hq1 : q.1 < 8 := (h1.2.2.2.2 _ _ _ hq).1.1
  refine call_run 400 rfl rfl (fun B Cl Z hZ hB hC => ?_)
  (conv => whnf); refine ret_k hC (sp_height (r := r) (by simp [isYd]) h1 hr4) ?_
  (conv => whnf)
  refine hC _ _ _ _ _ (sp_leanOf (Or.inl ⟨rfl, rfl⟩) hr4 h1 h2.1) (fun v M1 p => ?_)
  obtain ⟨rfl, p2, p3⟩ := p
  rw [h2.2.1] at p2
  replace p2 : RLn M1 3 (lX (envS s) (sK s) r) (lY (envS s) (sK s) r) := p2
  have hF : Fr AX M M1 := Fr_sub p3 (by decide)
  have hR := RC_fr h hF
  (conv => whnf)
  rw [e7]
  refine ret_k hC (sp_number (by simp [isYd]) hR.k hq (show 0 < 4 by omega)) ?_
  (conv => whnf)
  refine hC _ _ _ _ _ (sp_kept (by simp [isYd]) hR.k hR.e.1 hq) (fun v M2 y => ?_)
  obtain ⟨rfl, y2⟩ := y
  rw [hR.e.2.1]
  (conv => whnf)
  refine hC _ _ _ _ _ (sp_add (w := q.1) (by simp [isLn]) (RLn_fr p2 y2 (by decide)) hq1) (fun v M3 z => ?_)
  obtain ⟨rfl, z2, z3⟩ := z
  conv => whnf
  exact hZ _ _ ⟨rfl, z2, Fr_trans hF (Fr_trans (Fr_sub y2 (by decide)) (Fr_sub z3 (by decide)))⟩
/-- whether it stands by a force, a way -/
def stF (E : EnvK) (rk : Rk) (r : Nat) (q : Lyr) (f : Nat) : Bool := decide (maxI (absI (tX E rk r q + amt E.1 E.2.1 (nI f) (nI q.2.2.2) (nI q.2.2.1) (nI (hgt rk r - 1)) (cI 0) * rgt q.1)) (absI (tY E rk r q + amt E.1 E.2.1 (nI f) (nI q.2.2.2) (nI q.2.2.1) (nI (hgt rk r - 1)) (cI 0) * dwn q.1)) ≤ E.2.2.1)
def stW (E : EnvK) (rk : Rk) (r : Nat) (q : Lyr) (w : Nat) : Bool := decide (maxI (absI (tX E rk r q + kp E rk r (hgt rk r - 1) q * rgt w)) (absI (tY E rk r q + kp E rk r (hgt rk r - 1) q * dwn w)) ≤ E.2.2.1)
theorem force_loop {d c r : Nat} {M0 : Mem} {s : St} {q : Lyr} (h : RC c M0 s) (hq : ((sK s).getD r [])[hgt (sK s) r - 1]? = some q) : ∀ (m f b : Nat) (M : Mem), f + m = 10 → b < 4096 → Fr AX M0 M → RLn M 3 (tX (envS s) (sK s) r q) (tY (envS s) (sK s) r q) →
    BodyK (d + 7) 150 33 [(0, .ref 0), (1, .int (nI r)), (2, .int (nI (hgt (sK s) r - 1))), (3, .int (nI q.1)), (4, .int (nI b)), (5, .int (nI f))] [] M (fun v M' => v = some (.int (nI (tbl (stF (envS s) (sK s) r q) m f b))) ∧ Fr AX M0 M') := by
  have hq1 : q.1 < 8 := (h.k.2.2.2.2 _ _ _ hq).1.1
  intro m
  induction m with
  | zero =>
    intro f b M hf hb hF hL
    have e := nI_v (n := f) (by omega)
    refine body_run 400 rfl (fun B Cl Z hZ hB hC => ?_)
    (conv => whnf); refine ⟨fun a => ?_, fun a => ?_⟩
    · conv => whnf
      exact hZ _ _ ⟨rfl, hF⟩
    · simp only [c_lt, c_gt, c_le, c_ge, c_eq, c_ne, b2_z, b2_nz, b2_i, Classical.not_not, t0, t1, Nat.reduceMod, Nat.reduceDiv, Int.reduceAdd, Int.reduceNeg, Nat.reduceAdd, kv_0, kv_1, kv_2, kv_3, kv_9, kc_0, kc_1, kc_2, kc_3, kc_9, e] at a
      omega
  | succ m ih =>
    intro f b M hf hb hF hL
    have e := nI_v (n := f) (by omega)
    have hR := RC_fr h hF
    have eT : tbl (stF (envS s) (sK s) r q) (m + 1) f b = tbl (stF (envS s) (sK s) r q) m (f + 1) (if stF (envS s) (sK s) r q f = true then b ||| 2 ^ f else b) := rfl
    rw [eT]
    refine body_run 400 rfl (fun B Cl Z hZ hB hC => ?_)
    (conv => whnf); refine ⟨fun a => ?_, fun a => ?_⟩
    · simp only [c_lt, c_gt, c_le, c_ge, c_eq, c_ne, b2_z, b2_nz, b2_i, Classical.not_not, t0, t1, Nat.reduceMod, Nat.reduceDiv, Int.reduceAdd, Int.reduceNeg, Nat.reduceAdd, kv_0, kv_1, kv_2, kv_3, kv_9, kc_0, kc_1, kc_2, kc_3, kc_9, e] at a
      omega
    (conv => whnf); refine ret_k hC (sp_number (by simp [isYd]) hR.k hq (show 3 < 4 by omega)) ?_
    (conv => whnf); refine ret_k hC (sp_number (by simp [isYd]) hR.k hq (show 2 < 4 by omega)) ?_
    (conv => whnf)
    refine hC _ _ _ _ _ (sp_amount hR.e.1) (fun v M1 y => ?_)
    obtain ⟨rfl, y2⟩ := y
    rw [hR.e.2.1]
    rw [show (nI (lyF q 3) : Int32) = nI q.2.2.2 from rfl, show (nI (lyF q 2) : Int32) = nI q.2.2.1 from rfl]
    have hst : stF (envS s) (sK s) r q f = decide (maxI (absI (tX (envS s) (sK s) r q + amt (envS s).1 (envS s).2.1 (nI f) (nI q.2.2.2) (nI q.2.2.1) (nI (hgt (sK s) r - 1)) (cI 0) * rgt q.1)) (absI (tY (envS s) (sK s) r q + amt (envS s).1 (envS s).2.1 (nI f) (nI q.2.2.2) (nI q.2.2.1) (nI (hgt (sK s) r - 1)) (cI 0) * dwn q.1)) ≤ (envS s).2.2.1) := rfl
    rw [hst] at hB
    generalize amt (envS s).1 (envS s).2.1 (nI f) (nI q.2.2.2) (nI q.2.2.1) (nI (hgt (sK s) r - 1)) (cI 0) = k at hB ⊢
    (conv => whnf)
    refine hC _ _ _ _ _ (sp_add (w := q.1) (by simp [isLn]) (RLn_fr hL y2 (by decide)) hq1) (fun v M2 z => ?_)
    obtain ⟨rfl, z2, z3⟩ := z
    have hF2 : Fr AX M0 M2 := Fr_trans hF (Fr_trans (Fr_sub y2 (by decide)) (Fr_sub z3 (by decide)))
    have hR2 := RC_fr h hF2
    (conv => whnf)
    refine ret_k hC (sp_holds (by simp [isLn]) z2) ?_
    rw [hR2.e.2.2.1]
    have ob := or_b (b := b) (i := f) (P := maxI (absI (tX (envS s) (sK s) r q + k * rgt q.1)) (absI (tY (envS s) (sK s) r q + k * dwn q.1)) ≤ (envS s).2.2.1) hb (by omega)
    have hb2 : (if decide (maxI (absI (tX (envS s) (sK s) r q + k * rgt q.1)) (absI (tY (envS s) (sK s) r q + k * dwn q.1)) ≤ (envS s).2.2.1) = true then b ||| 2 ^ f else b) < 4096 := by
      split
      · exact Nat.or_lt_two_pow (n := 12) hb (Nat.pow_lt_pow_right (by omega) (by omega : f < 12))
      · exact hb
    (conv => whnf); refine ⟨fun g => ?_, fun g => ?_⟩
    · rw [b2_z] at g
      rw [if_neg g] at ob
      (conv => whnf)
      refine hC _ _ _ _ _ (sp_add (w := q.1) (by simp [isLn]) z2 hq1) (fun v M3 x => ?_)
      obtain ⟨rfl, x2, x3⟩ := x
      rw [ad_sb, ad_sb] at x2
      (conv => whnf)
      exact hB _ _ _ _ (Body_lv (ih (f + 1) _ M3 (by omega) hb2 (Fr_trans hF2 (Fr_sub x3 (by decide))) x2) ⟨rfl, rfl, rfl, rfl, v_eq ob, v_eq (nI_i1 f), trivial⟩)
    · rw [b2_z] at g
      rw [if_pos (Classical.not_not.mp g)] at ob
      (conv => whnf)
      refine hC _ _ _ _ _ (sp_add (w := q.1) (by simp [isLn]) z2 hq1) (fun v M3 x => ?_)
      obtain ⟨rfl, x2, x3⟩ := x
      rw [ad_sb, ad_sb] at x2
      (conv => whnf)
      exact hB _ _ _ _ (Body_lv (ih (f + 1) _ M3 (by omega) hb2 (Fr_trans hF2 (Fr_sub x3 (by decide))) x2) ⟨rfl, rfl, rfl, rfl, v_eq ob, v_eq (nI_i1 f), trivial⟩)
theorem sp_forces {d c r : Nat} {M : Mem} {s : St} {q : Lyr} (h : RC c M s) (hq : ((sK s).getD r [])[hgt (sK s) r - 1]? = some q) : Call (d + 7) 150 [.ref 0, .int (nI r)] M (fun v M' => v = some (.int (nI (tbl (stF (envS s) (sK s) r q) 9 1 0))) ∧ Fr AX M M') := by
  have h1 := h.k
  have hl := ly_lt hq
  have hr := hgt_lt hl
  have hr4 : r < 4 := by have := h1.2.1; omega
  have e7 : nI (hgt (sK s) r) - cI 1 = nI (hgt (sK s) r - 1) := nI_sub (b := 1) (by omega)
  refine call_run 400 rfl rfl (fun B Cl Z hZ hB hC => ?_)
  (conv => whnf); refine ret_k hC (sp_height (r := r) (by simp [isYd]) h1 hr4) ?_
  (conv => whnf)
  rw [e7]
  refine ret_k hC (sp_number (by simp [isYd]) h1 hq (show 0 < 4 by omega)) ?_
  (conv => whnf)
  refine hC _ _ _ _ _ (sp_below (d := d) h hq) (fun v M1 p => ?_)
  obtain ⟨rfl, p2, p3⟩ := p
  (conv => whnf)
  exact hB _ _ _ _ (Body_lv (force_loop (d := d) h hq 9 1 0 M1 rfl (by omega) p3 p2) ⟨rfl, rfl, rfl, rfl, rfl, rfl, trivial⟩)
theorem way_loop {d c r : Nat} {M0 : Mem} {s : St} {q : Lyr} (h : RC c M0 s) : ∀ (m f b : Nat) (M : Mem), f + m = 8 → b < 4096 → Fr AX M0 M → RLn M 3 (tX (envS s) (sK s) r q) (tY (envS s) (sK s) r q) →
    BodyK (d + 7) 152 33 [(0, .ref 0), (1, .int (nI r)), (2, .int (kp (envS s) (sK s) r (hgt (sK s) r - 1) q)), (3, .int (nI b)), (4, .int (nI f))] [] M (fun v M' => v = some (.int (nI (tbl (stW (envS s) (sK s) r q) m f b))) ∧ Fr AX M0 M') := by
  intro m
  induction m with
  | zero =>
    intro f b M hf hb hF hL
    have e := nI_v (n := f) (by omega)
    refine body_run 400 rfl (fun B Cl Z hZ hB hC => ?_)
    (conv => whnf); refine ⟨fun a => ?_, fun a => ?_⟩
    · conv => whnf
      exact hZ _ _ ⟨rfl, hF⟩
    · simp only [c_lt, c_gt, c_le, c_ge, c_eq, c_ne, b2_z, b2_nz, b2_i, Classical.not_not, t0, t1, Nat.reduceMod, Nat.reduceDiv, Int.reduceAdd, Int.reduceNeg, Nat.reduceAdd, kv_0, kv_1, kv_7, kc_0, kc_1, kc_7, e] at a
      omega
  | succ m ih =>
    intro f b M hf hb hF hL
    have e := nI_v (n := f) (by omega)
    have eT : tbl (stW (envS s) (sK s) r q) (m + 1) f b = tbl (stW (envS s) (sK s) r q) m (f + 1) (if stW (envS s) (sK s) r q f = true then b ||| 2 ^ f else b) := rfl
    rw [eT]
    have hst : stW (envS s) (sK s) r q f = decide (maxI (absI (tX (envS s) (sK s) r q + kp (envS s) (sK s) r (hgt (sK s) r - 1) q * rgt f)) (absI (tY (envS s) (sK s) r q + kp (envS s) (sK s) r (hgt (sK s) r - 1) q * dwn f)) ≤ (envS s).2.2.1) := rfl
    rw [hst]
    generalize kp (envS s) (sK s) r (hgt (sK s) r - 1) q = k at ih ⊢
    refine body_run 400 rfl (fun B Cl Z hZ hB hC => ?_)
    (conv => whnf); refine ⟨fun a => ?_, fun a => ?_⟩
    · simp only [c_lt, c_gt, c_le, c_ge, c_eq, c_ne, b2_z, b2_nz, b2_i, Classical.not_not, t0, t1, Nat.reduceMod, Nat.reduceDiv, Int.reduceAdd, Int.reduceNeg, Nat.reduceAdd, kv_0, kv_1, kv_7, kc_0, kc_1, kc_7, e] at a
      omega
    (conv => whnf)
    refine hC _ _ _ _ _ (sp_add (w := f) (by simp [isLn]) hL (by omega)) (fun v M2 z => ?_)
    obtain ⟨rfl, z2, z3⟩ := z
    have hF2 : Fr AX M0 M2 := Fr_trans hF (Fr_sub z3 (by decide))
    have hR2 := RC_fr h hF2
    (conv => whnf)
    refine ret_k hC (sp_holds (by simp [isLn]) z2) ?_
    rw [hR2.e.2.2.1]
    have ob := or_b (b := b) (i := f) (P := maxI (absI (tX (envS s) (sK s) r q + k * rgt f)) (absI (tY (envS s) (sK s) r q + k * dwn f)) ≤ (envS s).2.2.1) hb (by omega)
    have hb2 : (if decide (maxI (absI (tX (envS s) (sK s) r q + k * rgt f)) (absI (tY (envS s) (sK s) r q + k * dwn f)) ≤ (envS s).2.2.1) = true then b ||| 2 ^ f else b) < 4096 := by
      split
      · exact Nat.or_lt_two_pow (n := 12) hb (Nat.pow_lt_pow_right (by omega) (by omega : f < 12))
      · exact hb
    (conv => whnf); refine ⟨fun g => ?_, fun g => ?_⟩
    · rw [b2_z] at g
      rw [if_neg g] at ob
      (conv => whnf)
      refine hC _ _ _ _ _ (sp_add (w := f) (by simp [isLn]) z2 (by omega)) (fun v M3 x => ?_)
      obtain ⟨rfl, x2, x3⟩ := x
      rw [ad_sb, ad_sb] at x2
      (conv => whnf)
      exact hB _ _ _ _ (Body_lv (ih (f + 1) _ M3 (by omega) hb2 (Fr_trans hF2 (Fr_sub x3 (by decide))) x2) ⟨rfl, rfl, rfl, v_eq ob, v_eq (nI_i1 f), trivial⟩)
    · rw [b2_z] at g
      rw [if_pos (Classical.not_not.mp g)] at ob
      (conv => whnf)
      refine hC _ _ _ _ _ (sp_add (w := f) (by simp [isLn]) z2 (by omega)) (fun v M3 x => ?_)
      obtain ⟨rfl, x2, x3⟩ := x
      rw [ad_sb, ad_sb] at x2
      (conv => whnf)
      exact hB _ _ _ _ (Body_lv (ih (f + 1) _ M3 (by omega) hb2 (Fr_trans hF2 (Fr_sub x3 (by decide))) x2) ⟨rfl, rfl, rfl, v_eq ob, v_eq (nI_i1 f), trivial⟩)
theorem sp_ways {d c r : Nat} {M : Mem} {s : St} {q : Lyr} (h : RC c M s) (hq : ((sK s).getD r [])[hgt (sK s) r - 1]? = some q) : Call (d + 7) 152 [.ref 0, .int (nI r)] M (fun v M' => v = some (.int (nI (tbl (stW (envS s) (sK s) r q) 8 0 0))) ∧ Fr AX M M') := by
  have h1 := h.k
  have hl := ly_lt hq
  have hr := hgt_lt hl
  have hr4 : r < 4 := by have := h1.2.1; omega
  have e7 : nI (hgt (sK s) r) - cI 1 = nI (hgt (sK s) r - 1) := nI_sub (b := 1) (by omega)
  refine call_run 400 rfl rfl (fun B Cl Z hZ hB hC => ?_)
  (conv => whnf); refine ret_k hC (sp_height (r := r) (by simp [isYd]) h1 hr4) ?_
  (conv => whnf)
  rw [e7]
  refine hC _ _ _ _ _ (sp_kept (by simp [isYd]) h1 h.e.1 hq) (fun v M1 y => ?_)
  obtain ⟨rfl, y2⟩ := y
  rw [h.e.2.1]
  have hF : Fr AX M M1 := Fr_sub y2 (by decide)
  have hR := RC_fr h hF
  (conv => whnf)
  refine hC _ _ _ _ _ (sp_below (d := d) hR hq) (fun v M2 p => ?_)
  obtain ⟨rfl, p2, p3⟩ := p
  (conv => whnf)
  exact hB _ _ _ _ (Body_lv (way_loop (d := d) h 8 0 0 M2 rfl (by omega) (Fr_trans hF p3) p2) ⟨rfl, rfl, rfl, rfl, rfl, trivial⟩)
def gtr (s : Nat) : Nat → Int32
  | 0 => cI (-2)
  | n + 1 => if s.testBit (n + 1) = true then nI (n + 1) else gtr s n
theorem great_loop {d s : Nat} {M : Mem} (hs : s < 4096) : ∀ n, n < 10 → BodyK (d + 1) 151 3 [(0, .int (nI s)), (1, .int (nI n))] [] M (RV (some (.int (gtr s n))) M) := by
  intro n
  induction n with
  | zero =>
    intro _
    refine body_run 400 rfl (fun B Cl Z hZ hB hC => ?_)
    (conv => whnf); refine ⟨fun a => ?_, fun a => ?_⟩
    · conv => whnf
      exact hZ _ _ ⟨rfl, rfl⟩
    · exact absurd (show cnd .lt (nI 0) (cI 1) by rw [c_lt]; decide) a
  | succ n ih =>
    intro hn
    have e := nI_v (n := n + 1) (by omega)
    have eg : gtr s (n + 1) = if s.testBit (n + 1) = true then nI (n + 1) else gtr s n := rfl
    rw [eg]
    refine body_run 400 rfl (fun B Cl Z hZ hB hC => ?_)
    (conv => whnf); refine ⟨fun a => ?_, fun a => ?_⟩
    · simp only [c_lt, c_gt, c_le, c_ge, c_eq, c_ne, b2_z, b2_nz, b2_i, Classical.not_not, t0, t1, Nat.reduceMod, Nat.reduceDiv, Int.reduceAdd, Int.reduceNeg, Nat.reduceAdd, kv_m2, kv_m1, kv_1, kv_9, kc_1, kc_9, e] at a
      omega
    (conv => whnf); refine ⟨fun b => ?_, fun b => ?_⟩
    · replace b : ((nI s >>> (nI (n + 1) &&& 31)) &&& cI 1) = 0 := b
      rw [sRd (n := 0) hs (by omega)] at b
      rw [if_neg b] at hB
      (conv => whnf)
      exact hB _ _ _ _ (Body_lv (ih (by omega)) ⟨rfl, v_eq (nI_d1 (by omega)), trivial⟩)
    · replace b : ¬ ((nI s >>> (nI (n + 1) &&& 31)) &&& cI 1) = 0 := b
      rw [sRd (n := 0) hs (by omega)] at b
      rw [if_pos (Classical.not_not.mp b)] at hZ
      conv => whnf
      exact hZ _ _ ⟨rfl, rfl⟩
theorem sp_greatest {d s : Nat} {M : Mem} (hs : s < 4096) : Call (d + 1) 151 [.int (nI s)] M (RV (some (.int (gtr s 9))) M) := by
  refine call_run 400 rfl rfl (fun B Cl Z hZ hB hC => ?_)
  conv => whnf
  exact hB _ _ _ _ (Body_lv (great_loop (d := d) hs 9 (by omega)) ⟨rfl, rfl, trivial⟩)
def aTop (s : St) (r w : Int32) : Int32 :=
  if (0 ≤ r.toInt ∧ r.toInt < ((sK s).length : Int)) ∧ 0 ≤ w.toInt ∧ w.toInt ≤ 2 then (match ((sK s).getD r.toInt.toNat [])[hgt (sK s) r.toInt.toNat - 1]? with
    | none => if w.toInt = 1 then cI (-2) else cI 0
    | some q => if w.toInt = 2 then nI (tbl (stW (envS s) (sK s) r.toInt.toNat q) 8 0 0) else if w.toInt = 0 then nI (pcn (tbl (stF (envS s) (sK s) r.toInt.toNat q) 9 1 0) 12) else gtr (tbl (stF (envS s) (sK s) r.toInt.toNat q) 9 1 0) 9) else cI (-1)
theorem pb_top {d c : Nat} {M : Mem} {s : St} {r w : Int32} (h : RC c M s) : Call (d + 8) 117 [.ref 0, .int r, .int w] M (RP c M (.int (aTop s r w)) s) := by
  have h1 := h.k
  refine call_run 400 rfl rfl (fun B Cl Z hZ hB hC => ?_)
  (conv => whnf); refine ret_k hC (sp_hasRick (by simp [isYd]) h1) ?_
  (conv => whnf); refine ⟨fun a => ?_, fun a => ?_⟩
  · rw [b2_z] at a
    have e9 : aTop s r w = cI (-1) := if_neg (fun z => a z.1)
    rw [e9] at hZ
    conv => whnf
    exact hZ _ _ (RP_same h Fr_refl)
  rw [b2_z] at a
  have a := Classical.not_not.mp a
  (conv => whnf); refine ⟨fun b => ?_, fun b => ?_⟩
  · simp only [c_lt, c_gt, c_le, c_ge, c_eq, c_ne, b2_z, b2_nz, b2_i, Classical.not_not, t0, t1, Nat.reduceMod, Nat.reduceDiv, Int.reduceAdd, Int.reduceNeg, Nat.reduceAdd, kv_m2, kv_m1, kv_0, kv_1, kv_2, kc_0, kc_1, kc_2] at b
    have e9 : aTop s r w = cI (-1) := if_neg (by omega)
    rw [e9] at hZ
    conv => whnf
    exact hZ _ _ (RP_same h Fr_refl)
  simp only [c_lt, c_gt, c_le, c_ge, c_eq, c_ne, b2_z, b2_nz, b2_i, Classical.not_not, t0, t1, Nat.reduceMod, Nat.reduceDiv, Int.reduceAdd, Int.reduceNeg, Nat.reduceAdd, kv_m2, kv_m1, kv_0, kv_1, kv_2, kc_0, kc_1, kc_2] at b
  (conv => whnf); refine ⟨fun g => ?_, fun g => ?_⟩
  case' refine_2 =>
    simp only [c_lt, c_gt, c_le, c_ge, c_eq, c_ne, b2_z, b2_nz, b2_i, Classical.not_not, t0, t1, Nat.reduceMod, Nat.reduceDiv, Int.reduceAdd, Int.reduceNeg, Nat.reduceAdd, kv_m2, kv_m1, kv_0, kv_1, kv_2, kc_0, kc_1, kc_2] at g
    have e9 : aTop s r w = cI (-1) := if_neg (by omega)
    rw [e9] at hZ
    conv => whnf
    exact hZ _ _ (RP_same h Fr_refl)
  simp only [c_lt, c_gt, c_le, c_ge, c_eq, c_ne, b2_z, b2_nz, b2_i, Classical.not_not, t0, t1, Nat.reduceMod, Nat.reduceDiv, Int.reduceAdd, Int.reduceNeg, Nat.reduceAdd, kv_m2, kv_m1, kv_0, kv_1, kv_2, kc_0, kc_1, kc_2] at g
  obtain ⟨i, rfl, ei, hi⟩ := to_nI a.1
  have hi4 : i < 4 := by have := h1.2.1; omega
  have h12 : hgt (sK s) i ≤ 12 := h1.2.2.2.1 i
  have eh := nI_v (n := hgt (sK s) i) (by omega)
  have e8 : aTop s (nI i) w = (match ((sK s).getD i [])[hgt (sK s) i - 1]? with
    | none => if w.toInt = 1 then cI (-2) else cI 0
    | some q => if w.toInt = 2 then nI (tbl (stW (envS s) (sK s) i q) 8 0 0) else if w.toInt = 0 then nI (pcn (tbl (stF (envS s) (sK s) i q) 9 1 0) 12) else gtr (tbl (stF (envS s) (sK s) i q) 9 1 0) 9) := by
    unfold aTop
    rw [if_pos (by omega), ei]
    rfl
  rw [e8] at hZ
  (conv => whnf); refine ret_k hC (sp_height (r := i) (by simp [isYd]) h1 hi4) ?_
  (conv => whnf); refine ⟨fun k => ?_, fun k => ?_⟩
  · simp only [c_lt, c_gt, c_le, c_ge, c_eq, c_ne, b2_z, b2_nz, b2_i, Classical.not_not, t0, t1, Nat.reduceMod, Nat.reduceDiv, Int.reduceAdd, Int.reduceNeg, Nat.reduceAdd, kv_m2, kv_m1, kv_0, kv_1, kv_2, kc_0, kc_1, kc_2, eh] at k
    obtain ⟨q, hq⟩ := ly_at (rk := sK s) (r := i) (l := hgt (sK s) i - 1) (by omega)
    rw [hq] at hZ
    dsimp only at hZ
    have hlt := tbl_lt (p := stF (envS s) (sK s) i q) 9 1 0 (by omega) (by omega)
    (conv => whnf); refine ⟨fun t => ?_, fun t => ?_⟩
    · simp only [c_lt, c_gt, c_le, c_ge, c_eq, c_ne, b2_z, b2_nz, b2_i, Classical.not_not, t0, t1, Nat.reduceMod, Nat.reduceDiv, Int.reduceAdd, Int.reduceNeg, Nat.reduceAdd, kv_m2, kv_m1, kv_0, kv_1, kv_2, kc_0, kc_1, kc_2] at t
      rw [if_neg t] at hZ
      (conv => whnf)
      refine hC _ _ _ _ _ (sp_forces (d := d) h hq) (fun v M1 p => ?_)
      obtain ⟨rfl, p2⟩ := p
      (conv => whnf); refine ⟨fun u => ?_, fun u => ?_⟩
      · simp only [c_lt, c_gt, c_le, c_ge, c_eq, c_ne, b2_z, b2_nz, b2_i, Classical.not_not, t0, t1, Nat.reduceMod, Nat.reduceDiv, Int.reduceAdd, Int.reduceNeg, Nat.reduceAdd, kv_m2, kv_m1, kv_0, kv_1, kv_2, kc_0, kc_1, kc_2] at u
        rw [if_neg u] at hZ
        (conv => whnf); refine ret_k hC (sp_greatest hlt) ?_
        conv => whnf
        exact hZ _ _ (RP_same h p2)
      · simp only [c_lt, c_gt, c_le, c_ge, c_eq, c_ne, b2_z, b2_nz, b2_i, Classical.not_not, t0, t1, Nat.reduceMod, Nat.reduceDiv, Int.reduceAdd, Int.reduceNeg, Nat.reduceAdd, kv_m2, kv_m1, kv_0, kv_1, kv_2, kc_0, kc_1, kc_2] at u
        rw [if_pos u] at hZ
        (conv => whnf); refine ret_k hC (sp_bitCount hlt) ?_
        conv => whnf
        exact hZ _ _ (RP_same h p2)
    · simp only [c_lt, c_gt, c_le, c_ge, c_eq, c_ne, b2_z, b2_nz, b2_i, Classical.not_not, t0, t1, Nat.reduceMod, Nat.reduceDiv, Int.reduceAdd, Int.reduceNeg, Nat.reduceAdd, kv_m2, kv_m1, kv_0, kv_1, kv_2, kc_0, kc_1, kc_2] at t
      rw [if_pos t] at hZ
      (conv => whnf)
      refine hC _ _ _ _ _ (sp_ways (d := d) h hq) (fun v M1 p => ?_)
      obtain ⟨rfl, p2⟩ := p
      conv => whnf
      exact hZ _ _ (RP_same h p2)
  · simp only [c_lt, c_gt, c_le, c_ge, c_eq, c_ne, b2_z, b2_nz, b2_i, Classical.not_not, t0, t1, Nat.reduceMod, Nat.reduceDiv, Int.reduceAdd, Int.reduceNeg, Nat.reduceAdd, kv_m2, kv_m1, kv_0, kv_1, kv_2, kc_0, kc_1, kc_2, eh] at k
    have hn : ((sK s).getD i [])[hgt (sK s) i - 1]? = none := List.getElem?_eq_none (by show hgt (sK s) i ≤ _; omega)
    rw [hn] at hZ
    dsimp only at hZ
    (conv => whnf); refine ⟨fun t => ?_, fun t => ?_⟩
    · simp only [c_lt, c_gt, c_le, c_ge, c_eq, c_ne, b2_z, b2_nz, b2_i, Classical.not_not, t0, t1, Nat.reduceMod, Nat.reduceDiv, Int.reduceAdd, Int.reduceNeg, Nat.reduceAdd, kv_m2, kv_m1, kv_0, kv_1, kv_2, kc_0, kc_1, kc_2] at t
      rw [if_neg t] at hZ
      conv => whnf
      exact hZ _ _ (RP_same h Fr_refl)
    · simp only [c_lt, c_gt, c_le, c_ge, c_eq, c_ne, b2_z, b2_nz, b2_i, Classical.not_not, t0, t1, Nat.reduceMod, Nat.reduceDiv, Int.reduceAdd, Int.reduceNeg, Nat.reduceAdd, kv_m2, kv_m1, kv_0, kv_1, kv_2, kc_0, kc_1, kc_2] at t
      rw [if_pos t] at hZ
      conv => whnf
      exact hZ _ _ (RP_same h Fr_refl)
