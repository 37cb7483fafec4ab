/-! the reference: how it holds the state; its leaves -/
def FrM (A J : List Nat) (M M' : Mem) : Prop := Fr (55 :: A) M M' ∧ ∀ j, j ∉ J → M'.1 55 j = M.1 55 j
theorem FrM_refl {A J : List Nat} {M : Mem} : FrM A J M M := ⟨Fr_refl, fun _ _ => rfl⟩
theorem FrM_trans {A J : List Nat} {M M1 M2 : Mem} (h1 : FrM A J M M1) (h2 : FrM A J M1 M2) : FrM A J M M2 := ⟨Fr_trans h1.1 h2.1, fun j hj => (h2.2 j hj).trans (h1.2 j hj)⟩
theorem FrM_sub {A B J K : List Nat} {M M1 : Mem} (h1 : FrM A J M M1) (h : A.all (fun a => B.contains a) = true) (h2 : J.all (fun a => K.contains a) = true) : FrM B K M M1 := by
  refine ⟨?_, fun j hj => h1.2 j (fun z => hj ?_)⟩
  · refine ⟨fun a ha => h1.1.1 a (fun z => ha ?_), fun a ha => h1.1.2 a (fun z => ha ?_)⟩ <;>
    · rcases List.mem_cons.mp z with rfl | z
      · exact List.mem_cons_self
      · have := List.all_eq_true.mp h a z
        exact List.mem_cons_of_mem _ (List.contains_iff_mem.mp this)
  · have := List.all_eq_true.mp h2 j z
    exact List.contains_iff_mem.mp this
theorem FrM_a {A J : List Nat} {M M1 : Mem} {a j : Nat} {v : Int32} (h : FrM A J M M1) (ha : A.contains a = true) (h55 : Nat.beq a 55 = false) : FrM A J M (mI M1 a j v) := by
  have hne : ¬ a = 55 := fun z => by subst z; cases h55
  refine ⟨Fr_mI h.1 (List.mem_cons_of_mem _ (List.contains_iff_mem.mp ha)), fun i hi => ?_⟩
  rw [mI_ne _ _ _ (fun z => hne z.symm)]
  exact h.2 i hi
theorem FrM_l {A J : List Nat} {M M1 : Mem} {a j : Nat} {v : Int64} (h : FrM A J M M1) (ha : A.contains a = true) : FrM A J M (mL M1 a j v) :=
  ⟨Fr_mL h.1 (List.mem_cons_of_mem _ (List.contains_iff_mem.mp ha)), h.2⟩
theorem FrM_s {A J : List Nat} {M M1 : Mem} {j : Nat} {v : Int32} (h : FrM A J M M1) (hj : J.contains j = true) : FrM A J M (mI M1 55 j v) := by
  refine ⟨Fr_mI h.1 List.mem_cons_self, fun i hi => ?_⟩
  have hne : ¬ i = j := fun z => hi (by subst z; exact List.contains_iff_mem.mp hj)
  rw [mI_2 _ _ hne]
  exact h.2 i hi
theorem FrM_1 {A J : List Nat} {M M' : Mem} (h : FrM A J M M') (a : Nat) (ha : (55 :: A).contains a = false) : M'.1 a = M.1 a := Fr_1 h.1 a ha
theorem FrM_2 {A J : List Nat} {M M' : Mem} (h : FrM A J M M') (a : Nat) (ha : (55 :: A).contains a = false) : M'.2 a = M.2 a := Fr_2 h.1 a ha
theorem FrM_j {A J : List Nat} {M M' : Mem} (h : FrM A J M M') (j : Nat) (hj : J.contains j = false) : M'.1 55 j = M.1 55 j := h.2 j (fun z => by have := List.contains_iff_mem.mpr z; rw [hj] at this; cases this)
/-- ricks in five rows: how many, ways, forces, marks, ages -/
def YM (M : Mem) (a : Nat) (rk : Rk) : Prop := ∀ r, r < rk.length → M.1 a r = nI (hgt rk r) ∧ ∀ l q, (rk.getD r [])[l]? = some q → ∀ j, j < 4 → M.1 (a + 1 + j) (12 * r + l) = nI (lyF q j)
def okR (rk : Rk) : Prop := rk.length ≤ 4 ∧ (∀ r, hgt rk r ≤ 12) ∧ ∀ (r l : Nat) (q : Lyr), (rk.getD r [])[l]? = some q → okL q
def RMk (M : Mem) (rk : Rk) : Prop := M.1 55 1 = nI rk.length ∧ YM M 56 rk
theorem RY.ok {M : Mem} {y : Nat} {rk : Rk} (h : RY M y rk) : okR rk := ⟨h.2.1, h.2.2.2.1, fun r l q hq => (h.2.2.2.2 r l q hq).1⟩
theorem YM_fr {M M' : Mem} {a : Nat} {rk : Rk} (h : YM M a rk) (h0 : M'.1 a = M.1 a) (h1 : M'.1 (a + 1) = M.1 (a + 1)) (h2 : M'.1 (a + 2) = M.1 (a + 2)) (h3 : M'.1 (a + 3) = M.1 (a + 3)) (h4 : M'.1 (a + 4) = M.1 (a + 4)) : YM M' a rk := by
  intro r hr
  refine ⟨by rw [h0]; exact (h r hr).1, fun l q hq j hj => ?_⟩
  rw [← (h r hr).2 l q hq j hj]
  match j, hj with
  | 0, _ => exact congrFun h1 _
  | 1, _ => exact congrFun h2 _
  | 2, _ => exact congrFun h3 _
  | 3, _ => exact congrFun h4 _
theorem YM_at {M : Mem} {a r l : Nat} {rk : Rk} {q : Lyr} (h : YM M a rk) (hq : (rk.getD r [])[l]? = some q) : M.1 a r = nI (hgt rk r) ∧ M.1 (a + 1) (12 * r + l) = nI q.1 ∧ M.1 (a + 2) (12 * r + l) = nI q.2.1 ∧ M.1 (a + 3) (12 * r + l) = nI q.2.2.1 ∧ M.1 (a + 4) (12 * r + l) = nI q.2.2.2 := by
  have h1 := h r (hgt_lt (ly_lt hq))
  exact ⟨h1.1, h1.2 l q hq 0 (by decide), h1.2 l q hq 1 (by decide), h1.2 l q hq 2 (by decide), h1.2 l q hq 3 (by decide)⟩
theorem m_in {d : Nat} {M : Mem} {v lo hi : Int32} : Call (d + 1) 156 [.int v, .int lo, .int hi] M (RV (some (.int (b2 (lo.toInt ≤ v.toInt ∧ v.toInt ≤ hi.toInt)))) M) := by
  refine call_run 400 rfl rfl (fun B Cl Z hZ hB hC => ?_)
  repeat' (first | ((conv => whnf); refine ⟨fun _ => ?_, fun _ => ?_⟩) | ((conv => whnf); refine ⟨?_, ?_⟩) | fail)
  all_goals (try simp only [c_lt, c_gt, c_le, c_ge, c_eq, c_ne, b2_z, b2_nz, b2_i, Classical.not_not, t0, t1, Nat.reduceMod, Nat.reduceDiv, Int.reduceAdd, Int.reduceNeg, Nat.reduceAdd, kv_0, kv_1, kc_0, kc_1] at *)
  all_goals first
    | exact Or.inl rfl
    | exact Or.inr rfl
    | exact hZ _ _ ⟨v_eq (b2_0 (by omega)), rfl⟩
    | exact hZ _ _ ⟨v_eq (b2_1 (by omega)), rfl⟩
theorem hs_i {s j : Nat} (hs : s < 4096) (hj : j < 31) : cnd .ne ((nI s >>> (nI j &&& 31)) &&& cI 1) (cI 1) = ¬ s.testBit j = true := by
  rw [has_z hs hj, c_ne]
  by_cases h : s.testBit j = true
  · rw [if_pos h]
    simp [h]
    rfl
  · rw [if_neg h]
    simp [h]
    decide
theorem m_has {d s j : Nat} {M : Mem} (hs : s < 4096) (hj : j < 31) : Call (d + 1) 157 [.int (nI s), .int (nI j)] M (RV (some (.int (b2 (s.testBit j = true)))) M) := by
  refine call_run 400 rfl rfl (fun B Cl Z hZ hB hC => ?_)
  (conv => whnf); refine ⟨fun a => ?_, fun a => ?_⟩
  · replace a : cnd .ne ((nI s >>> (nI j &&& 31)) &&& cI 1) (cI 1) := a
    rw [hs_i hs hj] at a
    conv => whnf
    exact ⟨Or.inl rfl, hZ _ _ ⟨v_eq (b2_0 a), rfl⟩⟩
  · replace a : ¬ cnd .ne ((nI s >>> (nI j &&& 31)) &&& cI 1) (cI 1) := a
    rw [hs_i hs hj] at a
    conv => whnf
    exact ⟨Or.inr rfl, hZ _ _ ⟨v_eq (b2_1 (Classical.not_not.mp a)), rfl⟩⟩
theorem pcd_0 : (List.range 4096).all (fun s => decide (s = 0 ∨ ((s &&& (s - 1)) < s ∧ pcn (s &&& (s - 1)) 12 + 1 = pcn s 12))) = true := by decide +kernel
theorem pcd {s : Nat} (h : s < 4096) (h0 : ¬ s = 0) : (s &&& (s - 1)) < s ∧ pcn (s &&& (s - 1)) 12 + 1 = pcn s 12 := by
  have := List.all_eq_true.mp pcd_0 s (List.mem_range.mpr h)
  exact (of_decide_eq_true this).resolve_left h0
theorem bits_loop {d : Nat} {M : Mem} {x : Int32} : ∀ (m s n : Nat), s ≤ m → s < 4096 → BodyK (d + 1) 158 4 [(0, .int x), (1, .int (nI n)), (2, .int (nI s))] [] M (RV (some (.int (nI (n + pcn s 12)))) M) := by
  intro m
  induction m with
  | zero =>
    intro s n hs h
    obtain rfl : s = 0 := by omega
    refine body_run 400 rfl (fun B Cl Z hZ hB hC => ?_)
    (conv => whnf); refine ⟨fun a => ?_, fun a => ?_⟩
    · conv => whnf
      exact hZ _ _ ⟨rfl, rfl⟩
    · exact absurd (show cnd .eq (nI 0) 0 by rw [c_eq]; decide) a
  | succ m ih =>
    intro s n hs h
    have e := nI_v (n := s) (by omega)
    refine body_run 400 rfl (fun B Cl Z hZ hB hC => ?_)
    (conv => whnf); refine ⟨fun a => ?_, fun a => ?_⟩
    · simp only [c_lt, c_gt, c_le, c_ge, c_eq, c_ne, b2_z, b2_nz, b2_i, Classical.not_not, t0, t1, Nat.reduceMod, Nat.reduceDiv, Int.reduceAdd, Int.reduceNeg, Nat.reduceAdd, kv_0, kv_1, kc_0, kc_1, e] at a
      obtain rfl : s = 0 := by omega
      conv => whnf
      exact hZ _ _ ⟨rfl, rfl⟩
    · simp only [c_lt, c_gt, c_le, c_ge, c_eq, c_ne, b2_z, b2_nz, b2_i, Classical.not_not, t0, t1, Nat.reduceMod, Nat.reduceDiv, Int.reduceAdd, Int.reduceNeg, Nat.reduceAdd, kv_0, kv_1, kc_0, kc_1, e] at a
      obtain ⟨p1, p2⟩ := pcd h (by omega)
      have e2 : nI s &&& (nI s - cI 1) = nI (s &&& (s - 1)) := by
        rw [show nI s - cI 1 = nI (s - 1) from nI_sub (b := 1) (by omega), nx_and]
      rw [← p2] at hB
      (conv => whnf)
      refine hB _ _ _ _ (Body_lv (Body_mono (ih (s &&& (s - 1)) (n + 1) (by omega) (by omega)) (fun v M' z => ?_)) ⟨rfl, v_eq (nI_i1 n), v_eq e2, trivial⟩)
      rw [show n + (pcn (s &&& (s - 1)) 12 + 1) = n + 1 + pcn (s &&& (s - 1)) 12 by omega]
      exact z
theorem m_bits {d s : Nat} {M : Mem} (h : s < 4096) : Call (d + 1) 158 [.int (nI s)] M (RV (some (.int (nI (pcn s 12)))) M) := by
  refine call_run 400 rfl rfl (fun B Cl Z hZ hB hC => ?_)
  conv => whnf
  have := bits_loop (d := d) (M := M) (x := nI s) s s 0 (Nat.le_refl _) h
  rw [Nat.zero_add] at this
  exact hB _ _ _ _ (Body_lv this ⟨rfl, rfl, rfl, trivial⟩)
theorem n_m1 {n : Nat} (h : n < 2147483647) : (nI n - cI 1).toInt = (n : Int) - 1 := by
  rw [sb_v (by rw [nI_v (by omega), kv_1]; omega) (by rw [nI_v (by omega), kv_1]; omega), nI_v (by omega), kv_1]
theorem b2_eq {P Q : Prop} [Decidable P] [Decidable Q] (h : P ↔ Q) : b2 P = b2 Q := by
  unfold b2
  by_cases p : P
  · rw [if_pos p, if_pos (h.mp p)]
  · rw [if_neg p, if_neg (fun q => p (h.mpr q))]
theorem m_isRick {d : Nat} {M : Mem} {rk : Rk} {x : Int32} (h : M.1 55 1 = nI rk.length) (h4 : rk.length ≤ 4) : Call (d + 2) 159 [.ref 55, .int x] M (RV (some (.int (b2 (0 ≤ x.toInt ∧ x.toInt < (rk.length : Int))))) M) := by
  have e := n_m1 (n := rk.length) (by omega)
  refine call_run 400 rfl rfl (fun B Cl Z hZ hB hC => ?_)
  (conv => whnf); refine ret_k hC (m_in) ?_
  (conv => whnf)
  refine ⟨b2_01, hZ _ _ ⟨v_eq (b2_eq ?_), rfl⟩⟩
  show ((cI 0).toInt ≤ x.toInt ∧ x.toInt ≤ (M.1 55 1 - cI 1).toInt) ↔ _
  rw [h, e, kv_0]
  omega
theorem m_isLayer {d : Nat} {M : Mem} {rk : Rk} {x : Int32} (h : RMk M rk) (ho : okR rk) : Call (d + 3) 160 [.ref 55, .int x] M (RV (some (.int (b2 (0 ≤ x.toInt ∧ x.toInt.toNat % 16 < hgt rk (x.toInt.toNat / 16))))) M) := by
  have h4 := ho.1
  refine call_run 400 rfl rfl (fun B Cl Z hZ hB hC => ?_)
  (conv => whnf); refine ⟨fun a => ?_, fun a => ?_⟩
  · simp only [c_lt, c_gt, c_le, c_ge, c_eq, c_ne, b2_z, b2_nz, b2_i, Classical.not_not, t0, t1, Nat.reduceMod, Nat.reduceDiv, Int.reduceAdd, Int.reduceNeg, Nat.reduceAdd, kv_0, kv_1, kv_16, kc_0, kc_1, kc_16] at a
    conv => whnf
    exact ⟨Or.inl rfl, hZ _ _ ⟨v_eq (b2_0 (by omega)), rfl⟩⟩
  simp only [c_lt, c_gt, c_le, c_ge, c_eq, c_ne, b2_z, b2_nz, b2_i, Classical.not_not, t0, t1, Nat.reduceMod, Nat.reduceDiv, Int.reduceAdd, Int.reduceNeg, Nat.reduceAdd, kv_0, kv_1, kv_16, kc_0, kc_1, kc_16] at a
  obtain ⟨n, rfl, e, hn⟩ := to_nI (x := x) (by omega)
  have y1 : nI n / cI 16 = nI (n / 16) := nI_div (b := 16) hn (by decide)
  have y2 : nI n - nI n / cI 16 * cI 16 = nI (n % 16) := nI_rem (b := 16) hn (by decide)
  have f1 := nI_v (n := n / 16) (by omega)
  have f2 := nI_v (n := n % 16) (by omega)
  rw [e] at hZ
  replace hZ : ∀ r M', RV (some (.int (b2 (0 ≤ (n : Int) ∧ n % 16 < hgt rk (n / 16))))) M r M' → Z r M' := hZ
  (conv => whnf)
  refine ⟨by decide, ?_⟩
  (conv => whnf)
  rw [y1]
  refine ret_k hC (m_isRick h.1 h4) ?_
  (conv => whnf); refine ⟨fun b => ?_, fun b => ?_⟩
  · rw [b2_z, f1] at b
    conv => whnf
    refine ⟨Or.inl rfl, hZ _ _ ⟨v_eq (b2_0 (fun z => b ?_)), rfl⟩⟩
    have := hgt_lt z.2
    omega
  rw [b2_z, f1] at b
  have b := Classical.not_not.mp b
  have eh := nI_v (n := hgt rk (n / 16)) (by have := ho.2.1 (n / 16); omega)
  have ev := (h.2 (n / 16) (by omega)).1
  (conv => whnf)
  refine ⟨by decide, ?_⟩
  (conv => whnf)
  refine ⟨by decide, ?_⟩
  (conv => whnf)
  rw [y1]
  refine ⟨nI_vp (by omega) (by decide), ?_⟩
  (conv => whnf); refine ⟨fun g => ?_, fun g => ?_⟩
  · replace g : cnd .ge (nI n - nI n / cI 16 * cI 16) (M.1 56 (nI (n / 16)).toNatClampNeg) := by
      rw [y1]
      exact g
    rw [nI_c (by omega), y2, ev, c_ge, eh, f2] at g
    conv => whnf
    exact ⟨Or.inl rfl, hZ _ _ ⟨v_eq (b2_0 (by omega)), rfl⟩⟩
  · replace g : ¬ cnd .ge (nI n - nI n / cI 16 * cI 16) (M.1 56 (nI (n / 16)).toNatClampNeg) := by
      rw [y1]
      exact g
    rw [nI_c (by omega), y2, ev, c_ge, eh, f2] at g
    conv => whnf
    exact ⟨Or.inr rfl, hZ _ _ ⟨v_eq (b2_1 (by omega)), rfl⟩⟩
theorem m_at12 {d n : Nat} {M : Mem} (hn : n < 2147483648) : Call (d + 1) 161 [.int (nI n)] M (RV (some (.int (nI (12 * (n / 16) + n % 16)))) M) := by
  have y1 : nI n / cI 16 = nI (n / 16) := nI_div (b := 16) hn (by decide)
  have y2 : nI n - nI n / cI 16 * cI 16 = nI (n % 16) := nI_rem (b := 16) hn (by decide)
  have y3 : cI 12 * (nI n / cI 16) + (nI n - nI n / cI 16 * cI 16) = nI (12 * (n / 16) + n % 16) := by
    rw [y2, y1, show cI 12 = nI 12 from rfl, nI_mul, nI_add]
  refine call_run 400 rfl rfl (fun B Cl Z hZ hB hC => ?_)
  (conv => whnf)
  refine ⟨by decide, ?_⟩
  (conv => whnf)
  refine ⟨by decide, ?_⟩
  conv => whnf
  exact hZ _ _ ⟨v_eq y3, rfl⟩
theorem m_areLayer {d : Nat} {M : Mem} {w f m : Int32} : Call (d + 2) 163 [.int w, .int f, .int m] M (RV (some (.int (b2 (lyZ w.toInt f.toInt m.toInt)))) M) := by
  refine call_run 400 rfl rfl (fun B Cl Z hZ hB hC => ?_)
  repeat' (first | ((conv => whnf); refine ⟨fun _ => ?_, fun _ => ?_⟩) | ((conv => whnf); refine ⟨?_, ?_⟩) | ((conv => whnf); refine ret_k hC (m_in) ?_) | ((conv => whnf); refine ret_k hC (m_in) ?_) | fail)
  all_goals (try simp only [c_lt, c_gt, c_le, c_ge, c_eq, c_ne, b2_z, b2_nz, b2_i, Classical.not_not, t0, t1, Nat.reduceMod, Nat.reduceDiv, Int.reduceAdd, Int.reduceNeg, Nat.reduceAdd, kv_0, kv_1, kv_7, kv_9, kc_0, kc_1, kc_7, kc_9] at *)
  all_goals first
    | exact Or.inl rfl
    | exact Or.inr rfl
    | exact hZ _ _ ⟨v_eq (b2_0 (by unfold lyZ; omega)), rfl⟩
    | exact hZ _ _ ⟨v_eq (b2_1 (by unfold lyZ; omega)), rfl⟩
theorem rgt_v : ∀ w, w < 8 → rgt w = if 0 < w ∧ w < 4 then cI 1 else if 4 < w then cI (-1) else cI 0 := by decide +kernel
theorem dwn_v : ∀ w, w < 8 → dwn w = if w = 7 ∨ w < 2 then cI (-1) else if 2 < w ∧ w < 6 then cI 1 else cI 0 := by decide +kernel
theorem m_alongX {d w : Nat} {M : Mem} (hw : w < 8) : Call (d + 1) 200 [.int (nI w)] M (RV (some (.int (rgt w))) M) := by
  have e := nI_v (n := w) (by omega)
  rw [rgt_v w hw]
  refine call_run 400 rfl rfl (fun B Cl Z hZ hB hC => ?_)
  repeat' (first | ((conv => whnf); refine ⟨fun _ => ?_, fun _ => ?_⟩) | ((conv => whnf); refine ⟨?_, ?_⟩) | fail)
  all_goals (try simp only [c_lt, c_gt, c_le, c_ge, c_eq, c_ne, b2_z, b2_nz, b2_i, Classical.not_not, t0, t1, Nat.reduceMod, Nat.reduceDiv, Int.reduceAdd, Int.reduceNeg, Nat.reduceAdd, kv_m1, kv_0, kv_1, kv_4, kc_0, kc_1, kc_4, e] at *)
  all_goals first
    | (exfalso; omega)
    | skip
  all_goals
    refine hZ _ _ ⟨v_eq ?_, rfl⟩
    repeat' first | rw [if_pos (by omega)] | rw [if_neg (by omega)] | fail
theorem m_alongY {d w : Nat} {M : Mem} (hw : w < 8) : Call (d + 1) 201 [.int (nI w)] M (RV (some (.int (dwn w))) M) := by
  have e := nI_v (n := w) (by omega)
  rw [dwn_v w hw]
  refine call_run 400 rfl rfl (fun B Cl Z hZ hB hC => ?_)
  repeat' (first | ((conv => whnf); refine ⟨fun _ => ?_, fun _ => ?_⟩) | ((conv => whnf); refine ⟨?_, ?_⟩) | fail)
  all_goals (try simp only [c_lt, c_gt, c_le, c_ge, c_eq, c_ne, b2_z, b2_nz, b2_i, Classical.not_not, t0, t1, Nat.reduceMod, Nat.reduceDiv, Int.reduceAdd, Int.reduceNeg, Nat.reduceAdd, kv_m1, kv_0, kv_1, kv_2, kv_6, kv_7, kc_0, kc_1, kc_2, kc_6, kc_7, e] at *)
  all_goals first
    | (exfalso; omega)
    | skip
  all_goals
    refine hZ _ _ ⟨v_eq ?_, rfl⟩
    repeat' first | rw [if_pos (by omega)] | rw [if_neg (by omega)] | fail
theorem m_plain {d : Nat} {M : Mem} {x : Int32} : Call (d + 1) 204 [.int x] M (RV (some (.int (absI x))) M) := by
  refine call_run 400 rfl rfl (fun B Cl Z hZ hB hC => ?_)
  (conv => whnf); refine ⟨fun a => ?_, fun a => ?_⟩
  · simp only [c_lt, c_gt, c_le, c_ge, c_eq, c_ne, b2_z, b2_nz, b2_i, Classical.not_not, t0, t1, Nat.reduceMod, Nat.reduceDiv, Int.reduceAdd, Int.reduceNeg, Nat.reduceAdd] at a
    have e : absI x = x := if_pos (by rw [le_i]; exact a)
    rw [e] at hZ
    conv => whnf
    exact hZ _ _ ⟨rfl, rfl⟩
  · simp only [c_lt, c_gt, c_le, c_ge, c_eq, c_ne, b2_z, b2_nz, b2_i, Classical.not_not, t0, t1, Nat.reduceMod, Nat.reduceDiv, Int.reduceAdd, Int.reduceNeg, Nat.reduceAdd] at a
    have e : absI x = 0 - x := if_neg (by rw [le_i]; exact a)
    rw [e] at hZ
    conv => whnf
    exact hZ _ _ ⟨v_eq (Int32.zero_sub x).symm, rfl⟩
theorem m_isShelf {d : Nat} {M : Mem} {x : Int32} : Call (d + 2) 264 [.int x] M (RV (some (.int (b2 (0 ≤ x.toInt ∧ x.toInt < 6)))) M) := by
  refine call_run 400 rfl rfl (fun B Cl Z hZ hB hC => ?_)
  (conv => whnf); refine ret_k hC (m_in) ?_
  (conv => whnf)
  refine ⟨b2_01, hZ _ _ ⟨v_eq (b2_eq ?_), rfl⟩⟩
  show ((cI 0).toInt ≤ x.toInt ∧ x.toInt ≤ (cI 5).toInt) ↔ _
  rw [kv_0, kv_5]
  omega
theorem m_areMany {d : Nat} {M : Mem} {x : Int32} : Call (d + 2) 214 [.int x] M (RV (some (.int (b2 (0 ≤ x.toInt ∧ x.toInt ≤ 24)))) M) := by
  refine call_run 400 rfl rfl (fun B Cl Z hZ hB hC => ?_)
  (conv => whnf); refine ret_k hC (m_in) ?_
  (conv => whnf)
  refine ⟨b2_01, hZ _ _ ⟨v_eq (b2_eq ?_), rfl⟩⟩
  show ((cI 0).toInt ≤ x.toInt ∧ x.toInt ≤ (cI 24).toInt) ↔ _
  rw [kv_0, kv_24]
theorem m_isBody {d n : Nat} {M : Mem} {x : Int32} (h : M.1 55 58 = nI n) (hn : n ≤ 50) : Call (d + 2) 245 [.ref 55, .int x] M (RV (some (.int (b2 (0 ≤ x.toInt ∧ x.toInt < (n : Int))))) M) := by
  have e := n_m1 (n := n) (by omega)
  refine call_run 400 rfl rfl (fun B Cl Z hZ hB hC => ?_)
  (conv => whnf); refine ret_k hC (m_in) ?_
  (conv => whnf)
  refine ⟨b2_01, hZ _ _ ⟨v_eq (b2_eq ?_), rfl⟩⟩
  show ((cI 0).toInt ≤ x.toInt ∧ x.toInt ≤ (M.1 55 58 - cI 1).toInt) ↔ _
  rw [h, e, kv_0]
  omega
