/-! helpers of the class: hours, layers, numbers of mend -/
theorem lt_c {x y : Int64} : ((lg_cmp x y).toInt < 0) = (x.toInt < y.toInt) := by
  have h := lg_cmp_lt x y
  rw [Int32.lt_iff_toInt_lt, Int64.lt_iff_toInt_lt] at h
  exact propext h
theorem gt_c {x y : Int64} : (0 < (lg_cmp x y).toInt) = (y.toInt < x.toInt) := by
  have h := lg_cmp_gt x y
  rw [Int32.lt_iff_toInt_lt, Int64.lt_iff_toInt_lt] at h
  exact propext h
theorem eq_c {x y : Int64} : ((lg_cmp x y).toInt = 0) = (x.toInt = y.toInt) := propext (lc_0.trans Int64.toInt_inj.symm)
theorem l_v {n : Nat} (h : n < 9223372036854775808) : (lN n).toInt = (n : Int) := lg_ofNat_toInt h
theorem to_lN {x : Int64} (h : 0 ≤ x.toInt) (h2 : x.toInt < 9223372036854775808) : ∃ j : Nat, x = lN j ∧ x.toInt = (j : Int) ∧ j < 9223372036854775808 := by
  obtain ⟨j, hj⟩ := Int.eq_ofNat_of_zero_le h
  refine ⟨j, Int64.toInt_inj.mp ?_, hj, by omega⟩
  rw [hj, l_v (by omega)]
theorem lN_dv {a b : Nat} (ha : a < 9223372036854775808) (hb : b < 9223372036854775808) : lN a / lN b = lN (a / b) := by
  apply Int64.toInt_inj.mp
  have h : a / b < 9223372036854775808 := Nat.lt_of_le_of_lt (Nat.div_le_self a b) ha
  rw [Int64.toInt_div, l_v ha, l_v hb, l_v h, ← Int.ofNat_tdiv]
  generalize a / b = q at *
  exact Int.bmod_eq_of_le (by omega) (by omega)
theorem lN_ml (a b : Nat) : lN a * lN b = lN (a * b) := (Int64.ofNat_mul a b).symm
theorem lN_ad (a b : Nat) : lN a + lN b = lN (a + b) := (Int64.ofNat_add a b).symm
theorem lN_sb {a b : Nat} (h : b ≤ a) : lN a - lN b = lN (a - b) := by
  have : lN a = lN (a - b) + lN b := by rw [lN_ad, Nat.sub_add_cancel h]
  rw [this, Int64.add_sub_cancel]
theorem lN_rm {a b : Nat} (ha : a < 9223372036854775808) (hb : b < 9223372036854775808) : lN a - lN a / lN b * lN b = lN (a % b) := by
  have h := Nat.div_mul_le_self a b
  rw [lN_dv ha hb, lN_ml, lN_sb h]
  congr 1
  have := Nat.mod_add_div a b
  rw [Nat.mul_comm] at this
  omega
/-- an hour of June told as a number -/
abbrev hrZ (z : Int) : Prop := 100 ≤ z ∧ z ≤ 999 ∧ z.toNat / 10 % 10 ≤ 7 ∧ z.toNat % 10 ≤ 7
theorem hr_ok {n : Nat} (h : hrZ (n : Int)) : okL (lyN n) ∧ n < 1000 := by
  obtain ⟨h1, h2, h3, h4⟩ := h
  have e : ((n : Int)).toNat = n := rfl
  rw [e] at h3 h4
  have h5 : n / 100 ≤ 9 := by omega
  have h6 : 1 ≤ n / 100 := by omega
  exact ⟨⟨by show n / 10 % 10 < 8; omega, ⟨h6, h5⟩, by show n % 10 < 8; omega, by show 0 < 100; omega⟩, by omega⟩
theorem sp_hasLayerAt {d : Nat} {M : Mem} {rk : Rk} {x : Int32} (h : RY M 10 rk) : Call (d + 2) 102 [.ref 0, .int x] M (RV (some (.int (b2 (0 ≤ x.toInt ∧ x.toInt.toNat % 16 < hgt rk (x.toInt.toNat / 16))))) M) := by
  refine call_run 400 rfl rfl (fun B Cl Z hZ hB hC => ?_)
  (conv => whnf); refine ⟨fun a => ?_, fun a => ?_⟩
  · simp only [c_lt, c_gt, c_le, c_ge, c_eq, c_ne, b2_z, b2_nz, b2_i, Classical.not_not, t0, t1, Nat.reduceMod, Nat.reduceDiv, Int.reduceAdd, Int.reduceNeg, Nat.reduceAdd, kv_0, kv_1, kv_16, kc_0, kc_1, kc_16] at a
    (conv => whnf)
    exact ⟨Or.inl rfl, hZ _ _ ⟨v_eq (b2_0 (by omega)), rfl⟩⟩
  · simp only [c_lt, c_gt, c_le, c_ge, c_eq, c_ne, b2_z, b2_nz, b2_i, Classical.not_not, t0, t1, Nat.reduceMod, Nat.reduceDiv, Int.reduceAdd, Int.reduceNeg, Nat.reduceAdd, kv_0, kv_1, kv_16, kc_0, kc_1, kc_16] at a
    obtain ⟨n, rfl, e, hn⟩ := to_nI (x := x) (by omega)
    have y1 : nI n / cI 16 = nI (n / 16) := nI_div (b := 16) hn (by decide)
    have y2 : nI n - nI n / cI 16 * cI 16 = nI (n % 16) := nI_rem (b := 16) hn (by decide)
    have hd : n / 16 < 2147483648 := by omega
    rw [e] at hZ
    (conv => whnf)
    refine ⟨by decide, ?_⟩
    (conv => whnf)
    refine ⟨by decide, ?_⟩
    (conv => whnf)
    rw [y2, y1]
    refine ret_k hC (sp_hasLayer (by simp [isYd]) h hd (by omega)) ?_
    (conv => whnf); refine ⟨fun b => ?_, fun b => ?_⟩
    · rw [b2_z] at b
      (conv => whnf)
      exact ⟨Or.inl rfl, hZ _ _ ⟨v_eq (b2_0 (fun z => b z.2)), rfl⟩⟩
    · rw [b2_z] at b
      have b := Classical.not_not.mp b
      (conv => whnf)
      exact ⟨Or.inr rfl, hZ _ _ ⟨v_eq (b2_1 ⟨by omega, b⟩), rfl⟩⟩
theorem lk_0 : (nth (0, 0, 0, 0) ltL 0).2.2.1 = lN 100 := rfl
theorem lk_1 : (nth (0, 0, 0, 0) ltL 1).2.2.1 = lN 10 := rfl
theorem lk_3 : (nth (0, 0, 0, 0) ltL 3).2.2.1 = lN 999 := rfl
theorem lk_4 : (nth (0, 0, 0, 0) ltL 4).2.2.1 = lN 7 := rfl
theorem sp_isHour {d : Nat} {M : Mem} {v : Int64} : Call (d + 1) 103 [.long v] M (RV (some (.int (b2 (hrZ v.toInt)))) M) := by
  have v100 : (lN 100).toInt = 100 := l_v (by omega)
  have v999 : (lN 999).toInt = 999 := l_v (by omega)
  have v7 : (lN 7).toInt = 7 := l_v (by omega)
  refine call_run 400 rfl rfl (fun B Cl Z hZ hB hC => ?_)
  (conv => whnf); refine ⟨fun a => ?_, fun a => ?_⟩
  · simp only [c_lt, c_gt, c_le, c_ge, c_eq, c_ne, b2_z, b2_nz, b2_i, Classical.not_not, t0, t1, Nat.reduceMod, Nat.reduceDiv, Int.reduceAdd, Int.reduceNeg, Nat.reduceAdd, kv_0, kv_1, kc_0, kc_1, lk_0, lt_c, v100] at a
    (conv => whnf)
    exact ⟨Or.inl rfl, hZ _ _ ⟨v_eq (b2_0 (fun z => by have := z.1; omega)), rfl⟩⟩
  simp only [c_lt, c_gt, c_le, c_ge, c_eq, c_ne, b2_z, b2_nz, b2_i, Classical.not_not, t0, t1, Nat.reduceMod, Nat.reduceDiv, Int.reduceAdd, Int.reduceNeg, Nat.reduceAdd, kv_0, kv_1, kc_0, kc_1, lk_0, lt_c, v100] at a
  (conv => whnf); refine ⟨fun b => ?_, fun b => ?_⟩
  · simp only [c_lt, c_gt, c_le, c_ge, c_eq, c_ne, b2_z, b2_nz, b2_i, Classical.not_not, t0, t1, Nat.reduceMod, Nat.reduceDiv, Int.reduceAdd, Int.reduceNeg, Nat.reduceAdd, kv_0, kv_1, kc_0, kc_1, lk_3, gt_c, v999] at b
    (conv => whnf)
    exact ⟨Or.inl rfl, hZ _ _ ⟨v_eq (b2_0 (fun z => by have := z.2.1; omega)), rfl⟩⟩
  simp only [c_lt, c_gt, c_le, c_ge, c_eq, c_ne, b2_z, b2_nz, b2_i, Classical.not_not, t0, t1, Nat.reduceMod, Nat.reduceDiv, Int.reduceAdd, Int.reduceNeg, Nat.reduceAdd, kv_0, kv_1, kc_0, kc_1, lk_3, gt_c, v999] at b
  obtain ⟨n, rfl, e, hn⟩ := to_lN (x := v) (by omega) (by omega)
  have y1 : lN n / lN 10 = lN (n / 10) := lN_dv hn (by decide)
  have y2 : lN (n / 10) - lN (n / 10) / lN 10 * lN 10 = lN (n / 10 % 10) := lN_rm (by omega) (by decide)
  have y3 : lN n - lN n / lN 10 * lN 10 = lN (n % 10) := lN_rm hn (by decide)
  have e1 := l_v (n := n / 10 % 10) (by omega)
  have e2 := l_v (n := n % 10) (by omega)
  have e3 : (n : Int).toNat = n := rfl
  rw [e] at hZ
  (conv => whnf)
  refine ⟨by decide, ?_⟩
  (conv => whnf)
  refine ⟨by decide, ?_⟩
  (conv => whnf); refine ⟨fun c => ?_, fun c => ?_⟩
  · simp only [c_lt, c_gt, c_le, c_ge, c_eq, c_ne, b2_z, b2_nz, b2_i, Classical.not_not, t0, t1, Nat.reduceMod, Nat.reduceDiv, Int.reduceAdd, Int.reduceNeg, Nat.reduceAdd, kv_0, kv_1, kc_0, kc_1, lk_1, lk_4, y1, y2, gt_c, v7, e1] at c
    (conv => whnf)
    exact ⟨Or.inl rfl, hZ _ _ ⟨v_eq (b2_0 (fun z => by have := z.2.2.1; rw [e3] at this; omega)), rfl⟩⟩
  simp only [c_lt, c_gt, c_le, c_ge, c_eq, c_ne, b2_z, b2_nz, b2_i, Classical.not_not, t0, t1, Nat.reduceMod, Nat.reduceDiv, Int.reduceAdd, Int.reduceNeg, Nat.reduceAdd, kv_0, kv_1, kc_0, kc_1, lk_1, lk_4, y1, y2, gt_c, v7, e1] at c
  (conv => whnf)
  refine ⟨by decide, ?_⟩
  (conv => whnf); refine ⟨fun g => ?_, fun g => ?_⟩
  · simp only [c_lt, c_gt, c_le, c_ge, c_eq, c_ne, b2_z, b2_nz, b2_i, Classical.not_not, t0, t1, Nat.reduceMod, Nat.reduceDiv, Int.reduceAdd, Int.reduceNeg, Nat.reduceAdd, kv_0, kv_1, kc_0, kc_1, lk_1, lk_4, y3, gt_c, v7, e2] at g
    (conv => whnf)
    exact ⟨Or.inl rfl, hZ _ _ ⟨v_eq (b2_0 (fun z => by have := z.2.2.2; rw [e3] at this; omega)), rfl⟩⟩
  simp only [c_lt, c_gt, c_le, c_ge, c_eq, c_ne, b2_z, b2_nz, b2_i, Classical.not_not, t0, t1, Nat.reduceMod, Nat.reduceDiv, Int.reduceAdd, Int.reduceNeg, Nat.reduceAdd, kv_0, kv_1, kc_0, kc_1, lk_1, lk_4, y3, gt_c, v7, e2] at g
  (conv => whnf)
  exact ⟨Or.inr rfl, hZ _ _ ⟨v_eq (b2_1 ⟨by omega, by omega, by rw [e3]; omega, by rw [e3]; omega⟩), rfl⟩⟩
abbrev lyZ (w f m : Int) : Prop := (0 ≤ w ∧ w ≤ 7) ∧ (1 ≤ f ∧ f ≤ 9) ∧ 0 ≤ m ∧ m ≤ 7
theorem sp_leastOf {d : Nat} {M : Mem} {x : Int32} : Call (d + 1) 106 [.int x] M (RV (some (.int (if x.toInt = 1 ∨ x.toInt = 7 then cI 1 else cI 0))) M) := by
  refine call_run 400 rfl rfl (fun B Cl Z hZ hB hC => ?_)
  repeat' (first | ((conv => whnf); refine ⟨fun _ => ?_, fun _ => ?_⟩) | ((conv => whnf); refine ⟨?_, ?_⟩) | fail)
  all_goals (try simp only [c_lt, c_gt, c_le, c_ge, c_eq, c_ne, b2_z, b2_nz, b2_i, Classical.not_not, t0, t1, Nat.reduceMod, Nat.reduceDiv, Int.reduceAdd, Int.reduceNeg, Nat.reduceAdd, kv_0, kv_1, kv_7, kc_0, kc_1, kc_7] at *)
  all_goals first
    | exact hZ _ _ ⟨v_eq (if_pos (by omega)).symm, rfl⟩
    | exact hZ _ _ ⟨v_eq (if_neg (by omega)).symm, rfl⟩
def most (x : Int) : Int32 := if x = 0 ∨ x = 2 then cI 7 else if x = 1 ∨ x = 4 ∨ x = 7 then cI 9 else cI 99
theorem sp_mostOf {d : Nat} {M : Mem} {x : Int32} : Call (d + 1) 107 [.int x] M (RV (some (.int (most x.toInt))) M) := by
  refine call_run 400 rfl rfl (fun B Cl Z hZ hB hC => ?_)
  repeat' (first | ((conv => whnf); refine ⟨fun _ => ?_, fun _ => ?_⟩) | ((conv => whnf); refine ⟨?_, ?_⟩) | fail)
  all_goals (try simp only [c_lt, c_gt, c_le, c_ge, c_eq, c_ne, b2_z, b2_nz, b2_i, Classical.not_not, t0, t1, Nat.reduceMod, Nat.reduceDiv, Int.reduceAdd, Int.reduceNeg, Nat.reduceAdd, kv_0, kv_1, kv_2, kv_3, kv_4, kv_5, kv_6, kv_7, kv_9, kv_99, kc_0, kc_1, kc_2, kc_3, kc_4, kc_5, kc_6, kc_7, kc_9, kc_99, x_eq] at *)
  all_goals
    refine hZ _ _ ⟨v_eq ?_, rfl⟩
    unfold most
    repeat' first | rw [if_pos (by omega)] | rw [if_neg (by omega)] | fail
/-- how many hours stand at the head of a row, from the i-th on -/
def hrs : Nat → List Int64 → Nat
  | 0, _ => 0
  | _ + 1, [] => 0
  | n + 1, x :: l => if hrZ x.toInt then hrs n l + 1 else 0
theorem hours_loop {d a t : Nat} {M : Mem} {l : List Int64} (ha : isSh a) (hs : RS M a (some (.inr (t, l)))) : ∀ (n i : Nat), i + n = 12 → i ≤ l.length → BodyK (d + 3) 105 2 [(0, .ref a), (1, .int (nI i))] [] M (RV (some (.int (nI (i + hrs n (l.drop i))))) M) := by
  have hl60 := hs.2.2.2.2.1
  have el := nI_v (n := l.length) (by omega)
  intro n
  induction n with
  | zero =>
    intro i hi hil
    have e := nI_v (n := i) (by omega)
    refine body_run 400 rfl (fun B Cl Z hZ hB hC => ?_)
    (conv => whnf); refine ⟨fun b => ?_, fun b => ?_⟩
    · conv => whnf
      exact hZ _ _ ⟨rfl, rfl⟩
    · simp only [c_lt, c_gt, c_le, c_ge, c_eq, c_ne, b2_z, b2_nz, b2_i, Classical.not_not, t0, t1, Nat.reduceMod, Nat.reduceDiv, Int.reduceAdd, Int.reduceNeg, Nat.reduceAdd, kv_0, kv_1, kv_12, kc_0, kc_1, kc_12, e] at b
      omega
  | succ n ih =>
    intro i hi hil
    have e := nI_v (n := i) (by omega)
    refine body_run 400 rfl (fun B Cl Z hZ hB hC => ?_)
    (conv => whnf); refine ⟨fun b => ?_, fun b => ?_⟩
    · simp only [c_lt, c_gt, c_le, c_ge, c_eq, c_ne, b2_z, b2_nz, b2_i, Classical.not_not, t0, t1, Nat.reduceMod, Nat.reduceDiv, Int.reduceAdd, Int.reduceNeg, Nat.reduceAdd, kv_0, kv_1, kv_12, kc_0, kc_1, kc_12, e] at b
      omega
    (conv => whnf)
    rw [lay_sh ha]
    (conv => whnf); refine ret_k hC (sp_len ha hs) ?_
    (conv => whnf); refine ⟨fun c => ?_, fun c => ?_⟩
    · simp only [c_lt, c_gt, c_le, c_ge, c_eq, c_ne, b2_z, b2_nz, b2_i, Classical.not_not, t0, t1, Nat.reduceMod, Nat.reduceDiv, Int.reduceAdd, Int.reduceNeg, Nat.reduceAdd, kv_0, kv_1, kv_12, kc_0, kc_1, kc_12, e, shLen, el] at c
      have hd : l.drop i = [] := List.drop_eq_nil_of_le (by omega)
      rw [hd] at hZ
      conv => whnf
      exact hZ _ _ ⟨rfl, rfl⟩
    · simp only [c_lt, c_gt, c_le, c_ge, c_eq, c_ne, b2_z, b2_nz, b2_i, Classical.not_not, t0, t1, Nat.reduceMod, Nat.reduceDiv, Int.reduceAdd, Int.reduceNeg, Nat.reduceAdd, kv_0, kv_1, kv_12, kc_0, kc_1, kc_12, e, shLen, el] at c
      have hlt : i < l.length := by omega
      have hx := List.getElem?_eq_getElem hlt
      have hd : l.drop i = l[i] :: l.drop (i + 1) := List.drop_eq_getElem_cons hlt
      generalize l[i] = x at hx hd
      rw [hd] at hZ hB
      (conv => whnf)
      rw [lay_sh ha]
      (conv => whnf); refine ret_k hC (sp_cell ha hs hx) ?_
      (conv => whnf); refine ret_k hC (sp_isHour) ?_
      (conv => whnf); refine ⟨fun g => ?_, fun g => ?_⟩
      · rw [b2_z] at g
        have hh : hrs (n + 1) (x :: l.drop (i + 1)) = 0 := if_neg g
        rw [hh] at hZ
        conv => whnf
        exact hZ _ _ ⟨rfl, rfl⟩
      · rw [b2_z] at g
        have hh : hrs (n + 1) (x :: l.drop (i + 1)) = hrs n (l.drop (i + 1)) + 1 := if_pos (Classical.not_not.mp g)
        rw [hh] at hB
        (conv => whnf)
        refine hB _ _ _ _ (Body_lv (Body_mono (ih (i + 1) (by omega) (by omega)) (fun v M' z => ?_)) ⟨rfl, v_eq (nI_i1 i), trivial⟩)
        rw [show i + (hrs n (l.drop (i + 1)) + 1) = i + 1 + hrs n (l.drop (i + 1)) by omega]
        exact z
theorem sp_hoursOn {d a t : Nat} {M : Mem} {l : List Int64} (ha : isSh a) (hs : RS M a (some (.inr (t, l)))) : Call (d + 3) 105 [.ref a] M (RV (some (.int (nI (hrs 12 l)))) M) := by
  refine call_run 400 rfl rfl (fun B Cl Z hZ hB hC => ?_)
  conv => whnf
  have := hours_loop (d := d) ha hs 12 0 rfl (Nat.zero_le _)
  rw [Nat.zero_add] at this
  exact hB _ _ _ _ (Body_lv this ⟨rfl, rfl, trivial⟩)
def dCp (a b : Nat) : Prop := (a = 53 ∧ b = 54) ∨ (a = 54 ∧ b = 53)
theorem deeds_loop {d a b : Nat} (hab : dCp a b) : ∀ (n i : Nat) (M : Mem), i + n = 5 → BodyK (d + 1) 109 2 [(0, .ref a), (1, .ref b), (2, .int (nI i))] [] M (fun v M' => v = none ∧ Fr [b] M M' ∧ ∀ j, M'.1 b j = if i ≤ j ∧ j < 5 then M.1 a j else M.1 b j) := by
  intro n
  induction n with
  | zero =>
    intro i M hi
    have e := nI_v (n := i) (by omega)
    have post : ∀ j, M.1 b j = if i ≤ j ∧ j < 5 then M.1 a j else M.1 b j := fun j => by rw [if_neg (by omega)]
    rcases hab with ⟨rfl, rfl⟩ | ⟨rfl, rfl⟩ <;>
    · refine body_run 400 rfl (fun B Cl Z hZ hB hC => ?_)
      (conv => whnf); refine ⟨fun c => ?_, fun c => ?_⟩
      · conv => whnf
        exact hZ _ _ ⟨rfl, Fr_refl, post⟩
      · simp only [c_lt, c_gt, c_le, c_ge, c_eq, c_ne, b2_z, b2_nz, b2_i, Classical.not_not, t0, t1, Nat.reduceMod, Nat.reduceDiv, Int.reduceAdd, Int.reduceNeg, Nat.reduceAdd, kv_0, kv_1, kc_0, kc_1, e] at c
        replace c : ¬ (5 : Int) ≤ (i : Int) := c
        omega
  | succ n ih =>
    intro i M hi
    have e := nI_v (n := i) (by omega)
    have hne : ¬ a = b := by rcases hab with ⟨rfl, rfl⟩ | ⟨rfl, rfl⟩ <;> decide
    have post : ∀ j, (if i + 1 ≤ j ∧ j < 5 then (mI M b i (M.1 a i)).1 a j else (mI M b i (M.1 a i)).1 b j) = (if i ≤ j ∧ j < 5 then M.1 a j else M.1 b j) := by
      intro j
      rw [mI_ne _ _ _ hne]
      simp only [mI_at, true_and]
      by_cases z : j = i
      · subst z
        rw [if_neg (by omega), if_pos rfl, if_pos (by omega)]
      · by_cases z2 : i ≤ j ∧ j < 5
        · rw [if_pos (by omega), if_pos z2]
        · rw [if_neg (by omega), if_neg z, if_neg z2]
    rcases id hab with ⟨rfl, rfl⟩ | ⟨rfl, rfl⟩ <;>
    · refine body_run 400 rfl (fun B Cl Z hZ hB hC => ?_)
      (conv => whnf); refine ⟨fun c => ?_, fun c => ?_⟩
      · simp only [c_lt, c_gt, c_le, c_ge, c_eq, c_ne, b2_z, b2_nz, b2_i, Classical.not_not, t0, t1, Nat.reduceMod, Nat.reduceDiv, Int.reduceAdd, Int.reduceNeg, Nat.reduceAdd, kv_0, kv_1, kc_0, kc_1, e] at c
        replace c : (5 : Int) ≤ (i : Int) := c
        omega
      (conv => whnf); refine ⟨fun c => ?_, fun c => ?_⟩
      · simp only [c_lt, c_gt, c_le, c_ge, c_eq, c_ne, b2_z, b2_nz, b2_i, Classical.not_not, t0, t1, Nat.reduceMod, Nat.reduceDiv, Int.reduceAdd, Int.reduceNeg, Nat.reduceAdd, kv_0, kv_1, kc_0, kc_1, e] at c
        replace c : (5 : Int) ≤ (i : Int) := c
        omega
      (conv => whnf)
      refine ⟨nI_vp (by omega) (by omega), ?_⟩
      (conv => whnf)
      refine ⟨nI_vp (by omega) (by omega), ?_⟩
      (conv => whnf)
      rw [nI_c (n := i) (by omega)]
      exact hB _ _ _ _ (Body_lv (Body_mono (ih (i + 1) _ (by omega)) (fun w M' q => ⟨q.1, Fr_trans (Fr_mI Fr_refl (by decide)) q.2.1, fun j => (q.2.2 j).trans (post j)⟩)) ⟨rfl, rfl, v_eq (nI_i1 i), trivial⟩)
theorem sp_copyDeeds {d a b : Nat} {M : Mem} (hab : dCp a b) : Call (d + 1) 109 [.ref a, .ref b] M (fun v M' => v = none ∧ Fr [b] M M' ∧ ∀ j, j < 5 → M'.1 b j = M.1 a j) := by
  refine call_run 400 rfl rfl (fun B Cl Z hZ hB hC => ?_)
  conv => whnf
  exact hB _ _ _ _ (Body_lv (Body_mono (deeds_loop hab 5 0 M rfl) (fun v M' q => ⟨q.1, q.2.1, fun j hj => by rw [q.2.2 j, if_pos ⟨Nat.zero_le _, hj⟩]⟩)) ⟨rfl, rfl, rfl, trivial⟩)
