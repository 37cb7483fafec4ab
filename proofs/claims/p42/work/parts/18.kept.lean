/-! what a layer keeps, how a rick leans -/
def RLw (M : Mem) (lw : List Nat) : Prop := M.1 1 4 = nI lw.length ∧ lw.length ≤ 121 ∧ RCo M 0 lw ∧ (∀ c ∈ lw, c < 10140) ∧ sfc lw 0 false = true
def fcs (force age above mark cold k : Int32) : Nat → Int32 := fun j => match j with
  | 0 => force
  | 1 => age
  | 2 => above
  | 3 => mark
  | 4 => cold
  | _ => k
def heldK (v : Int32) : Int32 := maxI 0 (minI 9 v)
def amt (lw : List Nat) (cold force age mark k above : Int32) : Int32 := match lw with
  | [] => heldK (force - age / 10)
  | _ => heldK (wk (fcs force age above mark cold k) lw [] false)
theorem Fr_1 {A : List Nat} {M M' : Mem} (h : Fr A M M') (a : Nat) (ha : A.contains a = false) : M'.1 a = M.1 a := h.1 a (by simpa using ha)
theorem Fr_2 {A : List Nat} {M M' : Mem} (h : Fr A M M') (a : Nat) (ha : A.contains a = false) : M'.2 a = M.2 a := h.2 a (by simpa using ha)
theorem RLw_fr {A : List Nat} {M M' : Mem} {lw : List Nat} (h : RLw M lw) (hf : Fr A M M') (ha : (A.contains 1 || A.contains 36) = false) : RLw M' lw := by
  rw [Bool.or_eq_false_iff] at ha
  obtain ⟨h1, h2, h3, h4⟩ := h
  exact ⟨by rw [Fr_1 hf 1 ha.1]; exact h1, h2, fun j c hc => by rw [Fr_1 hf 36 ha.2]; exact h3 j c hc, h4⟩
theorem RY_fr {A : List Nat} {M M' : Mem} {y : Nat} {rk : Rk} (h : RY M y rk) (hf : Fr A M M') (ha : (A.contains y || A.contains (y + 1) || A.contains (y + 3)) = false) : RY M' y rk := by
  rw [Bool.or_eq_false_iff, Bool.or_eq_false_iff] at ha
  obtain ⟨h1, h2, h3, h4, h5⟩ := h
  exact ⟨by rw [Fr_1 hf y ha.1.1]; exact h1, h2, fun r hr => by rw [Fr_1 hf _ ha.2]; exact h3 r hr, h4, fun r l q hq => ⟨(h5 r l q hq).1, fun j hj => by rw [Fr_1 hf _ ha.1.2]; exact (h5 r l q hq).2 j hj⟩⟩
theorem RLn_fr {A : List Nat} {M M' : Mem} {s : Nat} {x y : Int32} (h : RLn M s x y) (hf : Fr A M M') (ha : A.contains s = false) : RLn M' s x y :=
  ⟨by rw [Fr_1 hf s ha]; exact h.1, by rw [Fr_1 hf s ha]; exact h.2⟩
theorem sp_held {d : Nat} {M : Mem} {v : Int32} : Call (d + 1) 10 [.int v] M (RV (some (.int (heldK v))) M) := by
  refine call_run 400 rfl rfl (fun B Cl Z hZ hB hC => ?_)
  conv => whnf
  exact hZ _ _ ⟨rfl, rfl⟩
theorem sp_worked {d : Nat} {M : Mem} {fc : Nat → Int32} {lw : List Nat} (h : RLw M lw) (hf : ∀ j, j < 6 → M.1 38 j = fc j) : Call (d + 2) 11 [.ref 1] M (fun r M' => r = some (.int (wk fc lw [] false)) ∧ Fr [37] M M') := by
  obtain ⟨h1, h2, h3, h4, h5⟩ := h
  refine call_run 400 rfl rfl (fun B Cl Z hZ hB hC => ?_)
  conv => whnf
  exact hB _ _ _ _ (Body_lv (wk_loop h2 lw 0 [] false M (by simp) h3 h1 hf h4 (fun j x hx => by simp at hx) (by simp) h5) ⟨rfl, rfl, rfl, rfl, trivial⟩)
theorem sp_amount {d : Nat} {M : Mem} {lw : List Nat} {force age mark k above : Int32} (h : RLw M lw) : Call (d + 3) 9 [.ref 1, .int force, .int age, .int mark, .int k, .int above] M (fun r M' => r = some (.int (amt lw (M.1 1 0) force age mark k above)) ∧ Fr [37, 38] M M') := by
  obtain ⟨h1, h2, h3, h4, h5⟩ := id h
  have e := nI_v (n := lw.length) (by omega)
  refine call_run 400 rfl rfl (fun B Cl Z hZ hB hC => ?_)
  (conv => whnf); refine ⟨fun a => ?_, fun a => ?_⟩
  · simp only [c_lt, c_gt, c_le, c_ge, c_eq, c_ne, b2_z, b2_nz, b2_i, Classical.not_not, t0, t1, Nat.reduceMod, Nat.reduceDiv, Int.reduceAdd, Int.reduceNeg, Nat.reduceAdd, kv_0, kv_1, kv_2, kv_3, kv_4, kv_5, kv_10, kc_0, kc_1, kc_2, kc_3, kc_4, kc_5, kc_10, h1, e] at a
    cases lw with
    | nil => exact absurd rfl a
    | cons c l =>
      (conv => whnf)
      refine ⟨nI_vp (c := 0) (by omega) (by omega), ?_⟩
      (conv => whnf)
      refine ⟨nI_vp (c := 1) (by omega) (by omega), ?_⟩
      (conv => whnf)
      refine ⟨nI_vp (c := 2) (by omega) (by omega), ?_⟩
      (conv => whnf)
      refine ⟨nI_vp (c := 3) (by omega) (by omega), ?_⟩
      (conv => whnf)
      refine ⟨nI_vp (c := 4) (by omega) (by omega), ?_⟩
      (conv => whnf)
      refine ⟨nI_vp (c := 5) (by omega) (by omega), ?_⟩
      (conv => whnf)
      have hF : Fr [38] M (mI (mI (mI (mI (mI (mI M 38 0 force) 38 1 age) 38 2 above) 38 3 mark) 38 4 (M.1 1 0)) 38 5 k) :=
        Fr_mI (Fr_mI (Fr_mI (Fr_mI (Fr_mI (Fr_mI Fr_refl (by decide)) (by decide)) (by decide)) (by decide)) (by decide)) (by decide)
      refine hC _ _ _ _ _ (sp_worked (fc := fcs force age above mark (M.1 1 0) k) (RLw_fr h hF (by decide)) ?_) (fun r M1 q => ?_)
      · intro j hj
        match j, hj with
        | 0, _ => simp [mI, upd, fcs, kc_0, kc_1, kc_2, kc_3, kc_4, kc_5]
        | 1, _ => simp [mI, upd, fcs, kc_0, kc_1, kc_2, kc_3, kc_4, kc_5]
        | 2, _ => simp [mI, upd, fcs, kc_0, kc_1, kc_2, kc_3, kc_4, kc_5]
        | 3, _ => simp [mI, upd, fcs, kc_0, kc_1, kc_2, kc_3, kc_4, kc_5]
        | 4, _ => simp [mI, upd, fcs, kc_0, kc_1, kc_2, kc_3, kc_4, kc_5]
        | 5, _ => simp [mI, upd, fcs, kc_0, kc_1, kc_2, kc_3, kc_4, kc_5]
      · obtain ⟨rfl, q2⟩ := q
        (conv => whnf); refine ret_k hC (sp_held) ?_
        conv => whnf
        exact hZ _ _ ⟨rfl, Fr_trans (Fr_sub hF (by decide)) (Fr_sub q2 (by decide))⟩
  · simp only [c_lt, c_gt, c_le, c_ge, c_eq, c_ne, b2_z, b2_nz, b2_i, Classical.not_not, t0, t1, Nat.reduceMod, Nat.reduceDiv, Int.reduceAdd, Int.reduceNeg, Nat.reduceAdd, kv_0, kv_1, kv_2, kv_3, kv_4, kv_5, kv_10, kc_0, kc_1, kc_2, kc_3, kc_4, kc_5, kc_10, h1, e] at a
    have hl : lw = [] := List.length_eq_zero_iff.mp (by omega)
    subst hl
    (conv => whnf)
    refine ⟨by decide, ?_⟩
    (conv => whnf); refine ret_k hC (sp_held) ?_
    conv => whnf
    exact hZ _ _ ⟨rfl, Fr_refl⟩
theorem sp_hasLayerH {d : Nat} {M : Mem} {y : Nat} {rk : Rk} {r l : Nat} (hy : isYd y) (h : RH M y rk) (hr : r < 2147483648) (hl : l < 2147483648) : Call (d + 1) 67 [.ref y, .int (nI r), .int (nI l)] M (RV (some (.int (b2 (l < hgt rk r)))) M) := by
  obtain ⟨h1, h2, h3, h4⟩ := id h
  have e := nI_v hr
  have e2 := nI_v hl
  have e3 := nI_v (n := hgt rk r) (by have := h4 r; omega)
  have e4 : (M.1 (y + 3) (nI r).toNatClampNeg).toInt = if r < 4 then (hgt rk r : Int) else (M.1 (y + 3) (nI r).toNatClampNeg).toInt := by
    by_cases q : r < 4
    · rw [if_pos q, nI_c hr, h3 r q, e3]
    · rw [if_neg q]
  have e5 : ¬ r < 4 → hgt rk r = 0 := fun q => hgt_ge (by omega)
  have e6 := h4 r
  rcases hy with rfl | rfl | rfl <;>
  · refine call_run 400 rfl rfl (fun B Cl Z hZ hB hC => ?_)
    repeat' (first | ((conv => whnf); refine ⟨fun _ => ?_, fun _ => ?_⟩) | ((conv => whnf); refine ⟨?_, ?_⟩) | fail)
    all_goals (try simp only [c_lt, c_gt, c_le, c_ge, c_eq, c_ne, b2_z, b2_nz, b2_i, Classical.not_not, t0, t1, Nat.reduceMod, Nat.reduceDiv, Int.reduceAdd, Int.reduceNeg, Nat.reduceAdd, kv_0, kv_1, kv_4, kv_12, kc_0, kc_1, kc_4, kc_12, e, e2] at *)
    all_goals first
      | exact Or.inl rfl
      | exact Or.inr rfl
      | exact nI_vp (by omega) (by omega)
      | exact hZ _ _ ⟨v_eq (b2_0 (by omega)), rfl⟩
      | exact hZ _ _ ⟨v_eq (b2_1 (by omega)), rfl⟩
theorem sp_hasLayer {d : Nat} {M : Mem} {y : Nat} {rk : Rk} {r l : Nat} (hy : isYd y) (h : RY M y rk) (hr : r < 2147483648) (hl : l < 2147483648) : Call (d + 1) 67 [.ref y, .int (nI r), .int (nI l)] M (RV (some (.int (b2 (l < hgt rk r)))) M) := sp_hasLayerH hy h.H hr hl
theorem RH_fr {A : List Nat} {M M' : Mem} {y : Nat} {rk : Rk} (h : RH M y rk) (hf : Fr A M M') (ha : (A.contains y || A.contains (y + 3)) = false) : RH M' y rk := by
  rw [Bool.or_eq_false_iff] at ha
  obtain ⟨h1, h2, h3, h4⟩ := h
  exact ⟨by rw [Fr_1 hf y ha.1]; exact h1, h2, fun r hr => by rw [Fr_1 hf _ ha.2]; exact h3 r hr, h4⟩
theorem idx4 (r l j : Nat) : (nI r * cI 12 + nI l) * cI 4 + nI j = nI ((12 * r + l) * 4 + j) := by
  show (nI r * nI 12 + nI l) * nI 4 + nI j = _
  rw [nI_mul, nI_add, nI_mul, nI_add]
  congr 1
  omega
theorem lyF_lt {q : Lyr} (h : okL q) (j : Nat) : lyF q j < 100 := by
  obtain ⟨h1, h2, h3, h4⟩ := h
  unfold lyF
  split <;> omega
theorem sp_number {d : Nat} {M : Mem} {y : Nat} {rk : Rk} {r l j : Nat} {q : Lyr} (hy : isYd y) (h : RY M y rk) (hq : (rk.getD r [])[l]? = some q) (hj : j < 4) : Call (d + 2) 68 [.ref y, .int (nI r), .int (nI l), .int (nI j)] M (RV (some (.int (nI (lyF q j)))) M) := by
  obtain ⟨h1, h2, h3, h4, h5⟩ := id h
  have hl := ly_lt hq
  have hr := hgt_lt hl
  have hh := h4 r
  have e := nI_v (n := j) (by omega)
  have hv := (h5 r l q hq).2 j hj
  rcases id hy with rfl | rfl | rfl <;>
  · refine call_run 400 rfl rfl (fun B Cl Z hZ hB hC => ?_)
    (conv => whnf); refine ret_k hC (sp_hasLayer hy h (by omega) (by omega)) ?_
    (conv => whnf); refine ⟨fun a => ?_, fun a => ?_⟩
    · simp only [c_lt, c_gt, c_le, c_ge, c_eq, c_ne, b2_z, b2_nz, b2_i, Classical.not_not, t0, t1, Nat.reduceMod, Nat.reduceDiv, Int.reduceAdd, Int.reduceNeg, Nat.reduceAdd, kv_0, kv_1, kv_3, kv_4, kv_12, kc_0, kc_1, kc_3, kc_4, kc_12, e] at a
      exact absurd hl a
    · (conv => whnf); refine ⟨fun b => ?_, fun b => ?_⟩
      · simp only [c_lt, c_gt, c_le, c_ge, c_eq, c_ne, b2_z, b2_nz, b2_i, Classical.not_not, t0, t1, Nat.reduceMod, Nat.reduceDiv, Int.reduceAdd, Int.reduceNeg, Nat.reduceAdd, kv_0, kv_1, kv_3, kv_4, kv_12, kc_0, kc_1, kc_3, kc_4, kc_12, e] at b
        omega
      · (conv => whnf); refine ⟨fun b => ?_, fun b => ?_⟩
        · simp only [c_lt, c_gt, c_le, c_ge, c_eq, c_ne, b2_z, b2_nz, b2_i, Classical.not_not, t0, t1, Nat.reduceMod, Nat.reduceDiv, Int.reduceAdd, Int.reduceNeg, Nat.reduceAdd, kv_0, kv_1, kv_3, kv_4, kv_12, kc_0, kc_1, kc_3, kc_4, kc_12, e] at b
          omega
        · (conv => whnf); refine ⟨fun b => ?_, fun b => ?_⟩
          · exact absurd (show (1 : Int32) = 0 from b) (by decide)
          · (conv => whnf)
            refine ⟨by rw [idx4]; exact nI_vp (by omega) (by omega), ?_⟩
            (conv => whnf)
            refine hZ _ _ ⟨v_eq ?_, rfl⟩
            rw [idx4, nI_c (by omega)]
            exact hv
/-- what a layer keeps -/
def kpt (lw : List Nat) (cold : Int32) (h l : Nat) (q : Lyr) : Int32 := amt lw cold (nI q.2.1) (nI q.2.2.2) (nI q.2.2.1) (nI l) (nI (h - 1 - l))
theorem sp_kept {d : Nat} {M : Mem} {y : Nat} {rk : Rk} {r l : Nat} {q : Lyr} {lw : List Nat} (hy : isYd y) (h : RY M y rk) (hl : RLw M lw) (hq : (rk.getD r [])[l]? = some q) : Call (d + 4) 76 [.ref y, .ref 1, .int (nI r), .int (nI l)] M (fun v M' => v = some (.int (kpt lw (M.1 1 0) (hgt rk r) l q)) ∧ Fr [37, 38] M M') := by
  obtain ⟨h1, h2, h3, h4, h5⟩ := id h
  have hl2 := ly_lt hq
  have hr := hgt_lt hl2
  have hh := h4 r
  have e : nI (hgt rk r) - cI 1 - nI l = nI (hgt rk r - 1 - l) := by
    rw [show nI (hgt rk r) - cI 1 = nI (hgt rk r - 1) from nI_sub (b := 1) (by omega), nI_sub (by omega)]
  rcases id hy with rfl | rfl | rfl <;>
  · refine call_run 400 rfl rfl (fun B Cl Z hZ hB hC => ?_)
    (conv => whnf); refine ret_k hC (sp_number hy h hq (show 1 < 4 by omega)) ?_
    (conv => whnf); refine ret_k hC (sp_number hy h hq (show 3 < 4 by omega)) ?_
    (conv => whnf); refine ret_k hC (sp_number hy h hq (show 2 < 4 by omega)) ?_
    (conv => whnf); refine ret_k hC (sp_height hy h (by omega)) ?_
    (conv => whnf)
    rw [e]
    refine hC _ _ _ _ _ (sp_amount hl) (fun v M1 q1 => ?_)
    obtain ⟨rfl, q2⟩ := q1
    (conv => whnf)
    exact hZ _ _ ⟨rfl, q2⟩
/-- a sum over layers from the i-th on -/
def lnX (w : Nat → Int32) (g : Nat → Lyr → Int32) : List Lyr → Nat → Int32 → Int32
  | [], _, a => a
  | q :: l, i, a => lnX w g l (i + 1) (a + g i q * w q.1)
def isYL (y s : Nat) : Prop := (y = 10 ∧ s = 3) ∨ (y = 18 ∧ s = 3) ∨ (y = 18 ∧ s = 8)
theorem lean_loop {d : Nat} {y s : Nat} {rk : Rk} {r : Nat} {lw : List Nat} {cold : Int32} (hy : isYL y s) (hr : r < 4) : ∀ (n i : Nat) (x0 y0 : Int32) (M : Mem), i + n = hgt rk r → RLn M s x0 y0 → RY M y rk → RLw M lw → M.1 1 0 = cold →
    BodyK (d + 5) 77 9 [(0, .ref y), (1, .ref 1), (2, .int (nI r)), (3, .ref s), (4, .int (nI i))] [] M (fun v M' => v = none ∧ RLn M' s (lnX rgt (kpt lw cold (hgt rk r)) ((rk.getD r []).drop i) i x0) (lnX dwn (kpt lw cold (hgt rk r)) ((rk.getD r []).drop i) i y0) ∧ Fr [s, 37, 38] M M') := by
  intro n
  induction n with
  | zero =>
    intro i x0 y0 M hi hs h hl hc
    have hh := h.2.2.2.1 r
    have e := nI_v (n := i) (by omega)
    have e2 := nI_v (n := hgt rk r) (by omega)
    have hd : (rk.getD r []).drop i = [] := List.drop_eq_nil_of_le (by show hgt rk r ≤ i; omega)
    rw [hd]
    rcases hy with ⟨rfl, rfl⟩ | ⟨rfl, rfl⟩ | ⟨rfl, rfl⟩ <;>
    · refine body_run 400 rfl (fun B Cl Z hZ hB hC => ?_)
      (conv => whnf); refine ret_k hC (sp_height (by simp [isYd]) h hr) ?_
      (conv => whnf); refine ⟨fun a => ?_, fun a => ?_⟩
      · conv => whnf
        exact hZ _ _ ⟨rfl, hs, Fr_refl⟩
      · simp only [c_lt, c_gt, c_le, c_ge, c_eq, c_ne, b2_z, b2_nz, b2_i, Classical.not_not, t0, t1, Nat.reduceMod, Nat.reduceDiv, Int.reduceAdd, Int.reduceNeg, Nat.reduceAdd, kv_0, kv_1, kc_0, kc_1, e, e2] at a
        omega
  | succ n ih =>
    intro i x0 y0 M hi hs h hl hc
    have hh := h.2.2.2.1 r
    have e := nI_v (n := i) (by omega)
    have e2 := nI_v (n := hgt rk r) (by omega)
    obtain ⟨q, hq⟩ := ly_at (rk := rk) (r := r) (l := i) (by omega)
    have hd : (rk.getD r []).drop i = q :: (rk.getD r []).drop (i + 1) := by
      obtain ⟨z1, z2⟩ := List.getElem?_eq_some_iff.mp hq
      rw [List.drop_eq_getElem_cons z1, z2]
    have hw := (h.2.2.2.2 r i q hq).1.1
    have hF0 : ∀ {M1 M2 : Mem}, Fr [37, 38] M M1 → Fr [s] M1 M2 → Fr [s, 37, 38] M M2 := fun f1 f2 => Fr_trans (Fr_sub f1 (by simp)) (Fr_sub f2 (by simp))
    rw [hd]
    rcases hy with ⟨rfl, rfl⟩ | ⟨rfl, rfl⟩ | ⟨rfl, rfl⟩ <;>
    · refine body_run 400 rfl (fun B Cl Z hZ hB hC => ?_)
      (conv => whnf); refine ret_k hC (sp_height (by simp [isYd]) h hr) ?_
      (conv => whnf); refine ⟨fun a => ?_, fun a => ?_⟩
      · simp only [c_lt, c_gt, c_le, c_ge, c_eq, c_ne, b2_z, b2_nz, b2_i, Classical.not_not, t0, t1, Nat.reduceMod, Nat.reduceDiv, Int.reduceAdd, Int.reduceNeg, Nat.reduceAdd, kv_0, kv_1, kc_0, kc_1, e, e2] at a
        omega
      · (conv => whnf); refine ret_k hC (sp_number (by simp [isYd]) h hq (show 0 < 4 by omega)) ?_
        (conv => whnf)
        refine hC _ _ _ _ _ (sp_kept (by simp [isYd]) h hl hq) (fun v M1 q1 => ?_)
        obtain ⟨rfl, q2⟩ := q1
        have hs1 := RLn_fr hs q2 (by decide)
        (conv => whnf)
        refine hC _ _ _ _ _ (sp_add (by simp [isLn]) hs1 hw) (fun v M2 q3 => ?_)
        obtain ⟨rfl, q4, q5⟩ := q3
        (conv => whnf)
        have hF := hF0 q2 q5
        have := ih (i + 1) _ _ M2 (by omega) q4 (RY_fr h hF (by decide)) (RLw_fr hl hF (by decide)) (by rw [Fr_1 hF 1 (by decide)]; exact hc)
        rw [hc] at this
        exact hB _ _ _ _ (Body_lv (Body_mono this (fun v M' z => ⟨z.1, z.2.1, Fr_trans hF z.2.2⟩)) ⟨rfl, rfl, rfl, rfl, v_eq (nI_i1 i), trivial⟩)
theorem sp_leanOf {d : Nat} {M : Mem} {y s : Nat} {rk : Rk} {r : Nat} {lw : List Nat} (hy : isYL y s) (hr : r < 4) (h : RY M y rk) (hl : RLw M lw) : Call (d + 5) 77 [.ref y, .ref 1, .int (nI r), .ref s] M (fun v M' => v = none ∧ RLn M' s (lnX rgt (kpt lw (M.1 1 0) (hgt rk r)) (rk.getD r []) 0 0) (lnX dwn (kpt lw (M.1 1 0) (hgt rk r)) (rk.getD r []) 0 0) ∧ Fr [s, 37, 38] M M') := by
  rcases id hy with ⟨rfl, rfl⟩ | ⟨rfl, rfl⟩ | ⟨rfl, rfl⟩ <;>
  · refine call_run 400 rfl rfl (fun B Cl Z hZ hB hC => ?_)
    (conv => whnf)
    refine hC _ _ _ _ _ (sp_begin (by simp [isLn])) (fun v M1 q1 => ?_)
    obtain ⟨rfl, q2, q3⟩ := q1
    (conv => whnf)
    have := lean_loop (d := d) (cold := M.1 1 0) hy hr (hgt rk r) 0 _ _ M1 (by omega) q2 (RY_fr h q3 (by decide)) (RLw_fr hl q3 (by decide)) (by rw [Fr_1 q3 1 (by decide)])
    exact hB _ _ _ _ (Body_lv (Body_mono this (fun v M' z => ⟨z.1, z.2.1, Fr_trans (Fr_sub q3 (by decide)) z.2.2⟩)) ⟨rfl, rfl, rfl, rfl, rfl, trivial⟩)
