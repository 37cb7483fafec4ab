/-! laying, moving, growing older -/
def put (rk : Rk) (r : Nat) (q : Lyr) : Rk := rk.set r (rk.getD r [] ++ [q])
theorem getD_set {rk : Rk} {r r' : Nat} {x : List Lyr} (h : r < rk.length) : (rk.set r x).getD r' [] = if r' = r then x else rk.getD r' [] := by
  by_cases q : r' = r
  · subst q; simp [List.getD, h]
  · rw [if_neg q]; simp [List.getD, List.getElem?_set_ne (Ne.symm q)]
theorem RY_put {M M' : Mem} {y r : Nat} {rk : Rk} {q : Lyr} (h : RY M y rk) (hr : r < rk.length) (hh : hgt rk r < 12) (hq : okL q) (h0 : M'.1 y 0 = M.1 y 0) (h3 : ∀ i, M'.1 (y + 3) i = if i = r then nI (hgt rk r + 1) else M.1 (y + 3) i)
    (h1 : ∀ i, M'.1 (y + 1) i = if (12 * r + hgt rk r) * 4 ≤ i ∧ i < (12 * r + hgt rk r) * 4 + 4 then nI (lyF q (i - (12 * r + hgt rk r) * 4)) else M.1 (y + 1) i) : RY M' y (put rk r q) := by
  obtain ⟨a1, a2, a3, a4, a5⟩ := h
  have hl : (put rk r q).length = rk.length := by simp [put]
  have hg : ∀ r', hgt (put rk r q) r' = if r' = r then hgt rk r + 1 else hgt rk r' := by
    intro r'
    unfold hgt put
    rw [getD_set hr]
    split <;> simp
  refine ⟨by rw [h0, a1, hl], by rw [hl]; exact a2, fun r' hr' => ?_, fun r' => ?_, fun r' l q' hq' => ?_⟩
  · rw [h3, hg]
    split
    · rfl
    · exact a3 r' hr'
  · rw [hg]
    split
    · omega
    · exact a4 r'
  · unfold put at hq'
    rw [getD_set hr] at hq'
    by_cases e : r' = r
    · subst e
      rw [if_pos rfl] at hq'
      rcases Nat.lt_or_ge l (hgt rk r') with z | z
      · rw [List.getElem?_append_left z] at hq'
        obtain ⟨b1, b2⟩ := a5 r' l q' hq'
        refine ⟨b1, fun j hj => ?_⟩
        rw [h1, if_neg (by omega)]
        exact b2 j hj
      · rw [List.getElem?_append_right z] at hq'
        have hle : l - hgt rk r' = 0 := by
          have := (List.getElem?_eq_some_iff.mp hq').1
          simp at this
          show l - (rk.getD r' []).length = 0
          simp [List.getD]
          omega
        have hq2 : [q][l - hgt rk r']? = some q' := hq'
        rw [hle] at hq2
        have : q = q' := by simpa using hq2
        subst this
        have el : l = hgt rk r' := by omega
        refine ⟨hq, fun j hj => ?_⟩
        rw [h1, if_pos (by omega)]
        congr 2
        omega
    · rw [if_neg e] at hq'
      obtain ⟨b1, b2⟩ := a5 r' l q' hq'
      have hl2 := ly_lt hq'
      have := a4 r'
      refine ⟨b1, fun j hj => ?_⟩
      rw [h1, if_neg (by omega)]
      exact b2 j hj
/-- an hour told as a number -/
def lyN (n : Nat) : Lyr := (n / 10 % 10, n / 100, n % 10, 0)
theorem mI_at (M : Mem) (a j : Nat) (v : Int32) (b i : Nat) : (mI M a j v).1 b i = if b = a ∧ i = j then v else M.1 b i := by
  by_cases h : b = a
  · subst h
    by_cases h2 : i = j
    · subst h2; simp [mI, upd]
    · simp [mI, upd, h2]
  · simp [mI, h]
theorem sp_putOn {d : Nat} {M : Mem} {rk : Rk} {r n : Nat} {v : Int32} (h : RY M 10 rk) (hr : r < rk.length) (hh : hgt rk r < 12) (hq : okL (lyN n)) (hn : n < 1000) :
    Call (d + 3) 71 [.ref 10, .int (nI r), .int (nI n), .int v] M (fun w M' => w = some (.int (nI (hgt rk r))) ∧ RY M' 10 (put rk r (lyN n)) ∧ Fr [11, 12, 13] M M' ∧ ∀ i, M'.1 12 i = if i = 12 * r + hgt rk r then v else M.1 12 i) := by
  obtain ⟨h1, h2, h3, h4, h5⟩ := id h
  have e := nI_v (n := r) (by omega)
  have e2 := nI_v (n := hgt rk r) (by omega)
  have x1 : nI r * cI 12 + nI (hgt rk r) = nI (12 * r + hgt rk r) := by simp only [cn_0, cn_1, cn_2, cn_3, cn_4, cn_10, cn_12, cn_100, nI_add, nI_mul]; congr 1; omega
  have x2 : ∀ k, nI (12 * r + hgt rk r) * cI 4 + nI k = nI ((12 * r + hgt rk r) * 4 + k) := fun k => by simp only [cn_0, cn_1, cn_2, cn_3, cn_4, cn_10, cn_12, cn_100, nI_add, nI_mul]
  have w1 : nI n / cI 10 - nI n / cI 10 / cI 10 * cI 10 = nI (n / 10 % 10) := by
    rw [show nI n / cI 10 = nI (n / 10) from nI_div (b := 10) (by omega) (by decide)]; exact nI_rem (b := 10) (by omega) (by decide)
  have w2 : nI n / cI 100 = nI (n / 100) := nI_div (b := 100) (by omega) (by decide)
  have w3 : nI n - nI n / cI 10 * cI 10 = nI (n % 10) := nI_rem (b := 10) (by omega) (by decide)
  refine call_run 400 rfl rfl (fun B Cl Z hZ hB hC => ?_)
  (conv => whnf); refine ret_k hC (sp_height (Or.inl rfl) h (by omega)) ?_
  (conv => whnf); refine ret_k hC (sp_hasRick (Or.inl rfl) h) ?_
  (conv => whnf); refine ⟨fun a => ?_, fun a => ?_⟩
  · simp only [c_lt, c_gt, c_le, c_ge, c_eq, c_ne, b2_z, b2_nz, b2_i, Classical.not_not, t0, t1, Nat.reduceMod, Nat.reduceDiv, Int.reduceAdd, Int.reduceNeg, Nat.reduceAdd, kv_m3, kv_0, kv_1, kv_2, kv_3, kv_4, kv_10, kv_12, kv_100, kc_0, kc_1, kc_2, kc_3, kc_4, kc_10, kc_12, kc_100, e] at a
    omega
  (conv => whnf); refine ⟨fun b => ?_, fun b => ?_⟩
  rotate_left
  · simp only [c_lt, c_gt, c_le, c_ge, c_eq, c_ne, b2_z, b2_nz, b2_i, Classical.not_not, t0, t1, Nat.reduceMod, Nat.reduceDiv, Int.reduceAdd, Int.reduceNeg, Nat.reduceAdd, kv_m3, kv_0, kv_1, kv_2, kv_3, kv_4, kv_10, kv_12, kv_100, kc_0, kc_1, kc_2, kc_3, kc_4, kc_10, kc_12, kc_100, e2] at b
    omega
  (conv => whnf)
  rw [x1]
  refine ⟨by decide, ?_⟩
  (conv => whnf)
  refine ⟨by decide, ?_⟩
  (conv => whnf)
  refine ⟨by rw [show cI 0 = nI 0 from rfl, x2]; exact nI_vp (by omega) (by omega), ?_⟩
  (conv => whnf)
  refine ⟨by decide, ?_⟩
  (conv => whnf)
  refine ⟨by rw [show cI 1 = nI 1 from rfl, x2]; exact nI_vp (by omega) (by omega), ?_⟩
  (conv => whnf)
  refine ⟨by decide, ?_⟩
  (conv => whnf)
  refine ⟨by rw [show cI 2 = nI 2 from rfl, x2]; exact nI_vp (by omega) (by omega), ?_⟩
  (conv => whnf)
  refine ⟨by rw [show cI 3 = nI 3 from rfl, x2]; exact nI_vp (by omega) (by omega), ?_⟩
  (conv => whnf)
  refine ⟨nI_vp (by omega) (by omega), ?_⟩
  (conv => whnf)
  refine ⟨nI_vp (by omega) (by omega), ?_⟩
  (conv => whnf)
  refine ⟨nI_vp (by omega) (by omega), ?_⟩
  (conv => whnf)
  rw [w1, w2, w3, show cI 0 = nI 0 from rfl, show cI 1 = nI 1 from rfl, show cI 2 = nI 2 from rfl, show cI 3 = nI 3 from rfl, x2, x2, x2, x2, nI_c (n := (12 * r + hgt rk r) * 4 + 0) (by omega), nI_c (n := (12 * r + hgt rk r) * 4 + 1) (by omega), nI_c (n := (12 * r + hgt rk r) * 4 + 2) (by omega), nI_c (n := (12 * r + hgt rk r) * 4 + 3) (by omega), nI_c (n := 12 * r + hgt rk r) (by omega), nI_c (n := r) (by omega)]
  refine hZ _ _ ⟨rfl, RY_put h hr hh hq ?_ ?_ ?_, Fr_mI (Fr_mI (Fr_mI (Fr_mI (Fr_mI (Fr_mI Fr_refl (by decide)) (by decide)) (by decide)) (by decide)) (by decide)) (by decide), ?_⟩
  · simp [mI_at]
  · intro i
    simp only [mI_at]
    by_cases q : i = r
    · subst q
      simp
      rw [h3 i (by omega)]
      exact nI_1 _
    · simp [q]
  · intro i
    simp only [mI_at]
    simp only [show (10 + 1 = 13) = False from by simp, show (10 + 1 = 12) = False from by simp, show (10 + 1 = 11) = True from by simp, false_and, true_and, if_false]
    generalize (12 * r + hgt rk r) * 4 = z
    by_cases c : z ≤ i ∧ i < z + 4
    · rw [if_pos c]
      obtain ⟨j, rfl⟩ : ∃ j, i = z + j := ⟨i - z, by omega⟩
      rw [Nat.add_sub_cancel_left]
      match j, c with
      | 0, _ => simp [lyN, lyF]
      | 1, _ => simp [lyN, lyF]
      | 2, _ => simp [lyN, lyF]
      | 3, _ => simp [lyN, lyF]
      | j + 4, c => omega
    · rw [if_neg c, if_neg (by omega), if_neg (by omega), if_neg (by omega), if_neg (by omega)]
  · intro i
    simp [mI_at]
