/-! telling by name; one yard becomes another -/
theorem tell_loop {d : Nat} {rk : Rk} {j : Nat} {nm v : Int32} (hj : j < 4) : ∀ (n r : Nat) (M : Mem), r + n = 4 → RH M 10 rk →
    BodyK (d + 3) 73 3 [(0, .ref 10), (1, .int nm), (2, .int (nI j)), (3, .int v), (4, .int (nI r))] [] M (fun w M' => w = none ∧ Fr [11] M M' ∧ ∀ i, M'.1 11 i = if 12 * r ≤ i / 4 ∧ i < 192 ∧ i % 4 = j ∧ i / 4 % 12 < hgt rk (i / 48) ∧ M.1 12 (i / 4) = nm then v else M.1 11 i) := by
  intro n
  induction n with
  | zero =>
    intro r M hr h
    have e := nI_v (n := r) (by omega)
    refine body_run 400 rfl (fun B Cl Z hZ hB hC => ?_)
    (conv => whnf); refine ⟨fun b => ?_, fun b => ?_⟩
    · conv => whnf
      refine hZ _ _ ⟨rfl, Fr_refl, fun i => ?_⟩
      rw [if_neg (by omega)]
    · simp only [c_lt, c_gt, c_le, c_ge, c_eq, c_ne, b2_z, b2_nz, b2_i, Classical.not_not, t0, t1, Nat.reduceMod, Nat.reduceDiv, Int.reduceAdd, Int.reduceNeg, Nat.reduceAdd, kv_0, kv_1, kv_3, kv_4, kv_12, kc_0, kc_1, kc_3, kc_4, kc_12, e] at b
      omega
  | succ n ih =>
    intro r M hr h
    have e := nI_v (n := r) (by omega)
    have ej := nI_v (n := j) (by omega)
    have inner : ∀ (k l : Nat) (M : Mem), l + k = hgt rk r → RH M 10 rk →
        BodyK (d + 3) 73 12 [(0, .ref 10), (1, .int nm), (2, .int (nI j)), (3, .int v), (4, .int (nI r)), (5, .int (nI l))] [] M (fun w M' => w = none ∧ Fr [11] M M' ∧ ∀ i, M'.1 11 i = if 12 * r + l ≤ i / 4 ∧ i < 192 ∧ i % 4 = j ∧ i / 4 % 12 < hgt rk (i / 48) ∧ M.1 12 (i / 4) = nm then v else M.1 11 i) := by
      intro k
      induction k with
      | zero =>
        intro l M hl h
        have hh := h.2.2.2 r
        have el := nI_v (n := l) (by omega)
        have e2 := nI_v (n := hgt rk r) (by omega)
        refine body_run 400 rfl (fun B Cl Z hZ hB hC => ?_)
        (conv => whnf); refine ret_k hC (sp_heightH (Or.inl rfl) h (by omega)) ?_
        (conv => whnf); refine ⟨fun b => ?_, fun b => ?_⟩
        · (conv => whnf)
          refine hB _ _ _ _ (Body_lv (Body_mono (ih (r + 1) M (by omega) h) (fun w M' q => ⟨q.1, q.2.1, fun i => ?_⟩)) ⟨rfl, rfl, rfl, rfl, v_eq (nI_i1 r), trivial⟩)
          rw [q.2.2 i]
          by_cases z : 12 * (r + 1) ≤ i / 4 ∧ i < 192 ∧ i % 4 = j ∧ i / 4 % 12 < hgt rk (i / 48) ∧ M.1 12 (i / 4) = nm
          · rw [if_pos z, if_pos ⟨by omega, z.2⟩]
          · rw [if_neg z, if_neg (fun z2 => z ⟨?_, z2.2⟩)]
            obtain ⟨z3, z4, z5, z6, z7⟩ := z2
            rcases Nat.lt_or_ge (i / 4) (12 * (r + 1)) with c | c
            · have : i / 48 = r := by omega
              rw [this] at z6
              omega
            · exact c
        · simp only [c_lt, c_gt, c_le, c_ge, c_eq, c_ne, b2_z, b2_nz, b2_i, Classical.not_not, t0, t1, Nat.reduceMod, Nat.reduceDiv, Int.reduceAdd, Int.reduceNeg, Nat.reduceAdd, kv_0, kv_1, kv_3, kv_4, kv_12, kc_0, kc_1, kc_3, kc_4, kc_12, el, e2] at b
          omega
      | succ k ihk =>
        intro l M hl h
        have hh := h.2.2.2 r
        have el := nI_v (n := l) (by omega)
        have e2 := nI_v (n := hgt rk r) (by omega)
        have post : ∀ (M1 : Mem), Fr [11] M M1 → (∀ i, M1.1 11 i = if i = (12 * r + l) * 4 + j ∧ M.1 12 (12 * r + l) = nm then v else M.1 11 i) → ∀ (w : Option Value) (M' : Mem), (w = none ∧ Fr [11] M1 M' ∧ ∀ i, M'.1 11 i = if 12 * r + (l + 1) ≤ i / 4 ∧ i < 192 ∧ i % 4 = j ∧ i / 4 % 12 < hgt rk (i / 48) ∧ M1.1 12 (i / 4) = nm then v else M1.1 11 i) →
            (w = none ∧ Fr [11] M M' ∧ ∀ i, M'.1 11 i = if 12 * r + l ≤ i / 4 ∧ i < 192 ∧ i % 4 = j ∧ i / 4 % 12 < hgt rk (i / 48) ∧ M.1 12 (i / 4) = nm then v else M.1 11 i) := by
          intro M1 hF h11 w M' q
          refine ⟨q.1, Fr_trans hF q.2.1, fun i => ?_⟩
          rw [q.2.2 i, Fr_1 hF 12 (by decide), h11]
          by_cases c1 : i / 4 = 12 * r + l
          · have c2 : i / 48 = r := by omega
            have c3 : i / 4 % 12 = l := by omega
            rw [if_neg (by omega), c1, c2]
            by_cases c4 : i % 4 = j ∧ M.1 12 (12 * r + l) = nm
            · rw [if_pos ⟨by omega, c4.2⟩, if_pos ⟨by omega, by omega, c4.1, by omega, c4.2⟩]
            · rw [if_neg (fun z => c4 ⟨by omega, z.2⟩), if_neg (fun z => c4 ⟨z.2.2.1, z.2.2.2.2⟩)]
          · by_cases z : 12 * r + (l + 1) ≤ i / 4 ∧ i < 192 ∧ i % 4 = j ∧ i / 4 % 12 < hgt rk (i / 48) ∧ M.1 12 (i / 4) = nm
            · rw [if_pos z, if_pos ⟨by omega, z.2⟩]
            · rw [if_neg z, if_neg (by omega), if_neg (fun z2 => z ⟨by omega, z2.2⟩)]
        refine body_run 400 rfl (fun B Cl Z hZ hB hC => ?_)
        (conv => whnf); refine ret_k hC (sp_heightH (Or.inl rfl) h (by omega)) ?_
        (conv => whnf); refine ⟨fun b => ?_, fun b => ?_⟩
        · simp only [c_lt, c_gt, c_le, c_ge, c_eq, c_ne, b2_z, b2_nz, b2_i, Classical.not_not, t0, t1, Nat.reduceMod, Nat.reduceDiv, Int.reduceAdd, Int.reduceNeg, Nat.reduceAdd, kv_0, kv_1, kv_3, kv_4, kv_12, kc_0, kc_1, kc_3, kc_4, kc_12, el, e2] at b
          omega
        · (conv => whnf); refine ret_k hC (sp_nameOfH h (by omega)) ?_
          (conv => whnf); refine ⟨fun c => ?_, fun c => ?_⟩
          · replace c : ¬ M.1 12 (12 * r + l) = nm := c
            (conv => whnf)
            exact hB _ _ _ _ (Body_lv (Body_mono (ihk (l + 1) M (by omega) h) (post M Fr_refl (fun i => by rw [if_neg (fun z => c z.2)]))) ⟨rfl, rfl, rfl, rfl, rfl, v_eq (nI_i1 l), trivial⟩)
          · replace c : ¬ ¬ M.1 12 (12 * r + l) = nm := c
            have c := Classical.not_not.mp c
            (conv => whnf); refine ⟨fun g => ?_, fun g => ?_⟩
            · simp only [c_lt, c_gt, c_le, c_ge, c_eq, c_ne, b2_z, b2_nz, b2_i, Classical.not_not, t0, t1, Nat.reduceMod, Nat.reduceDiv, Int.reduceAdd, Int.reduceNeg, Nat.reduceAdd, kv_0, kv_1, kv_3, kv_4, kv_12, kc_0, kc_1, kc_3, kc_4, kc_12, ej] at g
              omega
            · (conv => whnf); refine ⟨fun f => ?_, fun f => ?_⟩
              · simp only [c_lt, c_gt, c_le, c_ge, c_eq, c_ne, b2_z, b2_nz, b2_i, Classical.not_not, t0, t1, Nat.reduceMod, Nat.reduceDiv, Int.reduceAdd, Int.reduceNeg, Nat.reduceAdd, kv_0, kv_1, kv_3, kv_4, kv_12, kc_0, kc_1, kc_3, kc_4, kc_12, ej] at f
                omega
              · (conv => whnf)
                rw [idx4]
                refine ⟨nI_vp (by omega) (by omega), ?_⟩
                (conv => whnf)
                rw [nI_c (by omega)]
                have hF : Fr [11] M (mI M 11 ((12 * r + l) * 4 + j) v) := Fr_mI Fr_refl (by decide)
                refine hB _ _ _ _ (Body_lv (Body_mono (ihk (l + 1) _ (by omega) (RH_fr h hF (by decide))) (post _ hF (fun i => ?_))) ⟨rfl, rfl, rfl, rfl, rfl, v_eq (nI_i1 l), trivial⟩)
                simp only [mI_at, true_and, c, and_true]
    refine body_run 400 rfl (fun B Cl Z hZ hB hC => ?_)
    (conv => whnf); refine ⟨fun b => ?_, fun b => ?_⟩
    · simp only [c_lt, c_gt, c_le, c_ge, c_eq, c_ne, b2_z, b2_nz, b2_i, Classical.not_not, t0, t1, Nat.reduceMod, Nat.reduceDiv, Int.reduceAdd, Int.reduceNeg, Nat.reduceAdd, kv_0, kv_1, kv_3, kv_4, kv_12, kc_0, kc_1, kc_3, kc_4, kc_12, e] at b
      omega
    · (conv => whnf)
      have := inner (hgt rk r) 0 M (by omega) h
      exact hB _ _ _ _ (Body_lv this ⟨rfl, rfl, rfl, rfl, rfl, rfl, trivial⟩)
theorem sp_tellNamed {d : Nat} {M : Mem} {rk : Rk} {j : Nat} {nm v : Int32} (h : RH M 10 rk) (hj : j < 4) : Call (d + 3) 73 [.ref 10, .int nm, .int (nI j), .int v] M (fun w M' => w = none ∧ Fr [11] M M' ∧ ∀ i, M'.1 11 i = if i < 192 ∧ i % 4 = j ∧ i / 4 % 12 < hgt rk (i / 48) ∧ M.1 12 (i / 4) = nm then v else M.1 11 i) := by
  refine call_run 400 rfl rfl (fun B Cl Z hZ hB hC => ?_)
  conv => whnf
  refine hB _ _ _ _ (Body_lv (Body_mono (tell_loop (d := d) hj 4 0 M rfl h) (fun w M' q => ⟨q.1, q.2.1, fun i => ?_⟩)) ⟨rfl, rfl, rfl, rfl, rfl, trivial⟩)
  rw [q.2.2 i]
  simp only [Nat.mul_zero, Nat.zero_le, true_and]
def isYB (y z : Nat) : Prop := (y = 14 ∧ z = 10) ∨ (y = 10 ∧ z = 14) ∨ (y = 18 ∧ z = 10)
theorem mC_at (M : Mem) (a0 a n b i : Nat) : (mC M a0 a 0 0 n).1 b i = if b = a ∧ i < n then M.1 a0 i else M.1 b i := by
  by_cases h : b = a
  · subst h
    simp [mC, va_cpy]
  · simp [mC, h]
theorem n192 : (nI 192).toNatClampNeg = 192 := nI_c (by decide)
theorem n48 : (nI 48).toNatClampNeg = 48 := nI_c (by decide)
theorem n4 : (nI 4).toNatClampNeg = 4 := nI_c (by decide)
theorem sp_become {d : Nat} {M : Mem} {y z : Nat} {rk : Rk} (hy : isYB y z) (h : RY M z rk) : Call (d + 1) 64 [.ref y, .ref z] M (fun v M' => v = none ∧ Fr [y, y + 1, y + 2, y + 3] M M' ∧ RY M' y rk) := by
  obtain ⟨h1, h2, h3, h4, h5⟩ := h
  rcases hy with ⟨rfl, rfl⟩ | ⟨rfl, rfl⟩ | ⟨rfl, rfl⟩ <;>
  · refine call_run 400 rfl rfl (fun B Cl Z hZ hB hC => ?_)
    (conv => whnf)
    refine ⟨by decide, ?_⟩
    (conv => whnf)
    refine ⟨by decide, ?_⟩
    (conv => whnf)
    refine ⟨by decide, ?_⟩
    (conv => whnf)
    refine ⟨by decide, ?_⟩
    (conv => whnf)
    refine ⟨by decide, ?_⟩
    (conv => whnf)
    refine ⟨by decide, ?_⟩
    (conv => whnf)
    refine ⟨by decide, ?_⟩
    (conv => whnf)
    refine ⟨by decide, ?_⟩
    (conv => whnf)
    refine ⟨by decide, ?_⟩
    (conv => whnf)
    refine ⟨by decide, ?_⟩
    (conv => whnf)
    simp only [Nat.reduceMod, kc_0, n192, n48, n4]
    refine hZ _ _ ⟨rfl, Fr_mC (Fr_mC (Fr_mI Fr_refl (by decide)) (by decide)) (by decide), ⟨?_, h2, fun r hr => ?_, h4, fun r l q hq => ⟨(h5 r l q hq).1, fun j hj => ?_⟩⟩⟩
    · simp [mC_at, mI_at]
      exact h1
    · simp [mC_at, mI_at, hr]
      exact h3 r hr
    · have z1 := ly_lt hq
      have z2 := hgt_lt z1
      have z3 := h4 r
      have z4 : (12 * r + l) * 4 + j < 192 := by omega
      simp [mC_at, mI_at, z4]
      exact (h5 r l q hq).2 j hj
