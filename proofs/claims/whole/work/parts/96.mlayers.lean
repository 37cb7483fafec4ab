/-! the reference: layers from rows -/
theorem inv_lay {s : St} {r : Nat} {q : Lyr} (hv : inv s) (hr : r < (sK s).length) (hh : hgt (sK s) r < 12) (hq : okL q) : inv (layS s r q) := by
  obtain ⟨h1, h2, h3, h4, h5, h6, h7, h8, h9⟩ := hv
  have hg : ∀ r', hgt (sK s) r' ≤ hgt (put (sK s) r q) r' := fun r' => by
    rw [hgt_put hr]
    split
    · next z => rw [z]; omega
    · exact Nat.le_refl _
  refine ⟨⟨by show (put (sK s) r q).length ≤ 4; rw [put_len]; exact h1.1, fun r' => ?_, fun r' l' q' hq' => ?_⟩, h2, h3, h4, h5, h6, h7, ⟨h8.1, h8.2.1, fun i a ha => ?_⟩, ?_⟩
  · show hgt (put (sK s) r q) r' ≤ 12
    rw [hgt_put hr]
    have := h1.2.1 r'
    split <;> omega
  · replace hq' : ((put (sK s) r q).getD r' [])[l']? = some q' := hq'
    rcases put_at hr hq' with ⟨-, -, rfl⟩ | ⟨z, -⟩
    · exact hq
    · exact h1.2.2 r' l' q' z
  · obtain ⟨a1, a2, a3, a4⟩ := h8.2.2 i a ha
    refine ⟨a1, a2, a3, ?_⟩
    split
    · next z =>
      rw [if_pos z] at a4
      intro p hp
      have := a4 p hp
      exact Nat.lt_of_lt_of_le this (hg _)
    · next z =>
      rw [if_neg z] at a4
      exact a4
  · show imOk (sIm s) (put (sK s) r q)
    unfold imOk at h9 ⊢
    generalize sIm s = im at h9 ⊢
    match im, h9 with
    | none, _ => trivial
    | some (irk, de, dy), h9 => exact ⟨h9.1, by rw [put_len]; exact h9.2.1, h9.2.2⟩
theorem lgc_lt {x y : Int64} : cnd .lt (lg_cmp x y) 0 = (x.toInt < y.toInt) := by
  apply propext
  unfold lg_cmp
  rw [c_lt]
  by_cases h1 : x > y
  · rw [if_pos h1]
    have := Int64.lt_iff_toInt_lt.mp h1
    constructor
    · intro h; exact absurd h (by decide)
    · intro h; omega
  · rw [if_neg h1]
    by_cases h2 : x = y
    · rw [if_pos h2, h2]
      constructor
      · intro h; exact absurd h (by decide)
      · intro h; omega
    · rw [if_neg h2]
      have h3 : ¬ x.toInt = y.toInt := fun z => h2 (Int64.toInt_inj.mp z)
      have h4 : ¬ y.toInt < x.toInt := fun z => h1 (Int64.lt_iff_toInt_lt.mpr z)
      constructor
      · intro _; omega
      · intro _; decide
theorem lgc_ge {x y : Int64} : cnd .ge (lg_cmp x y) 0 = (y.toInt ≤ x.toInt) := by
  have h : cnd .ge (lg_cmp x y) 0 = ¬ cnd .lt (lg_cmp x y) 0 := by
    rw [c_ge, c_lt]
    apply propext
    omega
  rw [h, lgc_lt]
  apply propext
  omega
theorem nrw_x {x : Int64} (h : nrw 0 x = x) : x.toInt32.toInt = x.toInt := by
  have e : x = x.toInt32.toInt8.toInt32.toInt64 := by
    have := h
    unfold nrw at this
    rw [if_pos rfl] at this
    exact this.symm
  generalize x.toInt32.toInt8.toInt32 = y at e
  rw [e]
  simp
section MLAYERS
variable {d xi r N : Nat} {M0 : Mem} {s0 : St} {i : Int32} {l : List Int64}
theorem mlay_loop (hxi : xi < 6) (hN : N < 2147483648) (hNr : N / 100 = r) (hn : N % 100 ≤ 12) (hsl : sSh s0 xi = some (.inr (0, l))) : ∀ (m k : Nat) (s : St) (M : Mem), k + m = N % 100 → RM M s → inv s → Fr MA M0 M → sSh s = sSh s0 → sKs s = sKs s0 → r < (sK s).length → (k = 0 ∨ 0 ≤ i.toInt) →
    BodyK (d + 5) 166 76 [(0, .ref 55), (1, .int (nI xi)), (2, .int i), (3, .int (nI N)), (4, .int (nI k))] [] M (fun v M' => v = some (.int (lyl r i l m k s).1) ∧ RM M' (lyl r i l m k s).2 ∧ Fr MA M0 M') := by
  have y1 : nI N / cI 100 = nI r := by rw [← hNr]; exact nI_div (b := 100) hN (by decide)
  have y2 : nI N - nI N / cI 100 * cI 100 = nI (N % 100) := nI_rem (b := 100) hN (by decide)
  have en := nI_v (n := N % 100) (by omega)
  intro m
  induction m with
  | zero =>
    intro k s M hk h hv hF hs hks hr hk0
    have ek := nI_v (n := k) (by omega)
    refine body_run 400 rfl (fun B Cl Z hZ hB hC => ?_)
    (conv => whnf)
    refine ⟨by decide, ?_⟩
    (conv => whnf); refine ⟨fun b => ?_, fun b => ?_⟩
    · (conv => whnf)
      refine ⟨by decide, ?_⟩
      conv => whnf
      refine hZ _ _ ⟨?_, h, hF⟩
      rw [y2, ← hk]
      rfl
    · replace b : ¬ cnd .ge (nI k) (nI N - nI N / cI 100 * cI 100) := b
      rw [y2, c_ge, en, ek] at b
      omega
  | succ m ih =>
    intro k s M hk h hv hF hs hks hr hk0
    have ek := nI_v (n := k) (by omega)
    have hr4 : r < 4 := by have := hv.1.1; omega
    have h12 : hgt (sK s) r ≤ 12 := hv.1.2.1 r
    have eh := nI_v (n := hgt (sK s) r) (by omega)
    have hsh := h.2.2.2.2.2.2.2.2.1 xi hxi
    have hso := hv.2.2.2.1 xi hxi
    rw [hs, hsl] at hsh hso
    obtain ⟨s1, s2, s3⟩ := hsh
    have hl60 := hso.2.2
    have hnr := hso.1
    have m56 := (h.1.2 r hr).1
    have no : ¬ (hgt (sK s) r < 12 ∧ (0 ≤ i.toInt ∧ i.toInt + (3 * k + 3 : Nat) ≤ (l.length : Int)) ∧ lyZ (l.getD (i.toInt.toNat + 3 * k) 0).toInt (l.getD (i.toInt.toNat + 3 * k + 1) 0).toInt (l.getD (i.toInt.toNat + 3 * k + 2) 0).toInt) → lyl r i l (m + 1) k s = (nI k, s) := fun q => if_neg q
    have e33 : cI 3 * nI k = nI (3 * k) := by rw [show cI 3 = nI 3 from rfl, nI_mul]
    have b1 := Int32.toInt_lt i
    have b2x := Int32.le_toInt i
    have eA : (i.toInt64 + (cI 3 * nI k).toInt64).toInt = i.toInt + (3 * k : Nat) := by
      rw [Int64.toInt_add, Int32.toInt_toInt64, Int32.toInt_toInt64, e33, nI_v (by omega)]
      exact Int.bmod_eq_of_le (by omega) (by omega)
    have eA2 : (i.toInt64 + (cI 3 * nI k).toInt64 + lN 2).toInt = i.toInt + (3 * k : Nat) + 2 := by
      rw [Int64.toInt_add, eA, l_v (by omega)]
      exact Int.bmod_eq_of_le (by omega) (by omega)
    have eZ : (nI l.length).toInt64.toInt = (l.length : Int) := by rw [Int32.toInt_toInt64, nI_v (by omega)]
    have vx : vp_in (nI xi) 6 := nI_vp hxi (by decide)
    have cx := nI_c (n := xi) (by omega)
    have cr := nI_c (n := r) (by omega)
    refine body_run 400 rfl (fun B Cl Z hZ hB hC => ?_)
    have stop : ¬ (hgt (sK s) r < 12 ∧ (0 ≤ i.toInt ∧ i.toInt + (3 * k + 3 : Nat) ≤ (l.length : Int)) ∧ lyZ (l.getD (i.toInt.toNat + 3 * k) 0).toInt (l.getD (i.toInt.toNat + 3 * k + 1) 0).toInt (l.getD (i.toInt.toNat + 3 * k + 2) 0).toInt) → Z (some (.int (nI k))) M := fun q => by
      rw [no q] at hZ
      exact hZ _ _ ⟨rfl, h, hF⟩
    (conv => whnf)
    refine ⟨by decide, ?_⟩
    (conv => whnf); refine ⟨fun b => ?_, fun b => ?_⟩
    · replace b : cnd .ge (nI k) (nI N - nI N / cI 100 * cI 100) := b
      rw [y2, c_ge, en, ek] at b
      omega
    (conv => whnf); refine ⟨fun g => ?_, fun g => ?_⟩
    · replace g : cnd .lt (lg_cmp (i.toInt64 + (cI 3 * nI k).toInt64) (lN 0)) 0 := g
      rw [lgc_lt, eA, l_v (by omega)] at g
      conv => whnf
      exact stop (fun q => by have := q.2.1; omega)
    replace g : ¬ cnd .lt (lg_cmp (i.toInt64 + (cI 3 * nI k).toInt64) (lN 0)) 0 := g
    rw [lgc_lt, eA, l_v (by omega)] at g
    (conv => whnf)
    refine ⟨vx, ?_⟩
    (conv => whnf); refine ⟨fun t => ?_, fun t => ?_⟩
    · replace t : cnd .ge (lg_cmp (i.toInt64 + (cI 3 * nI k).toInt64 + lN 2) (M.1 96 (nI xi).toNatClampNeg).toInt64) 0 := t
      rw [lgc_ge, eA2, cx, s2, eZ] at t
      conv => whnf
      exact stop (fun q => by have := q.2.1; omega)
    replace t : ¬ cnd .ge (lg_cmp (i.toInt64 + (cI 3 * nI k).toInt64 + lN 2) (M.1 96 (nI xi).toNatClampNeg).toInt64) 0 := t
    rw [lgc_ge, eA2, cx, s2, eZ] at t
    have hi0 : 0 ≤ i.toInt := by
      rcases hk0 with z | z
      · rw [z] at g; omega
      · exact z
    obtain ⟨j, rfl, ej, hj⟩ := to_nI hi0
    have e0 : (nI j).toInt.toNat = j := by rw [ej]; rfl
    rw [e0] at no stop
    have g0 := get_d (l := l) (j := j + 3 * k) (by omega)
    have g1 := get_d (l := l) (j := j + 3 * k + 1) (by omega)
    have g2 := get_d (l := l) (j := j + 3 * k + 2) (by omega)
    have n0 := nrw_x (hnr _ (List.mem_of_getElem? g0))
    have n1 := nrw_x (hnr _ (List.mem_of_getElem? g1))
    have n2 := nrw_x (hnr _ (List.mem_of_getElem? g2))
    have x0 := s3 _ _ g0
    have x1 := s3 _ _ g1
    have x2 := s3 _ _ g2
    have yes : hgt (sK s) r < 12 → lyZ (l.getD (j + 3 * k) 0).toInt (l.getD (j + 3 * k + 1) 0).toInt (l.getD (j + 3 * k + 2) 0).toInt → lyl r (nI j) l (m + 1) k s = lyl r (nI j) l m (k + 1) (layS s r (lyN (100 * (l.getD (j + 3 * k + 1) 0).toInt.toNat + 10 * (l.getD (j + 3 * k) 0).toInt.toNat + (l.getD (j + 3 * k + 2) 0).toInt.toNat))) := fun q0 q => by
      rw [lyl, e0, if_pos ⟨q0, by omega, q⟩]
    generalize l.getD (j + 3 * k) 0 = w at g0 no yes n0 x0 stop
    generalize l.getD (j + 3 * k + 1) 0 = f at g1 no yes n1 x1 stop
    generalize l.getD (j + 3 * k + 2) 0 = mm at g2 no yes n2 x2 stop
    have eI : cI 60 * nI xi + ((nI j).toInt64 + (cI 3 * nI k).toInt64).toInt32 = nI (60 * xi + (j + 3 * k)) := by
      have : ((nI j).toInt64 + (cI 3 * nI k).toInt64).toInt32 = nI (j + 3 * k) := by
        apply Int32.toInt_inj.mp
        rw [Int64.toInt_toInt32, eA, ej, nI_v (by omega)]
        exact Int.bmod_eq_of_le (by omega) (by omega)
      rw [this, show cI 60 = nI 60 from rfl, nI_mul, nI_add]
    have eI1 : cI 60 * nI xi + ((nI j).toInt64 + (cI 3 * nI k).toInt64).toInt32 + cI 1 = nI (60 * xi + (j + 3 * k + 1)) := by
      rw [eI]; exact nI_1 _
    have eI2 : cI 60 * nI xi + ((nI j).toInt64 + (cI 3 * nI k).toInt64).toInt32 + cI 2 = nI (60 * xi + (j + 3 * k + 2)) := by
      rw [eI, show cI 2 = nI 2 from rfl, nI_add]
      rfl
    have v0 : vp_in (cI 60 * nI xi + ((nI j).toInt64 + (cI 3 * nI k).toInt64).toInt32) 360 := by rw [eI]; exact nI_vp (by omega) (by decide)
    have v1 : vp_in (cI 60 * nI xi + ((nI j).toInt64 + (cI 3 * nI k).toInt64).toInt32 + cI 1) 360 := by rw [eI1]; exact nI_vp (by omega) (by decide)
    have v2 : vp_in (cI 60 * nI xi + ((nI j).toInt64 + (cI 3 * nI k).toInt64).toInt32 + cI 2) 360 := by rw [eI2]; exact nI_vp (by omega) (by decide)
    have r0 : M.2 97 (cI 60 * nI xi + ((nI j).toInt64 + (cI 3 * nI k).toInt64).toInt32).toNatClampNeg = w := by rw [eI, nI_c (by omega)]; exact x0
    have r1 : M.2 97 (cI 60 * nI xi + ((nI j).toInt64 + (cI 3 * nI k).toInt64).toInt32 + cI 1).toNatClampNeg = f := by rw [eI1, nI_c (by omega)]; exact x1
    have r2 : M.2 97 (cI 60 * nI xi + ((nI j).toInt64 + (cI 3 * nI k).toInt64).toInt32 + cI 2).toNatClampNeg = mm := by rw [eI2, nI_c (by omega)]; exact x2
    (conv => whnf)
    refine ⟨by decide, ?_⟩
    (conv => whnf)
    refine ⟨by show vp_in (nI N / cI 100) 4; rw [y1]; exact nI_vp hr4 (by decide), ?_⟩
    (conv => whnf); refine ⟨fun u => ?_, fun u => ?_⟩
    case' refine_2 =>
      replace u : ¬ cnd .ne (M.1 56 (nI N / cI 100).toNatClampNeg) (cI 12) := u
      rw [y1, cr, m56, c_ne, eh, kv_12] at u
      conv => whnf
      exact stop (fun q => by have := q.1; omega)
    replace u : cnd .ne (M.1 56 (nI N / cI 100).toNatClampNeg) (cI 12) := u
    rw [y1, cr, m56, c_ne, eh, kv_12] at u
    (conv => whnf)
    refine ⟨v0, ?_⟩
    (conv => whnf)
    refine ⟨v1, ?_⟩
    (conv => whnf)
    refine ⟨v2, ?_⟩
    (conv => whnf)
    have hcall : Call (d + 4) 163 [.int (M.2 97 (cI 60 * nI xi + ((nI j).toInt64 + (cI 3 * nI k).toInt64).toInt32).toNatClampNeg).toInt32, .int (M.2 97 (cI 60 * nI xi + ((nI j).toInt64 + (cI 3 * nI k).toInt64).toInt32 + cI 1).toNatClampNeg).toInt32, .int (M.2 97 (cI 60 * nI xi + ((nI j).toInt64 + (cI 3 * nI k).toInt64).toInt32 + cI 2).toNatClampNeg).toInt32] M (RV (some (.int (b2 (lyZ w.toInt f.toInt mm.toInt)))) M) := by
      rw [r0, r1, r2, ← n0, ← n1, ← n2]
      exact m_areLayer
    refine ret_k hC hcall ?_
    (conv => whnf); refine ⟨fun z => ?_, fun z => ?_⟩
    case' refine_2 =>
      rw [b2_nz] at z
      conv => whnf
      exact stop (fun q => z q.2.2)
    rw [b2_nz] at z
    rw [yes (by omega) z] at hB
    obtain ⟨⟨z1, z2⟩, ⟨z3, z4⟩, z5, z6⟩ := id z
    obtain ⟨w', rfl, ew, -⟩ := to_lN (x := w) z1 (by omega)
    obtain ⟨f', rfl, ef, -⟩ := to_lN (x := f) (by omega) (by omega)
    obtain ⟨m', rfl, em, -⟩ := to_lN (x := mm) z5 (by omega)
    rw [ew] at z1 z2
    rw [ef] at z3 z4
    rw [em] at z5 z6
    have q1 : (lN w').toInt32 = nI w' := Int32.toInt_inj.mp (by rw [n0, ew, nI_v (by omega)])
    have q2 : (lN f').toInt32 = nI f' := Int32.toInt_inj.mp (by rw [n1, ef, nI_v (by omega)])
    have q3 : (lN m').toInt32 = nI m' := Int32.toInt_inj.mp (by rw [n2, em, nI_v (by omega)])
    have el : lyN (100 * (lN f').toInt.toNat + 10 * (lN w').toInt.toNat + (lN m').toInt.toNat) = (w', f', m', 0) := by
      rw [ew, ef, em]
      show lyN (100 * f' + 10 * w' + m') = _
      unfold lyN
      rw [show (100 * f' + 10 * w' + m') / 10 % 10 = w' by omega, show (100 * f' + 10 * w' + m') / 100 = f' by omega, show (100 * f' + 10 * w' + m') % 10 = m' by omega]
    rw [el] at hB
    (conv => whnf)
    refine ⟨by decide, ?_⟩
    (conv => whnf)
    refine ⟨v0, ?_⟩
    (conv => whnf)
    refine ⟨v1, ?_⟩
    (conv => whnf)
    refine ⟨v2, ?_⟩
    (conv => whnf)
    have hcall2 : Call (d + 4) 164 [.ref 55, .int (nI N / cI 100), .int (M.2 97 (cI 60 * nI xi + ((nI j).toInt64 + (cI 3 * nI k).toInt64).toInt32).toNatClampNeg).toInt32, .int (M.2 97 (cI 60 * nI xi + ((nI j).toInt64 + (cI 3 * nI k).toInt64).toInt32 + cI 1).toNatClampNeg).toInt32, .int (M.2 97 (cI 60 * nI xi + ((nI j).toInt64 + (cI 3 * nI k).toInt64).toInt32 + cI 2).toNatClampNeg).toInt32] M (QP M (.int (nI (hgt (sK s) r))) (layS s r (w', f', m', 0))) := by
      rw [r0, r1, r2, y1, q1, q2, q3]
      exact m_addLayer h hv hr (by omega)
    refine hC _ _ _ _ _ hcall2 (fun v M2 y => ?_)
    obtain ⟨rfl, p2, p3⟩ := y
    (conv => whnf)
    exact hB _ _ _ _ (Body_lv (ih (k + 1) _ M2 (by omega) p2 (inv_lay hv hr (by omega) ⟨by show w' < 8; omega, by show 1 ≤ f' ∧ f' ≤ 9; omega, by show m' < 8; omega, by show 0 < 100; omega⟩) (Fr_trans hF p3) hs hks (by show r < (put (sK s) r _).length; rw [put_len]; exact hr) (Or.inr (by omega))) ⟨rfl, rfl, rfl, rfl, v_eq (nI_i1 k), trivial⟩)
end MLAYERS
theorem m_layers {d : Nat} {M : Mem} {s : St} {x i n : Int32} (h : RM M s) (hv : inv s) : Call (d + 5) 166 [.ref 55, .int x, .int i, .int n] M (QP M (.int (aLayers s x i n).1) (aLayers s x i n).2) := by
  have h4 := hv.1.1
  refine call_run 400 rfl rfl (fun B Cl Z hZ hB hC => ?_)
  (conv => whnf); refine ret_k hC (m_isShelf) ?_
  (conv => whnf); refine ⟨fun a => ?_, fun a => ?_⟩
  · rw [b2_z] at a
    have e9 : aLayers s x i n = (cI (-1), s) := if_neg (fun z => a z.1)
    rw [e9] at hZ
    conv => whnf
    exact hZ _ _ (QP_same h FrM_refl)
  rw [b2_z] at a
  have a := Classical.not_not.mp a
  obtain ⟨xi, rfl, ei, hi⟩ := to_nI a.1
  have hxi : xi < 6 := by omega
  have e0x : (nI xi).toInt.toNat = xi := by rw [ei]; rfl
  have out : ¬ ((0 ≤ n.toInt ∧ n.toInt.toNat / 100 < (sK s).length) ∧ 1 ≤ n.toInt.toNat % 100 ∧ n.toInt.toNat % 100 ≤ 12) → aLayers s (nI xi) i n = (cI (-1), s) := fun q => if_neg (fun y => q y.2)
  (conv => whnf); refine ⟨fun b => ?_, fun b => ?_⟩
  · simp only [c_lt, c_gt, c_le, c_ge, c_eq, c_ne, b2_z, b2_nz, b2_i, Classical.not_not, t0, t1, Nat.reduceMod, Nat.reduceDiv, Int.reduceAdd, Int.reduceNeg, Nat.reduceAdd, kv_m12, kv_m2, kv_m1, kv_0, kv_1, kv_2, kv_3, kv_12, kv_60, kv_100, kc_0, kc_1, kc_2, kc_3, kc_12, kc_60, kc_100] at b
    rw [out (by omega)] at hZ
    conv => whnf
    exact hZ _ _ (QP_same h FrM_refl)
  simp only [c_lt, c_gt, c_le, c_ge, c_eq, c_ne, b2_z, b2_nz, b2_i, Classical.not_not, t0, t1, Nat.reduceMod, Nat.reduceDiv, Int.reduceAdd, Int.reduceNeg, Nat.reduceAdd, kv_m12, kv_m2, kv_m1, kv_0, kv_1, kv_2, kv_3, kv_12, kv_60, kv_100, kc_0, kc_1, kc_2, kc_3, kc_12, kc_60, kc_100] at b
  obtain ⟨m, rfl, em, hm⟩ := to_nI (x := n) (by omega)
  have e0 : (nI m).toInt.toNat = m := by rw [em]; rfl
  have y1 : nI m / cI 100 = nI (m / 100) := nI_div (b := 100) hm (by decide)
  have y2 : nI m - nI m / cI 100 * cI 100 = nI (m % 100) := nI_rem (b := 100) hm (by decide)
  have f1 := nI_v (n := m / 100) (by omega)
  have f2 := nI_v (n := m % 100) (by omega)
  rw [e0] at out
  (conv => whnf)
  refine ⟨by decide, ?_⟩
  (conv => whnf)
  rw [y1]
  rw [y1] at y2
  refine ret_k hC (m_isRick h.1.1 h4) ?_
  (conv => whnf); refine ⟨fun g => ?_, fun g => ?_⟩
  · rw [b2_z, f1] at g
    rw [out (by omega)] at hZ
    conv => whnf
    exact hZ _ _ (QP_same h FrM_refl)
  rw [b2_z, f1] at g
  have g := Classical.not_not.mp g
  (conv => whnf)
  refine ⟨by decide, ?_⟩
  (conv => whnf)
  rw [y1, y2]
  refine ret_k hC m_in ?_
  (conv => whnf); refine ⟨fun c => ?_, fun c => ?_⟩
  case' refine_2 =>
    rw [b2_nz, f2, kv_1, kv_12] at c
    rw [out (by omega)] at hZ
    conv => whnf
    exact hZ _ _ (QP_same h FrM_refl)
  rw [b2_nz, f2, kv_1, kv_12] at c
  have yes : aLayers s (nI xi) i (nI m) = (match rowL (sSh s xi) 0 with
    | some l => lyl (m / 100) i l (m % 100) 0 s
    | none => (if (rfu (sSh s xi) 0).toInt = -11 then cI 0 else rfu (sSh s xi) 0, s)) := by
    unfold aLayers
    rw [e0x, e0, if_pos ⟨⟨by omega, by omega⟩, ⟨by omega, by omega⟩, by omega, by omega⟩] <;> cases rowL (sSh s xi) 0 <;> rfl
  have vx : vp_in (nI xi) 6 := nI_vp hxi (by decide)
  have cx := nI_c (n := xi) (by omega)
  (conv => whnf)
  refine ⟨vx, ?_⟩
  rcases hv.sv h hxi with ⟨q1, q2⟩ | ⟨bb, q1, q2, q3, q4⟩ | ⟨t, l, q1, q2, q3, q4, q5, q6⟩
  · have e9 : aLayers s (nI xi) i (nI m) = (cI 0, s) := by
      rw [yes, q1]
      show ((if (cI (-11)).toInt = -11 then cI 0 else cI (-11)), s) = _
      rw [kv_m11, if_pos rfl]
    rw [e9] at hZ
    (conv => whnf); refine ⟨fun u => ?_, fun u => ?_⟩
    case' refine_2 =>
      replace u : ¬ cnd .eq (M.1 95 (nI xi).toNatClampNeg) (cI (-1)) := u
      rw [cx, c_eq, q2, kv_m1] at u
      omega
    (conv => whnf)
    refine ⟨vx, ?_⟩
    (conv => whnf); refine ⟨fun k => ?_, fun k => ?_⟩
    · replace k : cnd .ne (M.1 95 (nI xi).toNatClampNeg) (cI (-1)) := k
      rw [cx, c_ne, q2, kv_m1] at k
      omega
    · conv => whnf
      exact hZ _ _ (QP_same h FrM_refl)
  · have e9 : aLayers s (nI xi) i (nI m) = (cI (-12), s) := by
      rw [yes, q1]
      show ((if (cI (-12)).toInt = -11 then cI 0 else cI (-12)), s) = _
      rw [kv_m12, if_neg (by decide)]
    rw [e9] at hZ
    (conv => whnf); refine ⟨fun u => ?_, fun u => ?_⟩
    · replace u : cnd .eq (M.1 95 (nI xi).toNatClampNeg) (cI (-1)) := u
      rw [cx, c_eq, q4, kv_m1] at u
      omega
    (conv => whnf)
    refine ⟨vx, ?_⟩
    (conv => whnf); refine ⟨fun k => ?_, fun k => ?_⟩
    · replace k : cnd .eq (M.1 95 (nI xi).toNatClampNeg) (cI (-2)) := k
      rw [cx, c_eq, q4, kv_m2] at k
      omega
    · conv => whnf
      exact hZ _ _ (QP_same h FrM_refl)
  · (conv => whnf); refine ⟨fun u => ?_, fun u => ?_⟩
    · replace u : cnd .eq (M.1 95 (nI xi).toNatClampNeg) (cI (-1)) := u
      rw [cx, c_eq, q5, kv_m1] at u
      omega
    (conv => whnf)
    refine ⟨vx, ?_⟩
    (conv => whnf); refine ⟨fun k => ?_, fun k => ?_⟩
    · replace k : cnd .eq (M.1 95 (nI xi).toNatClampNeg) (cI (-2)) := k
      rw [cx, c_eq, q5, kv_m2] at k
      obtain rfl : t = 0 := by omega
      have e9 : aLayers s (nI xi) i (nI m) = lyl (m / 100) i l (m % 100) 0 s := by
        rw [yes, q1]
        rfl
      rw [e9] at hB
      (conv => whnf)
      refine ⟨vx, ?_⟩
      (conv => whnf); refine ⟨fun k2 => ?_, fun k2 => ?_⟩
      case' refine_2 =>
        replace k2 : ¬ cnd .ne (M.1 95 (nI xi).toNatClampNeg) (cI (-1)) := k2
        rw [cx, c_ne, q5, kv_m1] at k2
        omega
      (conv => whnf)
      exact hB _ _ _ _ (Body_lv (mlay_loop (d := d) (N := m) (M0 := M) (s0 := s) hxi hm rfl (by omega) q1 (m % 100) 0 s M (by omega) h hv Fr_refl rfl rfl (by omega) (Or.inl rfl)) ⟨rfl, rfl, rfl, rfl, rfl, trivial⟩)
    · replace k : ¬ cnd .eq (M.1 95 (nI xi).toNatClampNeg) (cI (-2)) := k
      rw [cx, c_eq, q5, kv_m2] at k
      have e9 : aLayers s (nI xi) i (nI m) = (cI (-12), s) := by
        rw [yes, q1]
        show (match (if t = 0 then some l else none) with
          | some l => lyl (m / 100) i l (m % 100) 0 s
          | none => (if (if t = 0 then cI 0 else cI (-12)).toInt = -11 then cI 0 else (if t = 0 then cI 0 else cI (-12)), s)) = _
        rw [if_neg (by omega)]
        show (if (if t = 0 then cI 0 else cI (-12)).toInt = -11 then cI 0 else (if t = 0 then cI 0 else cI (-12)), s) = _
        rw [if_neg (show ¬ t = 0 by omega), kv_m12, if_neg (by decide)]
      rw [e9] at hZ
      conv => whnf
      exact hZ _ _ (QP_same h FrM_refl)
