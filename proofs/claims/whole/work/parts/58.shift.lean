/-! shift, taken -/
def shf2 (s : St) (f : Nat → Shf) (yi : Nat) (u w : Shf) (i j n : Int32) : Int32 × St := match u, w with
  | none, _ => (cI (-11), s)
  | some _, none => (cI (-11), s)
  | some (.inl _), some _ => (cI (-12), s)
  | some (.inr _), some (.inl _) => (cI (-12), s)
  | some (.inr (t, l)), some (.inr (t2, l2)) => if t = t2 then (if (0 ≤ i.toInt ∧ 0 ≤ n.toInt ∧ i.toInt ≤ (l.length : Int) - n.toInt) ∧ 0 ≤ j.toInt ∧ 0 ≤ n.toInt ∧ j.toInt ≤ (l2.length : Int) - n.toInt then (n, wSh s (upD f yi (some (.inr (t2, cpd l2 l i.toInt.toNat j.toInt.toNat n.toInt.toNat))))) else (cI (-13), s)) else (cI (-12), s)
def aShift (s : St) (x i y j n : Int32) : Int32 × St :=
  if (0 ≤ x.toInt ∧ x.toInt < 6) ∧ 0 ≤ y.toInt ∧ y.toInt < 6 then shf2 s (sSh s) y.toInt.toNat (sSh s x.toInt.toNat) (sSh s y.toInt.toNat) i j n else (cI (-1), s)
theorem ne_none {α : Type} {x : α} : ¬ (some x : Option α) = none := fun h => by cases h
theorem nI_teq {a b : Nat} (ha : a < 2147483648) (hb : b < 2147483648) : ((nI a).toInt = (nI b).toInt) = (a = b) := by
  rw [nI_v ha, nI_v hb]
  exact propext Int.ofNat_inj
theorem cpd_ok {t i j n : Nat} {l f : List Int64} (hl : ∀ x ∈ l, nrw t x = x) (hf : ∀ x ∈ f, nrw t x = x) (hi : i + n ≤ f.length) : ∀ x ∈ cpd l f i j n, nrw t x = x := by
  intro x hx
  unfold cpd at hx
  obtain ⟨m, hm, hm2⟩ := List.mem_mapIdx.mp hx
  split at hm2
  · next z =>
    have hb' : i + (m - j) < f.length := by omega
    rw [List.getD, List.getElem?_eq_getElem hb'] at hm2
    replace hm2 : f[i + (m - j)] = x := hm2
    rw [← hm2]
    exact hf _ (List.getElem_mem hb')
  · rw [← hm2]
    exact hl _ (List.getElem_mem _)
set_option maxHeartbeats 1000000 in
theorem pb_shift {d c : Nat} {M : Mem} {s : St} {x i y j n : Int32} (h : RC c M s) : Call (d + 4) 136 [.ref 0, .int x, .int i, .int y, .int j, .int n] M (RP c M (.int (aShift s x i y j n).1) (aShift s x i y j n).2) := by
  refine call_run 400 rfl rfl (fun B Cl Z hZ hB hC => ?_)
  (conv => whnf)
  refine hC _ _ _ _ _ (sp_shelfR h) (fun v M1 p => ?_)
  obtain ⟨rfl, ⟨p1, rfl⟩ | ⟨xi, a, hxi, rfl, exi, hia, ha, hsa, rfl⟩⟩ := p
  · have e9 : aShift s x i y j n = (cI (-1), s) := if_neg (fun z => p1 z.1)
    rw [e9] at hZ
    (conv => whnf)
    refine hC _ _ _ _ _ (sp_shelfR h) (fun v2 M2 p2 => ?_)
    obtain ⟨rfl, ⟨p3, rfl⟩ | ⟨yi, b, hyi, rfl, eyi, hib, hb, hsb, rfl⟩⟩ := p2
    · conv => whnf
      exact hZ _ _ (RP_same h Fr_refl)
    · conv => whnf
      exact hZ _ _ (RP_same h Fr_refl)
  (conv => whnf)
  refine hC _ _ _ _ _ (sp_shelfR h) (fun v2 M2 p2 => ?_)
  obtain ⟨rfl, ⟨p3, rfl⟩ | ⟨yi, b, hyi, rfl, eyi, hib, hb, hsb, rfl⟩⟩ := p2
  · have e9 : aShift s (nI xi) i y j n = (cI (-1), s) := if_neg (fun z => p3 z.2)
    rw [e9] at hZ
    conv => whnf
    exact hZ _ _ (RP_same h Fr_refl)
  · skip
    have e8 : aShift s (nI xi) i (nI yi) j n = shf2 s (sSh s) yi (sSh s xi) (sSh s yi) i j n := by
      unfold aShift
      rw [if_pos (by omega), exi, eyi]
      rfl
    rw [e8] at hZ
    have hok1 := h.ok hxi
    have hok2 := h.ok hyi
    have hxy : a = b → sSh s xi = sSh s yi := fun z => by rw [show xi = yi by omega]
    generalize sSh s xi = u at hsa hZ hok1 hxy
    generalize hw : sSh s yi = w at hsb hZ hok2 hxy
    conv => whnf
    rw [lay_sh ha]
    (conv => whnf); refine ret_k hC (sp_isEmpty ha hsa) ?_
    (conv => whnf); refine ⟨fun g => ?_, fun g => ?_⟩
    · rw [b2_nz] at g
      subst g
      conv => whnf
      exact hZ _ _ (RP_same h Fr_refl)
    rw [b2_nz] at g
    conv => whnf
    rw [lay_sh hb]
    (conv => whnf); refine ret_k hC (sp_isEmpty hb hsb) ?_
    (conv => whnf); refine ⟨fun g2 => ?_, fun g2 => ?_⟩
    · rw [b2_z] at g2
      conv => whnf
      rw [lay_sh ha]
      (conv => whnf); refine ret_k hC (sp_isRow ha hsa) ?_
      match u, w, hsa, hsb, hZ, hok1, hok2, hxy, g, g2 with
      | none, _, hsa, hsb, hZ, hok1, hok2, hxy, g, g2 => exact absurd rfl g
      | some _, none, hsa, hsb, hZ, hok1, hok2, hxy, g, g2 => exact absurd rfl g2
      | some (.inl _), some _, hsa, hsb, hZ, hok1, hok2, hxy, g, g2 =>
        (conv => whnf); refine ⟨fun q => ?_, fun q => ?_⟩
        · conv => whnf
          exact hZ _ _ (RP_same h Fr_refl)
        · rw [b2_z] at q
          exact absurd (Classical.not_not.mp q) (by simp [isRw])
      | some (.inr (t, l)), some w, hsa, hsb, hZ, hok1, hok2, hxy, g, g2 =>
        (conv => whnf); refine ⟨fun q => ?_, fun q => ?_⟩
        · rw [b2_z] at q
          exact absurd rfl q
        conv => whnf
        rw [lay_sh hb]
        (conv => whnf); refine ret_k hC (sp_isRow hb hsb) ?_
        match w, hsb, hZ, hok2, hxy with
        | .inl _, hsb, hZ, hok2, hxy =>
          (conv => whnf); refine ⟨fun q => ?_, fun q => ?_⟩
          · conv => whnf
            exact hZ _ _ (RP_same h Fr_refl)
          · rw [b2_z] at q
            exact absurd (Classical.not_not.mp q) (by simp [isRw])
        | .inr (t2, l2), hsb, hZ, hok2, hxy =>
          (conv => whnf); refine ⟨fun q => ?_, fun q => ?_⟩
          · rw [b2_z] at q
            exact absurd rfl q
          have tb1 : t < 5 := hsa.2.2.1
          have tb2 : t2 < 5 := hsb.2.2.1
          conv => whnf
          rw [lay_sh ha]
          (conv => whnf); refine ret_k hC (sp_sort ha hsa) ?_
          conv => whnf
          rw [lay_sh hb]
          (conv => whnf); refine ret_k hC (sp_sort hb hsb) ?_
          (conv => whnf); refine ⟨fun r => ?_, fun r => ?_⟩
          · rw [c_eq, nI_teq (by omega) (by omega)] at r
            subst r
            conv => whnf
            rw [lay_sh ha]
            (conv => whnf); refine ret_k hC (sp_hasPlaces ha hsa) ?_
            (conv => whnf); refine ⟨fun k => ?_, fun k => ?_⟩
            · rw [b2_z] at k
              have e9 : shf2 s (sSh s) yi (some (.inr (t, l))) (some (.inr (t, l2))) i j n = (cI (-13), s) := by
                unfold shf2
                dsimp only
                rw [if_pos rfl, if_neg (fun z => k z.1)]
              rw [e9] at hZ
              conv => whnf
              exact hZ _ _ (RP_same h Fr_refl)
            rw [b2_z] at k
            have k := Classical.not_not.mp k
            conv => whnf
            rw [lay_sh hb]
            (conv => whnf); refine ret_k hC (sp_hasPlaces hb hsb) ?_
            (conv => whnf); refine ⟨fun k2 => ?_, fun k2 => ?_⟩
            · rw [b2_nz] at k2
              have e9 : shf2 s (sSh s) yi (some (.inr (t, l))) (some (.inr (t, l2))) i j n = (n, wSh s (upD (sSh s) yi (some (.inr (t, cpd l2 l i.toInt.toNat j.toInt.toNat n.toInt.toNat))))) := by
                unfold shf2
                dsimp only
                rw [if_pos rfl, if_pos ⟨k, k2⟩]
              rw [e9] at hZ
              obtain ⟨k1, k3, k4⟩ := k
              obtain ⟨k5, -, k6⟩ := k2
              replace k4 : i.toInt ≤ (l.length : Int) - n.toInt := k4
              replace k6 : j.toInt ≤ (l2.length : Int) - n.toInt := k6
              obtain ⟨i', rfl, ei', -⟩ := to_nI k1
              obtain ⟨j', rfl, ej', -⟩ := to_nI k5
              obtain ⟨n', rfl, en', -⟩ := to_nI k3
              conv => whnf
              rw [lay_sh hb]
              (conv => whnf)
              refine hC _ _ _ _ _ (sp_copyFrom (i := i') (j := j') (n := n') hb ha (fun z => ?_) hok1 (by omega) (by omega) hsb hsa) (fun v M2 p => ?_)
              · have := hxy z.symm
                simp at this
                exact this.symm
              obtain ⟨rfl, p2, p3⟩ := p
              (conv => whnf)
              rw [ei', ej', en'] at hZ
              refine hZ _ _ (RP_sh h hyi hib (Fr_sub p2 (by simp)) p3 ?_)
              exact cpd_ok hok2 hok1 (by omega)
            · rw [b2_nz] at k2
              have e9 : shf2 s (sSh s) yi (some (.inr (t, l))) (some (.inr (t, l2))) i j n = (cI (-13), s) := by
                unfold shf2
                dsimp only
                rw [if_pos rfl, if_neg (fun z => k2 z.2)]
              rw [e9] at hZ
              conv => whnf
              exact hZ _ _ (RP_same h Fr_refl)
          · rw [c_eq, nI_teq (by omega) (by omega)] at r
            have e9 : shf2 s (sSh s) yi (some (.inr (t, l))) (some (.inr (t2, l2))) i j n = (cI (-12), s) := by
              unfold shf2
              dsimp only
              rw [if_neg r]
            rw [e9] at hZ
            conv => whnf
            exact hZ _ _ (RP_same h Fr_refl)
    · rw [b2_z] at g2
      have g2 := Classical.not_not.mp g2
      subst g2
      have e9 : shf2 s (sSh s) yi u none i j n = (cI (-11), s) := by
        cases u
        · rfl
        · rfl
      rw [e9] at hZ
      conv => whnf
      exact hZ _ _ (RP_same h Fr_refl)
def aTaken (s : St) (x k : Int32) : Int32 :=
  if (0 ≤ x.toInt ∧ x.toInt < 6) ∧ 0 ≤ k.toInt ∧ k.toInt ≤ 7 then (match sSh s x.toInt.toNat with
    | none => cI (-11)
    | some (.inr _) => cI (-12)
    | some (.inl b) => if upN k 8 (nI ((sKs s).getD b 0)) = k then nI ((sKs s).getD b 0) else cI (-12)) else cI (-1)
theorem pb_taken {d c : Nat} {M : Mem} {s : St} {x k : Int32} (h : RC c M s) : Call (d + 2) 137 [.ref 0, .int x, .int k] M (RP c M (.int (aTaken s x k)) s) := by
  have h9 := h.2.2.2.2.2.2.2.2.1
  refine call_run 400 rfl rfl (fun B Cl Z hZ hB hC => ?_)
  (conv => whnf)
  refine hC _ _ _ _ _ (sp_shelfR h) (fun v M1 p => ?_)
  obtain ⟨rfl, ⟨p1, rfl⟩ | ⟨i, a, hi, rfl, ei, hia, ha, hs, rfl⟩⟩ := p
  · have e9 : aTaken s x k = cI (-1) := if_neg (fun z => p1 z.1)
    rw [e9] at hZ
    conv => whnf
    exact hZ _ _ (RP_same h Fr_refl)
  (conv => whnf); refine ⟨fun g => ?_, fun g => ?_⟩
  · simp only [c_lt, c_gt, c_le, c_ge, c_eq, c_ne, b2_z, b2_nz, b2_i, Classical.not_not, t0, t1, Nat.reduceMod, Nat.reduceDiv, Int.reduceAdd, Int.reduceNeg, Nat.reduceAdd, kv_m12, kv_m11, kv_m1, kv_7, kc_7] at g
    have e9 : aTaken s (nI i) k = cI (-1) := if_neg (by omega)
    rw [e9] at hZ
    conv => whnf
    exact hZ _ _ (RP_same h Fr_refl)
  simp only [c_lt, c_gt, c_le, c_ge, c_eq, c_ne, b2_z, b2_nz, b2_i, Classical.not_not, t0, t1, Nat.reduceMod, Nat.reduceDiv, Int.reduceAdd, Int.reduceNeg, Nat.reduceAdd, kv_m12, kv_m11, kv_m1, kv_7, kc_7] at g
  (conv => whnf); refine ⟨fun q => ?_, fun q => ?_⟩
  · simp only [c_lt, c_gt, c_le, c_ge, c_eq, c_ne, b2_z, b2_nz, b2_i, Classical.not_not, t0, t1, Nat.reduceMod, Nat.reduceDiv, Int.reduceAdd, Int.reduceNeg, Nat.reduceAdd, kv_m12, kv_m11, kv_m1, kv_7, kc_7] at q
    have e8 : aTaken s (nI i) k = (match sSh s i with
      | none => cI (-11)
      | some (.inr _) => cI (-12)
      | some (.inl b) => if upN k 8 (nI ((sKs s).getD b 0)) = k then nI ((sKs s).getD b 0) else cI (-12)) := by
      unfold aTaken
      rw [if_pos (by omega), ei]
      rfl
    have hok := h.ok hi
    rw [e8] at hZ
    generalize sSh s i = u at hs hZ hok
    conv => whnf
    rw [lay_sh ha]
    (conv => whnf); refine ret_k hC (sp_isEmpty ha hs) ?_
    (conv => whnf); refine ⟨fun z => ?_, fun z => ?_⟩
    · rw [b2_z] at z
      conv => whnf
      rw [lay_sh ha]
      (conv => whnf); refine ret_k hC (sp_isRow ha hs) ?_
      match u, hs, hZ, hok, z with
      | none, hs, hZ, hok, z => exact absurd rfl z
      | some (.inr _), hs, hZ, hok, z =>
        (conv => whnf); refine ⟨fun r => ?_, fun r => ?_⟩
        · rw [b2_z] at r
          exact absurd rfl r
        · conv => whnf
          exact hZ _ _ (RP_same h Fr_refl)
      | some (.inl b), hs, hZ, hok, z =>
        have hb : b < (sKs s).length := hok
        have hk : (sKs s)[b]? = some ((sKs s).getD b 0) := by
          rw [List.getD, List.getElem?_eq_getElem hb]
          rfl
        dsimp only at hZ
        (conv => whnf); refine ⟨fun r => ?_, fun r => ?_⟩
        · conv => whnf
          rw [lay_sh ha]
          (conv => whnf); refine ret_k hC (sp_heldBody ha hs) ?_
          (conv => whnf); refine ret_k hC (sp_kindOf h9 hk) ?_
          (conv => whnf); refine ret_k hC (sp_isUnder) ?_
          (conv => whnf); refine ⟨fun y => ?_, fun y => ?_⟩
          · rw [b2_z] at y
            rw [if_neg y] at hZ
            conv => whnf
            exact hZ _ _ (RP_same h Fr_refl)
          · rw [b2_z] at y
            rw [if_pos (Classical.not_not.mp y)] at hZ
            conv => whnf
            exact hZ _ _ (RP_same h Fr_refl)
        · rw [b2_z] at r
          exact absurd (Classical.not_not.mp r) (by simp [isRw])
    · rw [b2_z] at z
      have z := Classical.not_not.mp z
      subst z
      conv => whnf
      exact hZ _ _ (RP_same h Fr_refl)
  · simp only [c_lt, c_gt, c_le, c_ge, c_eq, c_ne, b2_z, b2_nz, b2_i, Classical.not_not, t0, t1, Nat.reduceMod, Nat.reduceDiv, Int.reduceAdd, Int.reduceNeg, Nat.reduceAdd, kv_m12, kv_m11, kv_m1, kv_7, kc_7] at q
    have e9 : aTaken s (nI i) k = cI (-1) := if_neg (by omega)
    rw [e9] at hZ
    conv => whnf
    exact hZ _ _ (RP_same h Fr_refl)
