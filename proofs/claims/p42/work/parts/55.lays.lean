/-! setters; a layer laid -/
abbrev wK (s : St) (k : Rk) : St := ((k, s.1.2), s.2)
abbrev wC (s : St) (g : List AChg) (n : Nat) : St := ((s.1.1, g, n), s.2)
abbrev wL (s : St) (o : Option (List Ln)) : St := (s.1, (o, s.2.1.2), s.2.2)
abbrev wCo (s : St) (v : Nat) : St := (s.1, (s.2.1.1, v, s.2.1.2.2), s.2.2)
abbrev wSt (s : St) (v : Nat) : St := (s.1, (s.2.1.1, s.2.1.2.1, v, s.2.1.2.2.2), s.2.2)
abbrev wDo (s : St) (f : Nat → Nat) : St := (s.1, (s.2.1.1, s.2.1.2.1, s.2.1.2.2.1, f, s.2.1.2.2.2.2), s.2.2)
abbrev wDy (s : St) (v : Nat) : St := (s.1, (s.2.1.1, s.2.1.2.1, s.2.1.2.2.1, s.2.1.2.2.2.1, v), s.2.2)
abbrev wDe (s : St) (f : Nat → Int32) : St := (s.1, s.2.1, (f, s.2.2.1.2), s.2.2.2)
abbrev wIm (s : St) (im : Option (Rk × (Nat → Int32) × Nat)) : St := (s.1, s.2.1, (s.2.2.1.1, im), s.2.2.2)
abbrev wTp (s : St) (t : List Nat) : St := (s.1, s.2.1, s.2.2.1, t, s.2.2.2.2)
abbrev wKs (s : St) (k : List Nat) : St := (s.1, s.2.1, s.2.2.1, s.2.2.2.1, (k, s.2.2.2.2.1.2), s.2.2.2.2.2)
abbrev wTr (s : St) (t : List Nat) : St := (s.1, s.2.1, s.2.2.1, s.2.2.2.1, (s.2.2.2.2.1.1, t), s.2.2.2.2.2)
abbrev wSh (s : St) (f : Nat → Shf) : St := (s.1, s.2.1, s.2.2.1, s.2.2.2.1, s.2.2.2.2.1, f)
def upD {α : Type} (f : Nat → α) (i : Nat) (v : α) : Nat → α := fun j => if j = i then v else f j
theorem upD_1 {α : Type} {f : Nat → α} {i : Nat} {v : α} : upD f i v i = v := if_pos rfl
theorem upD_2 {α : Type} {f : Nat → α} {i j : Nat} {v : α} (h : ¬ j = i) : upD f i v j = f j := if_neg h
def layS (s : St) (r : Nat) (q : Lyr) : St := wDe (wK s (put (sK s) r q)) (upD (sDe s) 0 (sDe s 0 + cI 1))
theorem hgt_put {rk : Rk} {r r' : Nat} {q : Lyr} (h : r < rk.length) : hgt (put rk r q) r' = if r' = r then hgt rk r + 1 else hgt rk r' := by
  unfold hgt put
  rw [getD_set h]
  split
  · simp
  · rfl
theorem put_len {rk : Rk} {r : Nat} {q : Lyr} : (put rk r q).length = rk.length := by simp [put]
theorem RIm_e {M M' : Mem} {im : Option (Rk × (Nat → Int32) × Nat)} {rk rk' : Rk} (h : RIm M im rk) (hl : rk.length ≤ rk'.length) (h1 : M'.1 0 12 = M.1 0 12) (h2 : M'.1 0 14 = M.1 0 14) (h3 : M'.1 14 = M.1 14) (h4 : M'.1 15 = M.1 15) (h5 : M'.1 17 = M.1 17) (h6 : M'.1 54 = M.1 54) : RIm M' im rk' := by
  match im, h with
  | none, h => show M'.1 0 12 = 0; rw [h1]; exact h
  | some (irk, de, dy), h =>
    obtain ⟨a1, a2, a3, a4, a5, a6⟩ := h
    refine ⟨by rw [h1]; exact a1, ?_, Nat.le_trans a3 hl, fun i hi => by rw [h6]; exact a4 i hi, by rw [h2]; exact a5, a6⟩
    unfold RY at a2 ⊢
    rw [h3, h4, h5]
    exact a2
theorem RT_e {M M' : Mem} {tr : List Nat} (h : RT M tr) (h1 : M'.1 7 3 = M.1 7 3) (h2 : M'.1 43 = M.1 43) : RT M' tr := by unfold RT at h ⊢; rw [h1, h2]; exact h
theorem RS_all {A : List Nat} {M M' : Mem} {f : Nat → Shf} (h : ∀ i, i < 6 → RS M (22 + 2 * i) (f i)) (hf : Fr A M M') (ha : (A.any fun a => decide (22 ≤ a ∧ a ≤ 33)) = false) : ∀ i, i < 6 → RS M' (22 + 2 * i) (f i) := by
  intro i hi
  refine RS_fr (h i hi) hf ?_
  rw [List.any_eq_false] at ha
  rw [Bool.or_eq_false_iff]
  constructor <;>
  · rw [← Bool.not_eq_true, List.contains_iff_mem]
    intro z
    have := ha _ z
    simp at this
    omega
theorem Fr_s {A : List Nat} {M M1 M2 : Mem} {B : List Nat} (h1 : Fr A M M1) (h2 : Fr B M1 M2) (h : B.all (fun a => A.contains a) = true) : Fr A M M2 := Fr_trans h1 (Fr_sub h2 h)
/-- new names for a layer laid -/
theorem RNm_lay {c r : Nat} {M M' : Mem} {rk : Rk} {ch : List AChg} {n : Nat} {q : Lyr} (h : RNm c M rk ch n) (hr : r < rk.length) (hh : hgt rk r < 12) (hc : c < 2000000) (h1 : M'.1 6 = M.1 6) (h2 : M'.1 41 = M.1 41) (h3 : M'.1 0 15 = M.1 0 15 + cI 1)
    (hall : ∀ r, hgt rk r ≤ 12) (h4 : ∀ i, M'.1 12 i = if i = 12 * r + hgt rk r then M.1 0 15 + cI 1 else M.1 12 i) : RNm (c + 1) M' (put rk r q) ch n := by
  obtain ⟨cs, nm, ev, a1, a2, a3, a4, a5, a6, a7⟩ := h
  have e1 : M.1 0 15 + cI 1 = nI (ev + 1) := by rw [a2]; exact nI_1 _
  have ne : ∀ r' l', l' < hgt rk r' → ¬ 12 * r' + l' = 12 * r + hgt rk r := fun r' l' hl z => by
    have := hall r'
    have : r' = r := by omega
    subst this
    omega
  refine ⟨cs, fun i => if i = 12 * r + hgt rk r then ev + 1 else nm i, ev + 1, ?_, by rw [h3, e1], by omega, fun r' l' hl => ?_, fun r' l' r2 l2 hl hl2 he => ?_, a6, fun i x a hx ha => ?_⟩
  · unfold RCh at a1 ⊢
    rw [h1, h2]
    exact a1
  · rw [h4, e1]
    rw [hgt_put hr] at hl
    dsimp only
    split
    · exact ⟨rfl, Nat.le_refl _⟩
    · next z =>
      have hl' : l' < hgt rk r' := by
        split at hl
        · next z2 => subst z2; omega
        · exact hl
      exact ⟨(a4 r' l' hl').1, Nat.le_succ_of_le (a4 r' l' hl').2⟩
  · rw [hgt_put hr] at hl hl2
    have hin : ∀ {a b : Nat}, b < (if a = r then hgt rk r + 1 else hgt rk a) → ¬ 12 * a + b = 12 * r + hgt rk r → b < hgt rk a := fun {a b} hb hn => by
      split at hb
      · next z2 => subst z2; omega
      · exact hb
    have h12 : ∀ {a b : Nat}, b < (if a = r then hgt rk r + 1 else hgt rk a) → b < 12 := fun {a b} hb => by
      have := hall a
      split at hb <;> omega
    dsimp only at he
    have b1 := h12 hl
    have b2 := h12 hl2
    split at he
    · next z => split at he
                · next z2 => omega
                · next z2 => have := (a4 r2 l2 (hin hl2 z2)).2; omega
    · next z => split at he
                · next z2 => have := (a4 r' l' (hin hl z)).2; omega
                · next z2 => exact a5 r' l' r2 l2 (hin hl z) (hin hl2 z2) he
  · obtain ⟨b1, b2, b3, b4, b5, b6, b7⟩ := a7 i x a hx ha
    refine ⟨b1, b2, b3, b4, b5, b6, ?_⟩
    split
    · next z =>
      rw [if_pos z] at b7
      match ha2 : a.2.1, b7 with
      | some p, b7 =>
        refine ⟨?_, ?_⟩
        · rw [hgt_put hr]
          have := b7.1
          split
          · next z2 => rw [z2] at this; omega
          · exact this
        · rw [b7.2]
          show nI (nm _) = nI (if _ then _ else _)
          rw [if_neg (ne _ _ b7.1)]
      | none, b7 =>
        obtain ⟨w, w1, w2, w3⟩ := b7
        refine ⟨w, w1, by omega, fun r' l' hl => ?_⟩
        dsimp only
        rw [hgt_put hr] at hl
        split
        · omega
        · next z =>
          refine w3 r' l' ?_
          split at hl
          · next z2 => subst z2; omega
          · exact hl
    · next z => rw [if_neg z] at b7; exact b7
theorem sp_laid {d c r n : Nat} {M : Mem} {s : St} (h : RC c M s) (hc : c < 2000000) (hr : r < (sK s).length) (hh : hgt (sK s) r < 12) (hq : okL (lyN n)) (hn : n < 1000) : Call (d + 4) 104 [.ref 0, .int (nI r), .int (nI n)] M (fun v M' => v = some (.int (nI (hgt (sK s) r))) ∧ RC (c + 1) M' (layS s r (lyN n)) ∧ Fr CA M M') := by
  obtain ⟨h1, h2, h3, h4, h5, h6, h7, h8, h9, h10, h11, h12, h13⟩ := id h
  refine call_run 400 rfl rfl (fun B Cl Z hZ hB hC => ?_)
  (conv => whnf)
  refine ⟨nI_vp (c := 0) (by decide) (by decide), ?_⟩
  (conv => whnf)
  refine ⟨nI_vp (c := 0) (by decide) (by decide), ?_⟩
  (conv => whnf)
  have hf0 : Fr [0, 53] M (mI (mI M 0 15 (M.1 0 15 + cI 1)) 53 0 (M.1 53 0 + cI 1)) := Fr_mI (Fr_mI Fr_refl (by decide)) (by decide)
  have e15 : (mI (mI M 0 15 (M.1 0 15 + cI 1)) 53 0 (M.1 53 0 + cI 1)).1 0 15 = M.1 0 15 + cI 1 := rfl
  have e0 : ∀ j, ¬ j = 15 → (mI (mI M 0 15 (M.1 0 15 + cI 1)) 53 0 (M.1 53 0 + cI 1)).1 0 j = M.1 0 j := fun j hj => by rw [mI_ne _ _ _ (by decide : (0 : Nat) ≠ 53)]; exact mI_2 _ _ hj
  have e53 : ∀ j, (mI (mI M 0 15 (M.1 0 15 + cI 1)) 53 0 (M.1 53 0 + cI 1)).1 53 j = upD (M.1 53) 0 (M.1 53 0 + cI 1) j := fun j => by rw [mI_at]; unfold upD; simp; rfl
  show Cl 71 [.ref 10, .int (nI r), .int (nI n), .int (M.1 0 15 + cI 1)] (mI (mI M 0 15 (M.1 0 15 + cI 1)) 53 0 (M.1 53 0 + cI 1)) _
  generalize (mI (mI M 0 15 (M.1 0 15 + cI 1)) 53 0 (M.1 53 0 + cI 1)) = M1 at hf0 e15 e0 e53 ⊢
  refine hC _ _ _ _ _ (sp_putOn (RY_fr h1 hf0 (by decide)) hr hh hq hn) (fun v M2 p => ?_)
  obtain ⟨rfl, p2, p3, p4⟩ := p
  have hF : Fr [0, 53, 11, 12, 13] M M2 := Fr_trans (Fr_sub hf0 (by decide)) (Fr_sub p3 (by decide))
  have f0 : ∀ j, ¬ j = 15 → M2.1 0 j = M.1 0 j := fun j hj => by rw [Fr_1 p3 0 (by decide)]; exact e0 j hj
  (conv => whnf)
  refine hZ _ _ ⟨rfl, ⟨p2, RE_fr h2 hF (by decide), h3, h4, by rw [f0 13 (by decide)]; exact h5, fun i hi => ?_, RIm_e h7 (by show _ ≤ (put (sK s) r (lyN n)).length; rw [put_len]; exact Nat.le_refl _) (f0 12 (by decide)) (f0 14 (by decide)) (Fr_1 hF 14 (by decide)) (Fr_1 hF 15 (by decide)) (Fr_1 hF 17 (by decide)) (Fr_1 hF 54 (by decide)), RT0_fr (A := []) h8 (by rw [Fr_1 hF 2 (by decide)]) (Fr_1 hF 39 (by decide)), RK_fr h9 (by rw [Fr_1 hF 7 (by decide)]) (Fr_1 hF 42 (by decide)), RT_e h10 (by rw [Fr_1 hF 7 (by decide)]) (Fr_1 hF 43 (by decide)), RS_all h11 hF (by decide), h12, ?_⟩, Fr_sub hF (by decide)⟩
  · rw [Fr_1 p3 53 (by decide), e53]
    show upD (M.1 53) 0 _ i = upD (sDe s) 0 _ i
    unfold upD
    rw [h6 0 (by decide), h6 i hi]
  · refine RNm_lay h13 hr hh hc (Fr_1 hF 6 (by decide)) (Fr_1 hF 41 (by decide)) ?_ h1.2.2.2.1 (fun i => ?_)
    · rw [Fr_1 p3 0 (by decide)]; exact e15
    · rw [p4 i, Fr_1 hf0 12 (by decide)]
/-- an hour laid -/
def aLay (s : St) (r x : Int32) : Int32 × St :=
  if (0 ≤ r.toInt ∧ r.toInt < ((sK s).length : Int)) ∧ hrZ x.toInt then (if hgt (sK s) r.toInt.toNat = 12 then (cI (-3), s) else (nI (hgt (sK s) r.toInt.toNat), layS s r.toInt.toNat (lyN x.toInt.toNat))) else (cI (-1), s)
theorem l_x {x : Int32} : x.toInt64.toInt = x.toInt := Int32.toInt_toInt64 x
theorem pb_lay {d c : Nat} {M : Mem} {s : St} {r x : Int32} (h : RC c M s) (hc : c < 1000000) : Call (d + 5) 79 [.ref 0, .int r, .int x] M (RP c M (.int (aLay s r x).1) (aLay s r x).2) := by
  have h1 := h.k
  refine call_run 400 rfl rfl (fun B Cl Z hZ hB hC => ?_)
  (conv => whnf); refine ret_k hC (sp_hasRick (by simp [isYd]) h1) ?_
  (conv => whnf); refine ⟨fun a => ?_, fun a => ?_⟩
  · rw [b2_z] at a
    have e9 : aLay s r x = (cI (-1), s) := if_neg (fun z => a z.1)
    rw [e9] at hZ
    conv => whnf
    exact hZ _ _ (RP_same h Fr_refl)
  rw [b2_z] at a
  have a := Classical.not_not.mp a
  (conv => whnf); refine ret_k hC (sp_isHour) ?_
  (conv => whnf); refine ⟨fun b => ?_, fun b => ?_⟩
  · rw [b2_nz, l_x] at b
    obtain ⟨i, rfl, ei, hi⟩ := to_nI a.1
    obtain ⟨n, rfl, en, hn⟩ := to_nI (x := x) (by have := b.1; omega)
    have hi4 : i < 4 := by have := h1.2.1; omega
    have e12 := h1.2.2.2.1 i
    have e := nI_v (n := hgt (sK s) i) (by omega)
    rw [en] at b
    have hk := hr_ok b
    (conv => whnf); refine ret_k hC (sp_height (by simp [isYd]) h1 hi4) ?_
    (conv => whnf); refine ⟨fun g => ?_, fun g => ?_⟩
    · simp only [c_lt, c_gt, c_le, c_ge, c_eq, c_ne, b2_z, b2_nz, b2_i, Classical.not_not, t0, t1, Nat.reduceMod, Nat.reduceDiv, Int.reduceAdd, Int.reduceNeg, Nat.reduceAdd, kv_m3, kv_m1, kv_12, kc_12, e] at g
      have e9 : aLay s (nI i) (nI n) = (nI (hgt (sK s) i), layS s i (lyN n)) := by
        unfold aLay
        rw [ei, en]
        show (if _ then (if hgt (sK s) i = 12 then _ else (nI (hgt (sK s) i), layS s i (lyN n))) else _) = _
        rw [if_pos ⟨⟨by omega, by omega⟩, b⟩, if_neg (by omega)]
      rw [e9] at hZ
      (conv => whnf)
      refine hC _ _ _ _ _ (sp_laid h (by omega) (by omega) (by omega) hk.1 hk.2) (fun v M2 p => ?_)
      obtain ⟨rfl, p2, p3⟩ := p
      (conv => whnf)
      exact hZ _ _ ⟨rfl, RC_le (by omega) p2, p3⟩
    · simp only [c_lt, c_gt, c_le, c_ge, c_eq, c_ne, b2_z, b2_nz, b2_i, Classical.not_not, t0, t1, Nat.reduceMod, Nat.reduceDiv, Int.reduceAdd, Int.reduceNeg, Nat.reduceAdd, kv_m3, kv_m1, kv_12, kc_12, e] at g
      have e9 : aLay s (nI i) (nI n) = (cI (-3), s) := by
        unfold aLay
        rw [ei, en]
        show (if _ then (if hgt (sK s) i = 12 then _ else (nI (hgt (sK s) i), layS s i (lyN n))) else _) = _
        rw [if_pos ⟨⟨by omega, by omega⟩, b⟩, if_pos (by omega)]
      rw [e9] at hZ
      conv => whnf
      exact hZ _ _ (RP_same h Fr_refl)
  · rw [b2_nz, l_x] at b
    have e9 : aLay s r x = (cI (-1), s) := if_neg (fun z => b z.2)
    rw [e9] at hZ
    conv => whnf
    exact hZ _ _ (RP_same h Fr_refl)
