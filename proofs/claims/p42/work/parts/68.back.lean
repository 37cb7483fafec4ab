/-! back, layers -/
def bkR (irk : Rk) (n : Nat) : Rk := irk ++ List.replicate (n - irk.length) []
theorem bkR_at {irk : Rk} {n r : Nat} : (bkR irk n).getD r [] = irk.getD r [] := by
  unfold bkR
  simp only [List.getD]
  rcases Nat.lt_or_ge r irk.length with h | h
  · rw [List.getElem?_append_left h]
  · rw [List.getElem?_append_right h, List.getElem?_eq_none h, List.getElem?_replicate]
    split <;> rfl
theorem bkR_hgt {irk : Rk} {n r : Nat} : hgt (bkR irk n) r = hgt irk r := by unfold hgt; rw [bkR_at]
theorem bkR_len {irk : Rk} {n : Nat} (h : irk.length ≤ n) : (bkR irk n).length = n := by
  unfold bkR
  rw [List.length_append, List.length_replicate]
  omega
def backS (s : St) (irk : Rk) (de : Nat → Int32) (dy : Nat) : St := wDy (wDe (wC (wK s (bkR irk (sK s).length)) ((sCg s).map deadC) (sN s)) de) dy
def aBack (s : St) : Int32 × St := match sIm s with
  | none => (cI (-5), s)
  | some (irk, de, dy) => (nI dy, backS s irk de dy)
theorem RNm_back {c : Nat} {M M' : Mem} {rk irk : Rk} {ch : List AChg} {n L : Nat} (h : RNm c M rk ch n) (h12 : ∀ r, hgt irk r ≤ 12) (h4 : irk.length ≤ 4) (hL : M.1 0 15 = nI L → M'.1 0 15 = nI (L + 48)) (h1 : M'.1 6 = M.1 6) (h2 : M'.1 41 = M.1 41)
    (hn : ∀ ev, M.1 0 15 = nI ev → ∀ i, i < 48 → M'.1 12 i = nI (ev + 1 + i)) (hL2 : ∀ ev, M.1 0 15 = nI ev → M'.1 0 15 = nI (ev + 48)) : RNm (c + 60) M' irk (ch.map deadC) n := by
  obtain ⟨cs, nm, ev, a1, a2, a3, a4, a5, a6, a7⟩ := h
  have hb : ∀ r l, l < hgt irk r → 12 * r + l < 48 := fun r l hl => by
    have := h12 r
    have := hgt_lt hl
    omega
  refine ⟨cs, fun i => ev + 1 + i, ev + 48, ?_, hL2 ev a2, by omega, fun r l hl => ⟨hn ev a2 _ (hb r l hl), by have := hb r l hl; show ev + 1 + (12 * r + l) ≤ ev + 48; omega⟩, fun r l r' l' hl hl' he => ?_, by rw [List.length_map]; exact a6, fun i x a hx ha => ?_⟩
  · unfold RCh at a1 ⊢
    rw [h1, h2]
    exact a1
  · dsimp only at he
    have e1 := h12 r
    have e2 := h12 r'
    have : r = r' := by omega
    subst this
    exact ⟨rfl, by omega⟩
  · rw [List.getElem?_map] at ha
    obtain ⟨a', ha', rfl⟩ := Option.map_eq_some_iff.mp ha
    obtain ⟨b1, b2, b3, b4, b5, b6, b7⟩ := a7 i x a' hx ha'
    unfold deadC
    by_cases z : a'.1 ≤ 3
    · rw [if_pos z]
      rw [if_pos z] at b7
      refine ⟨b1, b2, b3, b4, b5, b6, ?_⟩
      show if a'.1 ≤ 3 then _ else _
      rw [if_pos z]
      have hw : ∃ w, x.2.1 = nI w ∧ w ≤ ev := by
        match a'.2.1, b7 with
        | some p, b7 => exact ⟨_, b7.2, (a4 _ _ b7.1).2⟩
        | none, b7 => obtain ⟨w, w1, w2, w3⟩ := b7; exact ⟨w, w1, w2⟩
      obtain ⟨w, w1, w2⟩ := hw
      exact ⟨w, w1, by omega, fun r l _ => by show ¬ ev + 1 + (12 * r + l) = w; omega⟩
    · rw [if_neg z]
      rw [if_neg z] at b7
      exact ⟨b1, b2, b3, b4, b5, b6, by rw [if_neg z]; exact b7⟩
theorem pb_back {d c : Nat} {M : Mem} {s : St} (h : RC c M s) (hc : c < 2000000) : Call (d + 2) 97 [.ref 0] M (RP c M (.int (aBack s).1) (aBack s).2) := by
  obtain ⟨h1, h2, h3, h4, h5, h6, h7, h8, h9, h10, h11, h12, h13⟩ := id h
  match him : sIm s, h7 with
  | none, h7 =>
    replace h7 : M.1 0 12 = 0 := h7
    have e9 : aBack s = (cI (-5), s) := by unfold aBack; rw [him]
    rw [e9]
    refine call_run 400 rfl rfl (fun B Cl Z hZ hB hC => ?_)
    (conv => whnf); refine ⟨fun b => ?_, fun b => ?_⟩
    · replace b : cnd .ne (M.1 0 12) 0 := b
      rw [h7] at b
      exact absurd rfl b
    · conv => whnf
      exact hZ _ _ (RP_same h Fr_refl)
  | some (irk, de, dy), h7 =>
    obtain ⟨i1, i2, i3, i4, i5, i6⟩ := id h7
    obtain ⟨cs, nm, ev, a1, a2, a3, -⟩ := id h13
    have e9 : aBack s = (nI dy, backS s irk de dy) := by unfold aBack; rw [him]
    rw [e9]
    refine call_run 400 rfl rfl (fun B Cl Z hZ hB hC => ?_)
    (conv => whnf); refine ⟨fun b => ?_, fun b => ?_⟩
    case' refine_2 =>
      replace b : ¬ cnd .ne (M.1 0 12) 0 := b
      rw [i1, c_ne] at b
      exact absurd (show ¬ (1 : Int32).toInt = (0 : Int32).toInt by decide) b
    (conv => whnf)
    refine hC _ _ _ _ _ (sp_become (Or.inr (Or.inl ⟨rfl, rfl⟩)) i2) (fun v M1 p => ?_)
    obtain ⟨rfl, p2, p3⟩ := p
    (conv => whnf)
    show Cl 74 [.ref 10, .int ((mI M1 10 0 (M.1 10 0)).1 0 15)] (mI M1 10 0 (M.1 10 0)) _
    have eL : (mI M1 10 0 (M.1 10 0)).1 0 15 = nI ev := by rw [mI_ne _ _ _ (by decide), Fr_1 p2 0 (by decide)]; exact a2
    rw [eL]
    refine hC _ _ _ _ _ (sp_nameAnew) (fun v M2 q => ?_)
    obtain ⟨rfl, q2, q3⟩ := q
    (conv => whnf)
    refine hC _ _ _ _ _ (sp_copyDeeds (Or.inr ⟨rfl, rfl⟩)) (fun v M3 y => ?_)
    obtain ⟨rfl, y2, y3⟩ := y
    replace y2 : Fr [53] (mI M2 0 15 (nI (ev + 48))) M3 := y2
    replace y3 : ∀ j, j < 5 → M3.1 53 j = (mI M2 0 15 (nI (ev + 48))).1 54 j := y3
    (conv => whnf)
    have hA : Fr [10, 11, 12, 13] M M2 := Fr_trans (Fr_trans p2 (Fr_mI Fr_refl (by decide))) (Fr_sub q2 (by decide))
    have hM3 : Fr [0, 53] M2 M3 := Fr_trans (Fr_mI (a := 0) (j := 15) (v := nI (ev + 48)) Fr_refl (by decide)) (Fr_sub y2 (by decide))
    have z0 : ∀ j, ¬ j = 15 → M3.1 0 j = M.1 0 j := fun j hj => by rw [Fr_1 y2 0 (by decide), mI_2 _ _ hj, Fr_1 hA 0 (by decide)]
    have z15 : M3.1 0 15 = nI (ev + 48) := by rw [Fr_1 y2 0 (by decide)]; rfl
    show Z (some (.int ((mI M3 0 13 (M3.1 0 14)).1 0 13))) (mI M3 0 13 (M3.1 0 14))
    have e14 : M3.1 0 14 = nI dy := by rw [z0 14 (by decide)]; exact i5
    rw [e14]
    have k0 : ∀ j, ¬ j = 13 → ¬ j = 15 → (mI M3 0 13 (nI dy)).1 0 j = M.1 0 j := fun j hj hj2 => by rw [mI_2 _ _ hj, z0 j hj2]
    have k15 : (mI M3 0 13 (nI dy)).1 0 15 = nI (ev + 48) := z15
    have k13 : (mI M3 0 13 (nI dy)).1 0 13 = nI dy := rfl
    have hM4 : Fr [0, 53] M2 (mI M3 0 13 (nI dy)) := Fr_mI hM3 (by decide)
    have hd4 : ∀ i, i < 5 → (mI M3 0 13 (nI dy)).1 53 i = de i := fun i hi => by rw [mI_ne _ _ _ (by decide), y3 i hi, mI_ne _ _ _ (by decide), Fr_1 hA 54 (by decide)]; exact i4 i hi
    generalize (mI M3 0 13 (nI dy)) = M4 at k0 k15 k13 hM4 hd4 ⊢
    rw [k13]
    have hF : Fr [0, 10, 11, 12, 13, 53] M M4 := Fr_trans (Fr_sub hA (by decide)) (Fr_sub hM4 (by decide))
    have hlen := bkR_len i3
    refine hZ _ _ ⟨rfl, ⟨⟨?_, ?_, fun r hr => ?_, fun r => ?_, fun r l q hq => ?_⟩, RE_fr h2 hF (by decide), h3, ⟨h4.1, h4.2.1, h4.2.2.1, i6⟩, k13, hd4, ?_, RT0_fr (A := []) h8 (by rw [Fr_1 hF 2 (by decide)]) (Fr_1 hF 39 (by decide)), RK_fr h9 (by rw [Fr_1 hF 7 (by decide)]) (Fr_1 hF 42 (by decide)), RT_e h10 (by rw [Fr_1 hF 7 (by decide)]) (Fr_1 hF 43 (by decide)), RS_all h11 hF (by decide), h12, ?_⟩, Fr_sub hF (by decide)⟩
    · show M4.1 10 0 = nI (bkR irk (sK s).length).length
      rw [hlen, Fr_1 hM4 10 (by decide), Fr_1 q2 10 (by decide), mI_1]
      exact h1.1
    · show (bkR irk (sK s).length).length ≤ 4
      rw [hlen]
      exact h1.2.1
    · show M4.1 13 r = nI (hgt (bkR irk (sK s).length) r)
      rw [bkR_hgt, Fr_1 hM4 13 (by decide), Fr_1 q2 13 (by decide), mI_ne _ _ _ (by decide)]
      exact p3.2.2.1 r hr
    · show hgt (bkR irk (sK s).length) r ≤ 12
      rw [bkR_hgt]
      exact i2.2.2.2.1 r
    · replace hq : ((bkR irk (sK s).length).getD r [])[l]? = some q := hq
      rw [bkR_at] at hq
      refine ⟨(i2.2.2.2.2 r l q hq).1, fun j hj => ?_⟩
      show M4.1 11 _ = _
      rw [Fr_1 hM4 11 (by decide), Fr_1 q2 11 (by decide), mI_ne _ _ _ (by decide)]
      exact (p3.2.2.2.2 r l q hq).2 j hj
    · show RIm M4 (sIm s) (bkR irk (sK s).length)
      rw [him]
      exact RIm_e (im := some (irk, de, dy)) h7 (by rw [hlen]; exact Nat.le_refl _) (k0 12 (by decide) (by decide)) (k0 14 (by decide) (by decide)) (Fr_1 hF 14 (by decide)) (Fr_1 hF 15 (by decide)) (Fr_1 hF 17 (by decide)) (Fr_1 hF 54 (by decide))
    · show RNm (c + 60) M4 (bkR irk (sK s).length) ((sCg s).map deadC) (sN s)
      refine RNm_hgt (RNm_back (irk := irk) (L := ev) h13 i2.2.2.2.1 i2.2.1 (fun _ => k15) (Fr_1 hF 6 (by decide)) (Fr_1 hF 41 (by decide)) (fun ev' he i hi => ?_) (fun ev' he => ?_)) (fun r => bkR_hgt)
      · have e2 : nI ev' = nI ev := he.symm.trans a2
        rw [Fr_1 hM4 12 (by decide), q3 i hi, ← nI_add, ← nI_add, ← nI_add, ← nI_add, e2]
      · have e2 : nI ev' = nI ev := he.symm.trans a2
        rw [k15, ← nI_add, ← nI_add, e2]
/-- layers out of a row -/
def lyl (r : Nat) (i : Int32) (l : List Int64) : Nat → Nat → St → Int32 × St
  | 0, k, s => (nI k, s)
  | m + 1, k, s => if hgt (sK s) r < 12 ∧ (0 ≤ i.toInt ∧ i.toInt + (3 * k + 3 : Nat) ≤ (l.length : Int)) ∧ lyZ (l.getD (i.toInt.toNat + 3 * k) 0).toInt (l.getD (i.toInt.toNat + 3 * k + 1) 0).toInt (l.getD (i.toInt.toNat + 3 * k + 2) 0).toInt then
      lyl r i l m (k + 1) (layS s r (lyN (100 * (l.getD (i.toInt.toNat + 3 * k + 1) 0).toInt.toNat + 10 * (l.getD (i.toInt.toNat + 3 * k) 0).toInt.toNat + (l.getD (i.toInt.toNat + 3 * k + 2) 0).toInt.toNat))) else (nI k, s)
def aLayers (s : St) (x i n : Int32) : Int32 × St :=
  if (0 ≤ x.toInt ∧ x.toInt < 6) ∧ (0 ≤ n.toInt ∧ n.toInt.toNat / 100 < (sK s).length) ∧ 1 ≤ n.toInt.toNat % 100 ∧ n.toInt.toNat % 100 ≤ 12 then (match rowL (sSh s x.toInt.toNat) 0 with
    | some l => lyl (n.toInt.toNat / 100) i l (n.toInt.toNat % 100) 0 s
    | none => (if (rfu (sSh s x.toInt.toNat) 0).toInt = -11 then cI 0 else rfu (sSh s x.toInt.toNat) 0, s)) else (cI (-1), s)
theorem ly_n {w f m : Int64} (h : lyZ w.toInt f.toInt m.toInt) : (lN 100 * f + lN 10 * w + m).toInt32 = nI (100 * f.toInt.toNat + 10 * w.toInt.toNat + m.toInt.toNat) ∧ okL (lyN (100 * f.toInt.toNat + 10 * w.toInt.toNat + m.toInt.toNat)) ∧ 100 * f.toInt.toNat + 10 * w.toInt.toNat + m.toInt.toNat < 1000 := by
  obtain ⟨⟨h1, h2⟩, ⟨h3, h4⟩, h5, h6⟩ := h
  obtain ⟨w', rfl, ew, -⟩ := to_lN (x := w) h1 (by omega)
  obtain ⟨f', rfl, ef, -⟩ := to_lN (x := f) (by omega) (by omega)
  obtain ⟨m', rfl, em, -⟩ := to_lN (x := m) h5 (by omega)
  rw [ew] at h1 h2
  rw [ef] at h3 h4
  rw [em] at h5 h6
  have e1 : (lN w').toInt.toNat = w' := by rw [ew]; rfl
  have e2 : (lN f').toInt.toNat = f' := by rw [ef]; rfl
  have e3 : (lN m').toInt.toNat = m' := by rw [em]; rfl
  rw [e1, e2, e3]
  refine ⟨?_, ⟨?_, ?_, ?_, ?_⟩, by omega⟩
  · rw [lN_ml, lN_ml, lN_ad, lN_ad]
    apply Int32.toInt_inj.mp
    rw [Int64.toInt_toInt32, l_v (by omega), nI_v (by omega)]
    exact Int.bmod_eq_of_le (by omega) (by omega)
  · show (100 * f' + 10 * w' + m') / 10 % 10 < 8
    omega
  · show 1 ≤ (100 * f' + 10 * w' + m') / 100 ∧ (100 * f' + 10 * w' + m') / 100 ≤ 9
    omega
  · show (100 * f' + 10 * w' + m') % 10 < 8
    omega
  · show 0 < 100
    omega
theorem get_d {l : List Int64} {j : Nat} (h : j < l.length) : l[j]? = some (l.getD j 0) := by
  rw [List.getD, List.getElem?_eq_getElem h]
  rfl