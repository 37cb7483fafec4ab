/-! a number told: the state behind it -/
def lySet (q : Lyr) (j v : Nat) : Lyr := match j with
  | 0 => (v, q.2)
  | 1 => (q.1, v, q.2.2)
  | 2 => (q.1, q.2.1, v, q.2.2.2)
  | _ => (q.1, q.2.1, q.2.2.1, v)
def setL (rk : Rk) (r l j v : Nat) : Rk := rk.set r ((rk.getD r []).modify l (fun q => lySet q j v))
def setA (s : St) (what : Nat) (p : Option Nat) (v : Nat) : St :=
  if what ≤ 3 then (match p with
    | some p => wK s (setL (sK s) (p / 16) (p % 16) what v)
    | none => s)
  else if what = 4 then wCo s v else if what = 5 then wSt s v else if what = 6 then wDy s v else (match p with
    | some p => wDo s (upD (sDo s) p v)
    | none => s)
theorem lyF_set {q : Lyr} {j v i : Nat} (hj : j < 4) (hi : i < 4) : lyF (lySet q j v) i = if i = j then v else lyF q i := by
  match j, hj, i, hi with
  | 0, _, 0, _ => rfl
  | 0, _, 1, _ => rfl
  | 0, _, 2, _ => rfl
  | 0, _, 3, _ => rfl
  | 1, _, 0, _ => rfl
  | 1, _, 1, _ => rfl
  | 1, _, 2, _ => rfl
  | 1, _, 3, _ => rfl
  | 2, _, 0, _ => rfl
  | 2, _, 1, _ => rfl
  | 2, _, 2, _ => rfl
  | 2, _, 3, _ => rfl
  | 3, _, 0, _ => rfl
  | 3, _, 1, _ => rfl
  | 3, _, 2, _ => rfl
  | 3, _, 3, _ => rfl
theorem okL_set {q : Lyr} {j v : Nat} (hj : j < 4) (h : okL q) (hv : okV j v) : okL (lySet q j v) := by
  obtain ⟨h1, h2, h3, h4⟩ := h
  match j, hj, hv with
  | 0, _, hv => have hv2 : v < 8 := by simpa [okV] using hv
                exact ⟨hv2, h2, h3, h4⟩
  | 1, _, hv => have hv2 : 1 ≤ v ∧ v ≤ 9 := by simpa [okV] using hv
                exact ⟨h1, hv2, h3, h4⟩
  | 2, _, hv => have hv2 : v < 8 := by simpa [okV] using hv
                exact ⟨h1, h2, hv2, h4⟩
  | 3, _, hv => exact ⟨h1, h2, h3, by have : v ≤ 99 := by simpa [okV] using hv
                                      show v < 100; omega⟩
theorem setL_hgt {rk : Rk} {r l j v r' : Nat} (hr : r < rk.length) : hgt (setL rk r l j v) r' = hgt rk r' := by
  unfold hgt setL
  rw [getD_set hr]
  split
  · next z => rw [List.length_modify, z]
  · rfl
theorem setL_at {rk : Rk} {r l j v r' l' : Nat} (hr : r < rk.length) : ((setL rk r l j v).getD r' [])[l']? = if r' = r ∧ l' = l then ((rk.getD r [])[l]?).map (fun q => lySet q j v) else (rk.getD r' [])[l']? := by
  unfold setL
  rw [getD_set hr]
  by_cases h1 : r' = r
  · subst h1
    rw [if_pos rfl, List.getElem?_modify]
    by_cases h2 : l' = l
    · subst h2
      rw [if_pos ⟨rfl, rfl⟩]
      cases (rk.getD r' [])[l']? <;> simp
    · rw [if_neg (by omega)]
      cases (rk.getD r' [])[l']? <;> simp; omega
  · rw [if_neg h1, if_neg (by omega)]
theorem setL_len {rk : Rk} {r l j v : Nat} : (setL rk r l j v).length = rk.length := by simp [setL]
theorem RY_set {M M' : Mem} {rk : Rk} {r l j v : Nat} (h : RY M 10 rk) (hl : l < hgt rk r) (hj : j < 4) (hv : okV j v) (h0 : M'.1 10 = M.1 10) (h3 : M'.1 13 = M.1 13)
    (h1 : ∀ r' l' i, l' < hgt rk r' → i < 4 → M'.1 11 ((12 * r' + l') * 4 + i) = if (r' = r ∧ l' = l) ∧ i = j then nI v else M.1 11 ((12 * r' + l') * 4 + i)) : RY M' 10 (setL rk r l j v) := by
  have hr := hgt_lt hl
  refine ⟨by rw [h0, setL_len]; exact h.1, by rw [setL_len]; exact h.2.1, fun r' hr' => ?_, fun r' => by rw [setL_hgt hr]; exact h.2.2.2.1 r', fun r' l' q hq => ?_⟩
  · rw [setL_hgt hr]
    show M'.1 13 r' = _
    rw [h3]
    exact h.2.2.1 r' hr'
  · have hl' := ly_lt hq
    rw [setL_hgt hr] at hl'
    rw [setL_at hr] at hq
    split at hq
    · next z =>
      obtain ⟨rfl, rfl⟩ := z
      obtain ⟨q0, hq0⟩ := ly_at hl
      rw [hq0] at hq
      cases hq
      obtain ⟨o1, o2⟩ := h.2.2.2.2 _ _ _ hq0
      refine ⟨okL_set hj o1 hv, fun i hi => ?_⟩
      show M'.1 11 _ = _
      rw [h1 _ _ _ hl hi, lyF_set hj hi]
      split
      · next z => rw [if_pos z.2]
      · next z => rw [if_neg (fun y => z ⟨⟨rfl, rfl⟩, y⟩)]; exact o2 i hi
    · next z =>
      obtain ⟨o1, o2⟩ := h.2.2.2.2 _ _ _ hq
      refine ⟨o1, fun i hi => ?_⟩
      show M'.1 11 _ = _
      rw [h1 _ _ _ hl' hi, if_neg (fun y => z y.1)]
      exact o2 i hi
/-- whom a change tells -/
def whR (rk : Rk) (nm : Nat → Nat) (ev what : Nat) (x : Int32) (p : Option Nat) : Prop :=
  if what ≤ 3 then (match p with
    | some p => p % 16 < hgt rk (p / 16) ∧ x = nI (nm (12 * (p / 16) + p % 16))
    | none => ∃ w, x = nI w ∧ w ≤ ev ∧ ∀ r l, l < hgt rk r → ¬ nm (12 * r + l) = w)
  else ∃ q, p = some q ∧ x = nI q ∧ (if what = 7 then q < 8 else q = 0)
def NmR (M : Mem) (rk : Rk) (nm : Nat → Nat) (ev : Nat) : Prop := (∀ r l, l < hgt rk r → M.1 12 (12 * r + l) = nI (nm (12 * r + l)) ∧ nm (12 * r + l) ≤ ev) ∧ ∀ r l r' l', l < hgt rk r → l' < hgt rk r' → nm (12 * r + l) = nm (12 * r' + l') → r = r' ∧ l = l'
theorem nI_inj {a b : Nat} (ha : a < 2147483648) (hb : b < 2147483648) (h : nI a = nI b) : a = b := by
  have := congrArg Int32.toInt h
  rw [nI_v ha, nI_v hb] at this
  omega
/-- a step of the state that leaves names, changes, deeds, image, tape, acts, shelves -/
theorem RC_set {c : Nat} {M M' : Mem} {s s' : St} (h : RC c M s) (hF : Fr [0, 1, 11, 35] M M') (h0 : ∀ j, ¬ j = 13 → M'.1 0 j = M.1 0 j) (hY : RY M' 10 (sK s')) (hE : RE M' (envS s')) (hl : sL s' = sL s) (hn : numOk s') (h13 : M'.1 0 13 = nI (sDy s'))
    (hh : ∀ r, hgt (sK s') r = hgt (sK s) r) (hlen : (sK s').length = (sK s).length) (hc : s'.1.2 = s.1.2) (h2 : s'.2.2 = s.2.2) : RC c M' s' := by
  obtain ⟨a1, a2, a3, a4, a5, a6, a7, a8, a9, a10, a11, a12, a13⟩ := h
  refine ⟨hY, hE, ?_, hn, h13, fun i hi => ?_, ?_, ?_, ?_, ?_, ?_, ?_, ?_⟩
  · intro ls q; exact a3 ls (by rw [← hl]; exact q)
  · rw [Fr_1 hF 53 (by decide)]; show _ = s'.2.2.1.1 i; rw [h2]; exact a6 i hi
  · show RIm M' s'.2.2.1.2 (sK s')
    rw [h2]
    exact RIm_e a7 (by rw [hlen]; exact Nat.le_refl _) (h0 12 (by decide)) (h0 14 (by decide)) (Fr_1 hF 14 (by decide)) (Fr_1 hF 15 (by decide)) (Fr_1 hF 17 (by decide)) (Fr_1 hF 54 (by decide))
  · show RTp M' s'.2.2.2.1
    rw [h2]
    exact RT0_fr (A := []) a8 (by rw [Fr_1 hF 2 (by decide)]) (Fr_1 hF 39 (by decide))
  · show RK M' s'.2.2.2.2.1.1
    rw [h2]
    exact RK_fr a9 (by rw [Fr_1 hF 7 (by decide)]) (Fr_1 hF 42 (by decide))
  · show RT M' s'.2.2.2.2.1.2
    rw [h2]
    exact RT_e a10 (by rw [Fr_1 hF 7 (by decide)]) (Fr_1 hF 43 (by decide))
  · show ∀ i, i < 6 → RS M' (22 + 2 * i) (s'.2.2.2.2.2 i)
    rw [h2]
    exact RS_all a11 hF (by decide)
  · unfold shOk sSh sKs
    rw [h2]
    exact a12
  · show RNm c M' (sK s') s'.1.2.1 s'.1.2.2
    rw [hc]
    exact RNm_hgt (RNm_fr a13 (Fr_1 hF 6 (by decide)) (Fr_1 hF 41 (by decide)) (h0 15 (by decide)) (Fr_1 hF 12 (by decide))) hh
theorem sp_tell {d c what v ev : Nat} {M : Mem} {s : St} {x : Int32} {p : Option Nat} {nm : Nat → Nat} (h : RC c M s) (hw : what < 8) (hv : okV what v) (hN : NmR M (sK s) nm ev) (hev : ev < 2147483648) (hx : whR (sK s) nm ev what x p) :
    Call (d + 4) 108 [.ref 0, .int (nI what), .int x, .int (nI v)] M (fun u M' => u = none ∧ RC c M' (setA s what p v) ∧ Fr [0, 1, 11, 35] M M' ∧ ∀ j, ¬ j = 13 → M'.1 0 j = M.1 0 j) := by
  have ew := nI_v (n := what) (by omega)
  have hE := h.e
  refine call_run 400 rfl rfl (fun B Cl Z hZ hB hC => ?_)
  (conv => whnf); refine ⟨fun a => ?_, fun a => ?_⟩
  · simp only [c_lt, c_gt, c_le, c_ge, c_eq, c_ne, b2_z, b2_nz, b2_i, Classical.not_not, t0, t1, Nat.reduceMod, Nat.reduceDiv, Int.reduceAdd, Int.reduceNeg, Nat.reduceAdd, kv_3, kv_4, kv_5, kv_6, kc_3, kc_4, kc_5, kc_6, ew] at a
    (conv => whnf); refine ⟨fun b => ?_, fun b => ?_⟩
    · simp only [c_lt, c_gt, c_le, c_ge, c_eq, c_ne, b2_z, b2_nz, b2_i, Classical.not_not, t0, t1, Nat.reduceMod, Nat.reduceDiv, Int.reduceAdd, Int.reduceNeg, Nat.reduceAdd, kv_3, kv_4, kv_5, kv_6, kc_3, kc_4, kc_5, kc_6, ew] at b
      (conv => whnf); refine ⟨fun g => ?_, fun g => ?_⟩
      · simp only [c_lt, c_gt, c_le, c_ge, c_eq, c_ne, b2_z, b2_nz, b2_i, Classical.not_not, t0, t1, Nat.reduceMod, Nat.reduceDiv, Int.reduceAdd, Int.reduceNeg, Nat.reduceAdd, kv_3, kv_4, kv_5, kv_6, kc_3, kc_4, kc_5, kc_6, ew] at g
        (conv => whnf); refine ⟨fun k => ?_, fun k => ?_⟩
        · simp only [c_lt, c_gt, c_le, c_ge, c_eq, c_ne, b2_z, b2_nz, b2_i, Classical.not_not, t0, t1, Nat.reduceMod, Nat.reduceDiv, Int.reduceAdd, Int.reduceNeg, Nat.reduceAdd, kv_3, kv_4, kv_5, kv_6, kc_3, kc_4, kc_5, kc_6, ew] at k
          obtain rfl : what = 7 := by omega
          unfold whR at hx
          rw [if_neg (by omega)] at hx
          obtain ⟨q, rfl, rfl, hq⟩ := hx
          rw [if_pos rfl] at hq
          have hv2 : 1 ≤ v ∧ v ≤ 9 := by simpa [okV] using hv
          have hF : Fr [0, 1, 11, 35] M (mI M 35 q (nI v)) := Fr_mI Fr_refl (by decide)
          (conv => whnf); refine ret_k hC (sp_setDoor hq) ?_
          conv => whnf
          refine hZ _ _ ⟨rfl, RC_set h hF (fun j _ => rfl) (RY_fr h.k (A := [35]) (Fr_mI Fr_refl (by decide)) (by decide)) ⟨RLw_fr hE.1 (A := [35]) (Fr_mI Fr_refl (by decide)) (by decide), hE.2.1, hE.2.2.1, fun w hw => ?_⟩ rfl ⟨h.2.2.2.1.1, h.2.2.2.1.2.1, fun w hw => ?_, h.2.2.2.1.2.2.2⟩ h.2.2.2.2.1 (fun _ => rfl) rfl rfl rfl, hF, fun j _ => rfl⟩
          · show (mI M 35 q (nI v)).1 35 w = nI (upD (sDo s) q v w)
            rw [mI_at]
            unfold upD
            by_cases z : w = q
            · rw [if_pos ⟨rfl, z⟩, if_pos z]
            · rw [if_neg (fun y => z y.2), if_neg z]; exact hE.2.2.2 w hw
          · show 1 ≤ upD (sDo s) q v w ∧ upD (sDo s) q v w ≤ 9
            unfold upD
            split
            · exact hv2
            · exact h.2.2.2.1.2.2.1 w hw
        · simp only [c_lt, c_gt, c_le, c_ge, c_eq, c_ne, b2_z, b2_nz, b2_i, Classical.not_not, t0, t1, Nat.reduceMod, Nat.reduceDiv, Int.reduceAdd, Int.reduceNeg, Nat.reduceAdd, kv_3, kv_4, kv_5, kv_6, kc_3, kc_4, kc_5, kc_6, ew] at k
          obtain rfl : what = 6 := by omega
          have hv2 : v ≤ 99 := by simpa [okV] using hv
          have hF : Fr [0, 1, 11, 35] M (mI M 0 13 (nI v)) := Fr_mI Fr_refl (by decide)
          have hF1 : Fr [0] M (mI M 0 13 (nI v)) := Fr_mI Fr_refl (by decide)
          have h0 : ∀ j, ¬ j = 13 → (mI M 0 13 (nI v)).1 0 j = M.1 0 j := fun j hj => mI_2 _ _ hj
          conv => whnf
          exact hZ _ _ ⟨rfl, RC_set h hF h0 (RY_fr h.k hF1 (by decide)) (RE_fr hE hF1 (by decide)) rfl ⟨h.2.2.2.1.1, h.2.2.2.1.2.1, h.2.2.2.1.2.2.1, hv2⟩ rfl (fun _ => rfl) rfl rfl rfl, hF, h0⟩
      · simp only [c_lt, c_gt, c_le, c_ge, c_eq, c_ne, b2_z, b2_nz, b2_i, Classical.not_not, t0, t1, Nat.reduceMod, Nat.reduceDiv, Int.reduceAdd, Int.reduceNeg, Nat.reduceAdd, kv_3, kv_4, kv_5, kv_6, kc_3, kc_4, kc_5, kc_6, ew] at g
        obtain rfl : what = 5 := by omega
        have hv2 : v ≤ 99 := by simpa [okV] using hv
        have hF : Fr [0, 1, 11, 35] M (mI M 1 1 (nI v)) := Fr_mI Fr_refl (by decide)
        have hF1 : Fr [1] M (mI M 1 1 (nI v)) := Fr_mI Fr_refl (by decide)
        conv => whnf
        exact hZ _ _ ⟨rfl, RC_set h hF (fun j _ => rfl) (RY_fr h.k hF1 (by decide)) ⟨hE.1, hE.2.1, rfl, fun w hw => hE.2.2.2 w hw⟩ rfl ⟨h.2.2.2.1.1, hv2, h.2.2.2.1.2.2⟩ h.2.2.2.2.1 (fun _ => rfl) rfl rfl rfl, hF, fun j _ => rfl⟩
    · simp only [c_lt, c_gt, c_le, c_ge, c_eq, c_ne, b2_z, b2_nz, b2_i, Classical.not_not, t0, t1, Nat.reduceMod, Nat.reduceDiv, Int.reduceAdd, Int.reduceNeg, Nat.reduceAdd, kv_3, kv_4, kv_5, kv_6, kc_3, kc_4, kc_5, kc_6, ew] at b
      obtain rfl : what = 4 := by omega
      have hv2 : v ≤ 9 := by simpa [okV] using hv
      have hF : Fr [0, 1, 11, 35] M (mI M 1 0 (nI v)) := Fr_mI Fr_refl (by decide)
      have hF1 : Fr [1] M (mI M 1 0 (nI v)) := Fr_mI Fr_refl (by decide)
      conv => whnf
      exact hZ _ _ ⟨rfl, RC_set h hF (fun j _ => rfl) (RY_fr h.k hF1 (by decide)) ⟨hE.1, rfl, hE.2.2.1, fun w hw => hE.2.2.2 w hw⟩ rfl ⟨hv2, h.2.2.2.1.2⟩ h.2.2.2.2.1 (fun _ => rfl) rfl rfl rfl, hF, fun j _ => rfl⟩
  · simp only [c_lt, c_gt, c_le, c_ge, c_eq, c_ne, b2_z, b2_nz, b2_i, Classical.not_not, t0, t1, Nat.reduceMod, Nat.reduceDiv, Int.reduceAdd, Int.reduceNeg, Nat.reduceAdd, kv_3, kv_4, kv_5, kv_6, kc_3, kc_4, kc_5, kc_6, ew] at a
    have hw4 : what < 4 := by omega
    unfold whR at hx
    rw [if_pos (by omega)] at hx
    (conv => whnf)
    refine hC _ _ _ _ _ (sp_tellNamed h.k.H hw4) (fun u M1 q => ?_)
    obtain ⟨rfl, q2, q3⟩ := q
    (conv => whnf)
    have hF : Fr [0, 1, 11, 35] M M1 := Fr_sub q2 (by decide)
    have hidx : ∀ r l i, l < hgt (sK s) r → i < 4 → M1.1 11 ((12 * r + l) * 4 + i) = if i = what ∧ M.1 12 (12 * r + l) = x then nI v else M.1 11 ((12 * r + l) * 4 + i) := by
      intro r l i hl hi
      have b1 := h.k.2.2.2.1 r
      have b2 := hgt_lt hl
      have b3 := h.k.2.1
      rw [q3, show ((12 * r + l) * 4 + i) / 4 = 12 * r + l by omega, show ((12 * r + l) * 4 + i) % 4 = i by omega, show ((12 * r + l) * 4 + i) / 48 = r by omega, show (12 * r + l) % 12 = l by omega]
      by_cases z : i = what ∧ M.1 12 (12 * r + l) = x
      · rw [if_pos ⟨by omega, z.1, hl, z.2⟩, if_pos z]
      · rw [if_neg (fun y => z ⟨y.2.1, y.2.2.2⟩), if_neg z]
    cases p with
    | some p =>
      have hset : setA s what (some p) v = wK s (setL (sK s) (p / 16) (p % 16) what v) := if_pos (by omega)
      rw [hset] at hZ
      obtain ⟨hl, rfl⟩ := hx
      have hr := hgt_lt hl
      refine hZ _ _ ⟨rfl, RC_set h hF (fun j _ => by rw [Fr_1 q2 0 (by decide)]) (RY_set h.k hl hw4 hv (Fr_1 q2 10 (by decide)) (Fr_1 q2 13 (by decide)) (fun r' l' i hl' hi => ?_)) (RE_fr hE q2 (by decide)) rfl h.2.2.2.1 (by rw [Fr_1 q2 0 (by decide)]; exact h.2.2.2.2.1) (fun r => setL_hgt hr) setL_len rfl rfl, hF, fun j _ => by rw [Fr_1 q2 0 (by decide)]⟩
      rw [hidx r' l' i hl' hi]
      have e1 := hN.1 _ _ hl'
      have e2 := hN.1 _ _ hl
      by_cases z : (r' = p / 16 ∧ l' = p % 16) ∧ i = what
      · rw [if_pos z, if_pos ⟨z.2, by rw [e1.1, z.1.1, z.1.2]⟩]
      · rw [if_neg z, if_neg (fun y => z ⟨hN.2 _ _ _ _ hl' hl (nI_inj (by omega) (by omega) (e1.1.symm.trans y.2)), y.1⟩)]
    | none =>
      have hset : setA s what none v = s := if_pos (by omega)
      rw [hset] at hZ
      obtain ⟨w, rfl, w2, w3⟩ := hx
      have hid : ∀ r l i, l < hgt (sK s) r → i < 4 → M1.1 11 ((12 * r + l) * 4 + i) = M.1 11 ((12 * r + l) * 4 + i) := by
        intro r l i hl hi
        rw [hidx r l i hl hi, if_neg (fun y => ?_)]
        have e1 := hN.1 _ _ hl
        exact w3 r l hl (nI_inj (by omega) (by omega) (e1.1.symm.trans y.2))
      refine hZ _ _ ⟨rfl, RC_set h hF (fun j _ => by rw [Fr_1 q2 0 (by decide)]) ?_ (RE_fr hE q2 (by decide)) rfl h.2.2.2.1 (by rw [Fr_1 q2 0 (by decide)]; exact h.2.2.2.2.1) (fun r => rfl) rfl rfl rfl, hF, fun j _ => by rw [Fr_1 q2 0 (by decide)]⟩
      obtain ⟨y1, y2, y3, y4, y5⟩ := h.k
      refine ⟨by rw [Fr_1 q2 10 (by decide)]; exact y1, y2, fun r hr => by rw [Fr_1 q2 (10 + 3) (by decide)]; exact y3 r hr, y4, fun r l q hq => ⟨(y5 r l q hq).1, fun j hj => ?_⟩⟩
      show M1.1 11 _ = _
      rw [hid r l j (ly_lt hq) hj]
      exact (y5 r l q hq).2 j hj
