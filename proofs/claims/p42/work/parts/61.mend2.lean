/-! mend, feed, law -/
def addG (cs : List AChg) (n : Nat) (a : AChg) : List AChg := (if n = 40 then cs.tail else cs.take n) ++ [a]
theorem pw_add {cs : List Chg} {ch : List AChg} {n : Nat} {c : Chg} {a : AChg} {R : Chg → AChg → Prop} (hl : cs.length = ch.length) (h : ∀ (i : Nat) (x : Chg) (y : AChg), cs[i]? = some x → ch[i]? = some y → R x y) (hr : R c a) :
    (addC cs n c).length = (addG ch n a).length ∧ ∀ (i : Nat) (x : Chg) (y : AChg), (addC cs n c)[i]? = some x → (addG ch n a)[i]? = some y → R x y := by
  have key : ∀ (p : List Chg) (q : List AChg), p.length = q.length → (∀ (i : Nat) (x : Chg) (y : AChg), p[i]? = some x → q[i]? = some y → R x y) → (p ++ [c]).length = (q ++ [a]).length ∧ ∀ (i : Nat) (x : Chg) (y : AChg), (p ++ [c])[i]? = some x → (q ++ [a])[i]? = some y → R x y := by
    intro p q hpq hR
    refine ⟨by simp [hpq], fun i x y hx hy => ?_⟩
    rcases Nat.lt_or_ge i p.length with z | z
    · rw [List.getElem?_append_left z] at hx
      rw [List.getElem?_append_left (by omega)] at hy
      exact hR i x y hx hy
    · rw [List.getElem?_append_right z] at hx
      rw [List.getElem?_append_right (by omega)] at hy
      rw [← hpq] at hy
      rcases Nat.eq_zero_or_pos (i - p.length) with w | w
      · rw [w] at hx hy
        cases hx
        cases hy
        exact hr
      · rw [List.getElem?_eq_none (by simp; omega)] at hx
        cases hx
  unfold addC addG
  split
  · refine key _ _ (by simp [hl]) (fun i x y hx hy => ?_)
    rw [List.getElem?_tail] at hx hy
    exact h _ x y hx hy
  · refine key _ _ (by simp [hl]) (fun i x y hx hy => ?_)
    rw [List.getElem?_take] at hx hy
    split at hx
    · next z => rw [if_pos z] at hy; exact h _ x y hx hy
    · cases hx
/-- what may be told -/
def mayV (what v : Int32) : Prop := 0 ≤ v.toInt ∧ okV what.toInt.toNat v.toInt.toNat
def mendS (s : St) (what p was v : Nat) : St := setA (wC s (addG (sCg s) (sN s) (what, some p, was, v)) (addG (sCg s) (sN s) (what, some p, was, v)).length) what (some p) v
noncomputable def aMend (s : St) (n what v : Int32) : Int32 × St := match oneA s n what with
  | none => (cI (-1), s)
  | some was => have := Classical.propDecidable (mayV what v)
    if mayV what v then (nI was, if v.toInt.toNat = was then s else mendS s what.toInt.toNat n.toInt.toNat was v.toInt.toNat) else (cI (-1), s)
theorem oneA_w {s : St} {n what : Int32} {v : Nat} (h : oneA s n what = some v) : (0 ≤ what.toInt ∧ what.toInt ≤ 7) ∧ 0 ≤ n.toInt ∧ ((what.toInt ≤ 3 ∧ ∃ q, lyA s n = some q ∧ v = lyF q what.toInt.toNat) ∨ (what.toInt = 7 ∧ n.toInt ≤ 7 ∧ v = sDo s n.toInt.toNat) ∨ ((4 ≤ what.toInt ∧ what.toInt ≤ 6) ∧ n.toInt = 0 ∧ v = if what.toInt = 4 then sCo s else if what.toInt = 5 then sSt s else sDy s)) := by
  unfold oneA at h
  split at h
  · next z =>
    cases hq : lyA s n with
    | none => rw [hq] at h; cases h
    | some q =>
      rw [hq] at h
      cases h
      refine ⟨by omega, ?_, Or.inl ⟨z.2, q, rfl, rfl⟩⟩
      unfold lyA at hq
      split at hq
      · assumption
      · cases hq
  · split at h
    · split at h
      · cases h; exact ⟨by omega, by omega, Or.inr (Or.inl ⟨by assumption, by omega, rfl⟩)⟩
      · cases h
    · split at h
      · next z => cases h; exact ⟨by omega, by omega, Or.inr (Or.inr ⟨z.1, z.2, rfl⟩)⟩
      · cases h
theorem okV_most {w v : Nat} (hw : w < 8) : okV w v ↔ (if w = 1 ∨ w = 7 then 1 else 0) ≤ v ∧ v ≤ (if w = 0 ∨ w = 2 then 7 else if w = 1 ∨ w = 4 ∨ w = 7 then 9 else 99) := by
  unfold okV
  match w, hw with
  | 0, _ => simp; omega
  | 1, _ => simp
  | 2, _ => simp; omega
  | 3, _ => simp
  | 4, _ => simp
  | 5, _ => simp
  | 6, _ => simp
  | 7, _ => simp
theorem one_le {c : Nat} {M : Mem} {s : St} {n what : Int32} {v : Nat} (h : RC c M s) (h1 : oneA s n what = some v) : okV what.toInt.toNat v := by
  obtain ⟨⟨w1, w2⟩, n1, h2⟩ := oneA_w h1
  obtain ⟨w, rfl, ew, hw⟩ := to_nI w1
  rw [ew] at h2 ⊢
  rw [ew] at w2
  have e0 : ((w : Int)).toNat = w := rfl
  rw [e0] at h2 ⊢
  rw [okV_most (by omega)]
  have hn := h.2.2.2.1
  rcases h2 with ⟨h3, q, hq, rfl⟩ | ⟨h3, h4, rfl⟩ | ⟨h3, h4, rfl⟩
  · have hok : okL q := by
      rw [lyA, if_pos n1] at hq
      exact (h.k.2.2.2.2 _ _ _ hq).1
    obtain ⟨o1, o2, o3, o4⟩ := hok
    match w, h3 with
    | 0, _ => simp; show q.1 ≤ 7; omega
    | 1, _ => simp; show 1 ≤ q.2.1 ∧ q.2.1 ≤ 9; exact o2
    | 2, _ => simp; show q.2.2.1 ≤ 7; omega
    | 3, _ => simp; show q.2.2.2 ≤ 99; omega
    | w + 4, h3 => omega
  · obtain rfl : w = 7 := by omega
    have := hn.2.2.1 n.toInt.toNat (by omega)
    simp
    exact this
  · match w, h3 with
    | 4, _ => simp; exact hn.1
    | 5, _ => simp; exact hn.2.1
    | 6, _ => simp; exact hn.2.2.2
    | 0, h3 => omega
    | 1, h3 => omega
    | 2, h3 => omega
    | 3, h3 => omega
    | w + 7, h3 => omega
theorem okV_99 {w v : Nat} (h : okV w v) : v ≤ 99 := by
  unfold okV at h
  repeat' split at h
  all_goals omega
theorem RC_add {c ev : Nat} {M M1 : Mem} {s : St} {a : AChg} {x : Chg} {cs : List Chg} {nm : Nat → Nat} (h : RC c M s) (hf : Fr [6, 41] M M1) (hr : RCh M1 (addC cs (sN s) x) (addC cs (sN s) x).length) (a2 : M.1 0 15 = nI ev) (a3 : ev ≤ c)
    (a4 : ∀ r l, l < hgt (sK s) r → M.1 12 (12 * r + l) = nI (nm (12 * r + l)) ∧ nm (12 * r + l) ≤ ev) (a5 : ∀ r l r' l', l < hgt (sK s) r → l' < hgt (sK s) r' → nm (12 * r + l) = nm (12 * r' + l') → r = r' ∧ l = l')
    (a6 : cs.length = (sCg s).length) (a7 : ∀ (i : Nat) (x : Chg) (a : AChg), cs[i]? = some x → (sCg s)[i]? = some a → chR (sK s) nm ev x a) (hx : chR (sK s) nm ev x a) : RC c M1 (wC s (addG (sCg s) (sN s) a) (addG (sCg s) (sN s) a).length) := by
  obtain ⟨b1, b2⟩ := pw_add (n := sN s) a6 a7 hx
  exact RC_ch h hf ⟨addC cs (sN s) x, nm, ev, by rw [← b1]; exact hr, by rw [Fr_1 hf 0 (by decide)]; exact a2, a3, fun r l hl => by rw [Fr_1 hf 12 (by decide)]; exact a4 r l hl, a5, b1, b2⟩
set_option maxHeartbeats 1000000 in
theorem pb_mend {d c : Nat} {M : Mem} {s : St} {x w v : Int32} (h : RC c M s) (hc : c < 2000000) : Call (d + 5) 80 [.ref 0, .int x, .int w, .int v] M (RP c M (.int (aMend s x w v).1) (aMend s x w v).2) := by
  obtain ⟨cs, nm, ev, a1, a2, a3, a4, a5, a6, a7⟩ := h.2.2.2.2.2.2.2.2.2.2.2.2
  have bad : oneA s x w = none → aMend s x w v = (cI (-1), s) := fun z => by unfold aMend; rw [z]
  refine call_run 400 rfl rfl (fun B Cl Z hZ hB hC => ?_)
  (conv => whnf); refine ⟨fun a => ?_, fun a => ?_⟩
  case' refine_2 =>
    simp only [c_lt, c_gt, c_le, c_ge, c_eq, c_ne, b2_z, b2_nz, b2_i, Classical.not_not, t0, t1, Nat.reduceMod, Nat.reduceDiv, Int.reduceAdd, Int.reduceNeg, Nat.reduceAdd, kv_m1, kv_3, kv_8, kv_16, kc_3, kc_8, kc_16] at a
    have e9 := bad (by
      cases hq : oneA s x w with
      | none => rfl
      | some u => have := (oneA_w hq).1; omega)
    rw [e9] at hZ
    conv => whnf
    exact ⟨fun _ => hZ _ _ (RP_same h Fr_refl), fun z => absurd rfl z⟩
  simp only [c_lt, c_gt, c_le, c_ge, c_eq, c_ne, b2_z, b2_nz, b2_i, Classical.not_not, t0, t1, Nat.reduceMod, Nat.reduceDiv, Int.reduceAdd, Int.reduceNeg, Nat.reduceAdd, kv_m1, kv_3, kv_8, kv_16, kc_3, kc_8, kc_16] at a
  refine ret_k hC (sp_of h) ?_
  have e8 : aOf s x w = oI (oneA s x w) := if_neg a
  rw [e8]
  cases hq : oneA s x w with
  | none =>
    rw [bad hq] at hZ
    (conv => whnf); refine ⟨fun b => ?_, fun b => ?_⟩
    · conv => whnf
      exact hZ _ _ (RP_same h Fr_refl)
    · exact absurd rfl b
  | some was =>
  obtain ⟨⟨w1, w2⟩, n1, hcase⟩ := oneA_w hq
  have hok := one_le h hq
  have h99 := okV_99 hok
  obtain ⟨wn, rfl, ew, hwn⟩ := to_nI w1
  obtain ⟨n, rfl, en, hn⟩ := to_nI n1
  have e0 : ((wn : Int)).toNat = wn := rfl
  have e1 : ((n : Int)).toNat = n := rfl
  rw [ew] at hcase hok w2
  rw [e0] at hok
  have ewas := nI_v (n := was) (by omega)
  have hmay : mayV (nI wn) v ↔ (if wn = 1 ∨ wn = 7 then 1 else 0) ≤ v.toInt ∧ v.toInt ≤ (if wn = 0 ∨ wn = 2 then 7 else if wn = 1 ∨ wn = 4 ∨ wn = 7 then 9 else 99) := by
    unfold mayV
    rw [ew, e0, okV_most (by omega)]
    split <;> split <;> (try split) <;> omega
  have no : ¬ mayV (nI wn) v → aMend s (nI n) (nI wn) v = (cI (-1), s) := fun z => by unfold aMend; rw [hq]; exact if_neg z
  have yes : mayV (nI wn) v → aMend s (nI n) (nI wn) v = (nI was, if v.toInt.toNat = was then s else mendS s wn n was v.toInt.toNat) := fun z => by
    unfold aMend
    rw [hq]
    dsimp only
    rw [if_pos z, ew, en]
    rfl
  have el : (if (nI wn).toInt = 1 ∨ (nI wn).toInt = 7 then cI 1 else cI 0 : Int32).toInt = if wn = 1 ∨ wn = 7 then 1 else 0 := by
    rw [ew]
    by_cases z : wn = 1 ∨ wn = 7
    · rw [if_pos (by omega), if_pos z]; rfl
    · rw [if_neg (by omega), if_neg z]; rfl
  have em : (most (nI wn).toInt).toInt = if wn = 0 ∨ wn = 2 then 7 else if wn = 1 ∨ wn = 4 ∨ wn = 7 then 9 else 99 := by
    rw [ew]
    unfold most
    by_cases z : wn = 0 ∨ wn = 2
    · rw [if_pos (by omega), if_pos z]; rfl
    · rw [if_neg (by omega), if_neg z]
      by_cases z : wn = 1 ∨ wn = 4 ∨ wn = 7
      · rw [if_pos (by omega), if_pos z]; rfl
      · rw [if_neg (by omega), if_neg z]; rfl
  (conv => whnf); refine ⟨fun b => ?_, fun b => ?_⟩
  · replace b : cnd .eq (nI was) (cI (-1)) := b
    rw [c_eq, ewas, kv_m1] at b
    omega
  (conv => whnf); refine ret_k hC (sp_leastOf) ?_
  (conv => whnf); refine ⟨fun g => ?_, fun g => ?_⟩
  · rw [c_lt, el] at g
    rw [no (fun z => by have := (hmay.mp z).1; omega)] at hZ
    conv => whnf
    exact hZ _ _ (RP_same h Fr_refl)
  rw [c_lt, el] at g
  (conv => whnf); refine ret_k hC (sp_mostOf) ?_
  (conv => whnf); refine ⟨fun k => ?_, fun k => ?_⟩
  case' refine_2 =>
    rw [c_le, em] at k
    rw [no (fun z => by have := (hmay.mp z).2; omega)] at hZ
    conv => whnf
    exact hZ _ _ (RP_same h Fr_refl)
  rw [c_le, em] at k
  have hm := hmay.mpr ⟨by omega, k⟩
  rw [yes hm] at hZ
  obtain ⟨u, rfl, eu, hu⟩ := to_nI hm.1
  have e2 : ((u : Int)).toNat = u := rfl
  have hvo : okV wn u := by have := hm.2; rw [ew, eu] at this; exact this
  rw [eu, e2] at hZ
  (conv => whnf); refine ⟨fun t => ?_, fun t => ?_⟩
  · replace t : cnd .eq (nI u) (nI was) := t
    rw [c_eq, eu, ewas] at t
    rw [if_pos (by omega)] at hZ
    conv => whnf
    exact hZ _ _ (RP_same h Fr_refl)
  replace t : ¬ cnd .eq (nI u) (nI was) := t
  rw [c_eq, eu, ewas] at t
  rw [if_neg (by omega)] at hZ
  (conv => whnf); refine ⟨fun r => ?_, fun r => ?_⟩
  · rw [c_gt, ew] at r
    replace r : (3 : Int) < (wn : Int) := r
    have hw : whR (sK s) nm ev wn (nI n) (some n) := by
      unfold whR
      rw [if_neg (by omega)]
      refine ⟨n, rfl, rfl, ?_⟩
      split
      · omega
      · rcases hcase with ⟨z, -⟩ | ⟨z, -⟩ | ⟨z, z2, -⟩ <;> omega
    (conv => whnf)
    refine hC _ _ _ _ _ (sp_addC (c := (nI wn, nI n, nI was, nI u)) a1) (fun rr M1 q => ?_)
    obtain ⟨rfl, q2, q3⟩ := q
    have hR := RC_add h q2 q3 a2 a3 a4 a5 a6 a7 (a := (wn, some n, was, u)) ⟨rfl, rfl, rfl, by show wn < 8; omega, hok, hvo, hw⟩
    (conv => whnf)
    refine hC _ _ _ _ _ (sp_tell (nm := nm) (ev := ev) (p := some n) hR (show wn < 8 by omega) hvo ⟨fun r l hl => by rw [Fr_1 q2 12 (by decide)]; exact a4 r l hl, a5⟩ (by omega) hw) (fun v M2 q => ?_)
    obtain ⟨rfl, f2, f3, f4⟩ := q
    conv => whnf
    exact hZ _ _ ⟨rfl, RC_up f2, Fr_trans (Fr_sub q2 (by decide)) (Fr_sub f3 (by decide))⟩
  · rw [c_gt, ew] at r
    replace r : ¬ (3 : Int) < (wn : Int) := r
    have y1 : nI n / cI 16 = nI (n / 16) := nI_div (b := 16) hn (by decide)
    have y2 : nI n - nI n / cI 16 * cI 16 = nI (n % 16) := nI_rem (b := 16) hn (by decide)
    have hl : n % 16 < hgt (sK s) (n / 16) := by
      rcases hcase with ⟨z, q, z2, -⟩ | ⟨z, -⟩ | ⟨z, z2, -⟩
      · rw [lyA, en, if_pos (by omega)] at z2
        exact ly_lt z2
      · omega
      · omega
    have hw : whR (sK s) nm ev wn (M.1 12 (12 * (n / 16) + n % 16)) (some n) := by
      unfold whR
      rw [if_pos (by omega)]
      exact ⟨hl, (a4 _ _ hl).1⟩
    (conv => whnf)
    refine ⟨by decide, ?_⟩
    (conv => whnf)
    refine ⟨by decide, ?_⟩
    (conv => whnf)
    rw [y2, y1]
    refine ret_k hC (sp_nameOf h.k hl) ?_
    (conv => whnf)
    refine hC _ _ _ _ _ (sp_addC (c := (nI wn, M.1 12 (12 * (n / 16) + n % 16), nI was, nI u)) a1) (fun rr M1 q => ?_)
    obtain ⟨rfl, q2, q3⟩ := q
    have hR := RC_add h q2 q3 a2 a3 a4 a5 a6 a7 (a := (wn, some n, was, u)) ⟨rfl, rfl, rfl, by show wn < 8; omega, hok, hvo, hw⟩
    (conv => whnf)
    refine hC _ _ _ _ _ (sp_tell (nm := nm) (ev := ev) (p := some n) hR (show wn < 8 by omega) hvo ⟨fun r l hl => by rw [Fr_1 q2 12 (by decide)]; exact a4 r l hl, a5⟩ (by omega) hw) (fun v M2 q => ?_)
    obtain ⟨rfl, f2, f3, f4⟩ := q
    conv => whnf
    exact hZ _ _ ⟨rfl, RC_up f2, Fr_trans (Fr_sub q2 (by decide)) (Fr_sub f3 (by decide))⟩
def aFeed (s : St) (x : Int32) : Int32 × St :=
  if 0 ≤ x.toInt ∧ x.toInt ≤ 255 then (if (sTp s).length = 120 then (cI (-3), s) else (nI ((sTp s).length + 1), wTp s (sTp s ++ [x.toInt.toNat]))) else (cI (-1), s)
theorem RC_tp {c : Nat} {M M' : Mem} {s : St} {t : List Nat} (h : RC c M s) (p4 : Fr [2, 39, 40] M M') (ht : RTp M' t) : RC (c + 60) M' (wTp s t) ∧ Fr CA M M' := by
  obtain ⟨h1, h2, h3, h4, h5, h6, h7, h8, h9, h10, h11, h12, h13⟩ := id h
  exact ⟨⟨RY_fr h1 p4 (by decide), RE_fr h2 p4 (by decide), h3, h4, by rw [Fr_1 p4 0 (by decide)]; exact h5, fun i hi => by rw [Fr_1 p4 53 (by decide)]; exact h6 i hi, RIm_fr h7 p4 (by decide), ht, RK_fr h9 (by rw [Fr_1 p4 7 (by decide)]) (Fr_1 p4 42 (by decide)), RT_e h10 (by rw [Fr_1 p4 7 (by decide)]) (Fr_1 p4 43 (by decide)), RS_all h11 p4 (by decide), h12, RNm_up (RNm_fr h13 (Fr_1 p4 6 (by decide)) (Fr_1 p4 41 (by decide)) (by rw [Fr_1 p4 0 (by decide)]) (Fr_1 p4 12 (by decide)))⟩, Fr_sub p4 (by decide)⟩
theorem pb_feed {d c : Nat} {M : Mem} {s : St} {x : Int32} (h : RC c M s) : Call (d + 2) 82 [.ref 0, .int x] M (RP c M (.int (aFeed s x).1) (aFeed s x).2) := by
  have h8 : RTp M (sTp s) := h.2.2.2.2.2.2.2.1
  refine call_run 400 rfl rfl (fun B Cl Z hZ hB hC => ?_)
  (conv => whnf); refine ⟨fun a => ?_, fun a => ?_⟩
  · simp only [c_lt, c_gt, c_le, c_ge, c_eq, c_ne, b2_z, b2_nz, b2_i, Classical.not_not, t0, t1, Nat.reduceMod, Nat.reduceDiv, Int.reduceAdd, Int.reduceNeg, Nat.reduceAdd, kv_m3, kv_m1, kv_255, kc_255] at a
    have e9 : aFeed s x = (cI (-1), s) := if_neg (by omega)
    rw [e9] at hZ
    conv => whnf
    exact hZ _ _ (RP_same h Fr_refl)
  simp only [c_lt, c_gt, c_le, c_ge, c_eq, c_ne, b2_z, b2_nz, b2_i, Classical.not_not, t0, t1, Nat.reduceMod, Nat.reduceDiv, Int.reduceAdd, Int.reduceNeg, Nat.reduceAdd, kv_m3, kv_m1, kv_255, kc_255] at a
  (conv => whnf); refine ⟨fun b => ?_, fun b => ?_⟩
  · simp only [c_lt, c_gt, c_le, c_ge, c_eq, c_ne, b2_z, b2_nz, b2_i, Classical.not_not, t0, t1, Nat.reduceMod, Nat.reduceDiv, Int.reduceAdd, Int.reduceNeg, Nat.reduceAdd, kv_m3, kv_m1, kv_255, kc_255] at b
    obtain ⟨n, rfl, en, hn⟩ := to_nI (x := x) (by omega)
    have e8 : aFeed s (nI n) = (if (sTp s).length = 120 then (cI (-3), s) else (nI ((sTp s).length + 1), wTp s (sTp s ++ [n]))) := by
      unfold aFeed
      rw [if_pos (by omega), en]
      rfl
    rw [e8] at hZ
    (conv => whnf)
    refine hC _ _ _ _ _ (sp_take h8 (show n < 256 by omega)) (fun v M1 p => ?_)
    rcases p with ⟨p1, rfl, rfl⟩ | ⟨p1, rfl, p3, p4⟩
    · rw [if_pos p1] at hZ
      (conv => whnf); refine ⟨fun _ => ?_, fun g => absurd rfl g⟩
      conv => whnf
      exact hZ _ _ (RP_same h Fr_refl)
    · rw [if_neg (by omega)] at hZ
      (conv => whnf); refine ⟨fun g => absurd g (by rw [c_eq]; decide), fun g => ?_⟩
      (conv => whnf); refine ret_k hC (sp_tlength p3) ?_
      have := RC_tp h (Fr_sub p4 (by decide)) p3
      conv => whnf
      rw [List.length_append]
      exact hZ _ _ ⟨rfl, this.1, this.2⟩
  · simp only [c_lt, c_gt, c_le, c_ge, c_eq, c_ne, b2_z, b2_nz, b2_i, Classical.not_not, t0, t1, Nat.reduceMod, Nat.reduceDiv, Int.reduceAdd, Int.reduceNeg, Nat.reduceAdd, kv_m3, kv_m1, kv_255, kc_255] at b
    have e9 : aFeed s x = (cI (-1), s) := if_neg (by omega)
    rw [e9] at hZ
    conv => whnf
    exact hZ _ _ (RP_same h Fr_refl)
def aLaw (s : St) : Int32 × St := match ptext (sTp s) 121 0 [] with
  | (_, some ls) => (cI 1, wL (wTp s []) (some ls))
  | (p, none) => (cI (-100) - nI p, wTp s [])
theorem ptext_ne {t : List Nat} : ∀ (k a : Nat) (ls ls' : List Ln), (ptext t k a ls).2 = some ls' → ¬ ls' = []
  | 0, a, ls, ls', h => by cases h
  | k + 1, a, ls, ls', q => by
    unfold ptext at q
    split at q
    · cases q
    · split at q
      · cases q; simp
      · split at q
        · exact ptext_ne k _ _ _ q
        · cases q
theorem pb_law {d c : Nat} {M : Mem} {s : St} (h : RC c M s) : Call (d + 170) 83 [.ref 0] M (RP c M (.int (aLaw s).1) (aLaw s).2) := by
  obtain ⟨h1, h2, h3, h4, h5, h6, h7, h8, h9, h10, h11, h12, h13⟩ := id h
  refine call_run 400 rfl rfl (fun B Cl Z hZ hB hC => ?_)
  (conv => whnf)
  refine hC _ _ _ _ _ (sp_read (by omega) h8) (fun v M1 p => ?_)
  obtain ⟨p1, p2⟩ := p
  match hp : ptext (sTp s) 121 0 [], p2 with
  | (e, some ls), p2 =>
    obtain ⟨rfl, p3, p4⟩ := p2
    have e9 : aLaw s = (cI 1, wL (wTp s []) (some ls)) := by unfold aLaw; rw [hp]
    rw [e9] at hZ
    have hok := ptext_ok 121 0 [] ls (by simp) (by rw [hp])
    (conv => whnf); refine ⟨fun g => absurd g (by rw [c_ge]; decide), fun g => ?_⟩
    (conv => whnf)
    refine hC _ _ _ _ _ (sp_lbecome p3 p4) (fun v M2 q => ?_)
    obtain ⟨rfl, q2, q3, q4, q5⟩ := q
    (conv => whnf)
    refine hC _ _ _ _ _ (sp_empty (t := [])) (fun v M3 r => ?_)
    obtain ⟨rfl, r2, r3⟩ := r
    (conv => whnf); refine ⟨fun g => absurd g (by rw [c_ge]; decide), fun g => ?_⟩
    have hF : Fr [1, 2, 36, 39, 40] M M3 := Fr_trans (Fr_sub p1 (by decide)) (Fr_trans (Fr_sub q2 (by decide)) (Fr_sub r3 (by decide)))
    conv => whnf
    refine hZ _ _ ⟨rfl, ⟨RY_fr h1 hF (by decide), ⟨?_, ?_, ?_, fun w hw => by rw [Fr_1 hF 35 (by decide)]; exact h2.2.2.2 w hw⟩, fun l hl => ?_, h4, by rw [Fr_1 hF 0 (by decide)]; exact h5, fun i hi => by rw [Fr_1 hF 53 (by decide)]; exact h6 i hi, RIm_fr h7 hF (by decide), r2, RK_fr h9 (by rw [Fr_1 hF 7 (by decide)]) (Fr_1 hF 42 (by decide)), RT_e h10 (by rw [Fr_1 hF 7 (by decide)]) (Fr_1 hF 43 (by decide)), RS_all h11 hF (by decide), h12, RNm_up (RNm_fr h13 (Fr_1 hF 6 (by decide)) (Fr_1 hF 41 (by decide)) (by rw [Fr_1 hF 0 (by decide)]) (Fr_1 hF 12 (by decide)))⟩, Fr_sub hF (by decide)⟩
    · exact RLw_fr (RLw_of q3 p4 q5 hok) r3 (by decide)
    · rw [Fr_1 r3 1 (by decide), q4 0 (by decide), Fr_1 p1 1 (by decide)]; exact h2.2.1
    · rw [Fr_1 r3 1 (by decide), q4 1 (by decide), Fr_1 p1 1 (by decide)]; exact h2.2.2.1
    · cases hl
      exact ⟨ptext_ne 121 0 [] ls (by rw [hp]), hok, p4⟩
  | (e, none), p2 =>
    obtain ⟨rfl, p3⟩ := p2
    have e9 : aLaw s = (cI (-100) - nI e, wTp s []) := by unfold aLaw; rw [hp]
    rw [e9] at hZ
    have he := nI_v (n := e) (by have := p3.2.2.1; omega)
    (conv => whnf); refine ⟨fun g => ?_, fun g => absurd (show cnd .ge (nI e) 0 by rw [c_ge, he, t0]; omega) g⟩
    (conv => whnf)
    refine hC _ _ _ _ _ (sp_empty (t := [])) (fun v M3 r => ?_)
    obtain ⟨rfl, r2, r3⟩ := r
    (conv => whnf); refine ⟨fun g => ?_, fun g => absurd (show cnd .ge (nI e) 0 by rw [c_ge, he, t0]; omega) g⟩
    have := RC_tp h (Fr_trans (Fr_sub p1 (by decide)) (Fr_sub r3 (by decide))) r2
    conv => whnf
    exact hZ _ _ ⟨rfl, this.1, this.2⟩
