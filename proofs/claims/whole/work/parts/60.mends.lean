/-! of, mend, undo, redo -/
theorem RC_ch {c n : Nat} {M M' : Mem} {s : St} {g : List AChg} (h : RC c M s) (p4 : Fr [6, 41] M M') (hn : RNm c M' (sK s) g n) : RC c M' (wC s g n) := by
  obtain ⟨h1, h2, h3, h4, h5, h6, h7, h8, h9, h10, h11, h12, h13⟩ := id h
  exact ⟨RY_fr h1 p4 (by decide), RE_fr h2 p4 (by decide), h3, h4, by rw [Fr_1 p4 0 (by decide)]; exact h5, fun i hi => by rw [Fr_1 p4 53 (by decide)]; exact h6 i hi, RIm_fr h7 p4 (by decide), RT0_fr (A := []) h8 (by rw [Fr_1 p4 2 (by decide)]) (Fr_1 p4 39 (by decide)), RK_fr h9 (by rw [Fr_1 p4 7 (by decide)]) (Fr_1 p4 42 (by decide)), RT_e h10 (by rw [Fr_1 p4 7 (by decide)]) (Fr_1 p4 43 (by decide)), RS_all h11 p4 (by decide), h12, hn⟩
def aUndo (s : St) : Int32 × St := if sN s = 0 then (cI (-5), s) else match (sCg s)[sN s - 1]? with
  | some a => (nI (sN s - 1), setA (wC s (sCg s) (sN s - 1)) a.1 a.2.1 a.2.2.1)
  | none => (cI (-5), s)
def aRedo (s : St) : Int32 × St := match (sCg s)[sN s]? with
  | some a => (nI ((sCg s).length - (sN s + 1)), setA (wC s (sCg s) (sN s + 1)) a.1 a.2.1 a.2.2.2)
  | none => (cI (-5), s)
theorem setA_N {s : St} {w : Nat} {p : Option Nat} {v : Nat} : (setA s w p v).1.2 = s.1.2 := by
  unfold setA
  repeat' split
  all_goals rfl
theorem pb_undo {d c : Nat} {M : Mem} {s : St} (h : RC c M s) (hc : c < 100000) : Call (d + 5) 127 [.ref 0] M (RP c M (.int (aUndo s).1) (aUndo s).2) := by
  obtain ⟨cs, nm, ev, a1, a2, a3, a4, a5, a6, a7⟩ := h.2.2.2.2.2.2.2.2.2.2.2.2
  have hn := a1.2.2.1
  have hn2 := a1.2.2.2.1
  have e := nI_v (n := sN s) (by omega)
  refine call_run 400 rfl rfl (fun B Cl Z hZ hB hC => ?_)
  (conv => whnf); refine ret_k hC (sp_done a1) ?_
  (conv => whnf); refine ⟨fun b => ?_, fun b => ?_⟩
  · simp only [c_lt, c_gt, c_le, c_ge, c_eq, c_ne, b2_z, b2_nz, b2_i, Classical.not_not, t0, t1, Nat.reduceMod, Nat.reduceDiv, Int.reduceAdd, Int.reduceNeg, Nat.reduceAdd, kv_m5, kv_0, kv_1, kv_2, kc_0, kc_1, kc_2, e] at b
    have hlt : sN s - 1 < cs.length := by omega
    have hx := List.getElem?_eq_getElem hlt
    have hlt2 : sN s - 1 < (sCg s).length := by omega
    have ha := List.getElem?_eq_getElem hlt2
    have e9 : aUndo s = (nI (sN s - 1), setA (wC s (sCg s) (sN s - 1)) ((sCg s)[sN s - 1]).1 ((sCg s)[sN s - 1]).2.1 ((sCg s)[sN s - 1]).2.2.1) := by
      unfold aUndo
      rw [if_neg (by omega), ha]
    rw [e9] at hZ
    generalize hcc : cs[sN s - 1] = x at hx
    generalize haa : (sCg s)[sN s - 1] = a at ha hZ
    obtain ⟨b1, b2, b3, b4, b5, b6, b7⟩ := a7 _ x a hx ha
    (conv => whnf)
    refine hC _ _ _ _ _ (sp_stepBack a1 (by omega)) (fun v M1 p => ?_)
    obtain ⟨rfl, p2, p3⟩ := p
    have hR1 : RC c M1 (wC s (sCg s) (sN s - 1)) := RC_ch h (Fr_sub p2 (by decide)) ⟨cs, nm, ev, p3, by rw [Fr_1 p2 0 (by decide)]; exact a2, a3, fun r l hl => by rw [Fr_1 p2 12 (by decide)]; exact a4 r l hl, a5, a6, a7⟩
    (conv => whnf); refine ret_k hC (sp_part p3 hx (show 0 < 4 by omega)) ?_
    (conv => whnf); refine ret_k hC (sp_part p3 hx (show 1 < 4 by omega)) ?_
    (conv => whnf); refine ret_k hC (sp_part p3 hx (show 2 < 4 by omega)) ?_
    (conv => whnf)
    rw [show chF x 0 = nI a.1 from b1, show chF x 2 = nI a.2.2.1 from b2]
    refine hC _ _ _ _ _ (sp_tell (nm := nm) (ev := ev) (p := a.2.1) hR1 b4 b5 ⟨fun r l hl => by rw [Fr_1 p2 12 (by decide)]; exact a4 r l hl, a5⟩ (by omega) b7) (fun v M2 q => ?_)
    obtain ⟨rfl, q2, q3, q4⟩ := q
    obtain ⟨cs', nm', ev', f1, -⟩ := id q2.2.2.2.2.2.2.2.2.2.2.2.2
    have eN : sN (setA (wC s (sCg s) (sN s - 1)) a.1 a.2.1 a.2.2.1) = sN s - 1 := congrArg Prod.snd setA_N
    rw [eN] at f1
    (conv => whnf); refine ret_k hC (sp_done f1) ?_
    conv => whnf
    exact hZ _ _ ⟨rfl, RC_up q2, Fr_trans (Fr_sub p2 (by decide)) (Fr_sub q3 (by decide))⟩
  · simp only [c_lt, c_gt, c_le, c_ge, c_eq, c_ne, b2_z, b2_nz, b2_i, Classical.not_not, t0, t1, Nat.reduceMod, Nat.reduceDiv, Int.reduceAdd, Int.reduceNeg, Nat.reduceAdd, kv_m5, kv_0, kv_1, kv_2, kc_0, kc_1, kc_2, e] at b
    have e9 : aUndo s = (cI (-5), s) := if_pos (by omega)
    rw [e9] at hZ
    conv => whnf
    exact hZ _ _ (RP_same h Fr_refl)
theorem pb_redo {d c : Nat} {M : Mem} {s : St} (h : RC c M s) (hc : c < 100000) : Call (d + 5) 128 [.ref 0] M (RP c M (.int (aRedo s).1) (aRedo s).2) := by
  obtain ⟨cs, nm, ev, a1, a2, a3, a4, a5, a6, a7⟩ := h.2.2.2.2.2.2.2.2.2.2.2.2
  have hn := a1.2.2.1
  have hn2 := a1.2.2.2.1
  have e := nI_v (n := cs.length - sN s) (by omega)
  refine call_run 400 rfl rfl (fun B Cl Z hZ hB hC => ?_)
  (conv => whnf); refine ret_k hC (sp_undone a1) ?_
  (conv => whnf); refine ⟨fun b => ?_, fun b => ?_⟩
  · simp only [c_lt, c_gt, c_le, c_ge, c_eq, c_ne, b2_z, b2_nz, b2_i, Classical.not_not, t0, t1, Nat.reduceMod, Nat.reduceDiv, Int.reduceAdd, Int.reduceNeg, Nat.reduceAdd, kv_m5, kv_0, kv_1, kv_3, kc_0, kc_1, kc_3, e] at b
    have hlt : sN s < cs.length := by omega
    have hx := List.getElem?_eq_getElem hlt
    have hlt2 : sN s < (sCg s).length := by omega
    have ha := List.getElem?_eq_getElem hlt2
    have e9 : aRedo s = (nI ((sCg s).length - (sN s + 1)), setA (wC s (sCg s) (sN s + 1)) ((sCg s)[sN s]).1 ((sCg s)[sN s]).2.1 ((sCg s)[sN s]).2.2.2) := by
      unfold aRedo
      rw [ha]
    rw [e9] at hZ
    generalize hcc : cs[sN s] = x at hx
    generalize haa : (sCg s)[sN s] = a at ha hZ
    obtain ⟨b1, b2, b3, b4, b5, b6, b7⟩ := a7 _ x a hx ha
    (conv => whnf)
    refine hC _ _ _ _ _ (sp_stepOn a1 (by omega)) (fun v M1 p => ?_)
    obtain ⟨rfl, p2, p3⟩ := p
    have hR1 : RC c M1 (wC s (sCg s) (sN s + 1)) := RC_ch h (Fr_sub p2 (by decide)) ⟨cs, nm, ev, p3, by rw [Fr_1 p2 0 (by decide)]; exact a2, a3, fun r l hl => by rw [Fr_1 p2 12 (by decide)]; exact a4 r l hl, a5, a6, a7⟩
    (conv => whnf); refine ret_k hC (sp_part p3 hx (show 0 < 4 by omega)) ?_
    (conv => whnf); refine ret_k hC (sp_part p3 hx (show 1 < 4 by omega)) ?_
    (conv => whnf); refine ret_k hC (sp_part p3 hx (show 3 < 4 by omega)) ?_
    (conv => whnf)
    rw [show chF x 0 = nI a.1 from b1, show chF x 3 = nI a.2.2.2 from b3]
    refine hC _ _ _ _ _ (sp_tell (nm := nm) (ev := ev) (p := a.2.1) hR1 b4 b6 ⟨fun r l hl => by rw [Fr_1 p2 12 (by decide)]; exact a4 r l hl, a5⟩ (by omega) b7) (fun v M2 q => ?_)
    obtain ⟨rfl, q2, q3, q4⟩ := q
    obtain ⟨cs', nm', ev', f1, f2, f3, f4, f5, f6, f7⟩ := id q2.2.2.2.2.2.2.2.2.2.2.2.2
    have eC : sCg (setA (wC s (sCg s) (sN s + 1)) a.1 a.2.1 a.2.2.2) = sCg s := by
      have := congrArg Prod.fst (setA_N (s := wC s (sCg s) (sN s + 1)) (w := a.1) (p := a.2.1) (v := a.2.2.2))
      exact this
    have eN : sN (setA (wC s (sCg s) (sN s + 1)) a.1 a.2.1 a.2.2.2) = sN s + 1 := congrArg Prod.snd (setA_N (s := wC s (sCg s) (sN s + 1)) (w := a.1) (p := a.2.1) (v := a.2.2.2))
    rw [eN] at f1
    rw [eC] at f6
    (conv => whnf); refine ret_k hC (sp_undone f1) ?_
    rw [f6]
    conv => whnf
    exact hZ _ _ ⟨rfl, RC_up q2, Fr_trans (Fr_sub p2 (by decide)) (Fr_sub q3 (by decide))⟩
  · simp only [c_lt, c_gt, c_le, c_ge, c_eq, c_ne, b2_z, b2_nz, b2_i, Classical.not_not, t0, t1, Nat.reduceMod, Nat.reduceDiv, Int.reduceAdd, Int.reduceNeg, Nat.reduceAdd, kv_m5, kv_0, kv_1, kv_3, kc_0, kc_1, kc_3, e] at b
    have e9 : aRedo s = (cI (-5), s) := by
      unfold aRedo
      rw [List.getElem?_eq_none (by omega)]
    rw [e9] at hZ
    conv => whnf
    exact hZ _ _ (RP_same h Fr_refl)
/-- a told number -/
def oneA (s : St) (n what : Int32) : Option Nat :=
  if 0 ≤ what.toInt ∧ what.toInt ≤ 3 then (lyA s n).map (fun q => lyF q what.toInt.toNat)
  else if what.toInt = 7 then (if 0 ≤ n.toInt ∧ n.toInt ≤ 7 then some (sDo s n.toInt.toNat) else none)
  else if (4 ≤ what.toInt ∧ what.toInt ≤ 6) ∧ n.toInt = 0 then some (if what.toInt = 4 then sCo s else if what.toInt = 5 then sSt s else sDy s) else none
def oI (o : Option Nat) : Int32 := match o with
  | some v => nI v
  | none => cI (-1)
def aOf (s : St) (n what : Int32) : Int32 :=
  if what.toInt = 8 then (if 0 ≤ n.toInt ∧ n.toInt < ((sK s).length : Int) then nI (hgt (sK s) n.toInt.toNat) else cI (-1)) else oI (oneA s n what)
theorem oneA_l {s : St} {n what : Int32} (h : 0 ≤ what.toInt ∧ what.toInt ≤ 3) : oneA s n what = (lyA s n).map (fun q => lyF q what.toInt.toNat) := if_pos h
theorem sp_of {d c : Nat} {M : Mem} {s : St} {x w : Int32} (h : RC c M s) : Call (d + 3) 104 [.ref 0, .int x, .int w] M (RV (some (.int (aOf s x w))) M) := by
  have h1 := h.k
  have h2 := h.e
  have hl4 := h1.2.1
  refine call_run 400 rfl rfl (fun B Cl Z hZ hB hC => ?_)
  (conv => whnf); refine ⟨fun a => ?_, fun a => ?_⟩
  case' refine_2 =>
    simp only [c_lt, c_gt, c_le, c_ge, c_eq, c_ne, b2_z, b2_nz, b2_i, Classical.not_not, t0, t1, Nat.reduceMod, Nat.reduceDiv, Int.reduceAdd, Int.reduceNeg, Nat.reduceAdd, kv_m1, kv_3, kv_4, kv_5, kv_6, kv_7, kv_8, kv_16, kc_3, kc_4, kc_5, kc_6, kc_7, kc_8, kc_16] at a
    have e9 : aOf s x w = cI (-1) := by
      unfold aOf
      split
      · rw [if_neg (by omega)]
      · have : oneA s x w = none := by
          unfold oneA
          split
          · unfold lyA; rw [if_neg (by omega)]; rfl
          · split
            · rw [if_neg (by omega)]
            · rw [if_neg (by omega)]
        rw [this]; rfl
    rw [e9] at hZ
    conv => whnf
    exact hZ _ _ ⟨rfl, rfl⟩
  simp only [c_lt, c_gt, c_le, c_ge, c_eq, c_ne, b2_z, b2_nz, b2_i, Classical.not_not, t0, t1, Nat.reduceMod, Nat.reduceDiv, Int.reduceAdd, Int.reduceNeg, Nat.reduceAdd, kv_m1, kv_3, kv_4, kv_5, kv_6, kv_7, kv_8, kv_16, kc_3, kc_4, kc_5, kc_6, kc_7, kc_8, kc_16] at a
  obtain ⟨n, rfl, en, hn⟩ := to_nI (x := x) (by omega)
  have y1 : nI n / cI 16 = nI (n / 16) := nI_div (b := 16) hn (by decide)
  have y2 : nI n - nI n / cI 16 * cI 16 = nI (n % 16) := nI_rem (b := 16) hn (by decide)
  have hlow : 4 ≤ w.toInt ∨ w.toInt < 0 → aOf s (nI n) w = if w.toInt = 8 then (if 0 ≤ (nI n).toInt ∧ (nI n).toInt < ((sK s).length : Int) then nI (hgt (sK s) (nI n).toInt.toNat) else cI (-1)) else oI (if w.toInt = 7 then (if 0 ≤ (nI n).toInt ∧ (nI n).toInt ≤ 7 then some (sDo s (nI n).toInt.toNat) else none)
      else if (4 ≤ w.toInt ∧ w.toInt ≤ 6) ∧ (nI n).toInt = 0 then some (if w.toInt = 4 then sCo s else if w.toInt = 5 then sSt s else sDy s) else none) := by
    intro hw
    unfold aOf oneA
    rw [if_neg (c := 0 ≤ w.toInt ∧ w.toInt ≤ 3) (by omega)]
  rw [en] at hlow
  have tail : 4 ≤ w.toInt ∨ w.toInt < 0 → True := fun _ => trivial
  (conv => whnf); refine ⟨fun b => ?_, fun b => ?_⟩
  case' refine_1 =>
    simp only [c_lt, c_gt, c_le, c_ge, c_eq, c_ne, b2_z, b2_nz, b2_i, Classical.not_not, t0, t1, Nat.reduceMod, Nat.reduceDiv, Int.reduceAdd, Int.reduceNeg, Nat.reduceAdd, kv_m1, kv_3, kv_4, kv_5, kv_6, kv_7, kv_8, kv_16, kc_3, kc_4, kc_5, kc_6, kc_7, kc_8, kc_16] at b
    have e8 := hlow (Or.inr (by omega))
    rw [e8] at hZ
  case' refine_2 =>
    simp only [c_lt, c_gt, c_le, c_ge, c_eq, c_ne, b2_z, b2_nz, b2_i, Classical.not_not, t0, t1, Nat.reduceMod, Nat.reduceDiv, Int.reduceAdd, Int.reduceNeg, Nat.reduceAdd, kv_m1, kv_3, kv_4, kv_5, kv_6, kv_7, kv_8, kv_16, kc_3, kc_4, kc_5, kc_6, kc_7, kc_8, kc_16] at b
    (conv => whnf); refine ⟨fun g => ?_, fun g => ?_⟩
    case' refine_1 =>
      simp only [c_lt, c_gt, c_le, c_ge, c_eq, c_ne, b2_z, b2_nz, b2_i, Classical.not_not, t0, t1, Nat.reduceMod, Nat.reduceDiv, Int.reduceAdd, Int.reduceNeg, Nat.reduceAdd, kv_m1, kv_3, kv_4, kv_5, kv_6, kv_7, kv_8, kv_16, kc_3, kc_4, kc_5, kc_6, kc_7, kc_8, kc_16] at g
      have e8 := hlow (Or.inl (by omega))
      rw [e8] at hZ
  case' refine_2.refine_2 =>
    simp only [c_lt, c_gt, c_le, c_ge, c_eq, c_ne, b2_z, b2_nz, b2_i, Classical.not_not, t0, t1, Nat.reduceMod, Nat.reduceDiv, Int.reduceAdd, Int.reduceNeg, Nat.reduceAdd, kv_m1, kv_3, kv_4, kv_5, kv_6, kv_7, kv_8, kv_16, kc_3, kc_4, kc_5, kc_6, kc_7, kc_8, kc_16] at g
    obtain ⟨j, rfl, ej, hj⟩ := to_nI (x := w) (by omega)
    have e8 : aOf s (nI n) (nI j) = oI ((lyA s (nI n)).map (fun q => lyF q j)) := by
      unfold aOf
      rw [if_neg (by omega), oneA_l (by omega), ej]
      rfl
    rw [e8] at hZ
    (conv => whnf)
    refine ⟨by decide, ?_⟩
    (conv => whnf)
    refine ⟨by decide, ?_⟩
    (conv => whnf)
    rw [y2, y1]
    refine ret_k hC (sp_hasLayer (by simp [isYd]) h1 (show n / 16 < 2147483648 by omega) (by omega)) ?_
    (conv => whnf); refine ⟨fun k => ?_, fun k => ?_⟩
    · rw [b2_z] at k
      rw [lyA_n (by rw [en]; exact fun z => k z.2)] at hZ
      conv => whnf
      exact hZ _ _ ⟨rfl, rfl⟩
    · rw [b2_z] at k
      obtain ⟨q, n', e1, e2, e3, e4, e5⟩ := lyA_s (s := s) (x := nI n) ⟨by omega, by rw [en]; exact Classical.not_not.mp k⟩
      obtain rfl : n = n' := nI_inj hn e2 e1
      rw [e5] at hZ
      (conv => whnf)
      refine ⟨by decide, ?_⟩
      (conv => whnf)
      refine ⟨by decide, ?_⟩
      (conv => whnf)
      rw [y2, y1]
      refine ret_k hC (sp_number (by simp [isYd]) h1 e4 (show j < 4 by omega)) ?_
      conv => whnf
      exact hZ _ _ ⟨rfl, rfl⟩
  all_goals
    (conv => whnf); refine ⟨fun k => ?_, fun k => ?_⟩
    · simp only [c_lt, c_gt, c_le, c_ge, c_eq, c_ne, b2_z, b2_nz, b2_i, Classical.not_not, t0, t1, Nat.reduceMod, Nat.reduceDiv, Int.reduceAdd, Int.reduceNeg, Nat.reduceAdd, kv_m1, kv_3, kv_4, kv_5, kv_6, kv_7, kv_8, kv_16, kc_3, kc_4, kc_5, kc_6, kc_7, kc_8, kc_16] at k
      (conv => whnf); refine ⟨fun r => ?_, fun r => ?_⟩
      · simp only [c_lt, c_gt, c_le, c_ge, c_eq, c_ne, b2_z, b2_nz, b2_i, Classical.not_not, t0, t1, Nat.reduceMod, Nat.reduceDiv, Int.reduceAdd, Int.reduceNeg, Nat.reduceAdd, kv_m1, kv_3, kv_4, kv_5, kv_6, kv_7, kv_8, kv_16, kc_3, kc_4, kc_5, kc_6, kc_7, kc_8, kc_16, en] at r
        (conv => whnf); refine ⟨fun t => ?_, fun t => ?_⟩
        · simp only [c_lt, c_gt, c_le, c_ge, c_eq, c_ne, b2_z, b2_nz, b2_i, Classical.not_not, t0, t1, Nat.reduceMod, Nat.reduceDiv, Int.reduceAdd, Int.reduceNeg, Nat.reduceAdd, kv_m1, kv_3, kv_4, kv_5, kv_6, kv_7, kv_8, kv_16, kc_3, kc_4, kc_5, kc_6, kc_7, kc_8, kc_16, en] at t
          (conv => whnf); refine ⟨fun u1 => ?_, fun u1 => ?_⟩
          · simp only [c_lt, c_gt, c_le, c_ge, c_eq, c_ne, b2_z, b2_nz, b2_i, Classical.not_not, t0, t1, Nat.reduceMod, Nat.reduceDiv, Int.reduceAdd, Int.reduceNeg, Nat.reduceAdd, kv_m1, kv_3, kv_4, kv_5, kv_6, kv_7, kv_8, kv_16, kc_3, kc_4, kc_5, kc_6, kc_7, kc_8, kc_16] at u1
            (conv => whnf); refine ⟨fun u2 => ?_, fun u2 => ?_⟩
            · simp only [c_lt, c_gt, c_le, c_ge, c_eq, c_ne, b2_z, b2_nz, b2_i, Classical.not_not, t0, t1, Nat.reduceMod, Nat.reduceDiv, Int.reduceAdd, Int.reduceNeg, Nat.reduceAdd, kv_m1, kv_3, kv_4, kv_5, kv_6, kv_7, kv_8, kv_16, kc_3, kc_4, kc_5, kc_6, kc_7, kc_8, kc_16] at u2
              (conv => whnf); refine ⟨fun u3 => ?_, fun u3 => ?_⟩
              · simp only [c_lt, c_gt, c_le, c_ge, c_eq, c_ne, b2_z, b2_nz, b2_i, Classical.not_not, t0, t1, Nat.reduceMod, Nat.reduceDiv, Int.reduceAdd, Int.reduceNeg, Nat.reduceAdd, kv_m1, kv_3, kv_4, kv_5, kv_6, kv_7, kv_8, kv_16, kc_3, kc_4, kc_5, kc_6, kc_7, kc_8, kc_16] at u3
                rw [if_neg (by omega), if_neg (by omega), if_neg (by omega)] at hZ
                conv => whnf
                exact hZ _ _ ⟨rfl, rfl⟩
              · simp only [c_lt, c_gt, c_le, c_ge, c_eq, c_ne, b2_z, b2_nz, b2_i, Classical.not_not, t0, t1, Nat.reduceMod, Nat.reduceDiv, Int.reduceAdd, Int.reduceNeg, Nat.reduceAdd, kv_m1, kv_3, kv_4, kv_5, kv_6, kv_7, kv_8, kv_16, kc_3, kc_4, kc_5, kc_6, kc_7, kc_8, kc_16] at u3
                rw [if_neg (by omega), if_neg (by omega), if_pos (by omega), if_neg (by omega), if_neg (by omega)] at hZ
                conv => whnf
                exact hZ _ _ ⟨v_eq h.2.2.2.2.1, rfl⟩
            · simp only [c_lt, c_gt, c_le, c_ge, c_eq, c_ne, b2_z, b2_nz, b2_i, Classical.not_not, t0, t1, Nat.reduceMod, Nat.reduceDiv, Int.reduceAdd, Int.reduceNeg, Nat.reduceAdd, kv_m1, kv_3, kv_4, kv_5, kv_6, kv_7, kv_8, kv_16, kc_3, kc_4, kc_5, kc_6, kc_7, kc_8, kc_16] at u2
              rw [if_neg (by omega), if_neg (by omega), if_pos (by omega), if_neg (by omega), if_pos (by omega)] at hZ
              conv => whnf
              exact hZ _ _ ⟨v_eq h2.2.2.1, rfl⟩
          · simp only [c_lt, c_gt, c_le, c_ge, c_eq, c_ne, b2_z, b2_nz, b2_i, Classical.not_not, t0, t1, Nat.reduceMod, Nat.reduceDiv, Int.reduceAdd, Int.reduceNeg, Nat.reduceAdd, kv_m1, kv_3, kv_4, kv_5, kv_6, kv_7, kv_8, kv_16, kc_3, kc_4, kc_5, kc_6, kc_7, kc_8, kc_16] at u1
            rw [if_neg (by omega), if_neg (by omega), if_pos (by omega), if_pos (by omega)] at hZ
            conv => whnf
            exact hZ _ _ ⟨v_eq h2.2.1, rfl⟩
        · simp only [c_lt, c_gt, c_le, c_ge, c_eq, c_ne, b2_z, b2_nz, b2_i, Classical.not_not, t0, t1, Nat.reduceMod, Nat.reduceDiv, Int.reduceAdd, Int.reduceNeg, Nat.reduceAdd, kv_m1, kv_3, kv_4, kv_5, kv_6, kv_7, kv_8, kv_16, kc_3, kc_4, kc_5, kc_6, kc_7, kc_8, kc_16, en] at t
          rw [if_neg (by omega), if_neg (by omega), if_neg (by omega)] at hZ
          conv => whnf
          exact hZ _ _ ⟨rfl, rfl⟩
      · simp only [c_lt, c_gt, c_le, c_ge, c_eq, c_ne, b2_z, b2_nz, b2_i, Classical.not_not, t0, t1, Nat.reduceMod, Nat.reduceDiv, Int.reduceAdd, Int.reduceNeg, Nat.reduceAdd, kv_m1, kv_3, kv_4, kv_5, kv_6, kv_7, kv_8, kv_16, kc_3, kc_4, kc_5, kc_6, kc_7, kc_8, kc_16] at r
        (conv => whnf); refine ret_k hC (sp_hasRick (by simp [isYd]) h1) ?_
        (conv => whnf); refine ⟨fun t => ?_, fun t => ?_⟩
        · rw [b2_z, en] at t
          rw [if_pos (by omega), if_neg t] at hZ
          conv => whnf
          exact hZ _ _ ⟨rfl, rfl⟩
        · rw [b2_z, en] at t
          have t := Classical.not_not.mp t
          rw [if_pos (by omega), if_pos t] at hZ
          (conv => whnf); refine ret_k hC (sp_height (r := n) (by simp [isYd]) h1 (by omega)) ?_
          conv => whnf
          exact hZ _ _ ⟨rfl, rfl⟩
    · simp only [c_lt, c_gt, c_le, c_ge, c_eq, c_ne, b2_z, b2_nz, b2_i, Classical.not_not, t0, t1, Nat.reduceMod, Nat.reduceDiv, Int.reduceAdd, Int.reduceNeg, Nat.reduceAdd, kv_m1, kv_3, kv_4, kv_5, kv_6, kv_7, kv_8, kv_16, kc_3, kc_4, kc_5, kc_6, kc_7, kc_8, kc_16] at k
      rw [if_neg (by omega), if_pos (by omega)] at hZ
      (conv => whnf); refine ⟨fun r => ?_, fun r => ?_⟩
      · simp only [c_lt, c_gt, c_le, c_ge, c_eq, c_ne, b2_z, b2_nz, b2_i, Classical.not_not, t0, t1, Nat.reduceMod, Nat.reduceDiv, Int.reduceAdd, Int.reduceNeg, Nat.reduceAdd, kv_m1, kv_3, kv_4, kv_5, kv_6, kv_7, kv_8, kv_16, kc_3, kc_4, kc_5, kc_6, kc_7, kc_8, kc_16, en] at r
        rw [if_neg (by omega)] at hZ
        conv => whnf
        exact hZ _ _ ⟨rfl, rfl⟩
      · simp only [c_lt, c_gt, c_le, c_ge, c_eq, c_ne, b2_z, b2_nz, b2_i, Classical.not_not, t0, t1, Nat.reduceMod, Nat.reduceDiv, Int.reduceAdd, Int.reduceNeg, Nat.reduceAdd, kv_m1, kv_3, kv_4, kv_5, kv_6, kv_7, kv_8, kv_16, kc_3, kc_4, kc_5, kc_6, kc_7, kc_8, kc_16, en] at r
        rw [if_pos (by omega)] at hZ
        (conv => whnf); refine ret_k hC (sp_door (i := n) (by omega)) ?_
        conv => whnf
        exact hZ _ _ ⟨v_eq (h2.2.2.2 n (by omega)), rfl⟩
theorem pb_of {d c : Nat} {M : Mem} {s : St} {x w : Int32} (h : RC c M s) : Call (d + 3) 104 [.ref 0, .int x, .int w] M (RP c M (.int (aOf s x w)) s) :=
  Call_mono (sp_of h) (fun v M' p => by obtain ⟨rfl, rfl⟩ := p; exact RP_same h Fr_refl)
