/-! of, mend, undo, redo -/
theorem RC_ch {c n : Nat} {M M' : Mem} {s : St} {g : List AChg} (h : RC c M s) (p4 : Fr [6, 41] M M') (hn : RNm c M' (sK s) g n) : RC c M' (wC s g n) := by
  obtain ⟨h1, h2, h3, h4, h5, h6, h7, h8, h9, h10, h11, h12, h13⟩ := id h
  exact ⟨RY_fr h1 p4 (by decide), RE_fr h2 p4 (by decide), h3, h4, by rw [Fr_1 p4 0 (by decide)]; exact h5, fun i hi => by rw [Fr_1 p4 53 (by decide)]; exact h6 i hi, RIm_fr h7 p4 (by decide), RT0_fr (A := []) h8 (by rw [Fr_1 p4 2 (by decide)]) (Fr_1 p4 39 (by decide)), RK_fr h9 (by rw [Fr_1 p4 7 (by decide)]) (Fr_1 p4 42 (by decide)), RT_e h10 (by rw [Fr_1 p4 7 (by decide)]) (Fr_1 p4 43 (by decide)), RS_all h11 p4 (by decide), h12, hn⟩
def aUndo (s : St) : Int32 × St := if sN s = 0 then (cI (-5), s) else match (sCg s)[sN s - 1]? with
  | some a => (nI (sN s - 1), setA (wC s (sCg s) (sN s - 1)) a.1 a.2.1 a.2.2.1)
  | none => (cI (-5), s)
def aRedo (s : St) : Int32 × St := match (sCg s)[sN s]? with
  | some a => (nI ((sCg s).length - (sN s + 1)), setA (wC s (sCg s) (sN s + 1)) a.1 a.2.1 a.2.2.2)
  | none => (cI (-5), s)
theorem setA_N {s : St} {w : Nat} {p : Option Nat} {v : Nat} : (setA s w p v).1.2 = s.1.2 := by
  unfold setA
  repeat' split
  all_goals rfl
/-- a told number -/
def oneA (s : St) (n what : Int32) : Option Nat :=
  if 0 ≤ what.toInt ∧ what.toInt ≤ 3 then (lyA s n).map (fun q => lyF q what.toInt.toNat)
  else if what.toInt = 7 then (if 0 ≤ n.toInt ∧ n.toInt ≤ 7 then some (sDo s n.toInt.toNat) else none)
  else if (4 ≤ what.toInt ∧ what.toInt ≤ 6) ∧ n.toInt = 0 then some (if what.toInt = 4 then sCo s else if what.toInt = 5 then sSt s else sDy s) else none
def oI (o : Option Nat) : Int32 := match o with
  | some v => nI v
  | none => cI (-1)
def aOf (s : St) (n what : Int32) : Int32 :=
  if what.toInt = 8 then (if 0 ≤ n.toInt ∧ n.toInt < ((sK s).length : Int) then nI (hgt (sK s) n.toInt.toNat) else cI (-1)) else oI (oneA s n what)
theorem oneA_l {s : St} {n what : Int32} (h : 0 ≤ what.toInt ∧ what.toInt ≤ 3) : oneA s n what = (lyA s n).map (fun q => lyF q what.toInt.toNat) := if_pos h
theorem sp_of {d c : Nat} {M : Mem} {s : St} {x w : Int32} (h : RC c M s) : Call (d + 3) 81 [.ref 0, .int x, .int w] M (RV (some (.int (aOf s x w))) M) := by
  have h1 := h.k
  have h2 := h.e
  have hl4 := h1.2.1
  refine call_run 400 rfl rfl (fun B Cl Z hZ hB hC => ?_)
  (conv => whnf); refine ⟨fun a => ?_, fun a => ?_⟩
  case' refine_2 =>
    simp only [c_lt, c_gt, c_le, c_ge, c_eq, c_ne, b2_z, b2_nz, b2_i, Classical.not_not, t0, t1, Nat.reduceMod, Nat.reduceDiv, Int.reduceAdd, Int.reduceNeg, Nat.reduceAdd, kv_m1, kv_3, kv_4, kv_5, kv_6, kv_7, kv_8, kv_16, kc_3, kc_4, kc_5, kc_6, kc_7, kc_8, kc_16] at a
    have e9 : aOf s x w = cI (-1) := by
      unfold aOf
      split
      · rw [if_neg (by omega)]
      · have : oneA s x w = none := by
          unfold oneA
          split
          · unfold lyA; rw [if_neg (by omega)]; rfl
          · split
            · rw [if_neg (by omega)]
            · rw [if_neg (by omega)]
        rw [this]; rfl
    rw [e9] at hZ
    conv => whnf
    exact hZ _ _ ⟨rfl, rfl⟩
  simp only [c_lt, c_gt, c_le, c_ge, c_eq, c_ne, b2_z, b2_nz, b2_i, Classical.not_not, t0, t1, Nat.reduceMod, Nat.reduceDiv, Int.reduceAdd, Int.reduceNeg, Nat.reduceAdd, kv_m1, kv_3, kv_4, kv_5, kv_6, kv_7, kv_8, kv_16, kc_3, kc_4, kc_5, kc_6, kc_7, kc_8, kc_16] at a
  obtain ⟨n, rfl, en, hn⟩ := to_nI (x := x) (by omega)
  have y1 : nI n / cI 16 = nI (n / 16) := nI_div (b := 16) hn (by decide)
  have y2 : nI n - nI n / cI 16 * cI 16 = nI (n % 16) := nI_rem (b := 16) hn (by decide)
  have hlow : 4 ≤ w.toInt ∨ w.toInt < 0 → aOf s (nI n) w = if w.toInt = 8 then (if 0 ≤ (nI n).toInt ∧ (nI n).toInt < ((sK s).length : Int) then nI (hgt (sK s) (nI n).toInt.toNat) else cI (-1)) else oI (if w.toInt = 7 then (if 0 ≤ (nI n).toInt ∧ (nI n).toInt ≤ 7 then some (sDo s (nI n).toInt.toNat) else none)
      else if (4 ≤ w.toInt ∧ w.toInt ≤ 6) ∧ (nI n).toInt = 0 then some (if w.toInt = 4 then sCo s else if w.toInt = 5 then sSt s else sDy s) else none) := by
    intro hw
    unfold aOf oneA
    rw [if_neg (c := 0 ≤ w.toInt ∧ w.toInt ≤ 3) (by omega)]
  rw [en] at hlow
  have tail : 4 ≤ w.toInt ∨ w.toInt < 0 → True := fun _ => trivial
  (conv => whnf); refine ⟨fun b => ?_, fun b => ?_⟩
  case' refine_1 =>
    simp only [c_lt, c_gt, c_le, c_ge, c_eq, c_ne, b2_z, b2_nz, b2_i, Classical.not_not, t0, t1, Nat.reduceMod, Nat.reduceDiv, Int.reduceAdd, Int.reduceNeg, Nat.reduceAdd, kv_m1, kv_3, kv_4, kv_5, kv_6, kv_7, kv_8, kv_16, kc_3, kc_4, kc_5, kc_6, kc_7, kc_8, kc_16] at b
    have e8 := hlow (Or.inr (by omega))
    rw [e8] at hZ
  case' refine_2 =>
    simp only [c_lt, c_gt, c_le, c_ge, c_eq, c_ne, b2_z, b2_nz, b2_i, Classical.not_not, t0, t1, Nat.reduceMod, Nat.reduceDiv, Int.reduceAdd, Int.reduceNeg, Nat.reduceAdd, kv_m1, kv_3, kv_4, kv_5, kv_6, kv_7, kv_8, kv_16, kc_3, kc_4, kc_5, kc_6, kc_7, kc_8, kc_16] at b
    (conv => whnf); refine ⟨fun g => ?_, fun g => ?_⟩
    case' refine_1 =>
      simp only [c_lt, c_gt, c_le, c_ge, c_eq, c_ne, b2_z, b2_nz, b2_i, Classical.not_not, t0, t1, Nat.reduceMod, Nat.reduceDiv, Int.reduceAdd, Int.reduceNeg, Nat.reduceAdd, kv_m1, kv_3, kv_4, kv_5, kv_6, kv_7, kv_8, kv_16, kc_3, kc_4, kc_5, kc_6, kc_7, kc_8, kc_16] at g
      have e8 := hlow (Or.inl (by omega))
      rw [e8] at hZ
  case' refine_2.refine_2 =>
    simp only [c_lt, c_gt, c_le, c_ge, c_eq, c_ne, b2_z, b2_nz, b2_i, Classical.not_not, t0, t1, Nat.reduceMod, Nat.reduceDiv, Int.reduceAdd, Int.reduceNeg, Nat.reduceAdd, kv_m1, kv_3, kv_4, kv_5, kv_6, kv_7, kv_8, kv_16, kc_3, kc_4, kc_5, kc_6, kc_7, kc_8, kc_16] at g
    obtain ⟨j, rfl, ej, hj⟩ := to_nI (x := w) (by omega)
    have e8 : aOf s (nI n) (nI j) = oI ((lyA s (nI n)).map (fun q => lyF q j)) := by
      unfold aOf
      rw [if_neg (by omega), oneA_l (by omega), ej]
      rfl
    rw [e8] at hZ
    (conv => whnf)
    refine ⟨by decide, ?_⟩
    (conv => whnf)
    refine ⟨by decide, ?_⟩
    (conv => whnf)
    rw [y2, y1]
    refine ret_k hC (sp_hasLayer (by simp [isYd]) h1 (show n / 16 < 2147483648 by omega) (by omega)) ?_
    (conv => whnf); refine ⟨fun k => ?_, fun k => ?_⟩
    · rw [b2_z] at k
      rw [lyA_n (by rw [en]; exact fun z => k z.2)] at hZ
      conv => whnf
      exact hZ _ _ ⟨rfl, rfl⟩
    · rw [b2_z] at k
      obtain ⟨q, n', e1, e2, e3, e4, e5⟩ := lyA_s (s := s) (x := nI n) ⟨by omega, by rw [en]; exact Classical.not_not.mp k⟩
      obtain rfl : n = n' := nI_inj hn e2 e1
      rw [e5] at hZ
      (conv => whnf)
      refine ⟨by decide, ?_⟩
      (conv => whnf)
      refine ⟨by decide, ?_⟩
      (conv => whnf)
      rw [y2, y1]
      refine ret_k hC (sp_number (by simp [isYd]) h1 e4 (show j < 4 by omega)) ?_
      conv => whnf
      exact hZ _ _ ⟨rfl, rfl⟩
  all_goals
    (conv => whnf); refine ⟨fun k => ?_, fun k => ?_⟩
    · simp only [c_lt, c_gt, c_le, c_ge, c_eq, c_ne, b2_z, b2_nz, b2_i, Classical.not_not, t0, t1, Nat.reduceMod, Nat.reduceDiv, Int.reduceAdd, Int.reduceNeg, Nat.reduceAdd, kv_m1, kv_3, kv_4, kv_5, kv_6, kv_7, kv_8, kv_16, kc_3, kc_4, kc_5, kc_6, kc_7, kc_8, kc_16] at k
      (conv => whnf); refine ⟨fun r => ?_, fun r => ?_⟩
      · simp only [c_lt, c_gt, c_le, c_ge, c_eq, c_ne, b2_z, b2_nz, b2_i, Classical.not_not, t0, t1, Nat.reduceMod, Nat.reduceDiv, Int.reduceAdd, Int.reduceNeg, Nat.reduceAdd, kv_m1, kv_3, kv_4, kv_5, kv_6, kv_7, kv_8, kv_16, kc_3, kc_4, kc_5, kc_6, kc_7, kc_8, kc_16, en] at r
        (conv => whnf); refine ⟨fun t => ?_, fun t => ?_⟩
        · simp only [c_lt, c_gt, c_le, c_ge, c_eq, c_ne, b2_z, b2_nz, b2_i, Classical.not_not, t0, t1, Nat.reduceMod, Nat.reduceDiv, Int.reduceAdd, Int.reduceNeg, Nat.reduceAdd, kv_m1, kv_3, kv_4, kv_5, kv_6, kv_7, kv_8, kv_16, kc_3, kc_4, kc_5, kc_6, kc_7, kc_8, kc_16, en] at t
          (conv => whnf); refine ⟨fun u1 => ?_, fun u1 => ?_⟩
          · simp only [c_lt, c_gt, c_le, c_ge, c_eq, c_ne, b2_z, b2_nz, b2_i, Classical.not_not, t0, t1, Nat.reduceMod, Nat.reduceDiv, Int.reduceAdd, Int.reduceNeg, Nat.reduceAdd, kv_m1, kv_3, kv_4, kv_5, kv_6, kv_7, kv_8, kv_16, kc_3, kc_4, kc_5, kc_6, kc_7, kc_8, kc_16] at u1
            (conv => whnf); refine ⟨fun u2 => ?_, fun u2 => ?_⟩
            · simp only [c_lt, c_gt, c_le, c_ge, c_eq, c_ne, b2_z, b2_nz, b2_i, Classical.not_not, t0, t1, Nat.reduceMod, Nat.reduceDiv, Int.reduceAdd, Int.reduceNeg, Nat.reduceAdd, kv_m1, kv_3, kv_4, kv_5, kv_6, kv_7, kv_8, kv_16, kc_3, kc_4, kc_5, kc_6, kc_7, kc_8, kc_16] at u2
              (conv => whnf); refine ⟨fun u3 => ?_, fun u3 => ?_⟩
              · simp only [c_lt, c_gt, c_le, c_ge, c_eq, c_ne, b2_z, b2_nz, b2_i, Classical.not_not, t0, t1, Nat.reduceMod, Nat.reduceDiv, Int.reduceAdd, Int.reduceNeg, Nat.reduceAdd, kv_m1, kv_3, kv_4, kv_5, kv_6, kv_7, kv_8, kv_16, kc_3, kc_4, kc_5, kc_6, kc_7, kc_8, kc_16] at u3
                rw [if_neg (by omega), if_neg (by omega), if_neg (by omega)] at hZ
                conv => whnf
                exact hZ _ _ ⟨rfl, rfl⟩
              · simp only [c_lt, c_gt, c_le, c_ge, c_eq, c_ne, b2_z, b2_nz, b2_i, Classical.not_not, t0, t1, Nat.reduceMod, Nat.reduceDiv, Int.reduceAdd, Int.reduceNeg, Nat.reduceAdd, kv_m1, kv_3, kv_4, kv_5, kv_6, kv_7, kv_8, kv_16, kc_3, kc_4, kc_5, kc_6, kc_7, kc_8, kc_16] at u3
                rw [if_neg (by omega), if_neg (by omega), if_pos (by omega), if_neg (by omega), if_neg (by omega)] at hZ
                conv => whnf
                exact hZ _ _ ⟨v_eq h.2.2.2.2.1, rfl⟩
            · simp only [c_lt, c_gt, c_le, c_ge, c_eq, c_ne, b2_z, b2_nz, b2_i, Classical.not_not, t0, t1, Nat.reduceMod, Nat.reduceDiv, Int.reduceAdd, Int.reduceNeg, Nat.reduceAdd, kv_m1, kv_3, kv_4, kv_5, kv_6, kv_7, kv_8, kv_16, kc_3, kc_4, kc_5, kc_6, kc_7, kc_8, kc_16] at u2
              rw [if_neg (by omega), if_neg (by omega), if_pos (by omega), if_neg (by omega), if_pos (by omega)] at hZ
              conv => whnf
              exact hZ _ _ ⟨v_eq h2.2.2.1, rfl⟩
          · simp only [c_lt, c_gt, c_le, c_ge, c_eq, c_ne, b2_z, b2_nz, b2_i, Classical.not_not, t0, t1, Nat.reduceMod, Nat.reduceDiv, Int.reduceAdd, Int.reduceNeg, Nat.reduceAdd, kv_m1, kv_3, kv_4, kv_5, kv_6, kv_7, kv_8, kv_16, kc_3, kc_4, kc_5, kc_6, kc_7, kc_8, kc_16] at u1
            rw [if_neg (by omega), if_neg (by omega), if_pos (by omega), if_pos (by omega)] at hZ
            conv => whnf
            exact hZ _ _ ⟨v_eq h2.2.1, rfl⟩
        · simp only [c_lt, c_gt, c_le, c_ge, c_eq, c_ne, b2_z, b2_nz, b2_i, Classical.not_not, t0, t1, Nat.reduceMod, Nat.reduceDiv, Int.reduceAdd, Int.reduceNeg, Nat.reduceAdd, kv_m1, kv_3, kv_4, kv_5, kv_6, kv_7, kv_8, kv_16, kc_3, kc_4, kc_5, kc_6, kc_7, kc_8, kc_16, en] at t
          rw [if_neg (by omega), if_neg (by omega), if_neg (by omega)] at hZ
          conv => whnf
          exact hZ _ _ ⟨rfl, rfl⟩
      · simp only [c_lt, c_gt, c_le, c_ge, c_eq, c_ne, b2_z, b2_nz, b2_i, Classical.not_not, t0, t1, Nat.reduceMod, Nat.reduceDiv, Int.reduceAdd, Int.reduceNeg, Nat.reduceAdd, kv_m1, kv_3, kv_4, kv_5, kv_6, kv_7, kv_8, kv_16, kc_3, kc_4, kc_5, kc_6, kc_7, kc_8, kc_16] at r
        (conv => whnf); refine ret_k hC (sp_hasRick (by simp [isYd]) h1) ?_
        (conv => whnf); refine ⟨fun t => ?_, fun t => ?_⟩
        · rw [b2_z, en] at t
          rw [if_pos (by omega), if_neg t] at hZ
          conv => whnf
          exact hZ _ _ ⟨rfl, rfl⟩
        · rw [b2_z, en] at t
          have t := Classical.not_not.mp t
          rw [if_pos (by omega), if_pos t] at hZ
          (conv => whnf); refine ret_k hC (sp_height (r := n) (by simp [isYd]) h1 (by omega)) ?_
          conv => whnf
          exact hZ _ _ ⟨rfl, rfl⟩
    · simp only [c_lt, c_gt, c_le, c_ge, c_eq, c_ne, b2_z, b2_nz, b2_i, Classical.not_not, t0, t1, Nat.reduceMod, Nat.reduceDiv, Int.reduceAdd, Int.reduceNeg, Nat.reduceAdd, kv_m1, kv_3, kv_4, kv_5, kv_6, kv_7, kv_8, kv_16, kc_3, kc_4, kc_5, kc_6, kc_7, kc_8, kc_16] at k
      rw [if_neg (by omega), if_pos (by omega)] at hZ
      (conv => whnf); refine ⟨fun r => ?_, fun r => ?_⟩
      · simp only [c_lt, c_gt, c_le, c_ge, c_eq, c_ne, b2_z, b2_nz, b2_i, Classical.not_not, t0, t1, Nat.reduceMod, Nat.reduceDiv, Int.reduceAdd, Int.reduceNeg, Nat.reduceAdd, kv_m1, kv_3, kv_4, kv_5, kv_6, kv_7, kv_8, kv_16, kc_3, kc_4, kc_5, kc_6, kc_7, kc_8, kc_16, en] at r
        rw [if_neg (by omega)] at hZ
        conv => whnf
        exact hZ _ _ ⟨rfl, rfl⟩
      · simp only [c_lt, c_gt, c_le, c_ge, c_eq, c_ne, b2_z, b2_nz, b2_i, Classical.not_not, t0, t1, Nat.reduceMod, Nat.reduceDiv, Int.reduceAdd, Int.reduceNeg, Nat.reduceAdd, kv_m1, kv_3, kv_4, kv_5, kv_6, kv_7, kv_8, kv_16, kc_3, kc_4, kc_5, kc_6, kc_7, kc_8, kc_16, en] at r
        rw [if_pos (by omega)] at hZ
        (conv => whnf); refine ret_k hC (sp_door (i := n) (by omega)) ?_
        conv => whnf
        exact hZ _ _ ⟨v_eq (h2.2.2.2 n (by omega)), rfl⟩
theorem pb_of {d c : Nat} {M : Mem} {s : St} {x w : Int32} (h : RC c M s) : Call (d + 3) 81 [.ref 0, .int x, .int w] M (RP c M (.int (aOf s x w)) s) :=
  Call_mono (sp_of h) (fun v M' p => by obtain ⟨rfl, rfl⟩ := p; exact RP_same h Fr_refl)
