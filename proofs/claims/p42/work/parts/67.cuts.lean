/-! drawn, cut, back, layers -/
def drw (E : EnvK) (rk : Rk) (r : Int32) (m : Nat) : Nat → Int32 → Int32 → Int32 → Int32 × Int32
  | 0, _, b, st => (b, st)
  | n + 1, z, b, st => drw E rk r m n (wdraw E m z (w0 rk)).1 (b + (wdraw E m z (w0 rk)).2.2.2.1) (if 0 ≤ r.toInt then st + b2 (lM E (wdraw E m z (w0 rk)).2.1 r.toInt.toNat ≤ E.2.2.1) else st)
def aDrawn (s : St) (z nm r : Int32) : Int32 :=
  if (0 ≤ nm.toInt ∧ (1 ≤ nm.toInt.toNat / 100 ∧ nm.toInt.toNat / 100 ≤ 30) ∧ 1 ≤ nm.toInt.toNat % 100 ∧ nm.toInt.toNat % 100 ≤ 12) ∧ -1 ≤ r.toInt ∧ r.toInt < ((sK s).length : Int) then
    (if r.toInt < 0 then (drw (envS s) (sK s) r (nm.toInt.toNat % 100) (nm.toInt.toNat / 100) z (cI 0) (cI 0)).1 else (drw (envS s) (sK s) r (nm.toInt.toNat % 100) (nm.toInt.toNat / 100) z (cI 0) (cI 0)).2) else cI (-1)
theorem neg_div {x : Int32} (h : x.toInt < 0) : (x / cI 100).toInt ≤ 0 := by
  have h2 := Int32.le_toInt x
  rw [Int32.toInt_div, kv_100]
  obtain ⟨k, hk⟩ := Int.eq_ofNat_of_zero_le (a := -x.toInt) (by omega)
  have e : x.toInt = -(k : Int) := by omega
  rw [e, Int.neg_tdiv]
  have e2 : ((k : Int)).tdiv 100 = ((k / 100 : Nat) : Int) := (Int.ofNat_tdiv k 100).symm
  rw [e2]
  have hk2 : k ≤ 2147483648 := by omega
  rw [Int.bmod_eq_of_le (by omega) (by omega)]
  omega
/-- a layer cut: what it does to the changes -/
def cutP (p q : Nat) : Option Nat := if q = p then none else if q / 16 = p / 16 ∧ p < q then some (q - 1) else some q
def cutC (p : Nat) (a : AChg) : AChg := if a.1 ≤ 3 then (a.1, a.2.1.bind (cutP p), a.2.2) else a
def deadC (a : AChg) : AChg := if a.1 ≤ 3 then (a.1, none, a.2.2) else a
theorem cutR_hgt {rk : Rk} {r l r' : Nat} (hl : l < hgt rk r) : hgt (cutR rk r l) r' = if r' = r then hgt rk r - 1 else hgt rk r' := by
  unfold hgt cutR
  rw [getD_set (hgt_lt hl)]
  split
  · rw [List.length_eraseIdx, if_pos (show l < (rk.getD r []).length from hl)]
  · rfl
theorem RNm_cut {c r l : Nat} {M M' : Mem} {rk : Rk} {ch : List AChg} {n : Nat} (h : RNm c M rk ch n) (hl : l < hgt rk r) (hall : ∀ r, hgt rk r ≤ 12) (h1 : M'.1 6 = M.1 6) (h2 : M'.1 41 = M.1 41) (h3 : M'.1 0 15 = M.1 0 15)
    (h4 : ∀ j, M'.1 12 j = if 12 * r + l ≤ j ∧ j < 12 * r + hgt rk r - 1 then M.1 12 (j + 1) else M.1 12 j) : RNm c M' (cutR rk r l) (ch.map (cutC (16 * r + l))) n := by
  obtain ⟨cs, nm, ev, a1, a2, a3, a4, a5, a6, a7⟩ := h
  have hr12 := hall r
  have hin : ∀ {r' l' : Nat}, l' < hgt (cutR rk r l) r' → (if r' = r ∧ l ≤ l' then l' + 1 else l') < hgt rk r' := fun {r' l'} q => by
    rw [cutR_hgt hl] at q
    split at q
    · next z => subst z; split <;> omega
    · next z => rw [if_neg (by omega)]; exact q
  have hnm : ∀ {r' l' : Nat}, l' < hgt (cutR rk r l) r' → (if 12 * r + l ≤ 12 * r' + l' ∧ 12 * r' + l' < 12 * r + hgt rk r - 1 then nm (12 * r' + l' + 1) else nm (12 * r' + l')) = nm (12 * r' + (if r' = r ∧ l ≤ l' then l' + 1 else l')) := fun {r' l'} q => by
    have q2 := hin q
    have q3 := hall r'
    rw [cutR_hgt hl] at q
    by_cases z : r' = r
    · subst z
      rw [if_pos rfl] at q
      by_cases y : l ≤ l'
      · rw [if_pos (by omega), if_pos ⟨rfl, y⟩]; rfl
      · rw [if_neg (by omega), if_neg (by omega)]
    · rw [if_neg z] at q
      rw [if_neg (by omega), if_neg (fun y => z y.1)]
  refine ⟨cs, fun i => if 12 * r + l ≤ i ∧ i < 12 * r + hgt rk r - 1 then nm (i + 1) else nm i, ev, ?_, by rw [h3]; exact a2, a3, fun r' l' hl' => ?_, fun r' l' r2 l2 hl' hl2 he => ?_, by rw [List.length_map]; exact a6, fun i x a hx ha => ?_⟩
  · unfold RCh at a1 ⊢
    rw [h1, h2]
    exact a1
  · dsimp only
    have q := a4 _ _ (hin hl')
    rw [hnm hl']
    refine ⟨?_, q.2⟩
    rw [h4, ← q.1]
    have q2 := hin hl'
    have q3 := hall r'
    rw [cutR_hgt hl] at hl'
    by_cases z : r' = r
    · subst z
      rw [if_pos rfl] at hl'
      by_cases y : l ≤ l'
      · rw [if_pos (by omega), if_pos ⟨rfl, y⟩]; rfl
      · rw [if_neg (by omega), if_neg (by omega)]
    · rw [if_neg z] at hl'
      rw [if_neg (by omega), if_neg (fun y => z y.1)]
  · dsimp only at he
    rw [hnm hl', hnm hl2] at he
    have := a5 _ _ _ _ (hin hl') (hin hl2) he
    obtain ⟨rfl, q⟩ := this
    refine ⟨rfl, ?_⟩
    split at q <;> split at q <;> omega
  · rw [List.getElem?_map] at ha
    obtain ⟨a', ha', rfl⟩ := Option.map_eq_some_iff.mp ha
    obtain ⟨b1, b2, b3, b4, b5, b6, b7⟩ := a7 i x a' hx ha'
    unfold cutC
    by_cases z : a'.1 ≤ 3
    · rw [if_pos z]
      rw [if_pos z] at b7
      refine ⟨b1, b2, b3, b4, b5, b6, ?_⟩
      show if a'.1 ≤ 3 then _ else _
      rw [if_pos z]
      show (match a'.2.1.bind (cutP (16 * r + l)) with | some p => _ | none => _)
      cases hp : a'.2.1 with
      | none =>
        rw [hp] at b7
        obtain ⟨w, w1, w2, w3⟩ := b7
        refine ⟨w, w1, w2, fun r' l' hl' => ?_⟩
        dsimp only
        rw [hnm hl']
        exact w3 _ _ (hin hl')
      | some p =>
        rw [hp] at b7
        obtain ⟨c1, c2⟩ := b7
        show (match cutP (16 * r + l) p with | some p => _ | none => _)
        have hp12 := hall (p / 16)
        unfold cutP
        by_cases y : p = 16 * r + l
        · rw [if_pos y]
          have y1 : p / 16 = r := by omega
          have y2 : p % 16 = l := by omega
          rw [y1, y2] at c2
          refine ⟨nm (12 * r + l), c2, (a4 r l hl).2, fun r' l' hl' => ?_⟩
          dsimp only
          rw [hnm hl']
          intro q
          have := a5 _ _ _ _ (hin hl') hl q
          obtain ⟨rfl, q2⟩ := this
          split at q2 <;> omega
        · rw [if_neg y]
          by_cases y2 : p / 16 = (16 * r + l) / 16 ∧ 16 * r + l < p
          · rw [if_pos y2]
            have f1 : p / 16 = r := by omega
            have f2 : l < p % 16 := by omega
            have f3 : (p - 1) / 16 = r := by omega
            have f4 : (p - 1) % 16 = p % 16 - 1 := by omega
            rw [f1] at c1 c2
            refine ⟨?_, ?_⟩
            · show (p - 1) % 16 < hgt (cutR rk r l) ((p - 1) / 16)
              rw [f3, f4, cutR_hgt hl, if_pos rfl]
              omega
            · show x.2.1 = nI (if 12 * r + l ≤ 12 * ((p - 1) / 16) + (p - 1) % 16 ∧ 12 * ((p - 1) / 16) + (p - 1) % 16 < 12 * r + hgt rk r - 1 then nm (12 * ((p - 1) / 16) + (p - 1) % 16 + 1) else nm (12 * ((p - 1) / 16) + (p - 1) % 16))
              rw [f3, f4, if_pos (by omega), c2]
              congr 2
              omega
          · rw [if_neg y2]
            refine ⟨?_, ?_⟩
            · show p % 16 < hgt (cutR rk r l) (p / 16)
              rw [cutR_hgt hl]
              split
              · next f => rw [f] at c1; omega
              · exact c1
            · show x.2.1 = nI (if 12 * r + l ≤ 12 * (p / 16) + p % 16 ∧ 12 * (p / 16) + p % 16 < 12 * r + hgt rk r - 1 then nm (12 * (p / 16) + p % 16 + 1) else nm (12 * (p / 16) + p % 16))
              rw [if_neg (by omega)]
              exact c2
    · rw [if_neg z]
      rw [if_neg z] at b7
      exact ⟨b1, b2, b3, b4, b5, b6, by rw [if_neg z]; exact b7⟩
def cutD (s : St) (k : Int32) (w : Nat) : Nat → Int32 := if (envS s).2.2.2 w ≤ k then upD (upD (upD (sDe s) 1 (sDe s 1 + cI 1)) 2 (sDe s 2 + k)) 3 (sDe s 3 + cI 1) else upD (upD (sDe s) 1 (sDe s 1 + cI 1)) 2 (sDe s 2 + k)
def cutS (s : St) (r l : Nat) (k : Int32) (w : Nat) : St := wDe (wC (wK s (cutR (sK s) r l)) ((sCg s).map (cutC (16 * r + l))) (sN s)) (cutD s k w)
def aCut (s : St) (x : Int32) : Int32 × St := match lyA s x with
  | none => (cI (-1), s)
  | some q => (kp (envS s) (sK s) (x.toInt.toNat / 16) (x.toInt.toNat % 16) q, cutS s (x.toInt.toNat / 16) (x.toInt.toNat % 16) (kp (envS s) (sK s) (x.toInt.toNat / 16) (x.toInt.toNat % 16) q) q.1)
theorem cut_end {c r l : Nat} {M M2 M3 : Mem} {s : St} {k : Int32} {w : Nat} (h : RC c M s) (hl : l < hgt (sK s) r) (hF : Fr [37, 38, 53] M M2) (hd : ∀ i, i < 5 → M2.1 53 i = cutD s k w i) (p2 : Fr [11, 12, 13] M2 M3) (p3 : RY M3 10 (cutR (sK s) r l)) (p4 : ∀ j, M3.1 12 j = if 12 * r + l ≤ j ∧ j < 12 * r + hgt (sK s) r - 1 then M2.1 12 (j + 1) else M2.1 12 j) : RC (c + 60) M3 (cutS s r l k w) ∧ Fr CA M M3 := by
  obtain ⟨h1, h2, h3, h4, h5, h6, h7, h8, h9, h10, h11, h12, h13⟩ := id h
  have hG : Fr [37, 38, 53, 11, 12, 13] M M3 := Fr_trans (Fr_sub hF (by decide)) (Fr_sub p2 (by decide))
  refine ⟨⟨p3, RE_fr h2 hG (by decide), h3, h4, by rw [Fr_1 hG 0 (by decide)]; exact h5, fun i hi => ?_, RIm_e h7 (by show _ ≤ (cutR (sK s) r l).length; unfold cutR; rw [List.length_set]; exact Nat.le_refl _) (by rw [Fr_1 hG 0 (by decide)]) (by rw [Fr_1 hG 0 (by decide)]) (Fr_1 hG 14 (by decide)) (Fr_1 hG 15 (by decide)) (Fr_1 hG 17 (by decide)) (Fr_1 hG 54 (by decide)), RT0_fr (A := []) h8 (by rw [Fr_1 hG 2 (by decide)]) (Fr_1 hG 39 (by decide)), RK_fr h9 (by rw [Fr_1 hG 7 (by decide)]) (Fr_1 hG 42 (by decide)), RT_e h10 (by rw [Fr_1 hG 7 (by decide)]) (Fr_1 hG 43 (by decide)), RS_all h11 hG (by decide), h12, ?_⟩, Fr_sub hG (by decide)⟩
  · rw [Fr_1 p2 53 (by decide)]; exact hd i hi
  · exact RNm_up (RNm_cut h13 hl h1.2.2.2.1 (Fr_1 hG 6 (by decide)) (Fr_1 hG 41 (by decide)) (by rw [Fr_1 hG 0 (by decide)]) (fun j => by rw [p4 j, Fr_1 hF 12 (by decide)]))
theorem pb_cut {d c : Nat} {M : Mem} {s : St} {x : Int32} (h : RC c M s) : Call (d + 5) 93 [.ref 0, .int x] M (RP c M (.int (aCut s x).1) (aCut s x).2) := by
  have h1 := h.k
  have h2 := h.e
  refine call_run 400 rfl rfl (fun B Cl Z hZ hB hC => ?_)
  (conv => whnf); refine ret_k hC (sp_hasLayerAt h1) ?_
  (conv => whnf); refine ⟨fun b => ?_, fun b => ?_⟩
  case' refine_2 =>
    rw [b2_nz] at b
    have e9 : aCut s x = (cI (-1), s) := by unfold aCut; rw [lyA_n b]
    rw [e9] at hZ
    conv => whnf
    exact hZ _ _ (RP_same h Fr_refl)
  rw [b2_nz] at b
  obtain ⟨q, m, rfl, hm, e, hq, ha⟩ := lyA_s b
  have y1 : nI m / cI 16 = nI (m / 16) := nI_div (b := 16) hm (by decide)
  have y2 : nI m - nI m / cI 16 * cI 16 = nI (m % 16) := nI_rem (b := 16) hm (by decide)
  have hl := ly_lt hq
  have hq1 : q.1 < 8 := (h1.2.2.2.2 _ _ _ hq).1.1
  have e8 : aCut s (nI m) = (kp (envS s) (sK s) (m / 16) (m % 16) q, cutS s (m / 16) (m % 16) (kp (envS s) (sK s) (m / 16) (m % 16) q) q.1) := by unfold aCut; rw [ha, e]; rfl
  rw [e8] at hZ
  (conv => whnf)
  refine ⟨by decide, ?_⟩
  (conv => whnf)
  refine ⟨by decide, ?_⟩
  (conv => whnf)
  rw [y2, y1]
  refine hC _ _ _ _ _ (sp_kept (by simp [isYd]) h1 h2.1 hq) (fun v M1 p => ?_)
  obtain ⟨rfl, p2⟩ := p
  rw [h2.2.1]
  have hkk : kpt (envS s).1 (envS s).2.1 (hgt (sK s) (m / 16)) (m % 16) q = kp (envS s) (sK s) (m / 16) (m % 16) q := rfl
  rw [hkk]
  have hcd : ∀ i, (if (envS s).2.2.2 q.1 ≤ kp (envS s) (sK s) (m / 16) (m % 16) q then upD (upD (upD (sDe s) 1 (sDe s 1 + cI 1)) 2 (sDe s 2 + kp (envS s) (sK s) (m / 16) (m % 16) q)) 3 (sDe s 3 + cI 1) else upD (upD (sDe s) 1 (sDe s 1 + cI 1)) 2 (sDe s 2 + kp (envS s) (sK s) (m / 16) (m % 16) q)) i = cutD s (kp (envS s) (sK s) (m / 16) (m % 16) q) q.1 i := fun i => rfl
  generalize kp (envS s) (sK s) (m / 16) (m % 16) q = k at hZ hcd ⊢
  (conv => whnf)
  refine ⟨nI_vp (c := 1) (by decide) (by decide), ?_⟩
  (conv => whnf)
  refine ⟨nI_vp (c := 1) (by decide) (by decide), ?_⟩
  (conv => whnf)
  refine ⟨nI_vp (c := 2) (by decide) (by decide), ?_⟩
  (conv => whnf)
  refine ⟨nI_vp (c := 2) (by decide) (by decide), ?_⟩
  (conv => whnf)
  refine ⟨by decide, ?_⟩
  (conv => whnf)
  refine ⟨by decide, ?_⟩
  (conv => whnf)
  rw [y2, y1]
  show Cl 68 [.ref 10, .int (nI (m / 16)), .int (nI (m % 16)), .int (nI 0)] (mI (mI M1 53 1 (M1.1 53 1 + cI 1)) 53 2 (M1.1 53 2 + k)) _
  have hF2 : Fr [37, 38, 53] M (mI (mI M1 53 1 (M1.1 53 1 + cI 1)) 53 2 (M1.1 53 2 + k)) := Fr_mI (Fr_mI (Fr_sub p2 (by decide)) (by decide)) (by decide)
  have e53 : ∀ i, i < 5 → (mI (mI M1 53 1 (M1.1 53 1 + cI 1)) 53 2 (M1.1 53 2 + k)).1 53 i = upD (upD (sDe s) 1 (sDe s 1 + cI 1)) 2 (sDe s 2 + k) i := fun i hi => by
    have h6 := h.2.2.2.2.2.1
    simp only [mI_at, upD, Fr_1 p2 53 (by decide), true_and]
    rw [h6 1 (by decide), h6 2 (by decide), h6 i hi]
  generalize (mI (mI M1 53 1 (M1.1 53 1 + cI 1)) 53 2 (M1.1 53 2 + k)) = M2 at hF2 e53 ⊢
  have hY2 := RY_fr h1 hF2 (by decide)
  have hE2 := RE_fr h2 hF2 (by decide)
  refine ret_k hC (sp_number (by simp [isYd]) hY2 hq (show 0 < 4 by omega)) ?_
  (conv => whnf)
  refine ret_k hC (sp_door (i := q.1) hq1) ?_
  rw [hE2.2.2.2 q.1 hq1]
  (conv => whnf); refine ⟨fun t => ?_, fun t => ?_⟩
  · replace t : cnd .lt k ((envS s).2.2.2 q.1) := t
    rw [if_neg (show ¬ (envS s).2.2.2 q.1 ≤ k by rw [le_i]; rw [c_lt] at t; omega)] at hcd
    (conv => whnf)
    refine ⟨by decide, ?_⟩
    (conv => whnf)
    refine ⟨by decide, ?_⟩
    (conv => whnf)
    rw [y2, y1]
    refine hC _ _ _ _ _ (sp_takeOut (Or.inl rfl) hY2 hl) (fun v M3 p => ?_)
    obtain ⟨rfl, z2, z3, z4⟩ := p
    have := cut_end (k := k) (w := q.1) h hl hF2 (fun i hi => by rw [e53 i hi, hcd]) z2 z3 z4
    conv => whnf
    exact hZ _ _ ⟨rfl, this.1, this.2⟩
  · replace t : ¬ cnd .lt k ((envS s).2.2.2 q.1) := t
    rw [if_pos (show (envS s).2.2.2 q.1 ≤ k by rw [le_i]; rw [c_lt] at t; omega)] at hcd
    (conv => whnf)
    refine ⟨nI_vp (c := 3) (by decide) (by decide), ?_⟩
    (conv => whnf)
    refine ⟨nI_vp (c := 3) (by decide) (by decide), ?_⟩
    (conv => whnf)
    refine ⟨by decide, ?_⟩
    (conv => whnf)
    refine ⟨by decide, ?_⟩
    (conv => whnf)
    rw [y2, y1]
    show Cl 72 [.ref 10, .int (nI (m / 16)), .int (nI (m % 16))] (mI M2 53 3 (M2.1 53 3 + cI 1)) _
    have hF3 : Fr [37, 38, 53] M (mI M2 53 3 (M2.1 53 3 + cI 1)) := Fr_mI hF2 (by decide)
    have e54 : ∀ i, i < 5 → (mI M2 53 3 (M2.1 53 3 + cI 1)).1 53 i = cutD s k q.1 i := fun i hi => by
      rw [← hcd, mI_at, e53 3 (by decide), e53 i hi]
      simp only [upD, true_and]
      rfl
    generalize (mI M2 53 3 (M2.1 53 3 + cI 1)) = M2' at hF3 e54 ⊢
    refine hC _ _ _ _ _ (sp_takeOut (Or.inl rfl) (RY_fr h1 hF3 (by decide)) hl) (fun v M3 p => ?_)
    obtain ⟨rfl, z2, z3, z4⟩ := p
    have := cut_end (k := k) (w := q.1) h hl hF3 e54 z2 z3 z4
    conv => whnf
    exact hZ _ _ ⟨rfl, this.1, this.2⟩
