/-! public methods of the class, the plain ones -/
theorem getD_snoc {rk : Rk} {r : Nat} : (rk ++ [[]]).getD r [] = rk.getD r [] := by
  simp only [List.getD]
  rcases Nat.lt_or_ge r rk.length with h | h
  · rw [List.getElem?_append_left h]
  · rw [List.getElem?_append_right h, List.getElem?_eq_none h]
    rcases Nat.eq_zero_or_pos (r - rk.length) with z | z
    · rw [z]; rfl
    · rw [List.getElem?_eq_none (by simp; omega)]
theorem hgt_snoc {rk : Rk} {r : Nat} : hgt (rk ++ [[]]) r = hgt rk r := by unfold hgt; rw [getD_snoc]
theorem RIm_up {M : Mem} {im : Option (Rk × (Nat → Int32) × Nat)} {rk rk' : Rk} (h : RIm M im rk) (hl : rk.length ≤ rk'.length) : RIm M im rk' := by
  match im, h with
  | none, h => exact h
  | some (irk, de, dy), h => exact ⟨h.1, h.2.1, Nat.le_trans h.2.2.1 hl, h.2.2.2⟩
def bad : Value := .int (cI (-1))
theorem RC.k {c : Nat} {M : Mem} {s : St} (h : RC c M s) : RY M 10 (sK s) := h.1
theorem RC.e {c : Nat} {M : Mem} {s : St} (h : RC c M s) : RE M (envS s) := h.2.1
theorem pb_rick {d c : Nat} {M : Mem} {s : St} (h : RC c M s) : Call (d + 1) 78 [.ref 0] M (if (sK s).length = 4 then RP c M (.int (cI (-3))) s else RP c M (.int (nI (sK s).length)) ((sK s ++ [[]], s.1.2), s.2)) := by
  obtain ⟨h1, h2, h3, h4, h5, h6, h7, h8, h9, h10, h11, h12, h13⟩ := id h
  have hl := h1.2.1
  have e := nI_v (n := (sK s).length) (by omega)
  refine call_run 400 rfl rfl (fun B Cl Z hZ hB hC => ?_)
  (conv => whnf); refine ⟨fun b => ?_, fun b => ?_⟩
  · simp only [c_lt, c_gt, c_le, c_ge, c_eq, c_ne, b2_z, b2_nz, b2_i, Classical.not_not, t0, t1, Nat.reduceMod, Nat.reduceDiv, Int.reduceAdd, Int.reduceNeg, Nat.reduceAdd, kv_m3, kv_1, kv_4, kc_1, kc_4, h1.1, e] at b
    rw [if_neg (by omega)] at hZ
    (conv => whnf)
    have hF : ∀ x, Fr [10] M (mI M 10 0 x) := fun x => Fr_mI Fr_refl (by decide)
    have e10 : ∀ (a : Nat), ¬ a = 10 → (mI M 10 0 (M.1 10 0 + cI 1)).1 a = M.1 a := fun a ha => mI_ne _ _ _ ha
    show Z (some (.int ((M.1 10 0 + cI 1) - cI 1))) (mI M 10 0 (M.1 10 0 + cI 1))
    refine hZ _ _ ⟨?_, ⟨⟨?_, ?_, fun r hr => ?_, fun r => ?_, fun r l q hq => ?_⟩, RE_fr (A := [10]) h2 (hF _) (by decide), h3, h4, by rw [e10 0 (by decide)]; exact h5, fun i hi => by rw [e10 53 (by decide)]; exact h6 i hi, ?_, RT0_fr (A := []) h8 (by rw [e10 2 (by decide)]) (e10 39 (by decide)), RK_fr h9 (by rw [e10 7 (by decide)]) (e10 42 (by decide)), ?_, fun i hi => ?_, h12, ?_⟩, Fr_sub (hF _) (by decide)⟩
    · refine v_eq ?_
      rw [h1.1]
      exact Int32.add_sub_cancel _ _
    · show (mI M 10 0 (M.1 10 0 + cI 1)).1 10 0 = nI (sK s ++ [[]]).length
      rw [mI_1, h1.1, List.length_append]
      exact nI_1 _
    · show (sK s ++ [[]]).length ≤ 4
      simp; omega
    · rw [e10 _ (by decide)]
      show _ = nI (hgt (sK s ++ [[]]) r)
      rw [hgt_snoc]
      exact h1.2.2.1 r hr
    · show hgt (sK s ++ [[]]) r ≤ 12
      rw [hgt_snoc]
      exact h1.2.2.2.1 r
    · rw [e10 _ (by decide)]
      replace hq : ((sK s ++ [[]]).getD r [])[l]? = some q := hq
      rw [getD_snoc] at hq
      exact h1.2.2.2.2 r l q hq
    · exact RIm_up (RIm_fr (A := [10]) h7 (hF (M.1 10 0 + cI 1)) (by decide)) (by show _ ≤ (sK s ++ [[]]).length; simp)
    · unfold RT at h10 ⊢; rw [e10 7 (by decide), e10 43 (by decide)]; exact h10
    · exact RS_fr (A := [10]) (h11 i hi) (hF _) (by simp; omega)
    · have := RNm_fr h13 (e10 6 (by decide)) (e10 41 (by decide)) (by rw [e10 0 (by decide)]) (e10 12 (by decide))
      have := RNm_up this
      show RNm (c + 60) _ (sK s ++ [[]]) (sCg s) (sN s)
      unfold RNm chR at this ⊢
      simp only [hgt_snoc]
      exact this
  · simp only [c_lt, c_gt, c_le, c_ge, c_eq, c_ne, b2_z, b2_nz, b2_i, Classical.not_not, t0, t1, Nat.reduceMod, Nat.reduceDiv, Int.reduceAdd, Int.reduceNeg, Nat.reduceAdd, kv_m3, kv_1, kv_4, kc_1, kc_4, h1.1, e] at b
    rw [if_pos (by omega)] at hZ
    conv => whnf
    exact hZ _ _ (RP_same h Fr_refl)
/-- a layer told by one number -/
def lyA (s : St) (x : Int32) : Option Lyr := if 0 ≤ x.toInt then ((sK s).getD (x.toInt.toNat / 16) [])[x.toInt.toNat % 16]? else none
theorem lyA_n {s : St} {x : Int32} (h : ¬ (0 ≤ x.toInt ∧ x.toInt.toNat % 16 < hgt (sK s) (x.toInt.toNat / 16))) : lyA s x = none := by
  unfold lyA
  split
  · next h0 => exact List.getElem?_eq_none (Nat.not_lt.mp (fun z => h ⟨h0, z⟩))
  · rfl
theorem lyA_s {s : St} {x : Int32} (h : 0 ≤ x.toInt ∧ x.toInt.toNat % 16 < hgt (sK s) (x.toInt.toNat / 16)) : ∃ q n, x = nI n ∧ n < 2147483648 ∧ x.toInt = (n : Int) ∧ ((sK s).getD (n / 16) [])[n % 16]? = some q ∧ lyA s x = some q := by
  obtain ⟨n, rfl, e, hn⟩ := to_nI h.1
  rw [e] at h
  have h2 : n % 16 < hgt (sK s) (n / 16) := h.2
  obtain ⟨q, hq⟩ := ly_at h2
  refine ⟨q, n, rfl, hn, e, hq, ?_⟩
  unfold lyA
  rw [if_pos (by omega), e]
  exact hq
def aKeeps (s : St) (x : Int32) : Int32 := match lyA s x with
  | some q => kp (envS s) (sK s) (x.toInt.toNat / 16) (x.toInt.toNat % 16) q
  | none => cI (-1)
theorem pb_keeps {d c : Nat} {M : Mem} {s : St} {x : Int32} (h : RC c M s) : Call (d + 5) 84 [.ref 0, .int x] M (RP c M (.int (aKeeps s x)) s) := by
  refine call_run 400 rfl rfl (fun B Cl Z hZ hB hC => ?_)
  (conv => whnf); refine ret_k hC (sp_hasLayerAt h.k) ?_
  (conv => whnf); refine ⟨fun b => ?_, fun b => ?_⟩
  · rw [b2_z] at b
    have e9 : aKeeps s x = cI (-1) := by unfold aKeeps; rw [lyA_n b]
    rw [e9] at hZ
    conv => whnf
    exact hZ _ _ (RP_same h Fr_refl)
  · rw [b2_z] at b
    obtain ⟨q, n, rfl, hn, e, hq, ha⟩ := lyA_s (Classical.not_not.mp b)
    have y1 : nI n / cI 16 = nI (n / 16) := nI_div (b := 16) hn (by decide)
    have y2 : nI n - nI n / cI 16 * cI 16 = nI (n % 16) := nI_rem (b := 16) hn (by decide)
    have e9 : aKeeps s (nI n) = kp (envS s) (sK s) (n / 16) (n % 16) q := by unfold aKeeps; rw [ha, e]; rfl
    rw [e9] at hZ
    (conv => whnf)
    refine ⟨by decide, ?_⟩
    (conv => whnf)
    refine ⟨by decide, ?_⟩
    (conv => whnf)
    rw [y2, y1]
    refine hC _ _ _ _ _ (sp_kept (by simp [isYd]) h.k h.e.1 hq) (fun v M1 p => ?_)
    obtain ⟨rfl, p2⟩ := p
    rw [h.e.2.1]
    (conv => whnf)
    exact hZ _ _ (RP_same h (Fr_sub p2 (by decide)))
