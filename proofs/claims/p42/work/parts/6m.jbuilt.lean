/-! the ricks, the numbers and the law that a script begins with -/
/-- what is known of a state in the making: n ricks, the stand, the doors from w0 on -/
def BT (s : St) (n st w0 : Nat) : Prop := (sK s).length = n ∧ sSt s = st ∧ sDe s 1 = 0 ∧ sDe s 2 = 0 ∧ sDe s 3 = 0 ∧ sDy s = 0 ∧ sTp s = [] ∧ ∀ w, w0 ≤ w → w < 8 → sDo s w = 9
theorem mend_at {s : St} {n what v : Int32} {was : Nat} (h1 : oneA s n what = some was) (h2 : mayV what v) : aMend s n what v = (nI was, if v.toInt.toNat = was then s else mendS s what.toInt.toNat n.toInt.toNat was v.toInt.toNat) := by
  unfold aMend
  rw [h1]
  exact @if_pos (mayV what v) (Classical.propDecidable _) h2 _ _ _
theorem getD_set_same {rk : Rk} {r : Nat} {x : List Lyr} (h : r < rk.length) : (rk.set r x).getD r [] = x := by
  rw [List.getD_eq_getElem?_getD, List.getElem?_set_self h]
  rfl
theorem getD_set_ne {rk : Rk} {r r' : Nat} {x : List Lyr} (h : r ≠ r') : (rk.set r x).getD r' [] = rk.getD r' [] := by
  rw [List.getD_eq_getElem?_getD, List.getElem?_set_ne h, ← List.getD_eq_getElem?_getD]
theorem hz_of {f w m : Nat} (hf : 1 ≤ f ∧ f ≤ 9) (hw : w < 8) (hm : m < 8) : hrZ ((100 * f + 10 * w + m : Nat) : Int) := by
  refine ⟨by omega, by omega, ?_, ?_⟩ <;> rw [Int.toNat_natCast] <;> omega
theorem lay_at {s : St} {r x : Nat} (hr : r < (sK s).length) (h4 : (sK s).length ≤ 4) (hx : hrZ (x : Int)) (hh : hgt (sK s) r < 12) : aLay s (nI r) (nI x) = (nI (hgt (sK s) r), layS s r (lyN x)) := by
  have hx2 := hx.2.1
  unfold aLay
  rw [nI_v (n := r) (by omega), nI_v (n := x) (by omega), if_pos ⟨by omega, hx⟩, Int.toNat_natCast, if_neg (by omega), Int.toNat_natCast]
theorem put_get {rk : Rk} {r : Nat} {q : Lyr} (h : r < rk.length) : (put rk r q).getD r [] = rk.getD r [] ++ [q] := getD_set_same h
theorem put_h {rk : Rk} {r : Nat} {q : Lyr} (h : r < rk.length) : hgt (put rk r q) r = hgt rk r + 1 := by
  unfold hgt
  rw [put_get h, List.length_append]
  rfl
theorem put_l {rk : Rk} {r : Nat} {q : Lyr} : (put rk r q).length = rk.length := List.length_set
theorem lyA_at {s : St} {r l : Nat} (hr : r < 4) (hl : l < 16) : lyA s (nI (16 * r + l)) = ((sK s).getD r [])[l]? := by
  unfold lyA
  rw [nI_v (by omega), if_pos (by omega), Int.toNat_natCast, show (16 * r + l) / 16 = r by omega, show (16 * r + l) % 16 = l by omega]
theorem one3 {s : St} {n : Nat} {q : Lyr} (h : lyA s (nI n) = some q) : oneA s (nI n) (cI 3) = some q.2.2.2 := by
  unfold oneA
  rw [kv_3, if_pos (by omega), h]
  rfl
theorem setL_h {rk : Rk} {r l j v r' : Nat} (hr : r < rk.length) : hgt (setL rk r l j v) r' = hgt rk r' := by
  unfold hgt setL
  by_cases e : r = r'
  · subst e
    rw [getD_set_same hr, List.length_modify]
  · rw [getD_set_ne e]
theorem lay_step {g : Nat} {M : Mem} {s : St} {r k : Nat} (hB : BT s (r + 1) 20 0) (hc : sCo s = 0) (hr : r < 4) (hk : hgt (sK s) r = k) (hk9 : k < 10) {f w m a : Nat} (hf : 1 ≤ f ∧ f ≤ 9) (hw : w < 8) (hm : m < 8) (ha : a < 100) :
    (aLay s (nI r) (nI (100 * f + 10 * w + m))).1 = nI k ∧ (aMend (aLay s (nI r) (nI (100 * f + 10 * w + m))).2 (nI (16 * r + k)) (cI 3) (nI a)).1 = nI 0 ∧
    BT (aMend (aLay s (nI r) (nI (100 * f + 10 * w + m))).2 (nI (16 * r + k)) (cI 3) (nI a)).2 (r + 1) 20 0 ∧ sCo (aMend (aLay s (nI r) (nI (100 * f + 10 * w + m))).2 (nI (16 * r + k)) (cI 3) (nI a)).2 = 0 ∧
    hgt (sK (aMend (aLay s (nI r) (nI (100 * f + 10 * w + m))).2 (nI (16 * r + k)) (cI 3) (nI a)).2) r = k + 1 := by
  obtain ⟨b1, b2, b3, b4, b5, b6, b7, b8⟩ := hB
  have hx := hz_of hf hw hm
  have e1 := lay_at (s := s) (r := r) (by omega) (by omega) hx (by omega)
  rw [e1, hk]
  have h1 : (sK (layS s r (lyN (100 * f + 10 * w + m)))).getD r [] = (sK s).getD r [] ++ [lyN (100 * f + 10 * w + m)] := put_get (by omega)
  have h2 : lyA (layS s r (lyN (100 * f + 10 * w + m))) (nI (16 * r + k)) = some (lyN (100 * f + 10 * w + m)) := by
    rw [lyA_at hr (by omega), h1, List.getElem?_append_right (by unfold hgt at hk; omega)]
    unfold hgt at hk
    rw [hk, Nat.sub_self]
    rfl
  have e2 := mend_at (v := nI a) (one3 h2) ⟨by rw [nI_v (by omega)]; omega, by rw [kv_3, nI_v (by omega), Int.toNat_natCast]; show a ≤ 99; omega⟩
  rw [nI_v (n := a) (by omega), Int.toNat_natCast, kv_3, nI_v (n := 16 * r + k) (by omega), Int.toNat_natCast] at e2
  replace e2 : _ = (nI 0, if a = 0 then layS s r (lyN (100 * f + 10 * w + m)) else mendS (layS s r (lyN (100 * f + 10 * w + m))) 3 (16 * r + k) 0 a) := e2
  show nI k = nI k ∧ (aMend (layS s r (lyN (100 * f + 10 * w + m))) (nI (16 * r + k)) (cI 3) (nI a)).1 = nI 0 ∧ BT (aMend (layS s r (lyN (100 * f + 10 * w + m))) (nI (16 * r + k)) (cI 3) (nI a)).2 (r + 1) 20 0 ∧ sCo (aMend (layS s r (lyN (100 * f + 10 * w + m))) (nI (16 * r + k)) (cI 3) (nI a)).2 = 0 ∧ hgt (sK (aMend (layS s r (lyN (100 * f + 10 * w + m))) (nI (16 * r + k)) (cI 3) (nI a)).2) r = k + 1
  rw [e2]
  have hde : ∀ j, ¬ j = 0 → sDe (layS s r (lyN (100 * f + 10 * w + m))) j = sDe s j := fun j hj => by
    show upD _ _ _ _ = _
    unfold upD
    rw [if_neg hj]
  have hlen : (sK (layS s r (lyN (100 * f + 10 * w + m)))).length = r + 1 := by
    show (put (sK s) r _).length = _
    rw [put_l]; exact b1
  have hh : hgt (sK (layS s r (lyN (100 * f + 10 * w + m)))) r = k + 1 := by
    show hgt (put (sK s) r _) r = _
    rw [put_h (by omega), hk]
  refine ⟨rfl, rfl, ?_⟩
  show BT (if a = 0 then _ else _) _ _ _ ∧ sCo (if a = 0 then _ else _) = 0 ∧ hgt (sK (if a = 0 then _ else _)) r = k + 1
  by_cases ha0 : a = 0
  · rw [if_pos ha0]
    exact ⟨⟨hlen, b2, by rw [hde 1 (by omega)]; exact b3, by rw [hde 2 (by omega)]; exact b4, by rw [hde 3 (by omega)]; exact b5, b6, b7, b8⟩, hc, hh⟩
  · rw [if_neg ha0]
    have hK : sK (mendS (layS s r (lyN (100 * f + 10 * w + m))) 3 (16 * r + k) 0 a) = setL (sK (layS s r (lyN (100 * f + 10 * w + m)))) ((16 * r + k) / 16) ((16 * r + k) % 16) 3 a := rfl
    refine ⟨⟨?_, b2, by show sDe (layS s r _) 1 = 0; rw [hde 1 (by omega)]; exact b3, by show sDe (layS s r _) 2 = 0; rw [hde 2 (by omega)]; exact b4, by show sDe (layS s r _) 3 = 0; rw [hde 3 (by omega)]; exact b5, b6, b7, b8⟩, hc, ?_⟩
    · rw [hK]
      unfold setL
      rw [List.length_set]
      exact hlen
    · rw [hK, setL_h (by rw [hlen]; omega)]
      exact hh
/-- the text of the law -/
def txL : List Nat := [102, 43, 40, 109, 61, 51, 41, 42, 50, 45, 97, 47, 50, 48, 45, 108, 47, 51, 43, 99, 47, 52, 45, 107, 37, 50]
theorem txL_ok : (match ptext txL 121 0 [] with | (_, some _) => true | _ => false) = true := by decide +kernel
theorem law_at {s : St} (h : sTp s = txL) : (aLaw s).1 = cI 1 ∧ ∃ ls, (aLaw s).2 = wL (wTp s []) (some ls) := by
  have h2 := txL_ok
  unfold aLaw
  rw [h]
  revert h2
  generalize ptext txL 121 0 [] = z
  intro h2
  match z, h2 with
  | (p, some ls), _ => exact ⟨rfl, ls, rfl⟩
