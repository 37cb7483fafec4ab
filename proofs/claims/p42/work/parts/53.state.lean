/-! the state that both sides hold, and how the class holds it -/
/-- what was told anew: which number, whose (none: of a layer that lies no more), what it was, what it is -/
abbrev AChg : Type := Nat × Option Nat × Nat × Nat
abbrev St : Type := (Rk × List AChg × Nat) × (Option (List Ln) × Nat × Nat × (Nat → Nat) × Nat) × ((Nat → Int32) × Option (Rk × (Nat → Int32) × Nat)) × List Nat × (List Nat × List Nat) × (Nat → Shf)
abbrev sK (s : St) : Rk := s.1.1
abbrev sCg (s : St) : List AChg := s.1.2.1
abbrev sN (s : St) : Nat := s.1.2.2
abbrev sL (s : St) : Option (List Ln) := s.2.1.1
abbrev sCo (s : St) : Nat := s.2.1.2.1
abbrev sSt (s : St) : Nat := s.2.1.2.2.1
abbrev sDo (s : St) : Nat → Nat := s.2.1.2.2.2.1
abbrev sDy (s : St) : Nat := s.2.1.2.2.2.2
abbrev sDe (s : St) : Nat → Int32 := s.2.2.1.1
abbrev sIm (s : St) : Option (Rk × (Nat → Int32) × Nat) := s.2.2.1.2
abbrev sTp (s : St) : List Nat := s.2.2.2.1
abbrev sKs (s : St) : List Nat := s.2.2.2.2.1.1
abbrev sTr (s : St) : List Nat := s.2.2.2.2.1.2
abbrev sSh (s : St) : Nat → Shf := s.2.2.2.2.2
def lwC (o : Option (List Ln)) : List Nat := match o with
  | none => []
  | some ls => encT ls
def envS (s : St) : EnvK := (lwC (sL s), nI (sCo s), nI (sSt s), fun w => nI (sDo s w))
def lawOk (s : St) : Prop := ∀ ls, sL s = some ls → ¬ ls = [] ∧ (∀ l ∈ ls, lnOk l) ∧ (encT ls).length ≤ 121
def okV (what v : Nat) : Prop := if what = 0 ∨ what = 2 then v < 8 else if what = 1 ∨ what = 7 then 1 ≤ v ∧ v ≤ 9 else if what = 4 then v ≤ 9 else v ≤ 99
def numOk (s : St) : Prop := sCo s ≤ 9 ∧ sSt s ≤ 99 ∧ (∀ w, w < 8 → 1 ≤ sDo s w ∧ sDo s w ≤ 9) ∧ sDy s ≤ 99
def shOk (s : St) : Prop := ∀ i, i < 6 → match sSh s i with
  | some (.inr (t, l)) => ∀ x ∈ l, nrw t x = x
  | some (.inl b) => b < (sKs s).length
  | none => True
def RIm (M : Mem) (im : Option (Rk × (Nat → Int32) × Nat)) (rk : Rk) : Prop := match im with
  | none => M.1 0 12 = 0
  | some (irk, de, dy) => M.1 0 12 = 1 ∧ RY M 14 irk ∧ irk.length ≤ rk.length ∧ (∀ i, i < 5 → M.1 54 i = de i) ∧ M.1 0 14 = nI dy ∧ dy ≤ 99
def chR (rk : Rk) (nm : Nat → Nat) (ev : Nat) (c : Chg) (a : AChg) : Prop := c.1 = nI a.1 ∧ c.2.2.1 = nI a.2.2.1 ∧ c.2.2.2 = nI a.2.2.2 ∧ a.1 < 8 ∧ okV a.1 a.2.2.1 ∧ okV a.1 a.2.2.2 ∧
  if a.1 ≤ 3 then (match a.2.1 with
    | some p => p % 16 < hgt rk (p / 16) ∧ c.2.1 = nI (nm (12 * (p / 16) + p % 16))
    | none => ∃ w, c.2.1 = nI w ∧ w ≤ ev ∧ ∀ r l, l < hgt rk r → ¬ nm (12 * r + l) = w)
  else ∃ p, a.2.1 = some p ∧ c.2.1 = nI p ∧ (if a.1 = 7 then p < 8 else p = 0)
def RNm (c : Nat) (M : Mem) (rk : Rk) (ch : List AChg) (n : Nat) : Prop := ∃ (cs : List Chg) (nm : Nat → Nat) (ev : Nat), RCh M cs n ∧ M.1 0 15 = nI ev ∧ ev ≤ c ∧
  (∀ r l, l < hgt rk r → M.1 12 (12 * r + l) = nI (nm (12 * r + l)) ∧ nm (12 * r + l) ≤ ev) ∧ (∀ r l r' l', l < hgt rk r → l' < hgt rk r' → nm (12 * r + l) = nm (12 * r' + l') → r = r' ∧ l = l') ∧
  cs.length = ch.length ∧ ∀ (i : Nat) (x : Chg) (a : AChg), cs[i]? = some x → ch[i]? = some a → chR rk nm ev x a
/-- the class's cells hold the state; c: a bound of the names given -/
def RC (c : Nat) (M : Mem) (s : St) : Prop := RY M 10 (sK s) ∧ RE M (envS s) ∧ lawOk s ∧ numOk s ∧ M.1 0 13 = nI (sDy s) ∧ (∀ i, i < 5 → M.1 53 i = sDe s i) ∧ RIm M (sIm s) (sK s) ∧ RTp M (sTp s) ∧ RK M (sKs s) ∧ RT M (sTr s) ∧ (∀ i, i < 6 → RS M (22 + 2 * i) (sSh s i)) ∧ shOk s ∧ RNm c M (sK s) (sCg s) (sN s)
def AX : List Nat := [3, 4, 5, 8, 9, 18, 19, 20, 21, 37, 38, 40, 44, 45, 46, 47, 48, 49, 50, 51, 52]
def CA : List Nat := List.range 55
theorem RNm_le {c c' : Nat} {M : Mem} {rk : Rk} {ch : List AChg} {n : Nat} (hc : c ≤ c') (h : RNm c M rk ch n) : RNm c' M rk ch n := by
  obtain ⟨cs, nm, ev, h1, h2, h3, h4⟩ := h
  exact ⟨cs, nm, ev, h1, h2, by omega, h4⟩
theorem RNm_up {c : Nat} {M : Mem} {rk : Rk} {ch : List AChg} {n : Nat} (h : RNm c M rk ch n) : RNm (c + 60) M rk ch n := RNm_le (by omega) h
theorem RNm_fr {c : Nat} {M M' : Mem} {rk : Rk} {ch : List AChg} {n : Nat} (h : RNm c M rk ch n) (h1 : M'.1 6 = M.1 6) (h2 : M'.1 41 = M.1 41) (h3 : M'.1 0 15 = M.1 0 15) (h4 : M'.1 12 = M.1 12) : RNm c M' rk ch n := by
  obtain ⟨cs, nm, ev, a1, a2, a3, a4, a5⟩ := h
  refine ⟨cs, nm, ev, ?_, by rw [h3]; exact a2, a3, fun r l hl => by rw [h4]; exact a4 r l hl, a5⟩
  unfold RCh at a1 ⊢
  rw [h1, h2]
  exact a1
theorem RIm_fr {M M' : Mem} {im : Option (Rk × (Nat → Int32) × Nat)} {rk : Rk} {A : List Nat} (h : RIm M im rk) (hf : Fr A M M') (ha : (A.contains 0 || A.contains 14 || A.contains 15 || A.contains 17 || A.contains 54) = false) : RIm M' im rk := by
  simp only [Bool.or_eq_false_iff] at ha
  match im, h with
  | none, h => show M'.1 0 12 = 0; rw [Fr_1 hf 0 ha.1.1.1.1]; exact h
  | some (irk, de, dy), h =>
    obtain ⟨a1, a2, a3, a4, a5, a6⟩ := h
    refine ⟨by rw [Fr_1 hf 0 ha.1.1.1.1]; exact a1, RY_fr a2 hf (by simp only [Bool.or_eq_false_iff]; exact ⟨⟨ha.1.1.1.2, ha.1.1.2⟩, ha.1.2⟩), a3, fun i hi => by rw [Fr_1 hf 54 ha.2]; exact a4 i hi, by rw [Fr_1 hf 0 ha.1.1.1.1]; exact a5, a6⟩
theorem RC_fr {c : Nat} {M M' : Mem} {s : St} (h : RC c M s) (hf : Fr AX M M') : RC c M' s := by
  obtain ⟨h1, h2, h3, h4, h5, h6, h7, h8, h9, h10, h11, h12, h13⟩ := h
  have e : ∀ a, AX.contains a = false → M'.1 a = M.1 a := fun a ha => Fr_1 hf a ha
  refine ⟨RY_fr h1 hf (by decide), RE_fr h2 hf (by decide), h3, h4, by rw [e 0 (by decide)]; exact h5, fun i hi => by rw [e 53 (by decide)]; exact h6 i hi, RIm_fr h7 hf (by decide), ?_, ?_, ?_, fun i hi => ?_, h12, RNm_fr h13 (e 6 (by decide)) (e 41 (by decide)) (by rw [e 0 (by decide)]) (e 12 (by decide))⟩
  · exact RT0_fr (A := []) h8 (by rw [e 2 (by decide)]) (e 39 (by decide))
  · exact RK_fr h9 (by rw [e 7 (by decide)]) (e 42 (by decide))
  · unfold RT at h10 ⊢; rw [e 7 (by decide), e 43 (by decide)]; exact h10
  · refine RS_fr (h11 i hi) hf ?_
    match i, hi with
    | 0, _ => decide
    | 1, _ => decide
    | 2, _ => decide
    | 3, _ => decide
    | 4, _ => decide
    | 5, _ => decide
theorem RC_le {c c' : Nat} {M : Mem} {s : St} (hc : c ≤ c') (h : RC c M s) : RC c' M s := by
  obtain ⟨h1, h2, h3, h4, h5, h6, h7, h8, h9, h10, h11, h12, h13⟩ := h
  exact ⟨h1, h2, h3, h4, h5, h6, h7, h8, h9, h10, h11, h12, RNm_le hc h13⟩
theorem RC_up {c : Nat} {M : Mem} {s : St} (h : RC c M s) : RC (c + 60) M s := RC_le (by omega) h
/-- a call's answer, and the state behind it -/
def RP (c : Nat) (M : Mem) (v : Value) (s : St) : Po := fun r M' => r = some v ∧ RC (c + 60) M' s ∧ Fr CA M M'
theorem RP_same {c : Nat} {M M' : Mem} {v : Value} {s : St} (h : RC c M s) (hf : Fr AX M M') : RP c M v s (some v) M' := ⟨rfl, RC_up (RC_fr h hf), Fr_sub hf (by decide)⟩
