/-! byTurns of one turn: the least that a way gives; how far a rick leans at most -/
theorem w_v : ∀ w : Nat, (-1 ≤ (rgt w).toInt ∧ (rgt w).toInt ≤ 1) ∧ -1 ≤ (dwn w).toInt ∧ (dwn w).toInt ≤ 1 := by
  intro w
  rcases Nat.lt_or_ge w 8 with h | h
  · revert h
    revert w
    decide
  · have e1 : rgt w = 0 := by
      unfold rgt
      rw [List.getD_eq_getElem?_getD, List.getElem?_eq_none (show (stc 900).length ≤ w from h)]
      rfl
    have e2 : dwn w = 0 := by
      unfold dwn
      rw [List.getD_eq_getElem?_getD, List.getElem?_eq_none (show (stc 901).length ≤ w from h)]
      rfl
    rw [e1, e2]
    exact ⟨⟨by decide, by decide⟩, by decide, by decide⟩
theorem step_v {a g u : Int32} {B : Int} (hg : 0 ≤ g.toInt ∧ g.toInt ≤ 9) (hu : -1 ≤ u.toInt ∧ u.toInt ≤ 1) (ha : -B ≤ a.toInt ∧ a.toInt ≤ B) (hB : B ≤ 1000) : -(B + 9) ≤ (a + g * u).toInt ∧ (a + g * u).toInt ≤ B + 9 := by
  have h1 : -9 ≤ g.toInt * u.toInt ∧ g.toInt * u.toInt ≤ 9 := by
    have h3 : u.toInt = -1 ∨ u.toInt = 0 ∨ u.toInt = 1 := by omega
    rcases h3 with h3 | h3 | h3 <;> rw [h3] <;> omega
  have e1 : (g * u).toInt = g.toInt * u.toInt := ml_v (by omega) (by omega)
  rw [ad_v (by omega) (by omega), e1]
  omega
theorem lnX_v {w : Nat → Int32} {g : Nat → Lyr → Int32} (hw : ∀ i, -1 ≤ (w i).toInt ∧ (w i).toInt ≤ 1) (hg : ∀ i q, 0 ≤ (g i q).toInt ∧ (g i q).toInt ≤ 9) : ∀ (l : List Lyr) (i : Nat) (a : Int32) (B : Int), -B ≤ a.toInt ∧ a.toInt ≤ B → B + 9 * (l.length : Int) ≤ 900 → -(B + 9 * (l.length : Int)) ≤ (lnX w g l i a).toInt ∧ (lnX w g l i a).toInt ≤ B + 9 * (l.length : Int)
  | [], _, a, B, h, _ => by
    show -(B + 9 * ((0 : Nat) : Int)) ≤ a.toInt ∧ a.toInt ≤ B + 9 * ((0 : Nat) : Int)
    omega
  | q :: l, i, a, B, h, hb => by
    rw [List.length_cons] at hb ⊢
    have h1 := step_v (hg i q) (hw q.1) h (by omega)
    have ih := lnX_v hw hg l (i + 1) (a + g i q * w q.1) (B + 9) h1 (by omega)
    show -(B + 9 * ((l.length + 1 : Nat) : Int)) ≤ (lnX w g l (i + 1) (a + g i q * w q.1)).toInt ∧ (lnX w g l (i + 1) (a + g i q * w q.1)).toInt ≤ _
    omega
theorem abs_v {x : Int32} {B : Int} (h : -B ≤ x.toInt ∧ x.toInt ≤ B) (hB : B ≤ 2000) : 0 ≤ (absI x).toInt ∧ (absI x).toInt ≤ B := by
  unfold absI
  have e0 : (0 : Int32).toInt = 0 := rfl
  split
  · next q =>
    rw [Int32.le_iff_toInt_le, e0] at q
    omega
  · next q =>
    rw [Int32.le_iff_toInt_le, e0] at q
    rw [sb_v (by rw [e0]; omega) (by rw [e0]; omega), e0]
    omega
theorem max_v {x y : Int32} : (maxI x y).toInt = (if x.toInt < y.toInt then y.toInt else x.toInt) := by
  unfold maxI
  by_cases h : x < y
  · rw [if_pos h, if_pos (Int32.lt_iff_toInt_lt.mp h)]
  · rw [if_neg h, if_neg (fun q => h (Int32.lt_iff_toInt_lt.mpr q))]
/-- the first of eight whose value is least -/
theorem best8 {v : Nat → Int32} (hv : ∀ w, w < 8 → 0 ≤ (v w).toInt) : ∀ (ls : List Nat), (∀ w ∈ ls, w < 8) → ∀ c : Int32 × Nat, (c.1.toInt < 0 ∨ (c.2 < 8 ∧ c.1 = v c.2)) → (ls = [] → ¬ c.1.toInt < 0) →
    ((ls.foldl (fun c w => if c.1 < 0 ∨ v w < c.1 then (v w, w) else c) c).2 < 8 ∧ (ls.foldl (fun c w => if c.1 < 0 ∨ v w < c.1 then (v w, w) else c) c).1 = v (ls.foldl (fun c w => if c.1 < 0 ∨ v w < c.1 then (v w, w) else c) c).2) ∧
    (∀ w ∈ ls, (ls.foldl (fun c w => if c.1 < 0 ∨ v w < c.1 then (v w, w) else c) c).1.toInt ≤ (v w).toInt) ∧ (¬ c.1.toInt < 0 → (ls.foldl (fun c w => if c.1 < 0 ∨ v w < c.1 then (v w, w) else c) c).1.toInt ≤ c.1.toInt)
  | [], _, c, h, h2 => ⟨h.elim (fun q => absurd q (h2 rfl)) id, fun w hw => absurd hw List.not_mem_nil, fun _ => Int.le_refl _⟩
  | w0 :: ls, hl, c, h, _ => by
    have hw0 := hl w0 List.mem_cons_self
    have hv0 := hv w0 hw0
    have e0 : (0 : Int32).toInt = 0 := rfl
    rw [List.foldl_cons]
    by_cases q : c.1 < 0 ∨ v w0 < c.1
    · rw [if_pos q]
      obtain ⟨a1, a2, a3⟩ := best8 hv ls (fun w hw => hl w (List.mem_cons_of_mem _ hw)) (v w0, w0) (Or.inr ⟨hw0, rfl⟩) (fun _ => by show ¬ (v w0).toInt < 0; omega)
      have a3 := a3 (by show ¬ (v w0).toInt < 0; omega)
      have a3 : _ ≤ (v w0).toInt := a3
      refine ⟨a1, fun w hw => ?_, fun hn => ?_⟩
      · rcases List.mem_cons.mp hw with hw | hw
        · subst hw; exact a3
        · exact a2 w hw
      · rcases q with q | q
        · rw [Int32.lt_iff_toInt_lt, e0] at q; omega
        · rw [Int32.lt_iff_toInt_lt] at q; omega
    · rw [if_neg q]
      have q1 : ¬ c.1.toInt < 0 := fun z => q (Or.inl (by rw [Int32.lt_iff_toInt_lt, e0]; exact z))
      have q2 : ¬ (v w0).toInt < c.1.toInt := fun z => q (Or.inr (by rw [Int32.lt_iff_toInt_lt]; exact z))
      obtain ⟨a1, a2, a3⟩ := best8 hv ls (fun w hw => hl w (List.mem_cons_of_mem _ hw)) c h (fun _ => q1)
      have a3 := a3 q1
      refine ⟨a1, fun w hw => ?_, fun _ => a3⟩
      rcases List.mem_cons.mp hw with hw | hw
      · subst hw; omega
      · exact a2 w hw
/-- how a rick leans with one more hour on it, of force 5 and no mark, of the way w -/
def tV (E : EnvK) (ls : List Lyr) (w : Nat) : Int32 := maxI (absI (bX E rgt ls ls.length 1 + trn E ls.length 1 0 * rgt w)) (absI (bX E dwn ls ls.length 1 + trn E ls.length 1 0 * dwn w))
theorem tV_v {E : EnvK} {ls : List Lyr} {w : Nat} (h : ls.length ≤ 12) : 0 ≤ (tV E ls w).toInt ∧ (tV E ls w).toInt ≤ 117 := by
  have hb : ∀ u : Nat → Int32, (∀ i, -1 ≤ (u i).toInt ∧ (u i).toInt ≤ 1) → -117 ≤ (bX E u ls ls.length 1 + trn E ls.length 1 0 * u w).toInt ∧ (bX E u ls ls.length 1 + trn E ls.length 1 0 * u w).toInt ≤ 117 := by
    intro u hu
    have e0 : (0 : Int32).toInt = 0 := rfl
    have hl : (ls.take ls.length).length ≤ 12 := by rw [List.length_take]; omega
    have h1 := lnX_v (w := u) (g := kq E (ls.length + 1)) hu (fun i q => kpt_v) (ls.take ls.length) 0 0 0 (by rw [e0]; omega) (by omega)
    have h2 := step_v (a := bX E u ls ls.length 1) (g := trn E ls.length 1 0) (u := u w) (B := 108) amt_v (hu w) (by unfold bX; omega) (by omega)
    omega
  have h1 := hb rgt (fun i => (w_v i).1)
  have h2 := hb dwn (fun i => (w_v i).2)
  have a1 := abs_v (B := 117) h1 (by omega)
  have a2 := abs_v (B := 117) h2 (by omega)
  unfold tV
  rw [max_v]
  split <;> omega
theorem tres_ok {E : EnvK} {ls : List Lyr} (h : ls.length ≤ 12) : (tres E ls 1).2 < 8 ∧ (tres E ls 1).1 = tV E ls (tres E ls 1).2 ∧ ∀ w, w < 8 → (tres E ls 1).1.toInt ≤ (tV E ls w).toInt := by
  have e : tres E ls 1 = (List.range 8).foldl (fun c w => if c.1 < 0 ∨ tV E ls w < c.1 then (tV E ls w, w) else c) (cI (-1), 0) := rfl
  rw [e]
  obtain ⟨a1, a2, -⟩ := best8 (v := tV E ls) (fun w _ => (tV_v h).1) (List.range 8) (fun w hw => List.mem_range.mp hw) (cI (-1), 0) (Or.inl (by show (cI (-1)).toInt < 0; rw [kv_m1]; omega)) (fun z => by cases z)
  exact ⟨a1.1, a1.2, fun w hw => a2 w (List.mem_range.mpr hw)⟩
/-- how a rick leans behind that lay -/
theorem lM_lay5 {E : EnvK} {rk : Rk} {r w : Nat} {ls : List Lyr} (h : rk.getD r [] = ls ++ [(w, 5, 0, 0)]) : lM E rk r = tV E ls w := by
  have hh : hgt rk r = ls.length + 1 := by unfold hgt; rw [h, List.length_append]; rfl
  have hx : ∀ u : Nat → Int32, lnX u (kpt E.1 E.2.1 (hgt rk r)) (rk.getD r []) 0 0 = bX E u ls ls.length 1 + trn E ls.length 1 0 * u w := by
    intro u
    rw [h, lnX_app, hh, Nat.zero_add]
    unfold bX
    rw [List.take_length]
    show lnX u _ ls 0 0 + kpt E.1 E.2.1 (ls.length + 1) ls.length (w, 5, 0, 0) * u w = _
    have e : kpt E.1 E.2.1 (ls.length + 1) ls.length (w, 5, 0, 0) = trn E ls.length 1 0 := by
      unfold kpt trn
      rw [Nat.add_zero, Nat.add_sub_cancel, Nat.sub_self]
      rfl
    rw [e]
    rfl
  unfold lM lX lY tV
  rw [hx, hx]
