/-! mean, judge, hours, youngest -/
def kN (E : EnvK) (h i : Nat) (q : Lyr) : Nat := (kpt E.1 E.2.1 h i q).toInt.toNat
theorem kN_e (E : EnvK) (h i : Nat) (q : Lyr) : kpt E.1 E.2.1 h i q = nI (kN E h i q) ∧ kN E h i q ≤ 9 := by
  have := amt_r E.1 E.2.1 (nI q.2.1) (nI q.2.2.2) (nI q.2.2.1) (nI i) (nI (h - 1 - i))
  obtain ⟨n, h1, h2, h3⟩ := to_nI (x := kpt E.1 E.2.1 h i q) this.1
  have h4 : (kpt E.1 E.2.1 h i q).toInt ≤ 9 := this.2
  unfold kN
  rw [h2]
  exact ⟨by rw [h1]; rfl, by omega⟩
def sumN (E : EnvK) (h : Nat) : List Lyr → Nat → Nat
  | [], _ => 0
  | q :: l, i => kN E h i q + sumN E h l (i + 1)
theorem sumN_cons {E : EnvK} {h i : Nat} {q : Lyr} {l : List Lyr} : sumN E h (q :: l) i = kN E h i q + sumN E h l (i + 1) := rfl
theorem sumN_le {E : EnvK} {h : Nat} : ∀ (l : List Lyr) (i : Nat), sumN E h l i ≤ 9 * l.length
  | [], _ => Nat.le_refl _
  | q :: l, i => by
    have h1 := sumN_le (E := E) (h := h) l (i + 1)
    have h2 := (kN_e E h i q).2
    unfold sumN
    rw [List.length_cons]
    omega
def aMean (s : St) (r p : Int32) : Int64 :=
  if (0 ≤ r.toInt ∧ r.toInt < ((sK s).length : Int)) ∧ 0 ≤ p.toInt ∧ p.toInt ≤ 1 then lN (lowN (sumN (envS s) (hgt (sK s) r.toInt.toNat) ((sK s).getD r.toInt.toNat []) 0) (hgt (sK s) r.toInt.toNat) p.toInt.toNat) else noL
theorem drop_at {l : List Lyr} {i : Nat} {q : Lyr} (h : l[i]? = some q) : l.drop i = q :: l.drop (i + 1) := by
  have hlt : i < l.length := by
    rcases Nat.lt_or_ge i l.length with z | z
    · exact z
    · rw [List.getElem?_eq_none z] at h; cases h
  rw [List.drop_eq_getElem_cons hlt]
  rw [List.getElem?_eq_getElem hlt] at h
  cases h
  rfl
def jdg (ls : List Lyr) : List Int64 → Nat → Int32
  | [], _ => cI (-2)
  | x :: l, i => match (if i < ls.length then ls[ls.length - 1 - i]? else none) with
    | some q => if x.toInt = (q.1 : Int) then jdg ls l (i + 1) else nI i
    | none => nI i
def aJudge (s : St) (x r : Int32) : Int32 :=
  if (0 ≤ x.toInt ∧ x.toInt < 6) ∧ 0 ≤ r.toInt ∧ r.toInt < ((sK s).length : Int) then (match rowL (sSh s x.toInt.toNat) 0 with
    | some l => jdg ((sK s).getD r.toInt.toNat []) l 0
    | none => rfu (sSh s x.toInt.toNat) 0) else cI (-1)
def aHours (s : St) (x n : Int32) : Int32 := match lyA s x with
  | some q => if 0 ≤ n.toInt ∧ n.toInt ≤ 99 then n / (cI 1 + kp (envS s) (sK s) (x.toInt.toNat / 16) (x.toInt.toNat % 16) q) else cI (-1)
  | none => cI (-1)
theorem kp1 (E : EnvK) (rk : Rk) (r l : Nat) (q : Lyr) : ¬ cI 1 + kp E rk r l q = 0 := by
  intro z
  have h := kN_e E (hgt rk r) l q
  rw [show kp E rk r l q = nI (kN E (hgt rk r) l q) from h.1] at z
  have z2 : nI 1 + nI (kN E (hgt rk r) l q) = 0 := z
  rw [nI_add] at z2
  have := congrArg Int32.toInt z2
  rw [nI_v (by omega), t0] at this
  omega
def yC (g : Nat → Lyr → Int32) (n : Int32) : List Lyr → Nat → Int32 → Int32 → Int32
  | [], _, b, _ => b
  | q :: l, i, b, le => if n / (cI 1 + g i q) < le then yC g n l (i + 1) (nI i) (n / (cI 1 + g i q)) else yC g n l (i + 1) b le
def aYoung (s : St) (r n : Int32) : Int32 :=
  if (0 ≤ r.toInt ∧ r.toInt < ((sK s).length : Int)) ∧ 0 ≤ n.toInt ∧ n.toInt ≤ 99 then yC (kp (envS s) (sK s) r.toInt.toNat) n ((sK s).getD r.toInt.toNat []) 0 (cI (-2)) (cI 100) else cI (-1)