/-! a text read: operands first, then what joins them; none: a fault there -/
abbrev PR : Type := Nat × Option (List Nat)
def lvO (c : Nat) : Nat := if c = 124 then 0 else if c = 38 then 1 else if c = 60 ∨ c = 61 ∨ c = 62 then 2 else if c = 43 ∨ c = 45 then 3 else if c = 42 ∨ c = 47 ∨ c = 37 then 4 else 9
def dg (t : List Nat) : Nat → Nat → Nat → Nat × Nat
  | 0, a, v => (a, v)
  | k + 1, a, v => match t[a]? with
    | some c => if 48 ≤ c ∧ c ≤ 57 then dg t k (a + 1) (v * 10 + c - 48) else (a, v)
    | none => (a, v)
def lp (t : List Nat) (f : Nat → PR) (m : Nat) : Nat → Nat → List Nat → PR
  | 0, p, cs => (p, some cs)
  | k + 1, p, cs => match t[p]? with
    | some c => if lvO c = m then (match f (p + 1) with
        | (q, some ds) => lp t f m k q (cs ++ ds ++ [10010 + c])
        | (q, none) => (q, none)) else (p, some cs)
    | none => (p, some cs)
def pz (t : List Nat) : Nat → Nat → Nat → Nat → PR
  | 0, _, _, a => (a, none)
  | n + 1, m, o, a =>
    if m < 5 then (match pz t n (m + 1) o a with
      | (p, none) => (p, none)
      | (p, some cs) => lp t (pz t n (m + 1) o) m (if m = 2 then 1 else 120) p cs)
    else match t[a]? with
      | none => (a, none)
      | some c =>
        if 48 ≤ c ∧ c ≤ 57 then ((dg t 4 a 0).1, some [(dg t 4 a 0).2])
        else if 0 ≤ fnd c 6 0 then (a + 1, some [10000 + (fnd c 6 0).toNat])
        else if c = 33 ∨ c = 45 then (if o < 6 then (match pz t n 5 (o + 1) (a + 1) with
          | (p, some cs) => (p, some (cs ++ [if c = 33 then 10043 else 10136]))
          | (p, none) => (p, none)) else (a, none))
        else if c = 40 then (if o < 6 then (match pz t n 0 (o + 1) (a + 1) with
          | (p, some cs) => if t[p]? = some 41 then (p + 1, some cs) else (p, none)
          | (p, none) => (p, none)) else (a, none))
        else (a, none)
theorem dg_le {t : List Nat} : ∀ (k a v : Nat), a ≤ t.length → a ≤ (dg t k a v).1 ∧ (dg t k a v).1 ≤ t.length
  | 0, a, v, h => ⟨Nat.le_refl _, h⟩
  | k + 1, a, v, h => by
    unfold dg
    split
    · next c hc =>
      have h1 := (List.getElem?_eq_some_iff.mp hc).1
      split
      · have := dg_le (t := t) k (a + 1) (v * 10 + c - 48) (by omega)
        omega
      · exact ⟨Nat.le_refl _, h⟩
    · exact ⟨Nat.le_refl _, h⟩
theorem dg_pos {t : List Nat} {k a v c : Nat} (h : t[a]? = some c) (h1 : 48 ≤ c ∧ c ≤ 57) : a + 1 ≤ (dg t (k + 1) a v).1 := by
  unfold dg
  rw [h]
  simp only [if_pos h1]
  exact (dg_le (t := t) k (a + 1) _ (by have := (List.getElem?_eq_some_iff.mp h).1; omega)).1
theorem dg_v {t : List Nat} : ∀ (k a v b : Nat), v < b → (dg t k a v).2 < b * 10 ^ k
  | 0, a, v, b, h => by simpa [dg] using h
  | k + 1, a, v, b, h => by
    unfold dg
    have hp : b ≤ b * 10 ^ (k + 1) := Nat.le_mul_of_pos_right _ (Nat.pow_pos (by omega))
    split
    · next c hc =>
      split
      · next h1 =>
        have := dg_v (t := t) k (a + 1) (v * 10 + c - 48) (b * 10) (by omega)
        rw [Nat.pow_succ, Nat.mul_comm (10 ^ k) 10, ← Nat.mul_assoc]
        exact this
      · show v < _; omega
    · show v < _; omega
/-- a fine end: how far, and how many steps -/
def fine (t : List Nat) (a : Nat) (cs : List Nat) (r : PR) : Prop := a ≤ r.1 ∧ r.1 ≤ t.length ∧ ∀ ds, r.2 = some ds → ds.length + a ≤ cs.length + r.1 ∧ (cs.length < ds.length)
theorem lp_fine {t : List Nat} {f : Nat → PR} {m : Nat} (hf : ∀ a, a ≤ t.length → fine t a [] (f a)) : ∀ (k p : Nat) (cs : List Nat), p ≤ t.length → p ≤ (lp t f m k p cs).1 ∧ (lp t f m k p cs).1 ≤ t.length ∧ ∀ ds, (lp t f m k p cs).2 = some ds → ds.length + p ≤ cs.length + (lp t f m k p cs).1 ∧ cs.length ≤ ds.length
  | 0, p, cs, h => ⟨Nat.le_refl _, h, fun ds q => by cases q; exact ⟨by show cs.length + p ≤ cs.length + p; omega, Nat.le_refl _⟩⟩
  | k + 1, p, cs, h => by
    unfold lp
    split
    · next c hc =>
      have h1 := (List.getElem?_eq_some_iff.mp hc).1
      split
      · have h2 := hf (p + 1) (by omega)
        obtain ⟨g1, g2, g3⟩ := h2
        split
        · next q ds hq =>
          rw [hq] at g1 g2 g3
          obtain ⟨g4, g5⟩ := g3 ds rfl
          obtain ⟨i1, i2, i3⟩ := lp_fine hf k q (cs ++ ds ++ [10010 + c]) g2
          generalize lp t f m k q (cs ++ ds ++ [10010 + c]) = z at *
          refine ⟨by simp at g1; omega, i2, fun es he => ?_⟩
          obtain ⟨i4, i5⟩ := i3 es he
          simp at i4 i5 g4 g1
          omega
        · next q hq =>
          rw [hq] at g1 g2
          exact ⟨by simp at g1 ⊢; omega, g2, fun ds q => by cases q⟩
      · exact ⟨Nat.le_refl _, h, fun ds q => by cases q; exact ⟨by show cs.length + p ≤ cs.length + p; omega, Nat.le_refl _⟩⟩
    · exact ⟨Nat.le_refl _, h, fun ds q => by cases q; exact ⟨by show cs.length + p ≤ cs.length + p; omega, Nat.le_refl _⟩⟩
theorem pz_fine {t : List Nat} : ∀ (n m o a : Nat), a ≤ t.length → fine t a [] (pz t n m o a)
  | 0, m, o, a, h => ⟨Nat.le_refl _, h, fun ds q => by cases q⟩
  | n + 1, m, o, a, h => by
    unfold pz
    split
    · have h1 := pz_fine (t := t) n (m + 1) o a h
      split
      · next p hp =>
        rw [hp] at h1
        exact ⟨h1.1, h1.2.1, fun ds q => by cases q⟩
      · next p cs hp =>
        rw [hp] at h1
        obtain ⟨g1, g2, g3⟩ := h1
        obtain ⟨g4, g5⟩ := g3 cs rfl
        obtain ⟨i1, i2, i3⟩ := lp_fine (m := m) (pz_fine (t := t) n (m + 1) o) (if m = 2 then 1 else 120) p cs g2
        generalize lp t (pz t n (m + 1) o) m (if m = 2 then 1 else 120) p cs = z at *
        refine ⟨by simp at g1; omega, i2, fun ds hd => ?_⟩
        obtain ⟨i4, i5⟩ := i3 ds hd
        simp at g4 g5 ⊢
        omega
    · split
      · exact ⟨Nat.le_refl _, h, fun ds q => by cases q⟩
      · next c hc =>
        have hl := (List.getElem?_eq_some_iff.mp hc).1
        split
        · next h1 =>
          have : a + 1 ≤ (dg t 4 a 0).1 := dg_pos (k := 3) (v := 0) hc h1
          have h2 := dg_le (t := t) 4 a 0 h
          exact ⟨h2.1, h2.2, fun ds q => by cases q; simp; omega⟩
        split
        · exact ⟨by simp, hl, fun ds q => by cases q; simp; omega⟩
        split
        · split
          · have h1 := pz_fine (t := t) n 5 (o + 1) (a + 1) hl
            split
            · next p cs hp =>
              rw [hp] at h1
              obtain ⟨g1, g2, g3⟩ := h1
              obtain ⟨g4, g5⟩ := g3 cs rfl
              refine ⟨by simp at g1; simp; omega, g2, fun ds q => ?_⟩
              cases q
              simp at g4 g5 ⊢
              omega
            · next p hp =>
              rw [hp] at h1
              exact ⟨by have := h1.1; simp at this; simp; omega, h1.2.1, fun ds q => by cases q⟩
          · exact ⟨Nat.le_refl _, h, fun ds q => by cases q⟩
        split
        · split
          · have h1 := pz_fine (t := t) n 0 (o + 1) (a + 1) hl
            split
            · next p cs hp =>
              rw [hp] at h1
              obtain ⟨g1, g2, g3⟩ := h1
              obtain ⟨g4, g5⟩ := g3 cs rfl
              split
              · next hq =>
                have := (List.getElem?_eq_some_iff.mp hq).1
                refine ⟨by simp at g1; simp; omega, this, fun ds q => ?_⟩
                cases q
                simp at g4 g5 ⊢
                omega
              · exact ⟨by simp at g1; simp; omega, g2, fun ds q => by cases q⟩
            · next p hp =>
              rw [hp] at h1
              exact ⟨by have := h1.1; simp at this; simp; omega, h1.2.1, fun ds q => by cases q⟩
          · exact ⟨Nat.le_refl _, h, fun ds q => by cases q⟩
        · exact ⟨Nat.le_refl _, h, fun ds q => by cases q⟩
