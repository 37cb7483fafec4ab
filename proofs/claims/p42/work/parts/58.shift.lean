/-! shift, taken -/
def shf2 (s : St) (f : Nat → Shf) (yi : Nat) (u w : Shf) (i j n : Int32) : Int32 × St := match u, w with
  | none, _ => (cI (-11), s)
  | some _, none => (cI (-11), s)
  | some (.inl _), some _ => (cI (-12), s)
  | some (.inr _), some (.inl _) => (cI (-12), s)
  | some (.inr (t, l)), some (.inr (t2, l2)) => if t = t2 then (if (0 ≤ i.toInt ∧ 0 ≤ n.toInt ∧ i.toInt ≤ (l.length : Int) - n.toInt) ∧ 0 ≤ j.toInt ∧ 0 ≤ n.toInt ∧ j.toInt ≤ (l2.length : Int) - n.toInt then (n, wSh s (upD f yi (some (.inr (t2, cpd l2 l i.toInt.toNat j.toInt.toNat n.toInt.toNat))))) else (cI (-13), s)) else (cI (-12), s)
def aShift (s : St) (x i y j n : Int32) : Int32 × St :=
  if (0 ≤ x.toInt ∧ x.toInt < 6) ∧ 0 ≤ y.toInt ∧ y.toInt < 6 then shf2 s (sSh s) y.toInt.toNat (sSh s x.toInt.toNat) (sSh s y.toInt.toNat) i j n else (cI (-1), s)
theorem ne_none {α : Type} {x : α} : ¬ (some x : Option α) = none := fun h => by cases h
theorem nI_teq {a b : Nat} (ha : a < 2147483648) (hb : b < 2147483648) : ((nI a).toInt = (nI b).toInt) = (a = b) := by
  rw [nI_v ha, nI_v hb]
  exact propext Int.ofNat_inj
theorem cpd_ok {t i j n : Nat} {l f : List Int64} (hl : ∀ x ∈ l, nrw t x = x) (hf : ∀ x ∈ f, nrw t x = x) (hi : i + n ≤ f.length) : ∀ x ∈ cpd l f i j n, nrw t x = x := by
  intro x hx
  unfold cpd at hx
  obtain ⟨m, hm, hm2⟩ := List.mem_mapIdx.mp hx
  split at hm2
  · next z =>
    have hb' : i + (m - j) < f.length := by omega
    rw [List.getD, List.getElem?_eq_getElem hb'] at hm2
    replace hm2 : f[i + (m - j)] = x := hm2
    rw [← hm2]
    exact hf _ (List.getElem_mem hb')
  · rw [← hm2]
    exact hl _ (List.getElem_mem _)
def aTaken (s : St) (x k : Int32) : Int32 :=
  if (0 ≤ x.toInt ∧ x.toInt < 6) ∧ 0 ≤ k.toInt ∧ k.toInt ≤ 7 then (match sSh s x.toInt.toNat with
    | none => cI (-11)
    | some (.inr _) => cI (-12)
    | some (.inl b) => if upN k 8 (nI ((sKs s).getD b 0)) = k then nI ((sKs s).getD b 0) else cI (-12)) else cI (-1)