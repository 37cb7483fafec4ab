/-! a helper's contract out of a walk of its body -/
def roT (T : Tm) : Tm := T.map fun t => (t.1, false, t.2.2)
theorem wsT_ro {ty : Nat → ClassId} {tt : Nat → Nat} {T : Tm} : wsT ty tt (roT T) = wsT ty tt T := by
  unfold wsT roT
  rw [List.map_map]
  apply List.map_congr_left
  intro t _
  show (tt t.1, tmX ty tt (t.1, false, t.2.2)) = (tt t.1, tmX ty tt t)
  unfold tmX
  rfl
theorem jcall_of {k L : Nat} {xs : Nat → Int32} {as : List Value} {M : Mem} {T : Tm} {Q : Int32 → Mem → Prop} (hk : Nat.blt k 12 = true) (hn : Nat.ble (as.map fun v => v.category).sum (jm k).2.2.1 = true)
    (h : ∀ Bd : Nat → Lv → List Value → JSt → Prop, JOk L xs k (jcl L xs k) Bd (fun x S => Q x S.1) → Bd 0 (lv_args 0 as) [] (M, roT T, jcost k)) : JCall L xs k as M T Q := by
  have hk := blt_lt hk
  refine ⟨hk, fun l ad ty D B0 tt sz => ?_⟩
  obtain ⟨y1, y3, y5⟩ := jokY_e (show k < 13 by omega)
  refine Met.ofW (cc := (jm k).2.1) (maxL := (jm k).2.2.1) (ret := (jm k).2.2.2.1) y3 rfl ?_
  intro p e s m args below meth c s₁ B hml hv
  obtain ⟨rfl, hsz, hB, hb1, hb2, hX, hW, hTP, hTD, hTi, hSt⟩ := hv
  have hts := atoms_spec (ws := jws k) B.pre
  have hown : s.vm.findClass RJL = some m.cls := by rw [← y1]; exact findClass_of_methodNamed B.named
  have hlen : ∀ vs : List Value, (lg_sl (vs.map (cv (aj ad tt)))).length = (vs.map fun v => v.category).sum := by
    intro vs
    induction vs with
    | nil => rfl
    | cons v vs ih =>
      show (lg_sl (cv (aj ad tt) v :: vs.map (cv (aj ad tt)))).length = _
      have : lg_sl (cv (aj ad tt) v :: vs.map (cv (aj ad tt))) = lg_sl [cv (aj ad tt) v] ++ lg_sl (vs.map (cv (aj ad tt))) := by simp [lg_sl]
      rw [this, List.length_append, ih, List.map_cons, List.sum_cons]
      congr 1
      cases v <;> rfl
  have harg : ∀ (vs : List Value) (i : Nat), lv_args i (vs.map (cv (aj ad tt))) = (lv_args i vs).map (cvp (aj ad tt)) := by
    intro vs
    induction vs with
    | nil => intro i; rfl
    | cons v vs ih =>
      intro i
      show (i, cv (aj ad tt) v) :: lv_args (if (cv (aj ad tt) v).category = 2 then i + 2 else i + 1) (vs.map (cv (aj ad tt))) = _
      rw [ih, cv_cat]
      rfl
  have hl := lv_entry (as.map (cv (aj ad tt))) (n := (jm k).2.2.1) (by rw [hlen]; exact Nat.le_of_ble_eq_true hn)
  rw [lg_entry_eq]
  rw [harg] at hl
  have F : FixJ k L xs p (jroom k) s m (as.map (cv (aj ad tt))).toArray meth c ad B0 (jfree B0 sz) :=
    ⟨B.exec, B.bytes, hml, hown, fun w hw => hts w (List.mem_cons_of_mem _ hw), ⟨hX, by rw [hsz]; exact hb2, fun z => z.elim (fun z => absurd z.1 (Nat.not_le.mpr hb1)) (fun z => absurd z (Nat.not_le.mpr hb2)), hb1⟩, hSt, fun q hq => Or.inl hq, fun q hq => Or.inr (by rw [← hsz]; exact hq), Nat.le_refl _, Nat.le_refl _, by omega⟩
  have hJ := JOk_JS (k := k) (L := L) (xs := xs) (p := p) (l := l) (e0 := e) (R := jroom k) (s := s) (m := m) (below := below) (meth := meth) (c := c) (ad := ad) (ty := ty) (D := D) (B0 := B0) (A := jfree B0 sz)
    (Zt := MQ below (QJ ad ty D B0 sz Q) (as.map (cv (aj ad tt))).toArray s (jcost k) (40 * jcost k) (jfree B0 sz)) (Zr := fun x S => Q x S.1) F (fun Z pc lv x S hz hdec hr tt2 H locs ls nC nS hC hSl hB2 hW2 hT2 hS2 hl2 => by
      obtain ⟨⟨rty, e1, e2⟩, hr⟩ := rtJ_e hr
      refine W.widen (k := jcost k) (n := 40 * jcost k) (by have : (jroom k).cells = jcost k := rfl; omega) (by have : (jroom k).slots = 40 * jcost k := rfl; omega) ?_
      exact W.zret B.exec B.bytes (B.returns.trans e1) e2 (fun t ht hw => ⟨⟨x, S.1, rfl, hz _ _ hr, by rw [ht]; exact hW2.moved hw.alike⟩, va_S.F hS2 ht⟩) hS2.2.2 hdec B.notSynchronized)
  have r1 : ∀ t ∈ roT T, t.2.1 = true → jfree B0 sz (tt t.1) := fun t ht hw => by
    obtain ⟨t', -, rfl⟩ := List.mem_map.mp ht
    cases hw
  have r2 : ∀ t ∈ roT T, 1000 ≤ t.1 := fun t ht => by
    obtain ⟨t', h', rfl⟩ := List.mem_map.mp ht
    exact hTi t' h'
  exact h _ hJ tt s.heap [] _ 0 0 (by show 0 + jcost k ≤ jcost k; omega) (by show 0 + 40 * jcost k ≤ 40 * jcost k; omega) (by rw [hsz]; exact hB) hW ⟨by rw [wsT_ro]; exact hTP, by rw [wsT_ro]; exact hTD, r1, r2⟩ va_S.rf hl
