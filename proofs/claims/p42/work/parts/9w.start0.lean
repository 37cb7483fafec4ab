/-! before the first call: the cells; what the start gives -/
def M00L : List (Nat → Int32) := [fun _ => 0, upd (fun _ => 0) 1 20, fun _ => 0, fun _ => 0, fun _ => 0, fun _ => 0, fun _ => 0, fun _ => 0, fun _ => 0, fun _ => 0, fun _ => 0, fun _ => 0, fun _ => 0, fun _ => 0, fun _ => 0, fun _ => 0, fun _ => 0, fun _ => 0, fun _ => 0, fun _ => 0, fun _ => 0, fun _ => 0, fun _ => 0, fun _ => 0, fun _ => 0, fun _ => 0, fun _ => 0, fun _ => 0, fun _ => 0, fun _ => 0, fun _ => 0, fun _ => 0, fun _ => 0, fun _ => 0, fun _ => 0, upd (upd (upd (upd (upd (upd (upd (upd (fun _ => 0) 0 9) 1 9) 2 9) 3 9) 4 9) 5 9) 6 9) 7 9, fun _ => 0, fun _ => 0, fun _ => 0, fun _ => 0, fun _ => 0, fun _ => 0, fun _ => 0, fun _ => 0, fun _ => 0, fun _ => 0, fun _ => 0, fun _ => 0, fun _ => 0, fun _ => 0, fun _ => 0, fun _ => 0, fun _ => 0, fun _ => 0, fun _ => 0]
def M00 : Mem := (fun a => nth (fun _ => 0) M00L a, fun _ _ => 0)
def s00 : St := (([], [], 0), (none, 0, 20, fun _ => 9, 0), (fun _ => 0, none), [], ([], []), fun _ => none)
theorem nl00 {α : Type} {j : Nat} {c : α} {P : Prop} (h : ([] : List α)[j]? = some c) : P := by
  rw [List.getElem?_nil] at h
  cases h
theorem rk00 {r l : Nat} {q : Lyr} {P : Prop} (h : (([] : Rk).getD r [])[l]? = some q) : P := by
  have e : ([] : Rk).getD r [] = [] := by rw [List.getD, List.getElem?_nil]; rfl
  rw [e] at h
  exact nl00 h
theorem rc00 : RC 0 M00 s00 := by
  have h0 : ∀ r, hgt (sK s00) r = 0 := fun r => hgt_ge (Nat.zero_le _)
  have a1 : RY M00 10 (sK s00) := ⟨rfl, by decide, fun r _ => by rw [h0]; rfl, fun r => by rw [h0]; omega, fun r l q h => rk00 h⟩
  have a2 : RLw M00 (envS s00).1 := ⟨rfl, by decide, fun j c h => nl00 h, fun c h => absurd h List.not_mem_nil, rfl⟩
  have a3 : ∀ w, w < 8 → M00.1 35 w = (envS s00).2.2.2 w := by
    intro w hw
    match w, hw with
    | 0, _ => rfl
    | 1, _ => rfl
    | 2, _ => rfl
    | 3, _ => rfl
    | 4, _ => rfl
    | 5, _ => rfl
    | 6, _ => rfl
    | 7, _ => rfl
  have a4 : lawOk s00 := fun ls h => by cases h
  have a5 : numOk s00 := ⟨by decide, by decide, fun w _ => ⟨show 1 ≤ 9 by decide, show 9 ≤ 9 by decide⟩, by decide⟩
  have a6 : RTp M00 (sTp s00) := ⟨rfl, by decide, fun i c h => nl00 h⟩
  have a7 : RK M00 (sKs s00) := ⟨rfl, by decide, fun i c h => nl00 h⟩
  have a8 : RT M00 (sTr s00) := ⟨rfl, by decide, fun i c h => nl00 h⟩
  have a9 : ∀ i, i < 6 → RS M00 (22 + 2 * i) (sSh s00 i) := by
    intro i hi
    match i, hi with
    | 0, _ => rfl
    | 1, _ => rfl
    | 2, _ => rfl
    | 3, _ => rfl
    | 4, _ => rfl
    | 5, _ => rfl
  have b1 : RCh M00 [] (sN s00) := ⟨rfl, rfl, by decide, by decide, fun i c h => nl00 h⟩
  have b2 : RNm 0 M00 (sK s00) (sCg s00) (sN s00) := ⟨[], fun _ => 0, 0, b1, rfl, Nat.le_refl _, fun r l h => by rw [h0] at h; omega, fun r l r' l' h => by rw [h0] at h; omega, rfl, fun i x a h => nl00 h⟩
  exact ⟨a1, ⟨a2, rfl, rfl, a3⟩, a4, a5, rfl, fun i _ => rfl, rfl, a6, a7, a8, a9, fun i hi => trivial, b2⟩
theorem lwT_1 {w : Cond} (i : Nat) (h : tables_1_1[i]? = some w) : w ∈ lw_tbl := List.mem_append_right _ (show w ∈ tables_1 from (by have h := List.mem_of_getElem? h; exact List.mem_append_left _ h))
theorem lwT_2 {w : Cond} (i : Nat) (h : tables_1_2[i]? = some w) : w ∈ lw_tbl := List.mem_append_right _ (show w ∈ tables_1 from (by have h := List.mem_of_getElem? h; exact List.mem_append_right _ (List.mem_append_left _ h)))
theorem lwT_3 {w : Cond} (i : Nat) (h : tables_1_3[i]? = some w) : w ∈ lw_tbl := List.mem_append_right _ (show w ∈ tables_1 from (by have h := List.mem_of_getElem? h; exact List.mem_append_right _ (List.mem_append_right _ (List.mem_append_left _ h))))
theorem lwT_4 {w : Cond} (i : Nat) (h : tables_1_4[i]? = some w) : w ∈ lw_tbl := List.mem_append_right _ (show w ∈ tables_1 from (by have h := List.mem_of_getElem? h; exact List.mem_append_right _ (List.mem_append_right _ (List.mem_append_right _ (List.mem_append_left _ h)))))
theorem lwT_5 {w : Cond} (i : Nat) (h : tables_1_5[i]? = some w) : w ∈ lw_tbl := List.mem_append_right _ (show w ∈ tables_1 from (by have h := List.mem_of_getElem? h; exact List.mem_append_right _ (List.mem_append_right _ (List.mem_append_right _ (List.mem_append_right _ (h))))))
set_option maxHeartbeats 4000000 in
theorem start_st {p : Program} {s : State} {m : MethodId} {meth : Method} {c : Code} {b L : Nat} {xs : Nat → Int32} (C0 : lw_At p s m meth c b L xs) : ∃ t1 t2 t4 t5 : Nat, ∀ ad : Nat → Nat, ad 900 = t1 → ad 901 = t2 → ad 910 = t4 → ad 911 = t5 → StP ad (fun q : Nat => s.heap.size ≤ q) s s.heap := by
  obtain ⟨hx, hb, hr, hml, hown, hts, hX, hbl, hlocks, hgv⟩ := C0
  have hg := flat_of_before _ hgv
  have hA : ∀ a : Nat, a < s.heap.size → ¬ (fun q : Nat => s.heap.size ≤ q) a := fun a h q => absurd q (Nat.not_le.mpr h)
  have el0 : ∀ j : Nat, j < 8 → (Term.elem (Term.static "HayRemembers$Lean" "RIGHT" "[I") (.int (Int32.ofNat j))).eval #[Value.ref b] s none [] s = some (.int ((stc 900).getD j 0)) := by
    intro j hj
    match j, hj with
    | 0, _ => exact va_eqt (hg (Cond.eq (.elem (.static "HayRemembers$Lean" "RIGHT" "[I") (.int 0)) (.int 0)) (by decide +kernel))
    | 1, _ => exact va_eqt (hg (Cond.eq (.elem (.static "HayRemembers$Lean" "RIGHT" "[I") (.int 1)) (.int 1)) (by decide +kernel))
    | 2, _ => exact va_eqt (hg (Cond.eq (.elem (.static "HayRemembers$Lean" "RIGHT" "[I") (.int 2)) (.int 1)) (by decide +kernel))
    | 3, _ => exact va_eqt (hg (Cond.eq (.elem (.static "HayRemembers$Lean" "RIGHT" "[I") (.int 3)) (.int 1)) (by decide +kernel))
    | 4, _ => exact va_eqt (hg (Cond.eq (.elem (.static "HayRemembers$Lean" "RIGHT" "[I") (.int 4)) (.int 0)) (by decide +kernel))
    | 5, _ => exact va_eqt (hg (Cond.eq (.elem (.static "HayRemembers$Lean" "RIGHT" "[I") (.int 5)) (.int (-1))) (by decide +kernel))
    | 6, _ => exact va_eqt (hg (Cond.eq (.elem (.static "HayRemembers$Lean" "RIGHT" "[I") (.int 6)) (.int (-1))) (by decide +kernel))
    | 7, _ => exact va_eqt (hg (Cond.eq (.elem (.static "HayRemembers$Lean" "RIGHT" "[I") (.int 7)) (.int (-1))) (by decide +kernel))
  obtain ⟨t1, e1, T1⟩ := va_Tof (tm := Term.static "HayRemembers$Lean" "RIGHT" "[I") (ty := .int) (N := 8) (f := fun j => .int ((stc 900).getD j 0)) (A := fun q : Nat => s.heap.size ≤ q) (by decide) (hg _ (by decide +kernel)) (va_eqt (hg (Cond.eq (.length (.static "HayRemembers$Lean" "RIGHT" "[I")) (.int 8)) (by decide +kernel))) el0 hA
  have Z1 : va_Z "HayRemembers$Lean" "RIGHT" "[I" (.ref t1) (fun q : Nat => s.heap.size ≤ q) s s.heap := va_Zof (hts _ (lwT_2 203 rfl)) (hts _ (lwT_1 5 rfl)) e1 hA
  have el1 : ∀ j : Nat, j < 8 → (Term.elem (Term.static "HayRemembers$Lean" "DOWN" "[I") (.int (Int32.ofNat j))).eval #[Value.ref b] s none [] s = some (.int ((stc 901).getD j 0)) := by
    intro j hj
    match j, hj with
    | 0, _ => exact va_eqt (hg (Cond.eq (.elem (.static "HayRemembers$Lean" "DOWN" "[I") (.int 0)) (.int (-1))) (by decide +kernel))
    | 1, _ => exact va_eqt (hg (Cond.eq (.elem (.static "HayRemembers$Lean" "DOWN" "[I") (.int 1)) (.int (-1))) (by decide +kernel))
    | 2, _ => exact va_eqt (hg (Cond.eq (.elem (.static "HayRemembers$Lean" "DOWN" "[I") (.int 2)) (.int 0)) (by decide +kernel))
    | 3, _ => exact va_eqt (hg (Cond.eq (.elem (.static "HayRemembers$Lean" "DOWN" "[I") (.int 3)) (.int 1)) (by decide +kernel))
    | 4, _ => exact va_eqt (hg (Cond.eq (.elem (.static "HayRemembers$Lean" "DOWN" "[I") (.int 4)) (.int 1)) (by decide +kernel))
    | 5, _ => exact va_eqt (hg (Cond.eq (.elem (.static "HayRemembers$Lean" "DOWN" "[I") (.int 5)) (.int 1)) (by decide +kernel))
    | 6, _ => exact va_eqt (hg (Cond.eq (.elem (.static "HayRemembers$Lean" "DOWN" "[I") (.int 6)) (.int 0)) (by decide +kernel))
    | 7, _ => exact va_eqt (hg (Cond.eq (.elem (.static "HayRemembers$Lean" "DOWN" "[I") (.int 7)) (.int (-1))) (by decide +kernel))
  obtain ⟨t2, e2, T2⟩ := va_Tof (tm := Term.static "HayRemembers$Lean" "DOWN" "[I") (ty := .int) (N := 8) (f := fun j => .int ((stc 901).getD j 0)) (A := fun q : Nat => s.heap.size ≤ q) (by decide) (hg _ (by decide +kernel)) (va_eqt (hg (Cond.eq (.length (.static "HayRemembers$Lean" "DOWN" "[I")) (.int 8)) (by decide +kernel))) el1 hA
  have Z2 : va_Z "HayRemembers$Lean" "DOWN" "[I" (.ref t2) (fun q : Nat => s.heap.size ≤ q) s s.heap := va_Zof (hts _ (lwT_2 208 rfl)) (hts _ (lwT_1 5 rfl)) e2 hA
  have Z4 : va_Z "java/lang/String" "COMPACT_STRINGS" "Z" (.int 1) (fun q : Nat => s.heap.size ≤ q) s s.heap := va_Zof (hts _ (lwT_4 110 rfl)) (hts _ (lwT_1 12 rfl)) (va_eqi (hg (Cond.eq (.static "java/lang/String" "COMPACT_STRINGS" "Z") (.int 1)) (by decide +kernel))) hA
  have elS : ∀ i : Nat, i < 1 → ∀ j : Nat, j < ([6] : List Nat).getD i 0 → (Cond.eq (.elem (.field (.string "HayRemembers$LawReader" 54) "java/lang/String" "value" "[B") (.int (Int32.ofNat j))) (.int ((bNames.getD i []).getD j 0))).before #[Value.ref b] s = true := by
    intro i hi j hj
    match i, hi with
    | 0, _ =>
      match j, hj with
      | 0, _ => exact hg (Cond.eq (.elem (.field (.string "HayRemembers$LawReader" 54) "java/lang/String" "value" "[B") (.int 0)) (.int 102)) (by decide +kernel)
      | 1, _ => exact hg (Cond.eq (.elem (.field (.string "HayRemembers$LawReader" 54) "java/lang/String" "value" "[B") (.int 1)) (.int 97)) (by decide +kernel)
      | 2, _ => exact hg (Cond.eq (.elem (.field (.string "HayRemembers$LawReader" 54) "java/lang/String" "value" "[B") (.int 2)) (.int 108)) (by decide +kernel)
      | 3, _ => exact hg (Cond.eq (.elem (.field (.string "HayRemembers$LawReader" 54) "java/lang/String" "value" "[B") (.int 3)) (.int 109)) (by decide +kernel)
      | 4, _ => exact hg (Cond.eq (.elem (.field (.string "HayRemembers$LawReader" 54) "java/lang/String" "value" "[B") (.int 4)) (.int 99)) (by decide +kernel)
      | 5, _ => exact hg (Cond.eq (.elem (.field (.string "HayRemembers$LawReader" 54) "java/lang/String" "value" "[B") (.int 5)) (.int 107)) (by decide +kernel)
      | j + 6, h => exact absurd (show j + 6 < 6 from h) (by omega)
  obtain ⟨aK, aV, S1, S2⟩ := vk_Sof (args := #[Value.ref b]) (N := 1) (tm := fun _ => .string "HayRemembers$LawReader" 54) (len := [6]) (byt := bNames) (A := fun q : Nat => s.heap.size ≤ q) (fun i hi => by match i, hi with | 0, _ => decide) (fun _ _ => hg _ (by decide +kernel)) (fun _ _ => hg _ (by decide +kernel)) (fun _ _ => hg _ (by decide +kernel)) (fun i hi => by match i, hi with | 0, _ => exact hg (Cond.eq (.length (.field (.string "HayRemembers$LawReader" 54) "java/lang/String" "value" "[B")) (.int 6)) (by decide +kernel)) elS (fun i j hi hj h => absurd (show i = j by omega) h) hA
  have hSR : vk_R "HayRemembers$LawReader" 54 "falmck" (aK 0) s := vk_R.of (hts _ (lwT_4 96 rfl)) (S2 0 (by omega))
  refine ⟨t1, t2, aK 0, aV 0, fun ad h1 h2 h4 h5 => ⟨by rw [h1]; exact Z1, by rw [h2]; exact Z2, trivial, Z4, fun a ha => ?_, ⟨fun i hi => ?_, fun i j hi hj _ => by omega⟩, by rw [h4]; exact hSR⟩⟩
  · rcases ha with rfl | rfl
    · rw [h1]; exact T1
    · rw [h2]; exact T2
  · match i, hi with
    | 0, _ =>
      have := S1.1 0 (by omega)
      rw [h4, h5]
      exact this
theorem start_ovA {args : Array Value} {s : State} (h : (Cond.arrayOver (.array .int)).before args s = true) : ∃ (cA : ClassId) (kA : Class) (comp : ClassId), s.vm.findClass ("[" ++ (FieldType.array .int).toString) = some cA ∧ s.vm.classes[cA]? = some kA ∧ kA.kind = .array comp (.array .int) ∧ s.vm.findClass (FieldType.array .int).toString = some comp := by
  obtain ⟨comp, c, k, h1, h2, h3, h4⟩ := Cond.arrayOver_specA (args := args) (first := s) (o := none) (s := s) (idx := []) h
  exact ⟨c, k, comp, h4, h2, h3, h1⟩
theorem start_over {args : Array Value} {s : State} {C : String} (h : (Cond.arrayOver (.object C)).before args s = true) : ∃ (cA : ClassId) (kA : Class) (comp : ClassId), s.vm.findClass ("[" ++ (FieldType.object C).toString) = some cA ∧ s.vm.classes[cA]? = some kA ∧ kA.kind = .array comp (.object C) ∧ s.vm.findClass C = some comp := by
  obtain ⟨comp, c, k, h1, -, h2, h3, h4⟩ := Cond.arrayOver_spec (args := args) (first := s) (o := none) (s := s) (idx := []) h
  exact ⟨c, k, comp, h4, h2, h3, h1⟩
set_option maxHeartbeats 4000000 in
theorem start_K {args : Array Value} {s : State} (hts : ∀ w ∈ lw_tbl, w.before args s = true) : ∃ (D : va_G) (ty : Nat → ClassId), va_K D vwCl (tyL ty) s ∧ ArrOfT s (ty 5) (.array .int) ∧ s.vm.findClass ("[" ++ (FieldType.array .int).toString) = some (ty 5) := by
  have htsG := lwG_hts hts
  obtain ⟨c0, i0, n0⟩ := u_known (C := RX0) (T := TX0) (N := 6) (n := 6) htsG uw_0 (hts (.instantiable RX0 6) (lwT_1 236 rfl))
  obtain ⟨c1, i1, n1⟩ := u_known (C := RX1) (T := TX1) (N := 3) (n := 3) htsG uw_1 (hts (.instantiable RX1 3) (lwT_1 220 rfl))
  obtain ⟨c2, i2, n2⟩ := u_known (C := RX2) (T := TX2) (N := 7) (n := 7) htsG uw_2 (hts (.instantiable RX2 7) (lwT_1 29 rfl))
  obtain ⟨c3, i3, n3⟩ := u_known (C := RX3) (T := TX3) (N := 6) (n := 6) htsG uw_3 (hts (.instantiable RX3 6) (lwT_1 61 rfl))
  obtain ⟨c4, i4, n4⟩ := u_known (C := RX4) (T := TX4) (N := 2) (n := 2) htsG uw_4 (hts (.instantiable RX4 2) (lwT_1 106 rfl))
  obtain ⟨c5, i5, n5⟩ := u_known (C := RX5) (T := TX5) (N := 15) (n := 15) htsG uw_5 (hts (.instantiable RX5 15) (lwT_1 164 rfl))
  obtain ⟨c6, i6, n6⟩ := u_known (C := RX6) (T := TX6) (N := 5) (n := 5) htsG uw_6 (hts (.instantiable RX6 5) (lwT_2 20 rfl))
  obtain ⟨c7, i7, n7⟩ := u_known (C := RX7) (T := TX7) (N := 8) (n := 8) htsG uw_7 (hts (.instantiable RX7 8) (lwT_1 123 rfl))
  obtain ⟨c8, i8, n8⟩ := u_known (C := RX8) (T := TX8) (N := 4) (n := 4) htsG uw_8 (hts (.instantiable RX8 4) (lwT_1 86 rfl))
  obtain ⟨c9, i9, n9⟩ := u_known (C := RX9) (T := TX9) (N := 16) (n := 16) htsG uw_9 (hts (.instantiable RX9 16) (lwT_1 21 rfl))
  obtain ⟨a0, k0, p0, f0, g0, h0⟩ := Cond.arrayClass_spec (hts (.arrayClass .int) (lwT_1 59 rfl))
  obtain ⟨a1, k1, p1, f1, g1, h1⟩ := Cond.arrayClass_spec (hts (.arrayClass .byte) (lwT_4 202 rfl))
  obtain ⟨a2, k2, p2, f2, g2, h2⟩ := Cond.arrayClass_spec (hts (.arrayClass .byte) (lwT_4 202 rfl))
  obtain ⟨a3, k3, p3, f3, g3, h3⟩ := Cond.arrayClass_spec (hts (.arrayClass .long) (lwT_2 40 rfl))
  obtain ⟨a4, k4, p4, f4, g4, h4, j4⟩ := start_over (hts (.arrayOver (.object "HayRemembers$Shelf")) (lwT_2 19 rfl))
  obtain ⟨a5, k5, p5, f5, g5, h5, j5⟩ := start_ovA (hts (.arrayOver (.array .int)) (lwT_4 239 rfl))
  refine ⟨(fun k => nth 0 [c0, c1, c2, c3, c4, c5, c6, c7, c8, c9] k, fun k => nth (fun _ => 0) [i0, i1, i2, i3, i4, i5, i6, i7, i8, i9] k), fun t => nth 0 [a0, a1, a2, a3, a4, a5] t, ⟨fun k q hq => ?_, fun k q hq => ?_⟩, fun n z => ⟨fun k h => (by cases h), k5, g5, p5, h5⟩, f5⟩
  · match k, hq with
    | 0, hq => cases hq; exact n0
    | 1, hq => cases hq; exact n1
    | 2, hq => cases hq; exact n2
    | 3, hq => cases hq; exact n3
    | 4, hq => cases hq; exact n4
    | 5, hq => cases hq; exact n5
    | 6, hq => cases hq; exact n6
    | 7, hq => cases hq; exact n7
    | 8, hq => cases hq; exact n8
    | 9, hq => cases hq; exact n9
    | k + 10, hq => simp [vwCl] at hq
  · match k, hq with
    | 0, hq => cases hq; exact ⟨fun n z => ⟨fun k h => (by cases h), k0, g0, p0, h0⟩, f0⟩
    | 1, hq => cases hq; exact ⟨fun n z => ⟨fun k h => (by cases h), k1, g1, p1, h1⟩, f1⟩
    | 2, hq => cases hq; exact ⟨fun n z => ⟨fun k h => (by cases h), k2, g2, p2, h2⟩, f2⟩
    | 3, hq => cases hq; exact ⟨fun n z => ⟨fun k h => (by cases h), k3, g3, p3, h3⟩, f3⟩
    | 4, hq => cases hq; exact ⟨fun n z => ⟨fun k h => (by cases h), k4, g4, p4, h4⟩, ⟨k4, p4, g4, h4, j4, f4⟩⟩
    | k + 5, hq => simp [tyL] at hq
