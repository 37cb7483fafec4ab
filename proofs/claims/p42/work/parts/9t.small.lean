/-! the constructors: small ones -/
def wPD (D : va_G) (A : Nat → Prop) (ws : va_W) (H : Heap) : Prop := va_P D vwCl ws H ∧ va_D A ws
section CON
variable {p : Program} {l : Launch} {e : Jvm.Env} {R : Room} {s : State} {m : MethodId} {args : Array Value} {below : List Frame} {meth : Method} {c : Code} {H : Heap} {locs : List Loc} {cells slots : Nat} {Q : State → Prop}
variable {cc : ByteArray} {pc : Nat} {ls : Array Slot} {rest : List Value} {D : va_G} {A : Nat → Prop} {tys : List (ClassId × FieldType)} {ws : va_W} {H0 : Heap}
theorem va_newT (hexec : p.tables.exec = Jvm.exec) (hb : c.code = cc) {atype : ArrayType} {t0 : Nat} {cT : ClassId} {ty0 : FieldType} (harr : (Cond.arrayClass (newarray.typeOf atype)).before args s = true) (hty : newarray.typeOf atype = ty0) (ht : tys[t0]? = some (cT, ty0)) (hK : va_K D vwCl tys s) (hP : va_P D vwCl ws H) (hD : va_D A ws) (hS : va_S A H0 H locs) (hA : ∀ q, H0.size ≤ q → A q)
    {n : Int32} {N' : Nat} {a0 : vp_A} (ha : ∀ cA : ClassId, vp_cell cA a0 = arrV cA N' (fun _ => defaultValue ty0)) (hn : ¬ n < 0) (hN : n.toNatClampNeg = N') (hbytes : N' * componentBytes ty0 ≤ 536870912) (hcells : cells + 1 ≤ R.cells) (hslots : slots + N' ≤ R.slots) (hdg : decode cc pc = .ok (.newarray atype, 2))
    (kk : ∀ (q : Nat) (H1 : Heap), va_P D vwCl (ws ++ [(q, .inl (cT, a0))]) H1 → va_D A (ws ++ [(q, .inl (cT, a0))]) → va_S A H0 H1 locs →
      W p l e R s m args below meth c H1 locs (cells + 1) (slots + N') Q (F0 m (pc + 2) ls (.ref q :: rest))) : W p l e R s m args below meth c H locs cells slots Q (F0 m pc ls (.int n :: rest)) := by
  refine va_newa hexec hb harr hty hK hP hD hS hA ha hn hN hbytes hcells hslots hdg (fun q cA H1 hK1 hP1 hD1 hS1 => ?_)
  have h1 := (hK1.2 tys.length (cA, ty0) (by simp)).2
  have h2 := (hK.2 t0 (cT, ty0) ht).2
  have e1 : cA = cT := by
    subst hty
    cases atype <;> exact Option.some.inj (h1.symm.trans h2)
  subst e1
  exact kk q H1 hP1 hD1 hS1
theorem va_newqT (hexec : p.tables.exec = Jvm.exec) (hb : c.code = cc) {own C : String} {index t0 : Nat} {cT : ClassId} (hown : s.vm.findClass own = some m.cls) (hclink : (Cond.classLink own index C).before args s = true) (hover : (Cond.arrayOver (.object C)).before args s = true) (ht : tys[t0]? = some (cT, .object C)) (hK : va_K D vwCl tys s) (hP : va_P D vwCl ws H) (hD : va_D A ws) (hS : va_S A H0 H locs) (hA : ∀ q, H0.size ≤ q → A q)
    {n : Int32} {N' : Nat} (hn : ¬ n < 0) (hN : n.toNatClampNeg = N') (hbytes : N' * 4 ≤ 536870912) (hcells : cells + 1 ≤ R.cells) (hslots : slots + N' ≤ R.slots) (hdg : decode cc pc = .ok (.anewarray index, 3))
    (kk : ∀ (q : Nat) (H1 : Heap), va_P D vwCl (ws ++ [(q, .inl (cT, N', .inr (.inr (.inr (.inr (fun _ => none))))))]) H1 → va_D A (ws ++ [(q, .inl (cT, N', .inr (.inr (.inr (.inr (fun _ => none))))))]) → va_S A H0 H1 locs →
      W p l e R s m args below meth c H1 locs (cells + 1) (slots + N') Q (F0 m (pc + 3) ls (.ref q :: rest))) : W p l e R s m args below meth c H locs cells slots Q (F0 m pc ls (.int n :: rest)) := by
  refine va_newq hexec hb hown hclink (va_AO.of hover) hK hP hD hS hA hn hN hbytes hcells hslots hdg (fun q cA H1 hK1 hP1 hD1 hS1 => ?_)
  obtain ⟨kA, comp, -, -, -, h1⟩ := (hK1.2 tys.length (cA, .object C) (by simp)).2
  obtain ⟨kB, compB, -, -, -, h2⟩ := (hK.2 t0 (cT, .object C) ht).2
  have e1 : cA = cT := Option.some.inj (h1.symm.trans h2)
  subst e1
  exact kk q H1 hP1 hD1 hS1
end CON
theorem dfl_2 : ∀ j, j < 7 → defaultValue (tyX2 j) = vp_V [.int 0, .int 0, .null, .null, .int 0, .null, .null] j := by
  intro j hj
  match j, hj with
  | 0, _ => rfl
  | 1, _ => rfl
  | 2, _ => rfl
  | 3, _ => rfl
  | 4, _ => rfl
  | 5, _ => rfl
  | 6, _ => rfl
  | j + 7, h => omega
theorem dfl_3 : ∀ j, j < 6 → defaultValue (tyX3 j) = vp_V [.null, .int 0, .null, .int 0, .int 0, .int 0] j := by
  intro j hj
  match j, hj with
  | 0, _ => rfl
  | 1, _ => rfl
  | 2, _ => rfl
  | 3, _ => rfl
  | 4, _ => rfl
  | 5, _ => rfl
  | j + 6, h => omega
theorem dfl_8 : ∀ j, j < 4 → defaultValue (tyX8 j) = vp_V [.int 0, .null, .null, .null] j := by
  intro j hj
  match j, hj with
  | 0, _ => rfl
  | 1, _ => rfl
  | 2, _ => rfl
  | 3, _ => rfl
  | j + 4, h => omega
theorem dfl_4 : ∀ j, j < 2 → defaultValue (tyX4 j) = vp_V [.int 0, .int 0] j := by
  intro j hj
  match j, hj with
  | 0, _ => rfl
  | 1, _ => rfl
  | j + 2, h => omega
theorem dfl_7 : ∀ j, j < 8 → defaultValue (tyX7 j) = vp_V [.null, .int 0, .int 0, .int 0, .int 0, .int 0, .null, .null] j := by
  intro j hj
  match j, hj with
  | 0, _ => rfl
  | 1, _ => rfl
  | 2, _ => rfl
  | 3, _ => rfl
  | 4, _ => rfl
  | 5, _ => rfl
  | 6, _ => rfl
  | 7, _ => rfl
  | j + 8, h => omega
theorem dfl_5 : ∀ j, j < 15 → defaultValue (tyX5 j) = vp_V [.int 0, .int 0, .null, .null, .null, .int 0, .int 0, .null, .null, .null, .null, .null, .null, .null, .null] j := by
  intro j hj
  match j, hj with
  | 0, _ => rfl
  | 1, _ => rfl
  | 2, _ => rfl
  | 3, _ => rfl
  | 4, _ => rfl
  | 5, _ => rfl
  | 6, _ => rfl
  | 7, _ => rfl
  | 8, _ => rfl
  | 9, _ => rfl
  | 10, _ => rfl
  | 11, _ => rfl
  | 12, _ => rfl
  | 13, _ => rfl
  | 14, _ => rfl
  | j + 15, h => omega
theorem dfl_1 : ∀ j, j < 3 → defaultValue (tyX1 j) = vp_V [.null, .int 0, .int 0] j := by
  intro j hj
  match j, hj with
  | 0, _ => rfl
  | 1, _ => rfl
  | 2, _ => rfl
  | j + 3, h => omega
theorem dfl_0 : ∀ j, j < 6 → defaultValue (tyX0 j) = vp_V [.null, .int 0, .null, .int 0, .int 0, .int 0] j := by
  intro j hj
  match j, hj with
  | 0, _ => rfl
  | 1, _ => rfl
  | 2, _ => rfl
  | 3, _ => rfl
  | 4, _ => rfl
  | 5, _ => rfl
  | j + 6, h => omega
theorem dfl_6 : ∀ j, j < 5 → defaultValue (tyX6 j) = vp_V [.int 0, .int 0, .int 0, .int 0, .null] j := by
  intro j hj
  match j, hj with
  | 0, _ => rfl
  | 1, _ => rfl
  | 2, _ => rfl
  | 3, _ => rfl
  | 4, _ => rfl
  | j + 5, h => omega
theorem dfl_9 : ∀ j, j < 16 → defaultValue (tyX9 j) = vp_V [.null, .null, .null, .null, .null, .null, .null, .null, .null, .null, .null, .null, .int 0, .int 0, .int 0, .int 0] j := by
  intro j hj
  match j, hj with
  | 0, _ => rfl
  | 1, _ => rfl
  | 2, _ => rfl
  | 3, _ => rfl
  | 4, _ => rfl
  | 5, _ => rfl
  | 6, _ => rfl
  | 7, _ => rfl
  | 8, _ => rfl
  | 9, _ => rfl
  | 10, _ => rfl
  | 11, _ => rfl
  | 12, _ => rfl
  | 13, _ => rfl
  | 14, _ => rfl
  | 15, _ => rfl
  | j + 16, h => omega
abbrev wc_4 (ty : Nat → ClassId) (h0 : Nat) (u : Nat → Nat) : va_W := [(h0, .inr (4, [.int 0, .int 0]))]
set_option maxHeartbeats 4000000 in
set_option maxRecDepth 100000 in
theorem ci_4 (l : Launch) (D : va_G) (ty : Nat → ClassId) (h0 : Nat) (sz : Nat) : Met l yX4_init wI_4 ({ frames := 1, cells := 0, slots := 0, locals := 20 }) (va_Pc [.ref h0] (fun U => U.heap.size = sz ∧ va_P D vwCl [(h0, .inr (4, [.int 0, .int 0]))] U.heap ∧ va_K D vwCl (tyL ty) U ∧ va_D (fun _ => True) [(h0, .inr (4, [.int 0, .int 0]))])) (va_Qv (fun _ : Nat → Nat => True) (fun u t => va_P D vwCl (wc_4 ty h0 u) t.heap ∧ va_K D vwCl (tyL ty) t ∧ va_D (va_A [(h0, .inr (4, [.int 0, .int 0]))] sz) (wc_4 ty h0 u)) (va_A [(h0, .inr (4, [.int 0, .int 0]))] sz)) 0 0 (va_A [(h0, .inr (4, [.int 0, .int 0]))] sz) := by
  refine Met.ofW (cc := cX4_init) (maxL := 1) (ret := none) (by decide) rfl ?_
  intro p e s m args below meth c s₁ B hml hv
  obtain ⟨rfl, hsz, hP, hK, hD0⟩ := hv
  have hx := B.exec
  have hb := B.bytes
  have hr := B.returns
  have hts := atoms_spec (ws := wI_4) B.pre
  have htsG : ∀ w ∈ lwG, w.before [.ref h0].toArray s = true := fun w h => hts w (List.mem_cons_of_mem _ h)
  have hown : s.vm.findClass RX4 = some m.cls := findClass_of_methodNamed B.named
  have hlocks := B.notSynchronized
  have hin : meth.name = "<init>" := (name_of_methodNamed B.named B.method).1
  subst hsz
  have hD := hD0.self (sz := s.heap.size)
  generalize hAe : va_A [(h0, .inr (4, [.int 0, .int 0]))] s.heap.size = A at hD ⊢
  have hA : ∀ q : Nat, s.heap.size ≤ q → A q := fun q h => by rw [← hAe]; exact Or.inr h
  have hS : va_S A s.heap s.heap [] := va_S.rf
  have hP : va_P D vwCl [(h0, .inr (4, [.int 0, .int 0]))] s.heap := hP
  have hl := lv_entry ([.ref h0]) (n := 1) (Nat.le_of_ble_eq_true rfl)
  rw [lg_entry_eq]
  generalize (lg_sl ([.ref h0]) ++ List.replicate (1 - (lg_sl ([.ref h0])).length) Slot.unset).toArray = ls at hl ⊢
  have hl : lv_has ls 1 [(0, .ref h0)] := hl
  refine lv_aload_n hx hb (okRw_at okI_4_0 0 rfl) rfl (lv_at hl 0 rfl) ?_
  refine W.objInit hx hb hown (htsG _ (lwG_1 110 rfl rfl)) (htsG _ (lwG_1 26 rfl rfl)) (htsG _ (lwG_1 27 rfl rfl)) rfl (by rw [hml]; exact hl.1) rfl dI4_1 (Nat.le_of_ble_eq_true rfl) (Nat.le_of_ble_eq_true rfl) ?_
  refine W.eq (g2 := F0 m 4 ls []) rfl ?_
  refine W.widen (k := 0) (n := 0) (Nat.le_of_ble_eq_true rfl) (Nat.le_of_ble_eq_true rfl) ?_
  exact W.vret hx hb hr (fun t ht hW => ⟨⟨(fun k => nth 0 [] k), rfl, trivial, by rw [ht]; exact hP, va_K.moved hW.alike hK, hD⟩, hS.F ht⟩) hS.2.2 (okRw_at okI_4_0 1 rfl)
abbrev wc_8 (ty : Nat → ClassId) (h0 : Nat) (u : Nat → Nat) : va_W := [(h0, .inr (8, [.int 0, .ref (u 0), .ref (u 1), .ref (u 2)])), (u 0, .inl (ty 0, 192, .inl (fun _ => 0))), (u 1, .inl (ty 0, 48, .inl (fun _ => 0))), (u 2, .inl (ty 0, 4, .inl (fun _ => 0)))]
set_option maxHeartbeats 4000000 in
set_option maxRecDepth 100000 in
theorem ci_8 (l : Launch) (D : va_G) (ty : Nat → ClassId) (h0 : Nat) (sz : Nat) : Met l yX8_init wI_8 ({ frames := 1, cells := 3, slots := 244, locals := 20 }) (va_Pc [.ref h0] (fun U => U.heap.size = sz ∧ va_P D vwCl [(h0, .inr (8, [.int 0, .null, .null, .null]))] U.heap ∧ va_K D vwCl (tyL ty) U ∧ va_D (fun _ => True) [(h0, .inr (8, [.int 0, .null, .null, .null]))])) (va_Qv (fun _ : Nat → Nat => True) (fun u t => va_P D vwCl (wc_8 ty h0 u) t.heap ∧ va_K D vwCl (tyL ty) t ∧ va_D (va_A [(h0, .inr (8, [.int 0, .null, .null, .null]))] sz) (wc_8 ty h0 u)) (va_A [(h0, .inr (8, [.int 0, .null, .null, .null]))] sz)) 3 244 (va_A [(h0, .inr (8, [.int 0, .null, .null, .null]))] sz) := by
  refine Met.ofW (cc := cX8_init) (maxL := 1) (ret := none) (by decide) rfl ?_
  intro p e s m args below meth c s₁ B hml hv
  obtain ⟨rfl, hsz, hP, hK, hD0⟩ := hv
  have hx := B.exec
  have hb := B.bytes
  have hr := B.returns
  have hts := atoms_spec (ws := wI_8) B.pre
  have htsG : ∀ w ∈ lwG, w.before [.ref h0].toArray s = true := fun w h => hts w (List.mem_cons_of_mem _ h)
  have hown : s.vm.findClass RX8 = some m.cls := findClass_of_methodNamed B.named
  have hlocks := B.notSynchronized
  have hin : meth.name = "<init>" := (name_of_methodNamed B.named B.method).1
  subst hsz
  have hD := hD0.self (sz := s.heap.size)
  generalize hAe : va_A [(h0, .inr (8, [.int 0, .null, .null, .null]))] s.heap.size = A at hD ⊢
  have hA : ∀ q : Nat, s.heap.size ≤ q → A q := fun q h => by rw [← hAe]; exact Or.inr h
  have hS : va_S A s.heap s.heap [] := va_S.rf
  have hP : va_P D vwCl [(h0, .inr (8, [.int 0, .null, .null, .null]))] s.heap := hP
  have hl := lv_entry ([.ref h0]) (n := 1) (Nat.le_of_ble_eq_true rfl)
  rw [lg_entry_eq]
  generalize (lg_sl ([.ref h0]) ++ List.replicate (1 - (lg_sl ([.ref h0])).length) Slot.unset).toArray = ls at hl ⊢
  have hl : lv_has ls 1 [(0, .ref h0)] := hl
  refine lv_aload_n hx hb (okRw_at okI_8_0 0 rfl) rfl (lv_at hl 0 rfl) ?_
  refine W.objInit hx hb hown (htsG _ (lwG_1 90 rfl rfl)) (htsG _ (lwG_1 26 rfl rfl)) (htsG _ (lwG_1 27 rfl rfl)) rfl (by rw [hml]; exact hl.1) rfl dI8_1 (Nat.le_of_ble_eq_true rfl) (Nat.le_of_ble_eq_true rfl) ?_
  refine W.eq (g2 := F0 m 4 ls []) rfl ?_
  refine lv_aload_n hx hb (okRw_at okI_8_0 1 rfl) rfl (lv_at hl 0 rfl) ?_
  refine lv_sipush (v := 192) hx hb (okRw_at okI_8_0 2 rfl) (by decide) ?_
  refine va_newT (t0 := 0) (cT := ty 0) (ty0 := .int) (a0 := (192, .inl (fun _ => 0))) hx hb (htsG _ (lwG_1 59 rfl rfl)) rfl rfl hK hP hD hS hA (fun cA => rfl) (by decide) (by decide) (Nat.le_of_ble_eq_true rfl) (Nat.le_of_ble_eq_true rfl) (Nat.le_of_ble_eq_true rfl) dI8_8 (fun q0 H hP hD hS => ?_)
  refine va_putF (D := D) (ci := 8) (v := .ref q0) (ty := tyX8 1) (C := RX8) (T := TX8) (N := 4) hx hb htsG uw_8 tyX8 tyX8_ok nmX8 hown hK hP hD hS 0 rfl rfl 1 (by decide) (htsG _ (lwG_1 93 rfl rfl)) (fun _ h9 => h9) rfl hin rfl (tyX8_ok 1 (by decide)) rfl rfl (Nat.le_of_ble_eq_true rfl) (okRw_at okI_8_0 3 rfl) (fun H locs hP hD hS => ?_)
  have hPD : wPD D A [(h0, .inr (8, [.int 0, .ref q0, .null, .null])), (q0, .inl (ty 0, 192, .inl (fun _ => 0)))] H := ⟨hP, hD⟩
  have hP := hPD.1
  have hD := hPD.2
  refine lv_aload_n hx hb (okRw_at okI_8_0 4 rfl) rfl (lv_at hl 0 rfl) ?_
  refine lv_bipush (v := 48) hx hb (okRw_at okI_8_0 5 rfl) (by decide) ?_
  refine va_newT (t0 := 0) (cT := ty 0) (ty0 := .int) (a0 := (48, .inl (fun _ => 0))) hx hb (htsG _ (lwG_1 59 rfl rfl)) rfl rfl hK hP hD hS hA (fun cA => rfl) (by decide) (by decide) (Nat.le_of_ble_eq_true rfl) (Nat.le_of_ble_eq_true rfl) (Nat.le_of_ble_eq_true rfl) dI8_16 (fun q1 H hP hD hS => ?_)
  refine va_putF (D := D) (ci := 8) (v := .ref q1) (ty := tyX8 2) (C := RX8) (T := TX8) (N := 4) hx hb htsG uw_8 tyX8 tyX8_ok nmX8 hown hK hP hD hS 0 rfl rfl 2 (by decide) (htsG _ (lwG_1 94 rfl rfl)) (fun _ h9 => h9) rfl hin rfl (tyX8_ok 2 (by decide)) rfl rfl (Nat.le_of_ble_eq_true rfl) (okRw_at okI_8_0 6 rfl) (fun H locs hP hD hS => ?_)
  have hPD : wPD D A [(h0, .inr (8, [.int 0, .ref q0, .ref q1, .null])), (q0, .inl (ty 0, 192, .inl (fun _ => 0))), (q1, .inl (ty 0, 48, .inl (fun _ => 0)))] H := ⟨hP, hD⟩
  have hP := hPD.1
  have hD := hPD.2
  refine lv_aload_n hx hb (okRw_at okI_8_0 7 rfl) rfl (lv_at hl 0 rfl) ?_
  refine lv_iconst (v := 4) hx hb (okRw_at okI_8_0 8 rfl) (by decide) ?_
  refine va_newT (t0 := 0) (cT := ty 0) (ty0 := .int) (a0 := (4, .inl (fun _ => 0))) hx hb (htsG _ (lwG_1 59 rfl rfl)) rfl rfl hK hP hD hS hA (fun cA => rfl) (by decide) (by decide) (Nat.le_of_ble_eq_true rfl) (Nat.le_of_ble_eq_true rfl) (Nat.le_of_ble_eq_true rfl) dI8_23 (fun q2 H hP hD hS => ?_)
  refine va_putF (D := D) (ci := 8) (v := .ref q2) (ty := tyX8 3) (C := RX8) (T := TX8) (N := 4) hx hb htsG uw_8 tyX8 tyX8_ok nmX8 hown hK hP hD hS 0 rfl rfl 3 (by decide) (htsG _ (lwG_1 95 rfl rfl)) (fun _ h9 => h9) rfl hin rfl (tyX8_ok 3 (by decide)) rfl rfl (Nat.le_of_ble_eq_true rfl) (okRw_at okI_8_0 9 rfl) (fun H locs hP hD hS => ?_)
  have hPD : wPD D A [(h0, .inr (8, [.int 0, .ref q0, .ref q1, .ref q2])), (q0, .inl (ty 0, 192, .inl (fun _ => 0))), (q1, .inl (ty 0, 48, .inl (fun _ => 0))), (q2, .inl (ty 0, 4, .inl (fun _ => 0)))] H := ⟨hP, hD⟩
  have hP := hPD.1
  have hD := hPD.2
  refine W.widen (k := 3) (n := 244) (Nat.le_of_ble_eq_true rfl) (Nat.le_of_ble_eq_true rfl) ?_
  exact W.vret hx hb hr (fun t ht hW => ⟨⟨(fun k => nth 0 [q0, q1, q2] k), rfl, trivial, by rw [ht]; exact hP, va_K.moved hW.alike hK, hD⟩, hS.F ht⟩) hS.2.2 (okRw_at okI_8_0 10 rfl)
abbrev wc_2 (ty : Nat → ClassId) (h0 : Nat) (u : Nat → Nat) : va_W := [(h0, .inr (2, [.int 0, .int 20, .ref (u 0), .ref (u 1), .int 0, .ref (u 2), .ref (u 3)])), (u 0, .inl (ty 0, 8, .inl (upd (upd (upd (upd (upd (upd (upd (upd (fun _ => 0) 0 9) 1 9) 2 9) 3 9) 4 9) 5 9) 6 9) 7 9))), (u 1, .inl (ty 0, 121, .inl (fun _ => 0))), (u 2, .inl (ty 0, 64, .inl (fun _ => 0))), (u 3, .inl (ty 0, 6, .inl (fun _ => 0)))]
set_option maxHeartbeats 4000000 in
set_option maxRecDepth 100000 in
theorem ci_2 (l : Launch) (D : va_G) (ty : Nat → ClassId) (h0 : Nat) (sz : Nat) : Met l yX2_init wI_2 ({ frames := 1, cells := 4, slots := 199, locals := 20 }) (va_Pc [.ref h0] (fun U => U.heap.size = sz ∧ va_P D vwCl [(h0, .inr (2, [.int 0, .int 0, .null, .null, .int 0, .null, .null]))] U.heap ∧ va_K D vwCl (tyL ty) U ∧ va_D (fun _ => True) [(h0, .inr (2, [.int 0, .int 0, .null, .null, .int 0, .null, .null]))])) (va_Qv (fun _ : Nat → Nat => True) (fun u t => va_P D vwCl (wc_2 ty h0 u) t.heap ∧ va_K D vwCl (tyL ty) t ∧ va_D (va_A [(h0, .inr (2, [.int 0, .int 0, .null, .null, .int 0, .null, .null]))] sz) (wc_2 ty h0 u)) (va_A [(h0, .inr (2, [.int 0, .int 0, .null, .null, .int 0, .null, .null]))] sz)) 4 199 (va_A [(h0, .inr (2, [.int 0, .int 0, .null, .null, .int 0, .null, .null]))] sz) := by
  refine Met.ofW (cc := cX2_init) (maxL := 2) (ret := none) (by decide) rfl ?_
  intro p e s m args below meth c s₁ B hml hv
  obtain ⟨rfl, hsz, hP, hK, hD0⟩ := hv
  have hx := B.exec
  have hb := B.bytes
  have hr := B.returns
  have hts := atoms_spec (ws := wI_2) B.pre
  have htsG : ∀ w ∈ lwG, w.before [.ref h0].toArray s = true := fun w h => hts w (List.mem_cons_of_mem _ h)
  have hown : s.vm.findClass RX2 = some m.cls := findClass_of_methodNamed B.named
  have hlocks := B.notSynchronized
  have hin : meth.name = "<init>" := (name_of_methodNamed B.named B.method).1
  subst hsz
  have hD := hD0.self (sz := s.heap.size)
  generalize hAe : va_A [(h0, .inr (2, [.int 0, .int 0, .null, .null, .int 0, .null, .null]))] s.heap.size = A at hD ⊢
  have hA : ∀ q : Nat, s.heap.size ≤ q → A q := fun q h => by rw [← hAe]; exact Or.inr h
  have hS : va_S A s.heap s.heap [] := va_S.rf
  have hP : va_P D vwCl [(h0, .inr (2, [.int 0, .int 0, .null, .null, .int 0, .null, .null]))] s.heap := hP
  have hl := lv_entry ([.ref h0]) (n := 2) (Nat.le_of_ble_eq_true rfl)
  rw [lg_entry_eq]
  generalize (lg_sl ([.ref h0]) ++ List.replicate (2 - (lg_sl ([.ref h0])).length) Slot.unset).toArray = ls at hl ⊢
  have hl : lv_has ls 2 [(0, .ref h0)] := hl
  refine lv_aload_n hx hb (okRw_at okI_2_0 0 rfl) rfl (lv_at hl 0 rfl) ?_
  refine W.objInit hx hb hown (htsG _ (lwG_1 33 rfl rfl)) (htsG _ (lwG_1 26 rfl rfl)) (htsG _ (lwG_1 27 rfl rfl)) rfl (by rw [hml]; exact hl.1) rfl dI2_1 (Nat.le_of_ble_eq_true rfl) (Nat.le_of_ble_eq_true rfl) ?_
  refine W.eq (g2 := F0 m 4 ls []) rfl ?_
  refine lv_aload_n hx hb (okRw_at okI_2_0 1 rfl) rfl (lv_at hl 0 rfl) ?_
  refine lv_bipush (v := 20) hx hb (okRw_at okI_2_0 2 rfl) (by decide) ?_
  refine va_put (D := D) (ci := 2) (v := .int 20) (ty := tyX2 1) (C := RX2) (T := TX2) (N := 7) hx hb htsG uw_2 tyX2 tyX2_ok nmX2 hown hK hP hD hS 0 rfl rfl 1 (by decide) (htsG _ (lwG_1 36 rfl rfl)) (fun _ h9 => h9) rfl (tyX2_ok 1 (by decide)) rfl rfl (Nat.le_of_ble_eq_true rfl) (okRw_at okI_2_0 3 rfl) (fun H locs hP hD hS => ?_)
  have hPD : wPD D A [(h0, .inr (2, [.int 0, .int 20, .null, .null, .int 0, .null, .null]))] H := ⟨hP, hD⟩
  have hP := hPD.1
  have hD := hPD.2
  refine lv_aload_n hx hb (okRw_at okI_2_0 4 rfl) rfl (lv_at hl 0 rfl) ?_
  refine lv_bipush (v := 8) hx hb (okRw_at okI_2_0 5 rfl) (by decide) ?_
  refine va_newT (t0 := 0) (cT := ty 0) (ty0 := .int) (a0 := (8, .inl (fun _ => 0))) hx hb (htsG _ (lwG_1 59 rfl rfl)) rfl rfl hK hP hD hS hA (fun cA => rfl) (by decide) (by decide) (Nat.le_of_ble_eq_true rfl) (Nat.le_of_ble_eq_true rfl) (Nat.le_of_ble_eq_true rfl) dI2_13 (fun q0 H hP hD hS => ?_)
  refine va_putF (D := D) (ci := 2) (v := .ref q0) (ty := tyX2 2) (C := RX2) (T := TX2) (N := 7) hx hb htsG uw_2 tyX2 tyX2_ok nmX2 hown hK hP hD hS 0 rfl rfl 2 (by decide) (htsG _ (lwG_1 39 rfl rfl)) (fun _ h9 => h9) rfl hin rfl (tyX2_ok 2 (by decide)) rfl rfl (Nat.le_of_ble_eq_true rfl) (okRw_at okI_2_0 6 rfl) (fun H locs hP hD hS => ?_)
  have hPD : wPD D A [(h0, .inr (2, [.int 0, .int 20, .ref q0, .null, .int 0, .null, .null])), (q0, .inl (ty 0, 8, .inl (fun _ => 0)))] H := ⟨hP, hD⟩
  have hP := hPD.1
  have hD := hPD.2
  refine lv_aload_n hx hb (okRw_at okI_2_0 7 rfl) rfl (lv_at hl 0 rfl) ?_
  refine lv_bipush (v := 121) hx hb (okRw_at okI_2_0 8 rfl) (by decide) ?_
  refine va_newT (t0 := 0) (cT := ty 0) (ty0 := .int) (a0 := (121, .inl (fun _ => 0))) hx hb (htsG _ (lwG_1 59 rfl rfl)) rfl rfl hK hP hD hS hA (fun cA => rfl) (by decide) (by decide) (Nat.le_of_ble_eq_true rfl) (Nat.le_of_ble_eq_true rfl) (Nat.le_of_ble_eq_true rfl) dI2_21 (fun q1 H hP hD hS => ?_)
  refine va_putF (D := D) (ci := 2) (v := .ref q1) (ty := tyX2 3) (C := RX2) (T := TX2) (N := 7) hx hb htsG uw_2 tyX2 tyX2_ok nmX2 hown hK hP hD hS 0 rfl rfl 3 (by decide) (htsG _ (lwG_1 40 rfl rfl)) (fun _ h9 => h9) rfl hin rfl (tyX2_ok 3 (by decide)) rfl rfl (Nat.le_of_ble_eq_true rfl) (okRw_at okI_2_0 9 rfl) (fun H locs hP hD hS => ?_)
  have hPD : wPD D A [(h0, .inr (2, [.int 0, .int 20, .ref q0, .ref q1, .int 0, .null, .null])), (q0, .inl (ty 0, 8, .inl (fun _ => 0))), (q1, .inl (ty 0, 121, .inl (fun _ => 0)))] H := ⟨hP, hD⟩
  have hP := hPD.1
  have hD := hPD.2
  refine lv_aload_n hx hb (okRw_at okI_2_0 10 rfl) rfl (lv_at hl 0 rfl) ?_
  refine lv_bipush (v := 64) hx hb (okRw_at okI_2_0 11 rfl) (by decide) ?_
  refine va_newT (t0 := 0) (cT := ty 0) (ty0 := .int) (a0 := (64, .inl (fun _ => 0))) hx hb (htsG _ (lwG_1 59 rfl rfl)) rfl rfl hK hP hD hS hA (fun cA => rfl) (by decide) (by decide) (Nat.le_of_ble_eq_true rfl) (Nat.le_of_ble_eq_true rfl) (Nat.le_of_ble_eq_true rfl) dI2_29 (fun q2 H hP hD hS => ?_)
  refine va_putF (D := D) (ci := 2) (v := .ref q2) (ty := tyX2 5) (C := RX2) (T := TX2) (N := 7) hx hb htsG uw_2 tyX2 tyX2_ok nmX2 hown hK hP hD hS 0 rfl rfl 5 (by decide) (htsG _ (lwG_1 42 rfl rfl)) (fun _ h9 => h9) rfl hin rfl (tyX2_ok 5 (by decide)) rfl rfl (Nat.le_of_ble_eq_true rfl) (okRw_at okI_2_0 12 rfl) (fun H locs hP hD hS => ?_)
  have hPD : wPD D A [(h0, .inr (2, [.int 0, .int 20, .ref q0, .ref q1, .int 0, .ref q2, .null])), (q0, .inl (ty 0, 8, .inl (fun _ => 0))), (q1, .inl (ty 0, 121, .inl (fun _ => 0))), (q2, .inl (ty 0, 64, .inl (fun _ => 0)))] H := ⟨hP, hD⟩
  have hP := hPD.1
  have hD := hPD.2
  refine lv_aload_n hx hb (okRw_at okI_2_0 13 rfl) rfl (lv_at hl 0 rfl) ?_
  refine lv_bipush (v := 6) hx hb (okRw_at okI_2_0 14 rfl) (by decide) ?_
  refine va_newT (t0 := 0) (cT := ty 0) (ty0 := .int) (a0 := (6, .inl (fun _ => 0))) hx hb (htsG _ (lwG_1 59 rfl rfl)) rfl rfl hK hP hD hS hA (fun cA => rfl) (by decide) (by decide) (Nat.le_of_ble_eq_true rfl) (Nat.le_of_ble_eq_true rfl) (Nat.le_of_ble_eq_true rfl) dI2_37 (fun q3 H hP hD hS => ?_)
  refine va_putF (D := D) (ci := 2) (v := .ref q3) (ty := tyX2 6) (C := RX2) (T := TX2) (N := 7) hx hb htsG uw_2 tyX2 tyX2_ok nmX2 hown hK hP hD hS 0 rfl rfl 6 (by decide) (htsG _ (lwG_1 43 rfl rfl)) (fun _ h9 => h9) rfl hin rfl (tyX2_ok 6 (by decide)) rfl rfl (Nat.le_of_ble_eq_true rfl) (okRw_at okI_2_0 15 rfl) (fun H locs hP hD hS => ?_)
  have hPD : wPD D A [(h0, .inr (2, [.int 0, .int 20, .ref q0, .ref q1, .int 0, .ref q2, .ref q3])), (q0, .inl (ty 0, 8, .inl (fun _ => 0))), (q1, .inl (ty 0, 121, .inl (fun _ => 0))), (q2, .inl (ty 0, 64, .inl (fun _ => 0))), (q3, .inl (ty 0, 6, .inl (fun _ => 0)))] H := ⟨hP, hD⟩
  have hP := hPD.1
  have hD := hPD.2
  refine lv_iconst (v := 0) hx hb (okRw_at okI_2_0 16 rfl) (by decide) ?_
  refine lv_istore_n (lv' := [(1, .int 0), (0, .ref h0)]) hx hb (okRw_at okI_2_0 17 rfl) rfl hl (by decide) rfl (fun ls hl => ?_)
  refine lv_iload_n hx hb (okRw_at okI_2_0 18 rfl) rfl (lv_at hl 0 rfl) ?_
  refine lv_aload_n hx hb (okRw_at okI_2_0 19 rfl) rfl (lv_at hl 1 rfl) ?_
  refine va_get (D := D) (ci := 2) (v := .ref q0) (C := RX2) (T := TX2) (N := 7) hx hb htsG uw_2 hown hK hP 0 rfl rfl 2 (by decide) (htsG _ (lwG_1 39 rfl rfl)) (fun _ h9 => h9) rfl (okRw_at okI_2_0 20 rfl) ?_
  refine va_alen (v := 8) hx hb hK hP 1 0 rfl rfl (by decide) (okRw_at okI_2_0 21 rfl) ?_
  refine lv_icmp_ge (tgt := 67) hx hb (okRw_at okI_2_0 22 rfl) (by decide) (fun g => ?_) (fun g => ?_)
  · exact absurd g (by decide)
  refine lv_aload_n hx hb (okRw_at okI_2_0 23 rfl) rfl (lv_at hl 1 rfl) ?_
  refine va_get (D := D) (ci := 2) (v := .ref q0) (C := RX2) (T := TX2) (N := 7) hx hb htsG uw_2 hown hK hP 0 rfl rfl 2 (by decide) (htsG _ (lwG_1 39 rfl rfl)) (fun _ h9 => h9) rfl (okRw_at okI_2_0 24 rfl) ?_
  refine lv_iload_n hx hb (okRw_at okI_2_0 25 rfl) rfl (lv_at hl 0 rfl) ?_
  refine lv_bipush (v := 9) hx hb (okRw_at okI_2_0 26 rfl) (by decide) ?_
  refine va_iast hx hb hK hP hD hS 1 0 rfl rfl (i := 0) (x := 9) (nI_vp (c := 0) (by decide) (by decide)) (okRw_at okI_2_0 27 rfl) (fun H locs hP hD hS => ?_)
  have hPD : wPD D A [(h0, .inr (2, [.int 0, .int 20, .ref q0, .ref q1, .int 0, .ref q2, .ref q3])), (q0, .inl (ty 0, 8, .inl (upd (fun _ => 0) 0 9))), (q1, .inl (ty 0, 121, .inl (fun _ => 0))), (q2, .inl (ty 0, 64, .inl (fun _ => 0))), (q3, .inl (ty 0, 6, .inl (fun _ => 0)))] H := ⟨hP, hD⟩
  have hP := hPD.1
  have hD := hPD.2
  refine lv_iinc (v := 1) (lv' := [(1, .int 1), (0, .ref h0)]) hx hb (okRw_at okI_2_0 28 rfl) hl (k := 0) rfl (by decide) (by decide) rfl (fun ls hl => ?_)
  refine lv_goto (tgt := 44) hx hb (okRw_at okI_2_0 29 rfl) (by decide) ?_
  refine lv_iload_n hx hb (okRw_at okI_2_0 18 rfl) rfl (lv_at hl 0 rfl) ?_
  refine lv_aload_n hx hb (okRw_at okI_2_0 19 rfl) rfl (lv_at hl 1 rfl) ?_
  refine va_get (D := D) (ci := 2) (v := .ref q0) (C := RX2) (T := TX2) (N := 7) hx hb htsG uw_2 hown hK hP 0 rfl rfl 2 (by decide) (htsG _ (lwG_1 39 rfl rfl)) (fun _ h9 => h9) rfl (okRw_at okI_2_0 20 rfl) ?_
  refine va_alen (v := 8) hx hb hK hP 1 0 rfl rfl (by decide) (okRw_at okI_2_0 21 rfl) ?_
  refine lv_icmp_ge (tgt := 67) hx hb (okRw_at okI_2_0 22 rfl) (by decide) (fun g => ?_) (fun g => ?_)
  · exact absurd g (by decide)
  refine lv_aload_n hx hb (okRw_at okI_2_0 23 rfl) rfl (lv_at hl 1 rfl) ?_
  refine va_get (D := D) (ci := 2) (v := .ref q0) (C := RX2) (T := TX2) (N := 7) hx hb htsG uw_2 hown hK hP 0 rfl rfl 2 (by decide) (htsG _ (lwG_1 39 rfl rfl)) (fun _ h9 => h9) rfl (okRw_at okI_2_0 24 rfl) ?_
  refine lv_iload_n hx hb (okRw_at okI_2_0 25 rfl) rfl (lv_at hl 0 rfl) ?_
  refine lv_bipush (v := 9) hx hb (okRw_at okI_2_0 26 rfl) (by decide) ?_
  refine va_iast hx hb hK hP hD hS 1 0 rfl rfl (i := 1) (x := 9) (nI_vp (c := 1) (by decide) (by decide)) (okRw_at okI_2_0 27 rfl) (fun H locs hP hD hS => ?_)
  have hPD : wPD D A [(h0, .inr (2, [.int 0, .int 20, .ref q0, .ref q1, .int 0, .ref q2, .ref q3])), (q0, .inl (ty 0, 8, .inl (upd (upd (fun _ => 0) 0 9) 1 9))), (q1, .inl (ty 0, 121, .inl (fun _ => 0))), (q2, .inl (ty 0, 64, .inl (fun _ => 0))), (q3, .inl (ty 0, 6, .inl (fun _ => 0)))] H := ⟨hP, hD⟩
  have hP := hPD.1
  have hD := hPD.2
  refine lv_iinc (v := 2) (lv' := [(1, .int 2), (0, .ref h0)]) hx hb (okRw_at okI_2_0 28 rfl) hl (k := 0) rfl (by decide) (by decide) rfl (fun ls hl => ?_)
  refine lv_goto (tgt := 44) hx hb (okRw_at okI_2_0 29 rfl) (by decide) ?_
  refine lv_iload_n hx hb (okRw_at okI_2_0 18 rfl) rfl (lv_at hl 0 rfl) ?_
  refine lv_aload_n hx hb (okRw_at okI_2_0 19 rfl) rfl (lv_at hl 1 rfl) ?_
  refine va_get (D := D) (ci := 2) (v := .ref q0) (C := RX2) (T := TX2) (N := 7) hx hb htsG uw_2 hown hK hP 0 rfl rfl 2 (by decide) (htsG _ (lwG_1 39 rfl rfl)) (fun _ h9 => h9) rfl (okRw_at okI_2_0 20 rfl) ?_
  refine va_alen (v := 8) hx hb hK hP 1 0 rfl rfl (by decide) (okRw_at okI_2_0 21 rfl) ?_
  refine lv_icmp_ge (tgt := 67) hx hb (okRw_at okI_2_0 22 rfl) (by decide) (fun g => ?_) (fun g => ?_)
  · exact absurd g (by decide)
  refine lv_aload_n hx hb (okRw_at okI_2_0 23 rfl) rfl (lv_at hl 1 rfl) ?_
  refine va_get (D := D) (ci := 2) (v := .ref q0) (C := RX2) (T := TX2) (N := 7) hx hb htsG uw_2 hown hK hP 0 rfl rfl 2 (by decide) (htsG _ (lwG_1 39 rfl rfl)) (fun _ h9 => h9) rfl (okRw_at okI_2_0 24 rfl) ?_
  refine lv_iload_n hx hb (okRw_at okI_2_0 25 rfl) rfl (lv_at hl 0 rfl) ?_
  refine lv_bipush (v := 9) hx hb (okRw_at okI_2_0 26 rfl) (by decide) ?_
  refine va_iast hx hb hK hP hD hS 1 0 rfl rfl (i := 2) (x := 9) (nI_vp (c := 2) (by decide) (by decide)) (okRw_at okI_2_0 27 rfl) (fun H locs hP hD hS => ?_)
  have hPD : wPD D A [(h0, .inr (2, [.int 0, .int 20, .ref q0, .ref q1, .int 0, .ref q2, .ref q3])), (q0, .inl (ty 0, 8, .inl (upd (upd (upd (fun _ => 0) 0 9) 1 9) 2 9))), (q1, .inl (ty 0, 121, .inl (fun _ => 0))), (q2, .inl (ty 0, 64, .inl (fun _ => 0))), (q3, .inl (ty 0, 6, .inl (fun _ => 0)))] H := ⟨hP, hD⟩
  have hP := hPD.1
  have hD := hPD.2
  refine lv_iinc (v := 3) (lv' := [(1, .int 3), (0, .ref h0)]) hx hb (okRw_at okI_2_0 28 rfl) hl (k := 0) rfl (by decide) (by decide) rfl (fun ls hl => ?_)
  refine lv_goto (tgt := 44) hx hb (okRw_at okI_2_0 29 rfl) (by decide) ?_
  refine lv_iload_n hx hb (okRw_at okI_2_0 18 rfl) rfl (lv_at hl 0 rfl) ?_
  refine lv_aload_n hx hb (okRw_at okI_2_0 19 rfl) rfl (lv_at hl 1 rfl) ?_
  refine va_get (D := D) (ci := 2) (v := .ref q0) (C := RX2) (T := TX2) (N := 7) hx hb htsG uw_2 hown hK hP 0 rfl rfl 2 (by decide) (htsG _ (lwG_1 39 rfl rfl)) (fun _ h9 => h9) rfl (okRw_at okI_2_0 20 rfl) ?_
  refine va_alen (v := 8) hx hb hK hP 1 0 rfl rfl (by decide) (okRw_at okI_2_0 21 rfl) ?_
  refine lv_icmp_ge (tgt := 67) hx hb (okRw_at okI_2_0 22 rfl) (by decide) (fun g => ?_) (fun g => ?_)
  · exact absurd g (by decide)
  refine lv_aload_n hx hb (okRw_at okI_2_0 23 rfl) rfl (lv_at hl 1 rfl) ?_
  refine va_get (D := D) (ci := 2) (v := .ref q0) (C := RX2) (T := TX2) (N := 7) hx hb htsG uw_2 hown hK hP 0 rfl rfl 2 (by decide) (htsG _ (lwG_1 39 rfl rfl)) (fun _ h9 => h9) rfl (okRw_at okI_2_0 24 rfl) ?_
  refine lv_iload_n hx hb (okRw_at okI_2_0 25 rfl) rfl (lv_at hl 0 rfl) ?_
  refine lv_bipush (v := 9) hx hb (okRw_at okI_2_0 26 rfl) (by decide) ?_
  refine va_iast hx hb hK hP hD hS 1 0 rfl rfl (i := 3) (x := 9) (nI_vp (c := 3) (by decide) (by decide)) (okRw_at okI_2_0 27 rfl) (fun H locs hP hD hS => ?_)
  have hPD : wPD D A [(h0, .inr (2, [.int 0, .int 20, .ref q0, .ref q1, .int 0, .ref q2, .ref q3])), (q0, .inl (ty 0, 8, .inl (upd (upd (upd (upd (fun _ => 0) 0 9) 1 9) 2 9) 3 9))), (q1, .inl (ty 0, 121, .inl (fun _ => 0))), (q2, .inl (ty 0, 64, .inl (fun _ => 0))), (q3, .inl (ty 0, 6, .inl (fun _ => 0)))] H := ⟨hP, hD⟩
  have hP := hPD.1
  have hD := hPD.2
  refine lv_iinc (v := 4) (lv' := [(1, .int 4), (0, .ref h0)]) hx hb (okRw_at okI_2_0 28 rfl) hl (k := 0) rfl (by decide) (by decide) rfl (fun ls hl => ?_)
  refine lv_goto (tgt := 44) hx hb (okRw_at okI_2_0 29 rfl) (by decide) ?_
  refine lv_iload_n hx hb (okRw_at okI_2_0 18 rfl) rfl (lv_at hl 0 rfl) ?_
  refine lv_aload_n hx hb (okRw_at okI_2_0 19 rfl) rfl (lv_at hl 1 rfl) ?_
  refine va_get (D := D) (ci := 2) (v := .ref q0) (C := RX2) (T := TX2) (N := 7) hx hb htsG uw_2 hown hK hP 0 rfl rfl 2 (by decide) (htsG _ (lwG_1 39 rfl rfl)) (fun _ h9 => h9) rfl (okRw_at okI_2_0 20 rfl) ?_
  refine va_alen (v := 8) hx hb hK hP 1 0 rfl rfl (by decide) (okRw_at okI_2_0 21 rfl) ?_
  refine lv_icmp_ge (tgt := 67) hx hb (okRw_at okI_2_0 22 rfl) (by decide) (fun g => ?_) (fun g => ?_)
  · exact absurd g (by decide)
  refine lv_aload_n hx hb (okRw_at okI_2_0 23 rfl) rfl (lv_at hl 1 rfl) ?_
  refine va_get (D := D) (ci := 2) (v := .ref q0) (C := RX2) (T := TX2) (N := 7) hx hb htsG uw_2 hown hK hP 0 rfl rfl 2 (by decide) (htsG _ (lwG_1 39 rfl rfl)) (fun _ h9 => h9) rfl (okRw_at okI_2_0 24 rfl) ?_
  refine lv_iload_n hx hb (okRw_at okI_2_0 25 rfl) rfl (lv_at hl 0 rfl) ?_
  refine lv_bipush (v := 9) hx hb (okRw_at okI_2_0 26 rfl) (by decide) ?_
  refine va_iast hx hb hK hP hD hS 1 0 rfl rfl (i := 4) (x := 9) (nI_vp (c := 4) (by decide) (by decide)) (okRw_at okI_2_0 27 rfl) (fun H locs hP hD hS => ?_)
  have hPD : wPD D A [(h0, .inr (2, [.int 0, .int 20, .ref q0, .ref q1, .int 0, .ref q2, .ref q3])), (q0, .inl (ty 0, 8, .inl (upd (upd (upd (upd (upd (fun _ => 0) 0 9) 1 9) 2 9) 3 9) 4 9))), (q1, .inl (ty 0, 121, .inl (fun _ => 0))), (q2, .inl (ty 0, 64, .inl (fun _ => 0))), (q3, .inl (ty 0, 6, .inl (fun _ => 0)))] H := ⟨hP, hD⟩
  have hP := hPD.1
  have hD := hPD.2
  refine lv_iinc (v := 5) (lv' := [(1, .int 5), (0, .ref h0)]) hx hb (okRw_at okI_2_0 28 rfl) hl (k := 0) rfl (by decide) (by decide) rfl (fun ls hl => ?_)
  refine lv_goto (tgt := 44) hx hb (okRw_at okI_2_0 29 rfl) (by decide) ?_
  refine lv_iload_n hx hb (okRw_at okI_2_0 18 rfl) rfl (lv_at hl 0 rfl) ?_
  refine lv_aload_n hx hb (okRw_at okI_2_0 19 rfl) rfl (lv_at hl 1 rfl) ?_
  refine va_get (D := D) (ci := 2) (v := .ref q0) (C := RX2) (T := TX2) (N := 7) hx hb htsG uw_2 hown hK hP 0 rfl rfl 2 (by decide) (htsG _ (lwG_1 39 rfl rfl)) (fun _ h9 => h9) rfl (okRw_at okI_2_0 20 rfl) ?_
  refine va_alen (v := 8) hx hb hK hP 1 0 rfl rfl (by decide) (okRw_at okI_2_0 21 rfl) ?_
  refine lv_icmp_ge (tgt := 67) hx hb (okRw_at okI_2_0 22 rfl) (by decide) (fun g => ?_) (fun g => ?_)
  · exact absurd g (by decide)
  refine lv_aload_n hx hb (okRw_at okI_2_0 23 rfl) rfl (lv_at hl 1 rfl) ?_
  refine va_get (D := D) (ci := 2) (v := .ref q0) (C := RX2) (T := TX2) (N := 7) hx hb htsG uw_2 hown hK hP 0 rfl rfl 2 (by decide) (htsG _ (lwG_1 39 rfl rfl)) (fun _ h9 => h9) rfl (okRw_at okI_2_0 24 rfl) ?_
  refine lv_iload_n hx hb (okRw_at okI_2_0 25 rfl) rfl (lv_at hl 0 rfl) ?_
  refine lv_bipush (v := 9) hx hb (okRw_at okI_2_0 26 rfl) (by decide) ?_
  refine va_iast hx hb hK hP hD hS 1 0 rfl rfl (i := 5) (x := 9) (nI_vp (c := 5) (by decide) (by decide)) (okRw_at okI_2_0 27 rfl) (fun H locs hP hD hS => ?_)
  have hPD : wPD D A [(h0, .inr (2, [.int 0, .int 20, .ref q0, .ref q1, .int 0, .ref q2, .ref q3])), (q0, .inl (ty 0, 8, .inl (upd (upd (upd (upd (upd (upd (fun _ => 0) 0 9) 1 9) 2 9) 3 9) 4 9) 5 9))), (q1, .inl (ty 0, 121, .inl (fun _ => 0))), (q2, .inl (ty 0, 64, .inl (fun _ => 0))), (q3, .inl (ty 0, 6, .inl (fun _ => 0)))] H := ⟨hP, hD⟩
  have hP := hPD.1
  have hD := hPD.2
  refine lv_iinc (v := 6) (lv' := [(1, .int 6), (0, .ref h0)]) hx hb (okRw_at okI_2_0 28 rfl) hl (k := 0) rfl (by decide) (by decide) rfl (fun ls hl => ?_)
  refine lv_goto (tgt := 44) hx hb (okRw_at okI_2_0 29 rfl) (by decide) ?_
  refine lv_iload_n hx hb (okRw_at okI_2_0 18 rfl) rfl (lv_at hl 0 rfl) ?_
  refine lv_aload_n hx hb (okRw_at okI_2_0 19 rfl) rfl (lv_at hl 1 rfl) ?_
  refine va_get (D := D) (ci := 2) (v := .ref q0) (C := RX2) (T := TX2) (N := 7) hx hb htsG uw_2 hown hK hP 0 rfl rfl 2 (by decide) (htsG _ (lwG_1 39 rfl rfl)) (fun _ h9 => h9) rfl (okRw_at okI_2_0 20 rfl) ?_
  refine va_alen (v := 8) hx hb hK hP 1 0 rfl rfl (by decide) (okRw_at okI_2_0 21 rfl) ?_
  refine lv_icmp_ge (tgt := 67) hx hb (okRw_at okI_2_0 22 rfl) (by decide) (fun g => ?_) (fun g => ?_)
  · exact absurd g (by decide)
  refine lv_aload_n hx hb (okRw_at okI_2_0 23 rfl) rfl (lv_at hl 1 rfl) ?_
  refine va_get (D := D) (ci := 2) (v := .ref q0) (C := RX2) (T := TX2) (N := 7) hx hb htsG uw_2 hown hK hP 0 rfl rfl 2 (by decide) (htsG _ (lwG_1 39 rfl rfl)) (fun _ h9 => h9) rfl (okRw_at okI_2_0 24 rfl) ?_
  refine lv_iload_n hx hb (okRw_at okI_2_0 25 rfl) rfl (lv_at hl 0 rfl) ?_
  refine lv_bipush (v := 9) hx hb (okRw_at okI_2_0 26 rfl) (by decide) ?_
  refine va_iast hx hb hK hP hD hS 1 0 rfl rfl (i := 6) (x := 9) (nI_vp (c := 6) (by decide) (by decide)) (okRw_at okI_2_0 27 rfl) (fun H locs hP hD hS => ?_)
  have hPD : wPD D A [(h0, .inr (2, [.int 0, .int 20, .ref q0, .ref q1, .int 0, .ref q2, .ref q3])), (q0, .inl (ty 0, 8, .inl (upd (upd (upd (upd (upd (upd (upd (fun _ => 0) 0 9) 1 9) 2 9) 3 9) 4 9) 5 9) 6 9))), (q1, .inl (ty 0, 121, .inl (fun _ => 0))), (q2, .inl (ty 0, 64, .inl (fun _ => 0))), (q3, .inl (ty 0, 6, .inl (fun _ => 0)))] H := ⟨hP, hD⟩
  have hP := hPD.1
  have hD := hPD.2
  refine lv_iinc (v := 7) (lv' := [(1, .int 7), (0, .ref h0)]) hx hb (okRw_at okI_2_0 28 rfl) hl (k := 0) rfl (by decide) (by decide) rfl (fun ls hl => ?_)
  refine lv_goto (tgt := 44) hx hb (okRw_at okI_2_0 29 rfl) (by decide) ?_
  refine lv_iload_n hx hb (okRw_at okI_2_0 18 rfl) rfl (lv_at hl 0 rfl) ?_
  refine lv_aload_n hx hb (okRw_at okI_2_0 19 rfl) rfl (lv_at hl 1 rfl) ?_
  refine va_get (D := D) (ci := 2) (v := .ref q0) (C := RX2) (T := TX2) (N := 7) hx hb htsG uw_2 hown hK hP 0 rfl rfl 2 (by decide) (htsG _ (lwG_1 39 rfl rfl)) (fun _ h9 => h9) rfl (okRw_at okI_2_0 20 rfl) ?_
  refine va_alen (v := 8) hx hb hK hP 1 0 rfl rfl (by decide) (okRw_at okI_2_0 21 rfl) ?_
  refine lv_icmp_ge (tgt := 67) hx hb (okRw_at okI_2_0 22 rfl) (by decide) (fun g => ?_) (fun g => ?_)
  · exact absurd g (by decide)
  refine lv_aload_n hx hb (okRw_at okI_2_0 23 rfl) rfl (lv_at hl 1 rfl) ?_
  refine va_get (D := D) (ci := 2) (v := .ref q0) (C := RX2) (T := TX2) (N := 7) hx hb htsG uw_2 hown hK hP 0 rfl rfl 2 (by decide) (htsG _ (lwG_1 39 rfl rfl)) (fun _ h9 => h9) rfl (okRw_at okI_2_0 24 rfl) ?_
  refine lv_iload_n hx hb (okRw_at okI_2_0 25 rfl) rfl (lv_at hl 0 rfl) ?_
  refine lv_bipush (v := 9) hx hb (okRw_at okI_2_0 26 rfl) (by decide) ?_
  refine va_iast hx hb hK hP hD hS 1 0 rfl rfl (i := 7) (x := 9) (nI_vp (c := 7) (by decide) (by decide)) (okRw_at okI_2_0 27 rfl) (fun H locs hP hD hS => ?_)
  have hPD : wPD D A [(h0, .inr (2, [.int 0, .int 20, .ref q0, .ref q1, .int 0, .ref q2, .ref q3])), (q0, .inl (ty 0, 8, .inl (upd (upd (upd (upd (upd (upd (upd (upd (fun _ => 0) 0 9) 1 9) 2 9) 3 9) 4 9) 5 9) 6 9) 7 9))), (q1, .inl (ty 0, 121, .inl (fun _ => 0))), (q2, .inl (ty 0, 64, .inl (fun _ => 0))), (q3, .inl (ty 0, 6, .inl (fun _ => 0)))] H := ⟨hP, hD⟩
  have hP := hPD.1
  have hD := hPD.2
  refine lv_iinc (v := 8) (lv' := [(1, .int 8), (0, .ref h0)]) hx hb (okRw_at okI_2_0 28 rfl) hl (k := 0) rfl (by decide) (by decide) rfl (fun ls hl => ?_)
  refine lv_goto (tgt := 44) hx hb (okRw_at okI_2_0 29 rfl) (by decide) ?_
  refine lv_iload_n hx hb (okRw_at okI_2_0 18 rfl) rfl (lv_at hl 0 rfl) ?_
  refine lv_aload_n hx hb (okRw_at okI_2_0 19 rfl) rfl (lv_at hl 1 rfl) ?_
  refine va_get (D := D) (ci := 2) (v := .ref q0) (C := RX2) (T := TX2) (N := 7) hx hb htsG uw_2 hown hK hP 0 rfl rfl 2 (by decide) (htsG _ (lwG_1 39 rfl rfl)) (fun _ h9 => h9) rfl (okRw_at okI_2_0 20 rfl) ?_
  refine va_alen (v := 8) hx hb hK hP 1 0 rfl rfl (by decide) (okRw_at okI_2_0 21 rfl) ?_
  refine lv_icmp_ge (tgt := 67) hx hb (okRw_at okI_2_0 22 rfl) (by decide) (fun g => ?_) (fun g => ?_)
  rotate_left
  · exact absurd (show (8 : Int32) ≤ 8 by decide) g
  refine W.widen (k := 4) (n := 199) (Nat.le_of_ble_eq_true rfl) (Nat.le_of_ble_eq_true rfl) ?_
  exact W.vret hx hb hr (fun t ht hW => ⟨⟨(fun k => nth 0 [q0, q1, q2, q3] k), rfl, trivial, by rw [ht]; exact hP, va_K.moved hW.alike hK, hD⟩, hS.F ht⟩) hS.2.2 (okRw_at okI_2_0 30 rfl)
abbrev wc_3 (ty : Nat → ClassId) (h0 : Nat) (u : Nat → Nat) : va_W := [(h0, .inr (3, [.ref (u 0), .int 0, .ref (u 1), .int 0, .int 0, .int 0])), (u 0, .inl (ty 0, 120, .inl (fun _ => 0))), (u 1, .inl (ty 0, 121, .inl (fun _ => 0)))]
set_option maxHeartbeats 4000000 in
set_option maxRecDepth 100000 in
theorem ci_3 (l : Launch) (D : va_G) (ty : Nat → ClassId) (h0 : Nat) (sz : Nat) : Met l yX3_init wI_3 ({ frames := 1, cells := 2, slots := 241, locals := 20 }) (va_Pc [.ref h0] (fun U => U.heap.size = sz ∧ va_P D vwCl [(h0, .inr (3, [.null, .int 0, .null, .int 0, .int 0, .int 0]))] U.heap ∧ va_K D vwCl (tyL ty) U ∧ va_D (fun _ => True) [(h0, .inr (3, [.null, .int 0, .null, .int 0, .int 0, .int 0]))])) (va_Qv (fun _ : Nat → Nat => True) (fun u t => va_P D vwCl (wc_3 ty h0 u) t.heap ∧ va_K D vwCl (tyL ty) t ∧ va_D (va_A [(h0, .inr (3, [.null, .int 0, .null, .int 0, .int 0, .int 0]))] sz) (wc_3 ty h0 u)) (va_A [(h0, .inr (3, [.null, .int 0, .null, .int 0, .int 0, .int 0]))] sz)) 2 241 (va_A [(h0, .inr (3, [.null, .int 0, .null, .int 0, .int 0, .int 0]))] sz) := by
  refine Met.ofW (cc := cX3_init) (maxL := 1) (ret := none) (by decide) rfl ?_
  intro p e s m args below meth c s₁ B hml hv
  obtain ⟨rfl, hsz, hP, hK, hD0⟩ := hv
  have hx := B.exec
  have hb := B.bytes
  have hr := B.returns
  have hts := atoms_spec (ws := wI_3) B.pre
  have htsG : ∀ w ∈ lwG, w.before [.ref h0].toArray s = true := fun w h => hts w (List.mem_cons_of_mem _ h)
  have hown : s.vm.findClass RX3 = some m.cls := findClass_of_methodNamed B.named
  have hlocks := B.notSynchronized
  have hin : meth.name = "<init>" := (name_of_methodNamed B.named B.method).1
  subst hsz
  have hD := hD0.self (sz := s.heap.size)
  generalize hAe : va_A [(h0, .inr (3, [.null, .int 0, .null, .int 0, .int 0, .int 0]))] s.heap.size = A at hD ⊢
  have hA : ∀ q : Nat, s.heap.size ≤ q → A q := fun q h => by rw [← hAe]; exact Or.inr h
  have hS : va_S A s.heap s.heap [] := va_S.rf
  have hP : va_P D vwCl [(h0, .inr (3, [.null, .int 0, .null, .int 0, .int 0, .int 0]))] s.heap := hP
  have hl := lv_entry ([.ref h0]) (n := 1) (Nat.le_of_ble_eq_true rfl)
  rw [lg_entry_eq]
  generalize (lg_sl ([.ref h0]) ++ List.replicate (1 - (lg_sl ([.ref h0])).length) Slot.unset).toArray = ls at hl ⊢
  have hl : lv_has ls 1 [(0, .ref h0)] := hl
  refine lv_aload_n hx hb (okRw_at okI_3_0 0 rfl) rfl (lv_at hl 0 rfl) ?_
  refine W.objInit hx hb hown (htsG _ (lwG_1 65 rfl rfl)) (htsG _ (lwG_1 26 rfl rfl)) (htsG _ (lwG_1 27 rfl rfl)) rfl (by rw [hml]; exact hl.1) rfl dI3_1 (Nat.le_of_ble_eq_true rfl) (Nat.le_of_ble_eq_true rfl) ?_
  refine W.eq (g2 := F0 m 4 ls []) rfl ?_
  refine lv_aload_n hx hb (okRw_at okI_3_0 1 rfl) rfl (lv_at hl 0 rfl) ?_
  refine lv_bipush (v := 120) hx hb (okRw_at okI_3_0 2 rfl) (by decide) ?_
  refine va_newT (t0 := 0) (cT := ty 0) (ty0 := .int) (a0 := (120, .inl (fun _ => 0))) hx hb (htsG _ (lwG_1 59 rfl rfl)) rfl rfl hK hP hD hS hA (fun cA => rfl) (by decide) (by decide) (Nat.le_of_ble_eq_true rfl) (Nat.le_of_ble_eq_true rfl) (Nat.le_of_ble_eq_true rfl) dI3_7 (fun q0 H hP hD hS => ?_)
  refine va_putF (D := D) (ci := 3) (v := .ref q0) (ty := tyX3 0) (C := RX3) (T := TX3) (N := 6) hx hb htsG uw_3 tyX3 tyX3_ok nmX3 hown hK hP hD hS 0 rfl rfl 0 (by decide) (htsG _ (lwG_1 66 rfl rfl)) (fun _ h9 => h9) rfl hin rfl (tyX3_ok 0 (by decide)) rfl rfl (Nat.le_of_ble_eq_true rfl) (okRw_at okI_3_0 3 rfl) (fun H locs hP hD hS => ?_)
  have hPD : wPD D A [(h0, .inr (3, [.ref q0, .int 0, .null, .int 0, .int 0, .int 0])), (q0, .inl (ty 0, 120, .inl (fun _ => 0)))] H := ⟨hP, hD⟩
  have hP := hPD.1
  have hD := hPD.2
  refine lv_aload_n hx hb (okRw_at okI_3_0 4 rfl) rfl (lv_at hl 0 rfl) ?_
  refine lv_bipush (v := 121) hx hb (okRw_at okI_3_0 5 rfl) (by decide) ?_
  refine va_newT (t0 := 0) (cT := ty 0) (ty0 := .int) (a0 := (121, .inl (fun _ => 0))) hx hb (htsG _ (lwG_1 59 rfl rfl)) rfl rfl hK hP hD hS hA (fun cA => rfl) (by decide) (by decide) (Nat.le_of_ble_eq_true rfl) (Nat.le_of_ble_eq_true rfl) (Nat.le_of_ble_eq_true rfl) dI3_15 (fun q1 H hP hD hS => ?_)
  refine va_putF (D := D) (ci := 3) (v := .ref q1) (ty := tyX3 2) (C := RX3) (T := TX3) (N := 6) hx hb htsG uw_3 tyX3 tyX3_ok nmX3 hown hK hP hD hS 0 rfl rfl 2 (by decide) (htsG _ (lwG_1 68 rfl rfl)) (fun _ h9 => h9) rfl hin rfl (tyX3_ok 2 (by decide)) rfl rfl (Nat.le_of_ble_eq_true rfl) (okRw_at okI_3_0 6 rfl) (fun H locs hP hD hS => ?_)
  have hPD : wPD D A [(h0, .inr (3, [.ref q0, .int 0, .ref q1, .int 0, .int 0, .int 0])), (q0, .inl (ty 0, 120, .inl (fun _ => 0))), (q1, .inl (ty 0, 121, .inl (fun _ => 0)))] H := ⟨hP, hD⟩
  have hP := hPD.1
  have hD := hPD.2
  refine W.widen (k := 2) (n := 241) (Nat.le_of_ble_eq_true rfl) (Nat.le_of_ble_eq_true rfl) ?_
  exact W.vret hx hb hr (fun t ht hW => ⟨⟨(fun k => nth 0 [q0, q1] k), rfl, trivial, by rw [ht]; exact hP, va_K.moved hW.alike hK, hD⟩, hS.F ht⟩) hS.2.2 (okRw_at okI_3_0 7 rfl)
abbrev wc_7 (ty : Nat → ClassId) (h0 hlw : Nat) (u : Nat → Nat) : va_W := [(h0, .inr (7, [.ref (u 0), .int 0, .int 0, .int 0, .int 0, .int 0, .ref hlw, .ref (u 4)])), (u 0, .inr (8, [.int 0, .ref (u 1), .ref (u 2), .ref (u 3)])), (u 1, .inl (ty 0, 192, .inl (fun _ => 0))), (u 2, .inl (ty 0, 48, .inl (fun _ => 0))), (u 3, .inl (ty 0, 4, .inl (fun _ => 0))), (u 4, .inr (4, [.int 0, .int 0]))]
set_option maxHeartbeats 4000000 in
set_option maxRecDepth 100000 in
theorem ci_7 (l : Launch) (D : va_G) (ty : Nat → ClassId) (h0 hlw : Nat) (sz : Nat) : Met l yX7_init wI_7 ({ frames := 2, cells := 5, slots := 250, locals := 40 }) (va_Pc [.ref h0, .ref hlw] (fun U => U.heap.size = sz ∧ va_P D vwCl [(h0, .inr (7, [.null, .int 0, .int 0, .int 0, .int 0, .int 0, .null, .null]))] U.heap ∧ va_K D vwCl (tyL ty) U ∧ va_D (fun _ => True) [(h0, .inr (7, [.null, .int 0, .int 0, .int 0, .int 0, .int 0, .null, .null]))])) (va_Qv (fun _ : Nat → Nat => True) (fun u t => va_P D vwCl (wc_7 ty h0 hlw u) t.heap ∧ va_K D vwCl (tyL ty) t ∧ va_D (va_A [(h0, .inr (7, [.null, .int 0, .int 0, .int 0, .int 0, .int 0, .null, .null]))] sz) (wc_7 ty h0 hlw u)) (va_A [(h0, .inr (7, [.null, .int 0, .int 0, .int 0, .int 0, .int 0, .null, .null]))] sz)) 5 250 (va_A [(h0, .inr (7, [.null, .int 0, .int 0, .int 0, .int 0, .int 0, .null, .null]))] sz) := by
  refine Met.ofW (cc := cX7_init) (maxL := 2) (ret := none) (by decide) rfl ?_
  intro p e s m args below meth c s₁ B hml hv
  obtain ⟨rfl, hsz, hP, hK, hD0⟩ := hv
  have hx := B.exec
  have hb := B.bytes
  have hr := B.returns
  have hts := atoms_spec (ws := wI_7) B.pre
  have htsG : ∀ w ∈ lwG, w.before [.ref h0, .ref hlw].toArray s = true := fun w h => hts w (List.mem_cons_of_mem _ h)
  have hown : s.vm.findClass RX7 = some m.cls := findClass_of_methodNamed B.named
  have hlocks := B.notSynchronized
  have hin : meth.name = "<init>" := (name_of_methodNamed B.named B.method).1
  subst hsz
  have hD := hD0.self (sz := s.heap.size)
  generalize hAe : va_A [(h0, .inr (7, [.null, .int 0, .int 0, .int 0, .int 0, .int 0, .null, .null]))] s.heap.size = A at hD ⊢
  have hA : ∀ q : Nat, s.heap.size ≤ q → A q := fun q h => by rw [← hAe]; exact Or.inr h
  have hS : va_S A s.heap s.heap [] := va_S.rf
  have hP : va_P D vwCl [(h0, .inr (7, [.null, .int 0, .int 0, .int 0, .int 0, .int 0, .null, .null]))] s.heap := hP
  have hl := lv_entry ([.ref h0, .ref hlw]) (n := 2) (Nat.le_of_ble_eq_true rfl)
  rw [lg_entry_eq]
  generalize (lg_sl ([.ref h0, .ref hlw]) ++ List.replicate (2 - (lg_sl ([.ref h0, .ref hlw])).length) Slot.unset).toArray = ls at hl ⊢
  have hl : lv_has ls 2 [(0, .ref h0), (1, .ref hlw)] := hl
  refine lv_aload_n hx hb (okRw_at okI_7_0 0 rfl) rfl (lv_at hl 0 rfl) ?_
  refine W.objInit hx hb hown (htsG _ (lwG_1 127 rfl rfl)) (htsG _ (lwG_1 26 rfl rfl)) (htsG _ (lwG_1 27 rfl rfl)) rfl (by rw [hml]; exact hl.1) rfl dI7_1 (Nat.le_of_ble_eq_true rfl) (Nat.le_of_ble_eq_true rfl) ?_
  refine W.eq (g2 := F0 m 4 ls []) rfl ?_
  refine lv_aload_n hx hb (okRw_at okI_7_0 1 rfl) rfl (lv_at hl 0 rfl) ?_
  refine va_new (ci := 8) (fs := [.int 0, .null, .null, .null]) (C := RX8) (T := TX8) (N := 4) hx hb htsG uw_8 tyX8 tyX8_ok hown (htsG _ (lwG_1 128 rfl rfl)) (htsG _ (lwG_1 86 rfl rfl)) (htsG _ (lwG_1 4 rfl rfl)) hK hP hD hS hA rfl (dfl_8) (Nat.le_of_ble_eq_true rfl) (Nat.le_of_ble_eq_true rfl) dI7_5 (fun q0 H hP hD hS => ?_)
  refine lv_dup hx hb (okRw_at okI_7_0 2 rfl) rfl ?_
  have hPc := hP.sub (ws' := [(q0, .inr (8, [.int 0, .null, .null, .null]))]) [1] rfl
  have hDc := hD.sub (ws' := [(q0, .inr (8, [.int 0, .null, .null, .null]))]) [1] (by decide) rfl
  have hFc := va_free (wc := [(q0, .inr (8, [.int 0, .null, .null, .null]))]) hD hS hA [1] rfl
  refine va_callv (va_runI (As := []) (rest := [.ref q0, .ref h0]) ⟨hx, hb, hml, hown, htsG⟩ (ci_8 l D ty q0 H.size) (cwI 0 htsG wIg_8 rfl rfl rfl (htsG _ (lwG_1 4 rfl rfl)) (htsG _ (lwG_1 129 rfl rfl)) (htsG _ (lwG_1 88 rfl rfl)) rfl (by decide +kernel) ⟨Nat.le_of_ble_eq_true rfl, Nat.le_of_ble_eq_true rfl⟩) ⟨fun a U g mk q => by obtain ⟨q0, q1, qP, qK, qD⟩ := q; exact ⟨q0, q1, qP, va_K.moved (u := U) (U := U.calling g mk a) (Vm.Alike.refl U.vm) qK, qD⟩, fun U hU hW => ⟨rfl, by rw [hU], by rw [hU]; exact hPc, va_K.moved hW.alike hK, hDc.weaken (fun _ _ _ _ => trivial)⟩⟩ rfl rfl hl.1 rfl (lv_room (Nat.le_of_ble_eq_true rfl)) dI7_9 ⟨Nat.le_of_ble_eq_true rfl, Nat.le_of_ble_eq_true rfl⟩) hS (fun q _ h => hFc q h) hFc (fun u0 t H1 locs ht hvm hw hB hz1 hk1 hS => ?_)
  obtain ⟨hP1, -, hD1⟩ := hB
  rw [ht] at hP1
  obtain ⟨hP, hD⟩ := va_join (wr := [(h0, .inr (7, [.null, .int 0, .int 0, .int 0, .int 0, .int 0, .null, .null]))]) (w1 := wc_8 ty q0 u0) hP hD [1] [0] rfl rfl (by decide) (by decide) hk1 hFc hP1 hD1
  generalize H1 = H at hP hS ⊢
  have hPD : wPD D A [(h0, .inr (7, [.null, .int 0, .int 0, .int 0, .int 0, .int 0, .null, .null])), (q0, .inr (8, [.int 0, .ref (u0 0), .ref (u0 1), .ref (u0 2)])), (u0 0, .inl (ty 0, 192, .inl (fun _ => 0))), (u0 1, .inl (ty 0, 48, .inl (fun _ => 0))), (u0 2, .inl (ty 0, 4, .inl (fun _ => 0)))] H := ⟨hP, hD⟩
  have hP := hPD.1
  have hD := hPD.2
  refine va_putF (D := D) (ci := 7) (v := .ref q0) (ty := tyX7 0) (C := RX7) (T := TX7) (N := 8) hx hb htsG uw_7 tyX7 tyX7_ok nmX7 hown hK hP hD hS 0 rfl rfl 0 (by decide) (htsG _ (lwG_1 132 rfl rfl)) (fun _ h9 => h9) rfl hin rfl (tyX7_ok 0 (by decide)) rfl rfl (Nat.le_of_ble_eq_true rfl) (okRw_at okI_7_0 3 rfl) (fun H locs hP hD hS => ?_)
  have hPD : wPD D A [(h0, .inr (7, [.ref q0, .int 0, .int 0, .int 0, .int 0, .int 0, .null, .null])), (q0, .inr (8, [.int 0, .ref (u0 0), .ref (u0 1), .ref (u0 2)])), (u0 0, .inl (ty 0, 192, .inl (fun _ => 0))), (u0 1, .inl (ty 0, 48, .inl (fun _ => 0))), (u0 2, .inl (ty 0, 4, .inl (fun _ => 0)))] H := ⟨hP, hD⟩
  have hP := hPD.1
  have hD := hPD.2
  refine lv_aload_n hx hb (okRw_at okI_7_0 4 rfl) rfl (lv_at hl 0 rfl) ?_
  refine va_new (ci := 4) (fs := [.int 0, .int 0]) (C := RX4) (T := TX4) (N := 2) hx hb htsG uw_4 tyX4 tyX4_ok hown (htsG _ (lwG_1 130 rfl rfl)) (htsG _ (lwG_1 106 rfl rfl)) (htsG _ (lwG_1 5 rfl rfl)) hK hP hD hS hA rfl (dfl_4) (Nat.le_of_ble_eq_true rfl) (Nat.le_of_ble_eq_true rfl) dI7_16 (fun q1 H hP hD hS => ?_)
  refine lv_dup hx hb (okRw_at okI_7_0 5 rfl) rfl ?_
  have hPc := hP.sub (ws' := [(q1, .inr (4, [.int 0, .int 0]))]) [5] rfl
  have hDc := hD.sub (ws' := [(q1, .inr (4, [.int 0, .int 0]))]) [5] (by decide) rfl
  have hFc := va_free (wc := [(q1, .inr (4, [.int 0, .int 0]))]) hD hS hA [5] rfl
  refine va_callv (va_runI (As := []) (rest := [.ref q1, .ref h0]) ⟨hx, hb, hml, hown, htsG⟩ (ci_4 l D ty q1 H.size) (cwI 0 htsG wIg_4 rfl rfl rfl (htsG _ (lwG_1 5 rfl rfl)) (htsG _ (lwG_1 131 rfl rfl)) (htsG _ (lwG_1 108 rfl rfl)) rfl (by decide +kernel) ⟨Nat.le_of_ble_eq_true rfl, Nat.le_of_ble_eq_true rfl⟩) ⟨fun a U g mk q => by obtain ⟨q0, q1, qP, qK, qD⟩ := q; exact ⟨q0, q1, qP, va_K.moved (u := U) (U := U.calling g mk a) (Vm.Alike.refl U.vm) qK, qD⟩, fun U hU hW => ⟨rfl, by rw [hU], by rw [hU]; exact hPc, va_K.moved hW.alike hK, hDc.weaken (fun _ _ _ _ => trivial)⟩⟩ rfl rfl hl.1 rfl (lv_room (Nat.le_of_ble_eq_true rfl)) dI7_20 ⟨Nat.le_of_ble_eq_true rfl, Nat.le_of_ble_eq_true rfl⟩) hS (fun q _ h => hFc q h) hFc (fun u1 t H1 locs ht hvm hw hB hz1 hk1 hS => ?_)
  obtain ⟨hP1, -, hD1⟩ := hB
  rw [ht] at hP1
  obtain ⟨hP, hD⟩ := va_join (wr := [(h0, .inr (7, [.ref q0, .int 0, .int 0, .int 0, .int 0, .int 0, .null, .null])), (q0, .inr (8, [.int 0, .ref (u0 0), .ref (u0 1), .ref (u0 2)])), (u0 0, .inl (ty 0, 192, .inl (fun _ => 0))), (u0 1, .inl (ty 0, 48, .inl (fun _ => 0))), (u0 2, .inl (ty 0, 4, .inl (fun _ => 0)))]) (w1 := wc_4 ty q1 u1) hP hD [5] [0, 1, 2, 3, 4] rfl rfl (by decide) (by decide) hk1 hFc hP1 hD1
  generalize H1 = H at hP hS ⊢
  have hPD : wPD D A [(h0, .inr (7, [.ref q0, .int 0, .int 0, .int 0, .int 0, .int 0, .null, .null])), (q0, .inr (8, [.int 0, .ref (u0 0), .ref (u0 1), .ref (u0 2)])), (u0 0, .inl (ty 0, 192, .inl (fun _ => 0))), (u0 1, .inl (ty 0, 48, .inl (fun _ => 0))), (u0 2, .inl (ty 0, 4, .inl (fun _ => 0))), (q1, .inr (4, [.int 0, .int 0]))] H := ⟨hP, hD⟩
  have hP := hPD.1
  have hD := hPD.2
  refine va_putF (D := D) (ci := 7) (v := .ref q1) (ty := tyX7 7) (C := RX7) (T := TX7) (N := 8) hx hb htsG uw_7 tyX7 tyX7_ok nmX7 hown hK hP hD hS 0 rfl rfl 7 (by decide) (htsG _ (lwG_1 145 rfl rfl)) (fun _ h9 => h9) rfl hin rfl (tyX7_ok 7 (by decide)) rfl rfl (Nat.le_of_ble_eq_true rfl) (okRw_at okI_7_0 6 rfl) (fun H locs hP hD hS => ?_)
  have hPD : wPD D A [(h0, .inr (7, [.ref q0, .int 0, .int 0, .int 0, .int 0, .int 0, .null, .ref q1])), (q0, .inr (8, [.int 0, .ref (u0 0), .ref (u0 1), .ref (u0 2)])), (u0 0, .inl (ty 0, 192, .inl (fun _ => 0))), (u0 1, .inl (ty 0, 48, .inl (fun _ => 0))), (u0 2, .inl (ty 0, 4, .inl (fun _ => 0))), (q1, .inr (4, [.int 0, .int 0]))] H := ⟨hP, hD⟩
  have hP := hPD.1
  have hD := hPD.2
  refine lv_aload_n hx hb (okRw_at okI_7_0 7 rfl) rfl (lv_at hl 0 rfl) ?_
  refine lv_aload_n hx hb (okRw_at okI_7_0 8 rfl) rfl (lv_at hl 1 rfl) ?_
  refine va_putF (D := D) (ci := 7) (v := .ref hlw) (ty := tyX7 6) (C := RX7) (T := TX7) (N := 8) hx hb htsG uw_7 tyX7 tyX7_ok nmX7 hown hK hP hD hS 0 rfl rfl 6 (by decide) (htsG _ (lwG_1 144 rfl rfl)) (fun _ h9 => h9) rfl hin rfl (tyX7_ok 6 (by decide)) rfl rfl (Nat.le_of_ble_eq_true rfl) (okRw_at okI_7_0 9 rfl) (fun H locs hP hD hS => ?_)
  have hPD : wPD D A [(h0, .inr (7, [.ref q0, .int 0, .int 0, .int 0, .int 0, .int 0, .ref hlw, .ref q1])), (q0, .inr (8, [.int 0, .ref (u0 0), .ref (u0 1), .ref (u0 2)])), (u0 0, .inl (ty 0, 192, .inl (fun _ => 0))), (u0 1, .inl (ty 0, 48, .inl (fun _ => 0))), (u0 2, .inl (ty 0, 4, .inl (fun _ => 0))), (q1, .inr (4, [.int 0, .int 0]))] H := ⟨hP, hD⟩
  have hP := hPD.1
  have hD := hPD.2
  refine W.widen (k := 5) (n := 250) (Nat.le_of_ble_eq_true rfl) (Nat.le_of_ble_eq_true rfl) ?_
  exact W.vret hx hb hr (fun t ht hW => ⟨⟨(fun k => nth 0 [q0, u0 0, u0 1, u0 2, q1] k), rfl, trivial, by rw [ht]; exact hP, va_K.moved hW.alike hK, hD⟩, hS.F ht⟩) hS.2.2 (okRw_at okI_7_0 10 rfl)
abbrev wc_5 (ty : Nat → ClassId) (h0 hlw : Nat) (u : Nat → Nat) : va_W := [(h0, .inr (5, [.int 0, .int 0, .ref hlw, .ref (u 0), .ref (u 1), .int 0, .int 0, .ref (u 2), .ref (u 3), .ref (u 4), .ref (u 5), .ref (u 6), .ref (u 7), .ref (u 8), .ref (u 9)])), (u 0, .inr (4, [.int 0, .int 0])), (u 1, .inl (ty 0, 48, .inl (fun _ => 0))), (u 2, .inl (ty 0, 1728, .inl (fun _ => 0))), (u 3, .inl (ty 0, 12, .inl (fun _ => 0))), (u 4, .inl (ty 0, 12, .inl (fun _ => 0))), (u 5, .inl (ty 0, 8, .inl (fun _ => 0))), (u 6, .inl (ty 0, 8, .inl (fun _ => 0))), (u 7, .inl (ty 0, 4, .inl (fun _ => 0))), (u 8, .inl (ty 0, 4096, .inl (fun _ => 0))), (u 9, .inl (ty 0, 4096, .inl (fun _ => 0)))]
set_option maxHeartbeats 4000000 in
set_option maxRecDepth 100000 in
theorem ci_5 (l : Launch) (D : va_G) (ty : Nat → ClassId) (h0 hlw : Nat) (sz : Nat) : Met l yX5_init wI_5 ({ frames := 2, cells := 10, slots := 10014, locals := 40 }) (va_Pc [.ref h0, .ref hlw] (fun U => U.heap.size = sz ∧ va_P D vwCl [(h0, .inr (5, [.int 0, .int 0, .null, .null, .null, .int 0, .int 0, .null, .null, .null, .null, .null, .null, .null, .null]))] U.heap ∧ va_K D vwCl (tyL ty) U ∧ va_D (fun _ => True) [(h0, .inr (5, [.int 0, .int 0, .null, .null, .null, .int 0, .int 0, .null, .null, .null, .null, .null, .null, .null, .null]))])) (va_Qv (fun _ : Nat → Nat => True) (fun u t => va_P D vwCl (wc_5 ty h0 hlw u) t.heap ∧ va_K D vwCl (tyL ty) t ∧ va_D (va_A [(h0, .inr (5, [.int 0, .int 0, .null, .null, .null, .int 0, .int 0, .null, .null, .null, .null, .null, .null, .null, .null]))] sz) (wc_5 ty h0 hlw u)) (va_A [(h0, .inr (5, [.int 0, .int 0, .null, .null, .null, .int 0, .int 0, .null, .null, .null, .null, .null, .null, .null, .null]))] sz)) 10 10014 (va_A [(h0, .inr (5, [.int 0, .int 0, .null, .null, .null, .int 0, .int 0, .null, .null, .null, .null, .null, .null, .null, .null]))] sz) := by
  refine Met.ofW (cc := cX5_init) (maxL := 2) (ret := none) (by decide) rfl ?_
  intro p e s m args below meth c s₁ B hml hv
  obtain ⟨rfl, hsz, hP, hK, hD0⟩ := hv
  have hx := B.exec
  have hb := B.bytes
  have hr := B.returns
  have hts := atoms_spec (ws := wI_5) B.pre
  have htsG : ∀ w ∈ lwG, w.before [.ref h0, .ref hlw].toArray s = true := fun w h => hts w (List.mem_cons_of_mem _ h)
  have hown : s.vm.findClass RX5 = some m.cls := findClass_of_methodNamed B.named
  have hlocks := B.notSynchronized
  have hin : meth.name = "<init>" := (name_of_methodNamed B.named B.method).1
  subst hsz
  have hD := hD0.self (sz := s.heap.size)
  generalize hAe : va_A [(h0, .inr (5, [.int 0, .int 0, .null, .null, .null, .int 0, .int 0, .null, .null, .null, .null, .null, .null, .null, .null]))] s.heap.size = A at hD ⊢
  have hA : ∀ q : Nat, s.heap.size ≤ q → A q := fun q h => by rw [← hAe]; exact Or.inr h
  have hS : va_S A s.heap s.heap [] := va_S.rf
  have hP : va_P D vwCl [(h0, .inr (5, [.int 0, .int 0, .null, .null, .null, .int 0, .int 0, .null, .null, .null, .null, .null, .null, .null, .null]))] s.heap := hP
  have hl := lv_entry ([.ref h0, .ref hlw]) (n := 2) (Nat.le_of_ble_eq_true rfl)
  rw [lg_entry_eq]
  generalize (lg_sl ([.ref h0, .ref hlw]) ++ List.replicate (2 - (lg_sl ([.ref h0, .ref hlw])).length) Slot.unset).toArray = ls at hl ⊢
  have hl : lv_has ls 2 [(0, .ref h0), (1, .ref hlw)] := hl
  refine lv_aload_n hx hb (okRw_at okI_5_0 0 rfl) rfl (lv_at hl 0 rfl) ?_
  refine W.objInit hx hb hown (htsG _ (lwG_1 168 rfl rfl)) (htsG _ (lwG_1 26 rfl rfl)) (htsG _ (lwG_1 27 rfl rfl)) rfl (by rw [hml]; exact hl.1) rfl dI5_1 (Nat.le_of_ble_eq_true rfl) (Nat.le_of_ble_eq_true rfl) ?_
  refine W.eq (g2 := F0 m 4 ls []) rfl ?_
  refine lv_aload_n hx hb (okRw_at okI_5_0 1 rfl) rfl (lv_at hl 0 rfl) ?_
  refine va_new (ci := 4) (fs := [.int 0, .int 0]) (C := RX4) (T := TX4) (N := 2) hx hb htsG uw_4 tyX4 tyX4_ok hown (htsG _ (lwG_1 169 rfl rfl)) (htsG _ (lwG_1 106 rfl rfl)) (htsG _ (lwG_1 5 rfl rfl)) hK hP hD hS hA rfl (dfl_4) (Nat.le_of_ble_eq_true rfl) (Nat.le_of_ble_eq_true rfl) dI5_5 (fun q0 H hP hD hS => ?_)
  refine lv_dup hx hb (okRw_at okI_5_0 2 rfl) rfl ?_
  have hPc := hP.sub (ws' := [(q0, .inr (4, [.int 0, .int 0]))]) [1] rfl
  have hDc := hD.sub (ws' := [(q0, .inr (4, [.int 0, .int 0]))]) [1] (by decide) rfl
  have hFc := va_free (wc := [(q0, .inr (4, [.int 0, .int 0]))]) hD hS hA [1] rfl
  refine va_callv (va_runI (As := []) (rest := [.ref q0, .ref h0]) ⟨hx, hb, hml, hown, htsG⟩ (ci_4 l D ty q0 H.size) (cwI 0 htsG wIg_4 rfl rfl rfl (htsG _ (lwG_1 5 rfl rfl)) (htsG _ (lwG_1 170 rfl rfl)) (htsG _ (lwG_1 108 rfl rfl)) rfl (by decide +kernel) ⟨Nat.le_of_ble_eq_true rfl, Nat.le_of_ble_eq_true rfl⟩) ⟨fun a U g mk q => by obtain ⟨q0, q1, qP, qK, qD⟩ := q; exact ⟨q0, q1, qP, va_K.moved (u := U) (U := U.calling g mk a) (Vm.Alike.refl U.vm) qK, qD⟩, fun U hU hW => ⟨rfl, by rw [hU], by rw [hU]; exact hPc, va_K.moved hW.alike hK, hDc.weaken (fun _ _ _ _ => trivial)⟩⟩ rfl rfl hl.1 rfl (lv_room (Nat.le_of_ble_eq_true rfl)) dI5_9 ⟨Nat.le_of_ble_eq_true rfl, Nat.le_of_ble_eq_true rfl⟩) hS (fun q _ h => hFc q h) hFc (fun u0 t H1 locs ht hvm hw hB hz1 hk1 hS => ?_)
  obtain ⟨hP1, -, hD1⟩ := hB
  rw [ht] at hP1
  obtain ⟨hP, hD⟩ := va_join (wr := [(h0, .inr (5, [.int 0, .int 0, .null, .null, .null, .int 0, .int 0, .null, .null, .null, .null, .null, .null, .null, .null]))]) (w1 := wc_4 ty q0 u0) hP hD [1] [0] rfl rfl (by decide) (by decide) hk1 hFc hP1 hD1
  generalize H1 = H at hP hS ⊢
  have hPD : wPD D A [(h0, .inr (5, [.int 0, .int 0, .null, .null, .null, .int 0, .int 0, .null, .null, .null, .null, .null, .null, .null, .null])), (q0, .inr (4, [.int 0, .int 0]))] H := ⟨hP, hD⟩
  have hP := hPD.1
  have hD := hPD.2
  refine va_putF (D := D) (ci := 5) (v := .ref q0) (ty := tyX5 3) (C := RX5) (T := TX5) (N := 15) hx hb htsG uw_5 tyX5 tyX5_ok nmX5 hown hK hP hD hS 0 rfl rfl 3 (by decide) (htsG _ (lwG_1 176 rfl rfl)) (fun _ h9 => h9) rfl hin rfl (tyX5_ok 3 (by decide)) rfl rfl (Nat.le_of_ble_eq_true rfl) (okRw_at okI_5_0 3 rfl) (fun H locs hP hD hS => ?_)
  have hPD : wPD D A [(h0, .inr (5, [.int 0, .int 0, .null, .ref q0, .null, .int 0, .int 0, .null, .null, .null, .null, .null, .null, .null, .null])), (q0, .inr (4, [.int 0, .int 0]))] H := ⟨hP, hD⟩
  have hP := hPD.1
  have hD := hPD.2
  refine lv_aload_n hx hb (okRw_at okI_5_0 4 rfl) rfl (lv_at hl 0 rfl) ?_
  refine lv_bipush (v := 48) hx hb (okRw_at okI_5_0 5 rfl) (by decide) ?_
  refine va_newT (t0 := 0) (cT := ty 0) (ty0 := .int) (a0 := (48, .inl (fun _ => 0))) hx hb (htsG _ (lwG_1 59 rfl rfl)) rfl rfl hK hP hD hS hA (fun cA => rfl) (by decide) (by decide) (Nat.le_of_ble_eq_true rfl) (Nat.le_of_ble_eq_true rfl) (Nat.le_of_ble_eq_true rfl) dI5_18 (fun q1 H hP hD hS => ?_)
  refine va_putF (D := D) (ci := 5) (v := .ref q1) (ty := tyX5 4) (C := RX5) (T := TX5) (N := 15) hx hb htsG uw_5 tyX5 tyX5_ok nmX5 hown hK hP hD hS 0 rfl rfl 4 (by decide) (htsG _ (lwG_1 177 rfl rfl)) (fun _ h9 => h9) rfl hin rfl (tyX5_ok 4 (by decide)) rfl rfl (Nat.le_of_ble_eq_true rfl) (okRw_at okI_5_0 6 rfl) (fun H locs hP hD hS => ?_)
  have hPD : wPD D A [(h0, .inr (5, [.int 0, .int 0, .null, .ref q0, .ref q1, .int 0, .int 0, .null, .null, .null, .null, .null, .null, .null, .null])), (q0, .inr (4, [.int 0, .int 0])), (q1, .inl (ty 0, 48, .inl (fun _ => 0)))] H := ⟨hP, hD⟩
  have hP := hPD.1
  have hD := hPD.2
  refine lv_aload_n hx hb (okRw_at okI_5_0 7 rfl) rfl (lv_at hl 0 rfl) ?_
  refine lv_sipush (v := 1728) hx hb (okRw_at okI_5_0 8 rfl) (by decide) ?_
  refine va_newT (t0 := 0) (cT := ty 0) (ty0 := .int) (a0 := (1728, .inl (fun _ => 0))) hx hb (htsG _ (lwG_1 59 rfl rfl)) rfl rfl hK hP hD hS hA (fun cA => rfl) (by decide) (by decide) (Nat.le_of_ble_eq_true rfl) (Nat.le_of_ble_eq_true rfl) (Nat.le_of_ble_eq_true rfl) dI5_27 (fun q2 H hP hD hS => ?_)
  refine va_putF (D := D) (ci := 5) (v := .ref q2) (ty := tyX5 7) (C := RX5) (T := TX5) (N := 15) hx hb htsG uw_5 tyX5 tyX5_ok nmX5 hown hK hP hD hS 0 rfl rfl 7 (by decide) (htsG _ (lwG_1 180 rfl rfl)) (fun _ h9 => h9) rfl hin rfl (tyX5_ok 7 (by decide)) rfl rfl (Nat.le_of_ble_eq_true rfl) (okRw_at okI_5_0 9 rfl) (fun H locs hP hD hS => ?_)
  have hPD : wPD D A [(h0, .inr (5, [.int 0, .int 0, .null, .ref q0, .ref q1, .int 0, .int 0, .ref q2, .null, .null, .null, .null, .null, .null, .null])), (q0, .inr (4, [.int 0, .int 0])), (q1, .inl (ty 0, 48, .inl (fun _ => 0))), (q2, .inl (ty 0, 1728, .inl (fun _ => 0)))] H := ⟨hP, hD⟩
  have hP := hPD.1
  have hD := hPD.2
  refine lv_aload_n hx hb (okRw_at okI_5_0 10 rfl) rfl (lv_at hl 0 rfl) ?_
  refine lv_bipush (v := 12) hx hb (okRw_at okI_5_0 11 rfl) (by decide) ?_
  refine va_newT (t0 := 0) (cT := ty 0) (ty0 := .int) (a0 := (12, .inl (fun _ => 0))) hx hb (htsG _ (lwG_1 59 rfl rfl)) rfl rfl hK hP hD hS hA (fun cA => rfl) (by decide) (by decide) (Nat.le_of_ble_eq_true rfl) (Nat.le_of_ble_eq_true rfl) (Nat.le_of_ble_eq_true rfl) dI5_35 (fun q3 H hP hD hS => ?_)
  refine va_putF (D := D) (ci := 5) (v := .ref q3) (ty := tyX5 8) (C := RX5) (T := TX5) (N := 15) hx hb htsG uw_5 tyX5 tyX5_ok nmX5 hown hK hP hD hS 0 rfl rfl 8 (by decide) (htsG _ (lwG_1 181 rfl rfl)) (fun _ h9 => h9) rfl hin rfl (tyX5_ok 8 (by decide)) rfl rfl (Nat.le_of_ble_eq_true rfl) (okRw_at okI_5_0 12 rfl) (fun H locs hP hD hS => ?_)
  have hPD : wPD D A [(h0, .inr (5, [.int 0, .int 0, .null, .ref q0, .ref q1, .int 0, .int 0, .ref q2, .ref q3, .null, .null, .null, .null, .null, .null])), (q0, .inr (4, [.int 0, .int 0])), (q1, .inl (ty 0, 48, .inl (fun _ => 0))), (q2, .inl (ty 0, 1728, .inl (fun _ => 0))), (q3, .inl (ty 0, 12, .inl (fun _ => 0)))] H := ⟨hP, hD⟩
  have hP := hPD.1
  have hD := hPD.2
  refine lv_aload_n hx hb (okRw_at okI_5_0 13 rfl) rfl (lv_at hl 0 rfl) ?_
  refine lv_bipush (v := 12) hx hb (okRw_at okI_5_0 14 rfl) (by decide) ?_
  refine va_newT (t0 := 0) (cT := ty 0) (ty0 := .int) (a0 := (12, .inl (fun _ => 0))) hx hb (htsG _ (lwG_1 59 rfl rfl)) rfl rfl hK hP hD hS hA (fun cA => rfl) (by decide) (by decide) (Nat.le_of_ble_eq_true rfl) (Nat.le_of_ble_eq_true rfl) (Nat.le_of_ble_eq_true rfl) dI5_43 (fun q4 H hP hD hS => ?_)
  refine va_putF (D := D) (ci := 5) (v := .ref q4) (ty := tyX5 9) (C := RX5) (T := TX5) (N := 15) hx hb htsG uw_5 tyX5 tyX5_ok nmX5 hown hK hP hD hS 0 rfl rfl 9 (by decide) (htsG _ (lwG_1 182 rfl rfl)) (fun _ h9 => h9) rfl hin rfl (tyX5_ok 9 (by decide)) rfl rfl (Nat.le_of_ble_eq_true rfl) (okRw_at okI_5_0 15 rfl) (fun H locs hP hD hS => ?_)
  have hPD : wPD D A [(h0, .inr (5, [.int 0, .int 0, .null, .ref q0, .ref q1, .int 0, .int 0, .ref q2, .ref q3, .ref q4, .null, .null, .null, .null, .null])), (q0, .inr (4, [.int 0, .int 0])), (q1, .inl (ty 0, 48, .inl (fun _ => 0))), (q2, .inl (ty 0, 1728, .inl (fun _ => 0))), (q3, .inl (ty 0, 12, .inl (fun _ => 0))), (q4, .inl (ty 0, 12, .inl (fun _ => 0)))] H := ⟨hP, hD⟩
  have hP := hPD.1
  have hD := hPD.2
  refine lv_aload_n hx hb (okRw_at okI_5_0 16 rfl) rfl (lv_at hl 0 rfl) ?_
  refine lv_bipush (v := 8) hx hb (okRw_at okI_5_0 17 rfl) (by decide) ?_
  refine va_newT (t0 := 0) (cT := ty 0) (ty0 := .int) (a0 := (8, .inl (fun _ => 0))) hx hb (htsG _ (lwG_1 59 rfl rfl)) rfl rfl hK hP hD hS hA (fun cA => rfl) (by decide) (by decide) (Nat.le_of_ble_eq_true rfl) (Nat.le_of_ble_eq_true rfl) (Nat.le_of_ble_eq_true rfl) dI5_51 (fun q5 H hP hD hS => ?_)
  refine va_putF (D := D) (ci := 5) (v := .ref q5) (ty := tyX5 10) (C := RX5) (T := TX5) (N := 15) hx hb htsG uw_5 tyX5 tyX5_ok nmX5 hown hK hP hD hS 0 rfl rfl 10 (by decide) (htsG _ (lwG_1 183 rfl rfl)) (fun _ h9 => h9) rfl hin rfl (tyX5_ok 10 (by decide)) rfl rfl (Nat.le_of_ble_eq_true rfl) (okRw_at okI_5_0 18 rfl) (fun H locs hP hD hS => ?_)
  have hPD : wPD D A [(h0, .inr (5, [.int 0, .int 0, .null, .ref q0, .ref q1, .int 0, .int 0, .ref q2, .ref q3, .ref q4, .ref q5, .null, .null, .null, .null])), (q0, .inr (4, [.int 0, .int 0])), (q1, .inl (ty 0, 48, .inl (fun _ => 0))), (q2, .inl (ty 0, 1728, .inl (fun _ => 0))), (q3, .inl (ty 0, 12, .inl (fun _ => 0))), (q4, .inl (ty 0, 12, .inl (fun _ => 0))), (q5, .inl (ty 0, 8, .inl (fun _ => 0)))] H := ⟨hP, hD⟩
  have hP := hPD.1
  have hD := hPD.2
  refine lv_aload_n hx hb (okRw_at okI_5_0 19 rfl) rfl (lv_at hl 0 rfl) ?_
  refine lv_bipush (v := 8) hx hb (okRw_at okI_5_0 20 rfl) (by decide) ?_
  refine va_newT (t0 := 0) (cT := ty 0) (ty0 := .int) (a0 := (8, .inl (fun _ => 0))) hx hb (htsG _ (lwG_1 59 rfl rfl)) rfl rfl hK hP hD hS hA (fun cA => rfl) (by decide) (by decide) (Nat.le_of_ble_eq_true rfl) (Nat.le_of_ble_eq_true rfl) (Nat.le_of_ble_eq_true rfl) dI5_59 (fun q6 H hP hD hS => ?_)
  refine va_putF (D := D) (ci := 5) (v := .ref q6) (ty := tyX5 11) (C := RX5) (T := TX5) (N := 15) hx hb htsG uw_5 tyX5 tyX5_ok nmX5 hown hK hP hD hS 0 rfl rfl 11 (by decide) (htsG _ (lwG_1 184 rfl rfl)) (fun _ h9 => h9) rfl hin rfl (tyX5_ok 11 (by decide)) rfl rfl (Nat.le_of_ble_eq_true rfl) (okRw_at okI_5_0 21 rfl) (fun H locs hP hD hS => ?_)
  have hPD : wPD D A [(h0, .inr (5, [.int 0, .int 0, .null, .ref q0, .ref q1, .int 0, .int 0, .ref q2, .ref q3, .ref q4, .ref q5, .ref q6, .null, .null, .null])), (q0, .inr (4, [.int 0, .int 0])), (q1, .inl (ty 0, 48, .inl (fun _ => 0))), (q2, .inl (ty 0, 1728, .inl (fun _ => 0))), (q3, .inl (ty 0, 12, .inl (fun _ => 0))), (q4, .inl (ty 0, 12, .inl (fun _ => 0))), (q5, .inl (ty 0, 8, .inl (fun _ => 0))), (q6, .inl (ty 0, 8, .inl (fun _ => 0)))] H := ⟨hP, hD⟩
  have hP := hPD.1
  have hD := hPD.2
  refine lv_aload_n hx hb (okRw_at okI_5_0 22 rfl) rfl (lv_at hl 0 rfl) ?_
  refine lv_iconst (v := 4) hx hb (okRw_at okI_5_0 23 rfl) (by decide) ?_
  refine va_newT (t0 := 0) (cT := ty 0) (ty0 := .int) (a0 := (4, .inl (fun _ => 0))) hx hb (htsG _ (lwG_1 59 rfl rfl)) rfl rfl hK hP hD hS hA (fun cA => rfl) (by decide) (by decide) (Nat.le_of_ble_eq_true rfl) (Nat.le_of_ble_eq_true rfl) (Nat.le_of_ble_eq_true rfl) dI5_66 (fun q7 H hP hD hS => ?_)
  refine va_putF (D := D) (ci := 5) (v := .ref q7) (ty := tyX5 12) (C := RX5) (T := TX5) (N := 15) hx hb htsG uw_5 tyX5 tyX5_ok nmX5 hown hK hP hD hS 0 rfl rfl 12 (by decide) (htsG _ (lwG_1 185 rfl rfl)) (fun _ h9 => h9) rfl hin rfl (tyX5_ok 12 (by decide)) rfl rfl (Nat.le_of_ble_eq_true rfl) (okRw_at okI_5_0 24 rfl) (fun H locs hP hD hS => ?_)
  have hPD : wPD D A [(h0, .inr (5, [.int 0, .int 0, .null, .ref q0, .ref q1, .int 0, .int 0, .ref q2, .ref q3, .ref q4, .ref q5, .ref q6, .ref q7, .null, .null])), (q0, .inr (4, [.int 0, .int 0])), (q1, .inl (ty 0, 48, .inl (fun _ => 0))), (q2, .inl (ty 0, 1728, .inl (fun _ => 0))), (q3, .inl (ty 0, 12, .inl (fun _ => 0))), (q4, .inl (ty 0, 12, .inl (fun _ => 0))), (q5, .inl (ty 0, 8, .inl (fun _ => 0))), (q6, .inl (ty 0, 8, .inl (fun _ => 0))), (q7, .inl (ty 0, 4, .inl (fun _ => 0)))] H := ⟨hP, hD⟩
  have hP := hPD.1
  have hD := hPD.2
  refine lv_aload_n hx hb (okRw_at okI_5_0 25 rfl) rfl (lv_at hl 0 rfl) ?_
  refine lv_sipush (v := 4096) hx hb (okRw_at okI_5_0 26 rfl) (by decide) ?_
  refine va_newT (t0 := 0) (cT := ty 0) (ty0 := .int) (a0 := (4096, .inl (fun _ => 0))) hx hb (htsG _ (lwG_1 59 rfl rfl)) rfl rfl hK hP hD hS hA (fun cA => rfl) (by decide) (by decide) (Nat.le_of_ble_eq_true rfl) (Nat.le_of_ble_eq_true rfl) (Nat.le_of_ble_eq_true rfl) dI5_75 (fun q8 H hP hD hS => ?_)
  refine va_putF (D := D) (ci := 5) (v := .ref q8) (ty := tyX5 13) (C := RX5) (T := TX5) (N := 15) hx hb htsG uw_5 tyX5 tyX5_ok nmX5 hown hK hP hD hS 0 rfl rfl 13 (by decide) (htsG _ (lwG_1 186 rfl rfl)) (fun _ h9 => h9) rfl hin rfl (tyX5_ok 13 (by decide)) rfl rfl (Nat.le_of_ble_eq_true rfl) (okRw_at okI_5_0 27 rfl) (fun H locs hP hD hS => ?_)
  have hPD : wPD D A [(h0, .inr (5, [.int 0, .int 0, .null, .ref q0, .ref q1, .int 0, .int 0, .ref q2, .ref q3, .ref q4, .ref q5, .ref q6, .ref q7, .ref q8, .null])), (q0, .inr (4, [.int 0, .int 0])), (q1, .inl (ty 0, 48, .inl (fun _ => 0))), (q2, .inl (ty 0, 1728, .inl (fun _ => 0))), (q3, .inl (ty 0, 12, .inl (fun _ => 0))), (q4, .inl (ty 0, 12, .inl (fun _ => 0))), (q5, .inl (ty 0, 8, .inl (fun _ => 0))), (q6, .inl (ty 0, 8, .inl (fun _ => 0))), (q7, .inl (ty 0, 4, .inl (fun _ => 0))), (q8, .inl (ty 0, 4096, .inl (fun _ => 0)))] H := ⟨hP, hD⟩
  have hP := hPD.1
  have hD := hPD.2
  refine lv_aload_n hx hb (okRw_at okI_5_0 28 rfl) rfl (lv_at hl 0 rfl) ?_
  refine lv_sipush (v := 4096) hx hb (okRw_at okI_5_0 29 rfl) (by decide) ?_
  refine va_newT (t0 := 0) (cT := ty 0) (ty0 := .int) (a0 := (4096, .inl (fun _ => 0))) hx hb (htsG _ (lwG_1 59 rfl rfl)) rfl rfl hK hP hD hS hA (fun cA => rfl) (by decide) (by decide) (Nat.le_of_ble_eq_true rfl) (Nat.le_of_ble_eq_true rfl) (Nat.le_of_ble_eq_true rfl) dI5_84 (fun q9 H hP hD hS => ?_)
  refine va_putF (D := D) (ci := 5) (v := .ref q9) (ty := tyX5 14) (C := RX5) (T := TX5) (N := 15) hx hb htsG uw_5 tyX5 tyX5_ok nmX5 hown hK hP hD hS 0 rfl rfl 14 (by decide) (htsG _ (lwG_1 187 rfl rfl)) (fun _ h9 => h9) rfl hin rfl (tyX5_ok 14 (by decide)) rfl rfl (Nat.le_of_ble_eq_true rfl) (okRw_at okI_5_0 30 rfl) (fun H locs hP hD hS => ?_)
  have hPD : wPD D A [(h0, .inr (5, [.int 0, .int 0, .null, .ref q0, .ref q1, .int 0, .int 0, .ref q2, .ref q3, .ref q4, .ref q5, .ref q6, .ref q7, .ref q8, .ref q9])), (q0, .inr (4, [.int 0, .int 0])), (q1, .inl (ty 0, 48, .inl (fun _ => 0))), (q2, .inl (ty 0, 1728, .inl (fun _ => 0))), (q3, .inl (ty 0, 12, .inl (fun _ => 0))), (q4, .inl (ty 0, 12, .inl (fun _ => 0))), (q5, .inl (ty 0, 8, .inl (fun _ => 0))), (q6, .inl (ty 0, 8, .inl (fun _ => 0))), (q7, .inl (ty 0, 4, .inl (fun _ => 0))), (q8, .inl (ty 0, 4096, .inl (fun _ => 0))), (q9, .inl (ty 0, 4096, .inl (fun _ => 0)))] H := ⟨hP, hD⟩
  have hP := hPD.1
  have hD := hPD.2
  refine lv_aload_n hx hb (okRw_at okI_5_0 31 rfl) rfl (lv_at hl 0 rfl) ?_
  refine lv_aload_n hx hb (okRw_at okI_5_0 32 rfl) rfl (lv_at hl 1 rfl) ?_
  refine va_putF (D := D) (ci := 5) (v := .ref hlw) (ty := tyX5 2) (C := RX5) (T := TX5) (N := 15) hx hb htsG uw_5 tyX5 tyX5_ok nmX5 hown hK hP hD hS 0 rfl rfl 2 (by decide) (htsG _ (lwG_1 175 rfl rfl)) (fun _ h9 => h9) rfl hin rfl (tyX5_ok 2 (by decide)) rfl rfl (Nat.le_of_ble_eq_true rfl) (okRw_at okI_5_0 33 rfl) (fun H locs hP hD hS => ?_)
  have hPD : wPD D A [(h0, .inr (5, [.int 0, .int 0, .ref hlw, .ref q0, .ref q1, .int 0, .int 0, .ref q2, .ref q3, .ref q4, .ref q5, .ref q6, .ref q7, .ref q8, .ref q9])), (q0, .inr (4, [.int 0, .int 0])), (q1, .inl (ty 0, 48, .inl (fun _ => 0))), (q2, .inl (ty 0, 1728, .inl (fun _ => 0))), (q3, .inl (ty 0, 12, .inl (fun _ => 0))), (q4, .inl (ty 0, 12, .inl (fun _ => 0))), (q5, .inl (ty 0, 8, .inl (fun _ => 0))), (q6, .inl (ty 0, 8, .inl (fun _ => 0))), (q7, .inl (ty 0, 4, .inl (fun _ => 0))), (q8, .inl (ty 0, 4096, .inl (fun _ => 0))), (q9, .inl (ty 0, 4096, .inl (fun _ => 0)))] H := ⟨hP, hD⟩
  have hP := hPD.1
  have hD := hPD.2
  refine W.widen (k := 10) (n := 10014) (Nat.le_of_ble_eq_true rfl) (Nat.le_of_ble_eq_true rfl) ?_
  exact W.vret hx hb hr (fun t ht hW => ⟨⟨(fun k => nth 0 [q0, q1, q2, q3, q4, q5, q6, q7, q8, q9] k), rfl, trivial, by rw [ht]; exact hP, va_K.moved hW.alike hK, hD⟩, hS.F ht⟩) hS.2.2 (okRw_at okI_5_0 34 rfl)
abbrev wc_1 (ty : Nat → ClassId) (h0 : Nat) (u : Nat → Nat) : va_W := [(h0, .inr (1, [.ref (u 0), .int 0, .int 0])), (u 0, .inl (ty 0, 160, .inl (fun _ => 0)))]
set_option maxHeartbeats 4000000 in
set_option maxRecDepth 100000 in
theorem ci_1 (l : Launch) (D : va_G) (ty : Nat → ClassId) (h0 : Nat) (sz : Nat) : Met l yX1_init wI_1 ({ frames := 1, cells := 1, slots := 160, locals := 20 }) (va_Pc [.ref h0] (fun U => U.heap.size = sz ∧ va_P D vwCl [(h0, .inr (1, [.null, .int 0, .int 0]))] U.heap ∧ va_K D vwCl (tyL ty) U ∧ va_D (fun _ => True) [(h0, .inr (1, [.null, .int 0, .int 0]))])) (va_Qv (fun _ : Nat → Nat => True) (fun u t => va_P D vwCl (wc_1 ty h0 u) t.heap ∧ va_K D vwCl (tyL ty) t ∧ va_D (va_A [(h0, .inr (1, [.null, .int 0, .int 0]))] sz) (wc_1 ty h0 u)) (va_A [(h0, .inr (1, [.null, .int 0, .int 0]))] sz)) 1 160 (va_A [(h0, .inr (1, [.null, .int 0, .int 0]))] sz) := by
  refine Met.ofW (cc := cX1_init) (maxL := 1) (ret := none) (by decide) rfl ?_
  intro p e s m args below meth c s₁ B hml hv
  obtain ⟨rfl, hsz, hP, hK, hD0⟩ := hv
  have hx := B.exec
  have hb := B.bytes
  have hr := B.returns
  have hts := atoms_spec (ws := wI_1) B.pre
  have htsG : ∀ w ∈ lwG, w.before [.ref h0].toArray s = true := fun w h => hts w (List.mem_cons_of_mem _ h)
  have hown : s.vm.findClass RX1 = some m.cls := findClass_of_methodNamed B.named
  have hlocks := B.notSynchronized
  have hin : meth.name = "<init>" := (name_of_methodNamed B.named B.method).1
  subst hsz
  have hD := hD0.self (sz := s.heap.size)
  generalize hAe : va_A [(h0, .inr (1, [.null, .int 0, .int 0]))] s.heap.size = A at hD ⊢
  have hA : ∀ q : Nat, s.heap.size ≤ q → A q := fun q h => by rw [← hAe]; exact Or.inr h
  have hS : va_S A s.heap s.heap [] := va_S.rf
  have hP : va_P D vwCl [(h0, .inr (1, [.null, .int 0, .int 0]))] s.heap := hP
  have hl := lv_entry ([.ref h0]) (n := 1) (Nat.le_of_ble_eq_true rfl)
  rw [lg_entry_eq]
  generalize (lg_sl ([.ref h0]) ++ List.replicate (1 - (lg_sl ([.ref h0])).length) Slot.unset).toArray = ls at hl ⊢
  have hl : lv_has ls 1 [(0, .ref h0)] := hl
  refine lv_aload_n hx hb (okRw_at okI_1_0 0 rfl) rfl (lv_at hl 0 rfl) ?_
  refine W.objInit hx hb hown (htsG _ (lwG_1 224 rfl rfl)) (htsG _ (lwG_1 26 rfl rfl)) (htsG _ (lwG_1 27 rfl rfl)) rfl (by rw [hml]; exact hl.1) rfl dI1_1 (Nat.le_of_ble_eq_true rfl) (Nat.le_of_ble_eq_true rfl) ?_
  refine W.eq (g2 := F0 m 4 ls []) rfl ?_
  refine lv_aload_n hx hb (okRw_at okI_1_0 1 rfl) rfl (lv_at hl 0 rfl) ?_
  refine lv_sipush (v := 160) hx hb (okRw_at okI_1_0 2 rfl) (by decide) ?_
  refine va_newT (t0 := 0) (cT := ty 0) (ty0 := .int) (a0 := (160, .inl (fun _ => 0))) hx hb (htsG _ (lwG_1 59 rfl rfl)) rfl rfl hK hP hD hS hA (fun cA => rfl) (by decide) (by decide) (Nat.le_of_ble_eq_true rfl) (Nat.le_of_ble_eq_true rfl) (Nat.le_of_ble_eq_true rfl) dI1_8 (fun q0 H hP hD hS => ?_)
  refine va_putF (D := D) (ci := 1) (v := .ref q0) (ty := tyX1 0) (C := RX1) (T := TX1) (N := 3) hx hb htsG uw_1 tyX1 tyX1_ok nmX1 hown hK hP hD hS 0 rfl rfl 0 (by decide) (htsG _ (lwG_1 225 rfl rfl)) (fun _ h9 => h9) rfl hin rfl (tyX1_ok 0 (by decide)) rfl rfl (Nat.le_of_ble_eq_true rfl) (okRw_at okI_1_0 3 rfl) (fun H locs hP hD hS => ?_)
  have hPD : wPD D A [(h0, .inr (1, [.ref q0, .int 0, .int 0])), (q0, .inl (ty 0, 160, .inl (fun _ => 0)))] H := ⟨hP, hD⟩
  have hP := hPD.1
  have hD := hPD.2
  refine W.widen (k := 1) (n := 160) (Nat.le_of_ble_eq_true rfl) (Nat.le_of_ble_eq_true rfl) ?_
  exact W.vret hx hb hr (fun t ht hW => ⟨⟨(fun k => nth 0 [q0] k), rfl, trivial, by rw [ht]; exact hP, va_K.moved hW.alike hK, hD⟩, hS.F ht⟩) hS.2.2 (okRw_at okI_1_0 4 rfl)
abbrev wc_0 (ty : Nat → ClassId) (h0 : Nat) (u : Nat → Nat) : va_W := [(h0, .inr (0, [.ref (u 0), .int 0, .ref (u 1), .int 0, .int 0, .int 0])), (u 0, .inl (ty 0, 50, .inl (fun _ => 0))), (u 1, .inl (ty 0, 24, .inl (fun _ => 0)))]
set_option maxHeartbeats 4000000 in
set_option maxRecDepth 100000 in
theorem ci_0 (l : Launch) (D : va_G) (ty : Nat → ClassId) (h0 : Nat) (sz : Nat) : Met l yX0_init wI_0 ({ frames := 1, cells := 2, slots := 74, locals := 20 }) (va_Pc [.ref h0] (fun U => U.heap.size = sz ∧ va_P D vwCl [(h0, .inr (0, [.null, .int 0, .null, .int 0, .int 0, .int 0]))] U.heap ∧ va_K D vwCl (tyL ty) U ∧ va_D (fun _ => True) [(h0, .inr (0, [.null, .int 0, .null, .int 0, .int 0, .int 0]))])) (va_Qv (fun _ : Nat → Nat => True) (fun u t => va_P D vwCl (wc_0 ty h0 u) t.heap ∧ va_K D vwCl (tyL ty) t ∧ va_D (va_A [(h0, .inr (0, [.null, .int 0, .null, .int 0, .int 0, .int 0]))] sz) (wc_0 ty h0 u)) (va_A [(h0, .inr (0, [.null, .int 0, .null, .int 0, .int 0, .int 0]))] sz)) 2 74 (va_A [(h0, .inr (0, [.null, .int 0, .null, .int 0, .int 0, .int 0]))] sz) := by
  refine Met.ofW (cc := cX0_init) (maxL := 1) (ret := none) (by decide) rfl ?_
  intro p e s m args below meth c s₁ B hml hv
  obtain ⟨rfl, hsz, hP, hK, hD0⟩ := hv
  have hx := B.exec
  have hb := B.bytes
  have hr := B.returns
  have hts := atoms_spec (ws := wI_0) B.pre
  have htsG : ∀ w ∈ lwG, w.before [.ref h0].toArray s = true := fun w h => hts w (List.mem_cons_of_mem _ h)
  have hown : s.vm.findClass RX0 = some m.cls := findClass_of_methodNamed B.named
  have hlocks := B.notSynchronized
  have hin : meth.name = "<init>" := (name_of_methodNamed B.named B.method).1
  subst hsz
  have hD := hD0.self (sz := s.heap.size)
  generalize hAe : va_A [(h0, .inr (0, [.null, .int 0, .null, .int 0, .int 0, .int 0]))] s.heap.size = A at hD ⊢
  have hA : ∀ q : Nat, s.heap.size ≤ q → A q := fun q h => by rw [← hAe]; exact Or.inr h
  have hS : va_S A s.heap s.heap [] := va_S.rf
  have hP : va_P D vwCl [(h0, .inr (0, [.null, .int 0, .null, .int 0, .int 0, .int 0]))] s.heap := hP
  have hl := lv_entry ([.ref h0]) (n := 1) (Nat.le_of_ble_eq_true rfl)
  rw [lg_entry_eq]
  generalize (lg_sl ([.ref h0]) ++ List.replicate (1 - (lg_sl ([.ref h0])).length) Slot.unset).toArray = ls at hl ⊢
  have hl : lv_has ls 1 [(0, .ref h0)] := hl
  refine lv_aload_n hx hb (okRw_at okI_0_0 0 rfl) rfl (lv_at hl 0 rfl) ?_
  refine W.objInit hx hb hown (htsG _ (lwG_2 0 rfl rfl)) (htsG _ (lwG_1 26 rfl rfl)) (htsG _ (lwG_1 27 rfl rfl)) rfl (by rw [hml]; exact hl.1) rfl dI0_1 (Nat.le_of_ble_eq_true rfl) (Nat.le_of_ble_eq_true rfl) ?_
  refine W.eq (g2 := F0 m 4 ls []) rfl ?_
  refine lv_aload_n hx hb (okRw_at okI_0_0 1 rfl) rfl (lv_at hl 0 rfl) ?_
  refine lv_bipush (v := 50) hx hb (okRw_at okI_0_0 2 rfl) (by decide) ?_
  refine va_newT (t0 := 0) (cT := ty 0) (ty0 := .int) (a0 := (50, .inl (fun _ => 0))) hx hb (htsG _ (lwG_1 59 rfl rfl)) rfl rfl hK hP hD hS hA (fun cA => rfl) (by decide) (by decide) (Nat.le_of_ble_eq_true rfl) (Nat.le_of_ble_eq_true rfl) (Nat.le_of_ble_eq_true rfl) dI0_7 (fun q0 H hP hD hS => ?_)
  refine va_putF (D := D) (ci := 0) (v := .ref q0) (ty := tyX0 0) (C := RX0) (T := TX0) (N := 6) hx hb htsG uw_0 tyX0 tyX0_ok nmX0 hown hK hP hD hS 0 rfl rfl 0 (by decide) (htsG _ (lwG_2 1 rfl rfl)) (fun _ h9 => h9) rfl hin rfl (tyX0_ok 0 (by decide)) rfl rfl (Nat.le_of_ble_eq_true rfl) (okRw_at okI_0_0 3 rfl) (fun H locs hP hD hS => ?_)
  have hPD : wPD D A [(h0, .inr (0, [.ref q0, .int 0, .null, .int 0, .int 0, .int 0])), (q0, .inl (ty 0, 50, .inl (fun _ => 0)))] H := ⟨hP, hD⟩
  have hP := hPD.1
  have hD := hPD.2
  refine lv_aload_n hx hb (okRw_at okI_0_0 4 rfl) rfl (lv_at hl 0 rfl) ?_
  refine lv_bipush (v := 24) hx hb (okRw_at okI_0_0 5 rfl) (by decide) ?_
  refine va_newT (t0 := 0) (cT := ty 0) (ty0 := .int) (a0 := (24, .inl (fun _ => 0))) hx hb (htsG _ (lwG_1 59 rfl rfl)) rfl rfl hK hP hD hS hA (fun cA => rfl) (by decide) (by decide) (Nat.le_of_ble_eq_true rfl) (Nat.le_of_ble_eq_true rfl) (Nat.le_of_ble_eq_true rfl) dI0_15 (fun q1 H hP hD hS => ?_)
  refine va_putF (D := D) (ci := 0) (v := .ref q1) (ty := tyX0 2) (C := RX0) (T := TX0) (N := 6) hx hb htsG uw_0 tyX0 tyX0_ok nmX0 hown hK hP hD hS 0 rfl rfl 2 (by decide) (htsG _ (lwG_2 3 rfl rfl)) (fun _ h9 => h9) rfl hin rfl (tyX0_ok 2 (by decide)) rfl rfl (Nat.le_of_ble_eq_true rfl) (okRw_at okI_0_0 6 rfl) (fun H locs hP hD hS => ?_)
  have hPD : wPD D A [(h0, .inr (0, [.ref q0, .int 0, .ref q1, .int 0, .int 0, .int 0])), (q0, .inl (ty 0, 50, .inl (fun _ => 0))), (q1, .inl (ty 0, 24, .inl (fun _ => 0)))] H := ⟨hP, hD⟩
  have hP := hPD.1
  have hD := hPD.2
  refine W.widen (k := 2) (n := 74) (Nat.le_of_ble_eq_true rfl) (Nat.le_of_ble_eq_true rfl) ?_
  exact W.vret hx hb hr (fun t ht hW => ⟨⟨(fun k => nth 0 [q0, q1] k), rfl, trivial, by rw [ht]; exact hP, va_K.moved hW.alike hK, hD⟩, hS.F ht⟩) hS.2.2 (okRw_at okI_0_0 7 rfl)
abbrev wc_6 (ty : Nat → ClassId) (h0 : Nat) (u : Nat → Nat) : va_W := [(h0, .inr (6, [.int 0, .int 0, .int 0, .int 0, .ref (u 0)])), (u 0, .inl (ty 3, 60, .inr (.inl (fun _ => 0))))]
set_option maxHeartbeats 4000000 in
set_option maxRecDepth 100000 in
theorem ci_6 (l : Launch) (D : va_G) (ty : Nat → ClassId) (h0 : Nat) (sz : Nat) : Met l yX6_init wI_6 ({ frames := 1, cells := 1, slots := 60, locals := 20 }) (va_Pc [.ref h0] (fun U => U.heap.size = sz ∧ va_P D vwCl [(h0, .inr (6, [.int 0, .int 0, .int 0, .int 0, .null]))] U.heap ∧ va_K D vwCl (tyL ty) U ∧ va_D (fun _ => True) [(h0, .inr (6, [.int 0, .int 0, .int 0, .int 0, .null]))])) (va_Qv (fun _ : Nat → Nat => True) (fun u t => va_P D vwCl (wc_6 ty h0 u) t.heap ∧ va_K D vwCl (tyL ty) t ∧ va_D (va_A [(h0, .inr (6, [.int 0, .int 0, .int 0, .int 0, .null]))] sz) (wc_6 ty h0 u)) (va_A [(h0, .inr (6, [.int 0, .int 0, .int 0, .int 0, .null]))] sz)) 1 60 (va_A [(h0, .inr (6, [.int 0, .int 0, .int 0, .int 0, .null]))] sz) := by
  refine Met.ofW (cc := cX6_init) (maxL := 1) (ret := none) (by decide) rfl ?_
  intro p e s m args below meth c s₁ B hml hv
  obtain ⟨rfl, hsz, hP, hK, hD0⟩ := hv
  have hx := B.exec
  have hb := B.bytes
  have hr := B.returns
  have hts := atoms_spec (ws := wI_6) B.pre
  have htsG : ∀ w ∈ lwG, w.before [.ref h0].toArray s = true := fun w h => hts w (List.mem_cons_of_mem _ h)
  have hown : s.vm.findClass RX6 = some m.cls := findClass_of_methodNamed B.named
  have hlocks := B.notSynchronized
  have hin : meth.name = "<init>" := (name_of_methodNamed B.named B.method).1
  subst hsz
  have hD := hD0.self (sz := s.heap.size)
  generalize hAe : va_A [(h0, .inr (6, [.int 0, .int 0, .int 0, .int 0, .null]))] s.heap.size = A at hD ⊢
  have hA : ∀ q : Nat, s.heap.size ≤ q → A q := fun q h => by rw [← hAe]; exact Or.inr h
  have hS : va_S A s.heap s.heap [] := va_S.rf
  have hP : va_P D vwCl [(h0, .inr (6, [.int 0, .int 0, .int 0, .int 0, .null]))] s.heap := hP
  have hl := lv_entry ([.ref h0]) (n := 1) (Nat.le_of_ble_eq_true rfl)
  rw [lg_entry_eq]
  generalize (lg_sl ([.ref h0]) ++ List.replicate (1 - (lg_sl ([.ref h0])).length) Slot.unset).toArray = ls at hl ⊢
  have hl : lv_has ls 1 [(0, .ref h0)] := hl
  refine lv_aload_n hx hb (okRw_at okI_6_0 0 rfl) rfl (lv_at hl 0 rfl) ?_
  refine W.objInit hx hb hown (htsG _ (lwG_2 24 rfl rfl)) (htsG _ (lwG_1 26 rfl rfl)) (htsG _ (lwG_1 27 rfl rfl)) rfl (by rw [hml]; exact hl.1) rfl dI6_1 (Nat.le_of_ble_eq_true rfl) (Nat.le_of_ble_eq_true rfl) ?_
  refine W.eq (g2 := F0 m 4 ls []) rfl ?_
  refine lv_aload_n hx hb (okRw_at okI_6_0 1 rfl) rfl (lv_at hl 0 rfl) ?_
  refine lv_iconst (v := 0) hx hb (okRw_at okI_6_0 2 rfl) (by decide) ?_
  refine va_put (D := D) (ci := 6) (v := .int 0) (ty := tyX6 0) (C := RX6) (T := TX6) (N := 5) hx hb htsG uw_6 tyX6 tyX6_ok nmX6 hown hK hP hD hS 0 rfl rfl 0 (by decide) (htsG _ (lwG_2 25 rfl rfl)) (fun _ h9 => h9) rfl (tyX6_ok 0 (by decide)) rfl rfl (Nat.le_of_ble_eq_true rfl) (okRw_at okI_6_0 3 rfl) (fun H locs hP hD hS => ?_)
  have hPD : wPD D A [(h0, .inr (6, [.int 0, .int 0, .int 0, .int 0, .null]))] H := ⟨hP, hD⟩
  have hP := hPD.1
  have hD := hPD.2
  refine lv_aload_n hx hb (okRw_at okI_6_0 4 rfl) rfl (lv_at hl 0 rfl) ?_
  refine lv_bipush (v := 60) hx hb (okRw_at okI_6_0 5 rfl) (by decide) ?_
  refine va_newT (t0 := 3) (cT := ty 3) (ty0 := .long) (a0 := (60, .inr (.inl (fun _ => 0)))) hx hb (htsG _ (lwG_2 40 rfl rfl)) rfl rfl hK hP hD hS hA (fun cA => rfl) (by decide) (by decide) (Nat.le_of_ble_eq_true rfl) (Nat.le_of_ble_eq_true rfl) (Nat.le_of_ble_eq_true rfl) dI6_12 (fun q0 H hP hD hS => ?_)
  refine va_putF (D := D) (ci := 6) (v := .ref q0) (ty := tyX6 4) (C := RX6) (T := TX6) (N := 5) hx hb htsG uw_6 tyX6 tyX6_ok nmX6 hown hK hP hD hS 0 rfl rfl 4 (by decide) (htsG _ (lwG_2 28 rfl rfl)) (fun _ h9 => h9) rfl hin rfl (tyX6_ok 4 (by decide)) rfl rfl (Nat.le_of_ble_eq_true rfl) (okRw_at okI_6_0 6 rfl) (fun H locs hP hD hS => ?_)
  have hPD : wPD D A [(h0, .inr (6, [.int 0, .int 0, .int 0, .int 0, .ref q0])), (q0, .inl (ty 3, 60, .inr (.inl (fun _ => 0))))] H := ⟨hP, hD⟩
  have hP := hPD.1
  have hD := hPD.2
  refine W.widen (k := 1) (n := 60) (Nat.le_of_ble_eq_true rfl) (Nat.le_of_ble_eq_true rfl) ?_
  exact W.vret hx hb hr (fun t ht hW => ⟨⟨(fun k => nth 0 [q0] k), rfl, trivial, by rw [ht]; exact hP, va_K.moved hW.alike hK, hD⟩, hS.F ht⟩) hS.2.2 (okRw_at okI_6_0 7 rfl)
