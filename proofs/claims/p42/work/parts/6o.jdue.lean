/-! the row of rows: made, and read (at the law's own level) -/
/-- n rows of two, at 4000 .. -/
def dueT (n : Nat) (f : Nat → Nat → Int32) : Tm := (3153, false, n, fun _ => 0) :: (List.range n).map (fun i => (4000 + i, true, 2, f i))
def freshD (l : List Value) : Bool := freshV 3153 l && freshV 4000 l && freshV 4001 l && freshV 4002 l && freshV 4003 l
def freshDL (l : Lv) : Bool := freshL 3153 l && freshL 4000 l && freshL 4001 l && freshL 4002 l && freshL 4003 l
/-- what the walk may use of it -/
def JDue (Bd : Nat → Lv → List Value → JSt → Prop) : Prop :=
  (∀ (lv : Lv) (n a k : Nat) (f : Nat → Int32) (M : Mem) (g : Nat), n ≤ 4 → freshDL lv = true → a < 3100 → 1000 ≤ a → Bd 157 lv [.ref 3153] (M, dueT n (fun _ _ => 0) ++ [(a, true, k, f)], g) → Bd 153 lv [.int (cI 2), .int (nI n)] (M, [(a, true, k, f)], g + 5)) ∧
  (∀ (pc : Nat) (lv : Lv) (rest : List Value) (S : JSt) (i n : Nat), (pc = 181 ∨ pc = 545 ∨ pc = 562) → (3153, false, n, fun _ => 0) ∈ S.2.1 → i < n → n ≤ 4 → Bd (pc + 1) lv (.ref (4000 + i) :: rest) S → Bd pc lv (.int (nI i) :: .ref 3153 :: rest) S)
theorem dD_153 : decode code 153 = .ok (.multianewarray 114 2, 4) := by decide +kernel
theorem dD_181 : decode code 181 = .ok (.aaload, 1) := by decide +kernel
theorem dD_545 : decode code 545 = .ok (.aaload, 1) := by decide +kernel
theorem dD_562 : decode code 562 = .ok (.aaload, 1) := by decide +kernel
theorem outer_v (c : ClassId) (N h0 : Nat) : ∀ i : Nat, Jvm.Free.Multi.outerC c N h0 i = arrV c N (fun j => va_rf (if j < i then some (h0 + 1 + j) else none))
  | 0 => by
    show ({ cls := c, slots := Array.replicate N .null, vm := .none } : Cell) = _
    rw [arrV_new]
    refine congrArg (arrV c N) (funext fun j => ?_)
    simp [va_rf]
  | i + 1 => by
    show (Jvm.Free.Multi.outerC c N h0 i).setSlot i (.ref (h0 + 1 + i)) = _
    rw [outer_v c N h0 i, arrV_store]
    refine congrArg (arrV c N) (funext fun j => ?_)
    by_cases e : j = i
    · subst e
      simp [updV, va_rf]
    · by_cases h : j < i
      · simp [updV, e, h, Nat.lt_succ_of_lt h]
      · simp [updV, e, h, show ¬ j < i + 1 by omega]
section DUE
variable {L : Nat} {xs : Nat → Int32} {p : Program} {l : Launch} {e0 : Env} {R : Room} {s : State} {m : MethodId} {args : Array Value} {below : List Frame} {meth : Method} {c : Code} {ad : Nat → Nat} {ty : Nat → ClassId} {D : va_G} {B0 : Nat × Nat} {A : Nat → Prop} {Zt : State → Prop}
theorem js_aaload {pc : Nat} {lv : Lv} {rest : List Value} {S : JSt} {i n : Nat} (F : FixJ 12 L xs p R s m args meth c ad B0 A) (K5 : ArrOfT s (ty 5) (.array .int)) (hdec : decode code pc = .ok (.aaload, 1)) (hT3 : (3153, false, n, fun _ => 0) ∈ S.2.1) (hi : i < n) (hn : n ≤ 4)
    (h : JS 12 p l e0 R s m args below meth c ad ty D B0 A Zt (pc + 1) lv (.ref (4000 + i) :: rest) S) : JS 12 p l e0 R s m args below meth c ad ty D B0 A Zt pc lv (.int (nI i) :: .ref 3153 :: rest) S := by
  intro tt H locs ls nC nS hC hSl hB hW hT hS hl
  obtain ⟨hx, hb, hml, hown, hts, hX, hSt, hA1, hA2, hR1, hR2, hk⟩ := id F
  have hb : c.code = code := hb
  obtain ⟨j, hj⟩ := List.getElem?_of_mem hT3
  have hcell : H[tt 3153]? = some (vp_cell (ty 5) (n, .inr (.inr (.inr (.inr (fun i => if i < n then some (tt (4000 + i)) else none)))))) := hT.1 j _ (wsT_at hj)
  rw [vp_cell_q] at hcell
  have hin : vp_in (nI i) n := nI_vp hi (by omega)
  have hgo := h tt H locs ls nC nS hC hSl hB hW hT hS hl
  have e2 : cv (aj ad tt) (.ref (4000 + i)) = .ref (tt (4000 + i)) := by
    show Value.ref _ = _
    rw [aj_hi (by omega)]
  rw [List.map_cons, e2] at hgo
  have e3 : ((.int (nI i) :: .ref 3153 :: rest : List Value).map (cv (aj ad tt))) = .int (nI i) :: .ref (tt 3153) :: rest.map (cv (aj ad tt)) := by
    show Value.int _ :: Value.ref (aj ad tt 3153) :: _ = _
    rw [aj_hi (by omega)]
  rw [e3]
  exact W.aald (v := .ref (tt (4000 + i))) (ty := .array .int) hx hb hcell (K5 n (fun j => va_rf (if j < n then some (tt (4000 + j)) else none))) rfl (fun q => by cases q) (by show ¬ (nI i < 0 ∨ (arrV _ _ _).slots.size ≤ _); rw [arrV_size]; exact hin) (by
    show (arrV _ _ _).slots[_]? = _
    rw [nI_c (by omega), arrV_read _ _ hi, if_pos hi]
    rfl) rfl rfl hdec hgo
theorem js_multi {lv : Lv} {n a k g : Nat} {f : Nat → Int32} {M : Mem} (F : FixJ 12 L xs p R s m args meth c ad B0 A) (K5 : s.vm.findClass ("[" ++ (FieldType.array .int).toString) = some (ty 5)) (hcl : (Cond.classLink RJL 114 "[[I").before args s = true) (hov : (Cond.arrayOver (.array .int)).before args s = true) (hn : n ≤ 4) (hf : freshDL lv = true) (ha : a < 3100) (ha0 : 1000 ≤ a)
    (h : JS 12 p l e0 R s m args below meth c ad ty D B0 A Zt 157 lv [.ref 3153] (M, dueT n (fun _ _ => 0) ++ [(a, true, k, f)], g)) : JS 12 p l e0 R s m args below meth c ad ty D B0 A Zt 153 lv [.int (cI 2), .int (nI n)] (M, [(a, true, k, f)], g + 5) := by
  intro tt H locs ls nC nS hC hSl hB hW hT hS hl
  obtain ⟨hx, hb, hml, hown, hts, hX, hSt, hA1, hA2, hR1, hR2, hk⟩ := id F
  have hb : c.code = code := hb
  have hC : nC + (g + 5) ≤ R.cells := hC
  have hSl : nS + 40 * (g + 5) ≤ R.slots := hSl
  have hN : (nI n).toNatClampNeg = n := nI_c (by omega)
  have hK2 : (cI 2).toNatClampNeg = 2 := kc_2
  have en : (nI n).toInt = (n : Int) := nI_v (by omega)
  have hn0 : ¬ nI n < 0 := by rw [Int32.lt_iff_toInt_lt, en]; show ¬ (n : Int) < (0 : Int32).toInt; rw [show (0 : Int32).toInt = 0 from rfl]; omega
  show W p l e0 R s m args below meth c H locs nC nS Zt (F0 m 153 ls [.int (cI 2), .int (nI n)])
  intro T hTH X
  obtain ⟨vm₁, cA, comp, -, fA, fC, -, -, X', step⟩ := X.multianewarray2F hx hown hcl hov (hts _ jarr) (g := F0 m 153 ls [.int (cI 2), .int (nI n)]) rfl (by rw [hb]; exact dD_153) rfl hn0 (by decide) (by rw [hN]; omega) (by rw [hK2]; decide) (by rw [hK2]; decide) rfl rfl (by rw [hN]; omega) (by rw [hN, hK2]; omega)
  rw [hN, hK2] at X' step
  generalize hF : Jvm.Free.Multi.fill (T.setVm vm₁) cA comp n 2 (defaultValue .int) n = F9 at X' step
  have hTh : (T.setVm vm₁).heap = H := hTH
  obtain ⟨f1, f2, -, -⟩ := Jvm.Free.Multi.fill_facts (T.setVm vm₁) cA comp n 2 (defaultValue .int) n
  rw [hF, hTh] at f1 f2
  have hold : ∀ x : Nat, x < H.size → F9.heap[x]? = H[x]? := fun x hx => by
    have := Jvm.Free.Multi.fill_old (T.setVm vm₁) cA comp n 2 (defaultValue .int) (a := x) (by rw [hTh]; exact hx) n
    rw [hF, hTh] at this
    exact this
  have e5 : cA = ty 5 := Option.some.inj (fA.symm.trans K5)
  have e0' : comp = ty 0 := Option.some.inj (fC.symm.trans (hW.2.1.2 0 (ty 0, .int) rfl).2)
  subst e5
  subst e0'
  have hrow : ∀ j : Nat, j < n → F9.heap[H.size + 1 + j]? = some (vp_cell (ty 0) (2, .inl (fun _ => 0))) := fun j hj => by
    have := Jvm.Free.Multi.fill_inner (T.setVm vm₁) (ty 5) (ty 0) n 2 (defaultValue .int) n j hj
    rw [hF, hTh] at this
    rw [this, vp_cell_i]
    rfl
  rw [outer_v] at f2
  have hsz : F9.heap.size = H.size + 1 + n := by rw [f1]
  generalize htt : (fun x => if x = 3153 then H.size else if 4000 ≤ x ∧ x < 4000 + n then H.size + 1 + (x - 4000) else tt x : Nat → Nat) = t2
  have t3153 : t2 3153 = H.size := by rw [← htt]; exact if_pos rfl
  have t4 : ∀ i, i < n → t2 (4000 + i) = H.size + 1 + i := fun i hi => by
    rw [← htt]
    show (if 4000 + i = 3153 then _ else if _ then _ else _) = _
    rw [if_neg (by omega), if_pos (by omega)]
    omega
  have tlo : ∀ x, ¬ x = 3153 → (x < 4000 ∨ 4000 + n ≤ x) → t2 x = tt x := fun x h1 h2 => by
    rw [← htt]
    show (if x = 3153 then _ else if _ then _ else _) = _
    rw [if_neg h1, if_neg (by omega)]
  have hac : va_at D vwCl (tt a, .inl (ty 0, k, .inl f)) H := by
    have := hT.1 0 (tmE ty tt (a, true, k, f)) rfl
    rw [tmE, tmX_i (t := (a, true, k, f)) (show ¬ a = 3153 by omega)] at this
    exact this
  have hab : B0.2 ≤ tt a := hT.2.1.2 0 (tmE ty tt (a, true, k, f)) rfl
  have hAa : A (tt a) := hT.2.2.1 (a, true, k, f) List.mem_cons_self rfl
  have hlt := hac.lt
  have hlt : tt a < H.size := hlt
  have hws : wsT ty t2 (dueT n (fun _ _ => 0) ++ [(a, true, k, f)]) = (H.size, .inl (ty 5, n, .inr (.inr (.inr (.inr (fun i => if i < n then some (t2 (4000 + i)) else none)))))) :: ((List.range n).map (fun i => ((t2 (4000 + i), .inl (ty 0, 2, .inl (fun _ => 0))) : Nat × va_E)) ++ [(tt a, .inl (ty 0, k, .inl f))]) := by
    unfold wsT dueT
    rw [List.cons_append, List.map_cons, List.map_append, List.map_map]
    have h1 : tmE ty t2 (3153, false, n, fun _ => 0) = (H.size, .inl (ty 5, n, .inr (.inr (.inr (.inr (fun i => if i < n then some (t2 (4000 + i)) else none)))))) := by
      show (t2 3153, _) = _
      rw [t3153]
      rfl
    have h2 : ([(a, true, k, f)] : Tm).map (tmE ty t2) = [(tt a, .inl (ty 0, k, .inl f))] := by
      show [(t2 a, tmX ty t2 (a, true, k, f))] = _
      rw [tlo a (by omega) (by omega), tmX_i (t := (a, true, k, f)) (show ¬ a = 3153 by omega)]
    have h3 : (tmE ty t2 ∘ fun i => ((4000 + i, true, 2, fun _ => 0) : Nat × Bool × Nat × (Nat → Int32))) = fun i => ((t2 (4000 + i), .inl (ty 0, 2, .inl (fun _ => 0))) : Nat × va_E) := by
      funext i
      show (t2 (4000 + i), tmX ty t2 (4000 + i, true, 2, fun _ => 0)) = _
      rw [tmX_i (t := (4000 + i, true, 2, fun _ => 0)) (show ¬ 4000 + i = 3153 by omega)]
    rw [h1, h2]
    show _ :: (List.map (tmE ty t2 ∘ fun i => ((4000 + i, true, 2, fun _ => 0) : Nat × Bool × Nat × (Nat → Int32))) (List.range n) ++ _) = _
    rw [h3]
  have hP1 : ∀ q ∈ wsT ty t2 (dueT n (fun _ _ => 0) ++ [(a, true, k, f)]), va_at D vwCl q F9.heap ∧ B0.2 ≤ q.1 := by
    rw [hws]
    intro q hq
    rcases List.mem_cons.mp hq with hq | hq
    · subst hq
      refine ⟨?_, hB⟩
      show F9.heap[H.size]? = some (vp_cell _ _)
      rw [vp_cell_q]
      refine f2.trans (congrArg some ?_)
      unfold arrV
      congr 2
      funext j
      show va_rf (if j.val < n then some (H.size + 1 + j.val) else none) = va_rf (if j.val < n then some (t2 (4000 + j.val)) else none)
      rw [if_pos j.isLt, if_pos j.isLt, t4 j.val j.isLt]
    · rcases List.mem_append.mp hq with hq | hq
      · obtain ⟨i, hi, rfl⟩ := List.mem_map.mp hq
        have hi := List.mem_range.mp hi
        rw [t4 i hi]
        exact ⟨hrow i hi, by show B0.2 ≤ H.size + 1 + i; omega⟩
      · rw [List.mem_singleton] at hq
        subst hq
        exact ⟨hac.kept (hold _ hlt), hab⟩
  have hD1 : (wsT ty t2 (dueT n (fun _ _ => 0) ++ [(a, true, k, f)])).Pairwise (fun x y => x.1 ≠ y.1) := by
    rw [hws]
    refine List.pairwise_cons.mpr ⟨fun q hq => ?_, List.pairwise_append.mpr ⟨?_, List.pairwise_cons.mpr ⟨fun q hq => absurd hq List.not_mem_nil, List.Pairwise.nil⟩, fun x hx y hy => ?_⟩⟩
    · show H.size ≠ q.1
      rcases List.mem_append.mp hq with hq | hq
      · obtain ⟨i, hi, rfl⟩ := List.mem_map.mp hq
        show H.size ≠ t2 (4000 + i)
        rw [t4 i (List.mem_range.mp hi)]
        omega
      · rw [List.mem_singleton] at hq
        subst hq
        show H.size ≠ tt a
        omega
    · rw [List.pairwise_map]
      refine List.Pairwise.imp_of_mem (fun {i j} hi hj hij => ?_) List.pairwise_lt_range
      show t2 (4000 + i) ≠ t2 (4000 + j)
      rw [t4 i (List.mem_range.mp hi), t4 j (List.mem_range.mp hj)]
      omega
    · obtain ⟨i, hi, rfl⟩ := List.mem_map.mp hx
      rw [List.mem_singleton] at hy
      subst hy
      show t2 (4000 + i) ≠ tt a
      rw [t4 i (List.mem_range.mp hi)]
      omega
  have r1 : ∀ t ∈ dueT n (fun _ _ => 0) ++ [(a, true, k, f)], t.2.1 = true → A (t2 t.1) := by
    intro t ht hw
    rcases List.mem_append.mp ht with ht | ht
    · rcases List.mem_cons.mp ht with ht | ht
      · subst ht; cases hw
      · obtain ⟨i, hi, rfl⟩ := List.mem_map.mp ht
        show A (t2 (4000 + i))
        rw [t4 i (List.mem_range.mp hi)]
        exact hA2 _ (by have := hS.1; omega)
    · rw [List.mem_singleton] at ht
      subst ht
      show A (t2 a)
      rw [tlo a (by omega) (by omega)]
      exact hAa
  have r2 : ∀ t ∈ dueT n (fun _ _ => 0) ++ [(a, true, k, f)], 1000 ≤ t.1 := by
    intro t ht
    rcases List.mem_append.mp ht with ht | ht
    · rcases List.mem_cons.mp ht with ht | ht
      · subst ht; show 1000 ≤ 3153; omega
      · obtain ⟨i, hi, rfl⟩ := List.mem_map.mp ht
        show 1000 ≤ 4000 + i; omega
    · rw [List.mem_singleton] at ht
      subst ht
      exact ha0
  have hlv : lv.map (cvp (aj ad t2)) = lv.map (cvp (aj ad tt)) := by
    unfold freshDL at hf
    simp only [Bool.and_eq_true] at hf
    obtain ⟨⟨⟨⟨h1, h2⟩, h3⟩, h4⟩, h5⟩ := hf
    have go : ∀ l : Lv, freshL 3153 l = true → freshL 4000 l = true → freshL 4001 l = true → freshL 4002 l = true → freshL 4003 l = true → l.map (cvp (aj ad t2)) = l.map (cvp (aj ad tt)) := by
      intro l
      induction l with
      | nil => intros; rfl
      | cons q l ih =>
        intro h1 h2 h3 h4 h5
        unfold freshL at h1 h2 h3 h4 h5
        rw [Bool.and_eq_true, Bool.not_eq_true'] at h1 h2 h3 h4 h5
        rw [List.map_cons, List.map_cons, ih h1.2 h2.2 h3.2 h4.2 h5.2]
        congr 1
        show (q.1, cv (aj ad t2) q.2) = (q.1, cv (aj ad tt) q.2)
        congr 1
        have z1 := h1.1
        have z2 := h2.1
        have z3 := h3.1
        have z4 := h4.1
        have z5 := h5.1
        revert z1 z2 z3 z4 z5
        cases q.2 with
        | ref x =>
          intro z1 z2 z3 z4 z5
          have y1 := isRef_f z1
          have y2 := isRef_f z2
          have y3 := isRef_f z3
          have y4 := isRef_f z4
          have y5 := isRef_f z5
          show Value.ref _ = Value.ref _
          congr 1
          rcases Nat.lt_or_ge x 1000 with g9 | g9
          · rw [aj_lo g9, aj_lo g9]
          · rw [aj_hi g9, aj_hi g9, tlo x y1 (by omega)]
        | _ => intros; rfl
    exact go lv h1 h2 h3 h4 h5
  obtain ⟨t, a1, b1⟩ := h t2 F9.heap locs ls (nC + 1 + n) (nS + n + n * 2) (by show nC + 1 + n + g ≤ R.cells; omega) (by show nS + n + n * 2 + 40 * g ≤ R.slots; omega) (by rw [hsz]; omega) (Wld_kept hW (fun q h1 _ => hold q h1))
    ⟨fun j q hj => (hP1 q (List.mem_of_getElem? hj)).1, va_D_of hD1 (fun q hq => (hP1 q hq).2), r1, r2⟩ ⟨by have := hS.1; omega, fun q h1 h2 => (hold q (Nat.lt_of_lt_of_le h1 hS.1)).trans (hS.2.1 q h1 h2), hS.2.2⟩ (by rw [hlv]; exact hl) F9 rfl X'
  refine ⟨t, step t ?_, b1⟩
  have e9 : cv (aj ad t2) (.ref 3153) = .ref H.size := by
    show Value.ref _ = _
    rw [aj_hi (by omega), t3153]
  rw [List.map_cons, e9] at a1
  have e : T.heap.size = H.size := by rw [hTH]
  rw [e]
  exact a1
end DUE
