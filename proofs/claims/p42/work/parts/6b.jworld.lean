/-! the law's world: the class's cells, the law's arrays behind them, the script before them -/
def aj (ad tt : Nat → Nat) (k : Nat) : Nat := match Nat.blt k 1000 with
  | true => ad k
  | false => tt k
theorem aj_lo {ad tt : Nat → Nat} {k : Nat} (h : k < 1000) : aj ad tt k = ad k := by
  have : Nat.blt k 1000 = true := Nat.ble_eq_true_of_le h
  simp [aj, this]
theorem aj_hi {ad tt : Nat → Nat} {k : Nat} (h : 1000 ≤ k) : aj ad tt k = tt k := by
  have : Nat.blt k 1000 = false := by
    cases hb : Nat.blt k 1000 with
    | false => rfl
    | true => exact absurd (Nat.le_of_ble_eq_true hb) (by omega)
  simp [aj, this]
/-- an array of the law's, as a cell: numbers; 3153: a row of rows, these at 4000, 4001 .. -/
def tmX (ty : Nat → ClassId) (tt : Nat → Nat) (t : Nat × Bool × Nat × (Nat → Int32)) : va_E := match Nat.beq t.1 3153 with
  | true => .inl (ty 5, t.2.2.1, .inr (.inr (.inr (.inr (fun i => if i < t.2.2.1 then some (tt (4000 + i)) else none)))))
  | false => .inl (ty 0, t.2.2.1, .inl t.2.2.2)
abbrev tmE (ty : Nat → ClassId) (tt : Nat → Nat) (t : Nat × Bool × Nat × (Nat → Int32)) : Nat × va_E := (tt t.1, tmX ty tt t)
theorem tmX_i {ty : Nat → ClassId} {tt : Nat → Nat} {t : Nat × Bool × Nat × (Nat → Int32)} (h : ¬ t.1 = 3153) : tmX ty tt t = .inl (ty 0, t.2.2.1, .inl t.2.2.2) := by
  have e : Nat.beq t.1 3153 = false := by
    cases hq : Nat.beq t.1 3153 with
    | false => rfl
    | true => exact absurd (Nat.eq_of_beq_eq_true hq) h
  unfold tmX
  rw [e]
def wsT (ty : Nat → ClassId) (tt : Nat → Nat) (T : Tm) : va_W := T.map (tmE ty tt)
/-- the law's arrays lie behind the class's cells, apart; A: where this method may write -/
def WT (ty : Nat → ClassId) (D : va_G) (B0 : Nat × Nat) (tt : Nat → Nat) (A : Nat → Prop) (H : Heap) (T : Tm) : Prop :=
  va_P D vwCl (wsT ty tt T) H ∧ va_D (fun q => B0.2 ≤ q) (wsT ty tt T) ∧ (∀ t ∈ T, t.2.1 = true → A (tt t.1)) ∧ ∀ t ∈ T, 1000 ≤ t.1
def jlev (k : Nat) : Nat := nth 0 [0, 1, 1, 1, 1, 1, 1, 1, 2, 1, 1, 3, 4] k
def jroom (k : Nat) : Room := { frames := 251 + jlev k, cells := jcost k, slots := 40 * jcost k, locals := 60 * (252 + jlev k) }
def jws (k : Nat) : List Cond := Cond.code (jm k).1 (jm k).2.1 (jm k).2.2.1 (jm k).2.2.2.1 :: lwG
def jfree (B0 : Nat × Nat) (sz : Nat) (q : Nat) : Prop := inA B0 q ∨ sz ≤ q
/-- what nobody writes, outside A -/
def StP (ad : Nat → Nat) (A : Nat → Prop) (U : State) (H : Heap) : Prop :=
  va_Z "HayRemembers$Lean" "RIGHT" "[I" (.ref (ad 900)) A U H ∧ va_Z "HayRemembers$Lean" "DOWN" "[I" (.ref (ad 901)) A U H ∧
  True ∧ va_Z "java/lang/String" "COMPACT_STRINGS" "Z" (.int 1) A U H ∧
  (∀ a, (a = 900 ∨ a = 901) → va_T .int (ad a) 8 (fun j => .int ((stc a).getD j 0)) A U H) ∧
  vk_S 1 [6] bNames (fun _ => ad 910) (fun _ => ad 911) A U H ∧ vk_R "HayRemembers$LawReader" 54 "falmck" (ad 910) U
theorem StP.narrow {ad : Nat → Nat} {A B : Nat → Prop} {U : State} {H : Heap} (h : StP ad A U H) (hAB : ∀ q, B q → A q) : StP ad B U H := by
  obtain ⟨h1, h2, h3, h4, h5, h6, h7⟩ := h
  exact ⟨h1.narrow hAB, h2.narrow hAB, trivial, h4.narrow hAB, fun a ha => (h5 a ha).narrow hAB, h6.narrow hAB, h7⟩
theorem StP.kept {ad : Nat → Nat} {A : Nat → Prop} {U : State} {H H1 : Heap} (h : StP ad A U H) (hq : ∀ a : Nat, a < H.size → ¬ A a → H1[a]? = H[a]?) : StP ad A U H1 := by
  obtain ⟨h1, h2, h3, h4, h5, h6, h7⟩ := h
  exact ⟨h1.kept hq, h2.kept hq, trivial, h4.kept hq, fun a ha => (h5 a ha).kept hq, h6.kept hq, h7⟩
theorem StP.moved {ad : Nat → Nat} {A : Nat → Prop} {s U : State} {H : Heap} (hW : s.WarmedH U.vm) (h : StP ad A s H) : StP ad A U H := by
  obtain ⟨h1, h2, h3, h4, h5, h6, h7⟩ := h
  exact ⟨h1.moved hW.alike, h2.moved hW.alike, trivial, h4.moved hW.alike, fun a ha => (h5 a ha).moved hW.alike, h6.moved hW.alike, h7.warm hW⟩
theorem StP.calling {ad : Nat → Nat} {A : Nat → Prop} {U : State} {H : Heap} (g : JFrame) (mk : MethodId) (a : Array Value) (h : StP ad A U H) : StP ad A (U.calling g mk a) H := by
  obtain ⟨h1, h2, h3, h4, h5, h6, h7⟩ := h
  have e : U.vm.Alike (U.calling g mk a).vm := Vm.Alike.refl U.vm
  exact ⟨h1.moved e, h2.moved e, trivial, h4.moved e, fun a ha => (h5 a ha).moved e, h6.moved e, h7.same rfl⟩
theorem StP.A {ad : Nat → Nat} {B0 : Nat × Nat} {U : State} {H : Heap} (h : StP ad (inA B0) U H) : StA ad B0 U H := h
def QJ (ad : Nat → Nat) (ty : Nat → ClassId) (D : va_G) (B0 : Nat × Nat) (sz : Nat) (Q : Int32 → Mem → Prop) : Array Value → State → Outcome → State → Prop := fun _ st o t =>
  (∃ (x : Int32) (M1 : Mem), o = .returned (some (.int x)) ∧ Q x M1 ∧ Wld ad ty D B0 t t.heap M1) ∧ va_F (jfree B0 sz) st t
def PJ (L : Nat) (xs : Nat → Int32) (ad : Nat → Nat) (ty : Nat → ClassId) (D : va_G) (B0 : Nat × Nat) (tt : Nat → Nat) (sz : Nat) (M : Mem) (T : Tm) (U : State) : Prop :=
  U.heap.size = sz ∧ B0.2 ≤ sz ∧ ad 950 < B0.1 ∧ ad 950 < sz ∧ va_X (ad 950) L xs U U.heap ∧ Wld ad ty D B0 U U.heap M ∧ va_P D vwCl (wsT ty tt T) U.heap ∧ va_D (fun q => B0.2 ≤ q) (wsT ty tt T) ∧ (∀ t ∈ T, 1000 ≤ t.1) ∧ StP ad (jfree B0 sz) U U.heap
/-- A CALL of the law's helper k: from the class's world M, with the law's arrays T, it comes back with a number and a class's world of which Q holds -/
def JCall (L : Nat) (xs : Nat → Int32) (k : Nat) (as : List Value) (M : Mem) (T : Tm) (Q : Int32 → Mem → Prop) : Prop := k < 12 ∧ ∀ (l : Launch) (ad : Nat → Nat) (ty : Nat → ClassId) (D : va_G) (B0 : Nat × Nat) (tt : Nat → Nat) (sz : Nat),
  Met l (jm k).1 (jws k) (jroom k) (va_Pc (as.map (cv (aj ad tt))) (PJ L xs ad ty D B0 tt sz M T)) (QJ ad ty D B0 sz Q) (jcost k) (40 * jcost k) (jfree B0 sz)
/-- as the walk sees it: of the arrays that the caller has, some -/
def jcl (L : Nat) (xs : Nat → Int32) (k0 : Nat) (k : Nat) (as : List Value) (S : JSt) (Q : Int32 → Mem → Prop) : Prop := jlev k < jlev k0 ∧ ∃ T', subT S.2.1 T' ∧ JCall L xs k as S.1 T' Q
/-- what stands fast while a method runs -/
def FixJ (k : Nat) (L : Nat) (xs : Nat → Int32) (p : Program) (R : Room) (s : State) (m : MethodId) (args : Array Value) (meth : Method) (c : Code) (ad : Nat → Nat) (B0 : Nat × Nat) (A : Nat → Prop) : Prop :=
  p.tables.exec = Jvm.exec ∧ c.code = (jm k).2.1 ∧ c.maxLocals = (jm k).2.2.1 ∧ s.vm.findClass RJL = some m.cls ∧ (∀ w ∈ lwG, w.before args s = true) ∧ (va_X (ad 950) L xs s s.heap ∧ ad 950 < s.heap.size ∧ ¬ A (ad 950) ∧ ad 950 < B0.1) ∧
  StP ad A s s.heap ∧ (∀ q, inA B0 q → A q) ∧ (∀ q, s.heap.size ≤ q → A q) ∧ 251 + jlev k ≤ R.frames ∧ 60 * (252 + jlev k) ≤ R.locals ∧ k < 13
/-- a place in the method's body -/
def JS (k : Nat) (p : Program) (l : Launch) (e : Env) (R : Room) (s : State) (m : MethodId) (args : Array Value) (below : List Frame) (meth : Method) (c : Code) (ad : Nat → Nat) (ty : Nat → ClassId) (D : va_G) (B0 : Nat × Nat) (A : Nat → Prop) (Zt : State → Prop) (pc : Nat) (lv : Lv) (st : List Value) (S : JSt) : Prop :=
  ∀ (tt : Nat → Nat) (H : Heap) (locs : List Loc) (ls : Array Slot) (nC nS : Nat), nC + S.2.2 ≤ R.cells → nS + 40 * S.2.2 ≤ R.slots → B0.2 ≤ H.size → Wld ad ty D B0 s H S.1 → WT ty D B0 tt A H S.2.1 → va_S A s.heap H locs → lv_has ls (jm k).2.2.1 (lv.map (cvp (aj ad tt))) →
    W p l e R s m args below meth c H locs nC nS Zt (F0 m pc ls (st.map (cv (aj ad tt))))
theorem jok_e {k : Nat} (h : k < 13) : jdchk (jbys k) (jdo k) = true ∧ (∀ e ∈ jdo k, jokI e = true) ∧ chn (jdo k) = true ∧ (jm k).2.2.1 ≤ 24 ∧ (nth (1, 0, .nop, 0, 0) (jdo k) 0).1 = 0 := by
  have h1 := List.all_eq_true.mp jok_all k (List.mem_range.mpr h)
  simp only [jokM, Bool.and_eq_true] at h1
  obtain ⟨⟨⟨⟨h1, h2⟩, h3⟩, h4⟩, h5⟩ := h1
  exact ⟨h1, List.all_eq_true.mp h2, h3, Nat.le_of_ble_eq_true h4, Nat.eq_of_beq_eq_true h5⟩
theorem jokY_e {k : Nat} (h : k < 13) : (jm k).1.cls = RJL ∧ plainName (jm k).1.cls = true ∧ (parseMethodDescriptor (jm k).1.desc).map (fun d => d.parameters.length) = some (jm k).2.2.2.2 := by
  have h1 := List.all_eq_true.mp jokY_all k (List.mem_range.mpr h)
  simp only [jokY, Bool.and_eq_true, decide_eq_true_eq] at h1
  exact ⟨h1.1.1, h1.1.2, h1.2⟩
theorem jws_in {k : Nat} (hk : k < 12) : ∀ w ∈ jws k, w ∈ lwG := fun w h => (List.mem_cons.mp h).elim (fun q => by rw [q]; exact (jw_all hk).1) id
theorem lkT_i {T : Tm} {a : Nat} {x : Bool × Nat × (Nat → Int32)} (h : lkT T a = some x) : ∃ j : Nat, T[j]? = some (a, x) := by
  induction T with
  | nil => cases h
  | cons t l ih =>
    unfold lkT at h
    split at h
    · next hb =>
      cases h
      exact ⟨0, by rw [List.getElem?_cons_zero, ← Nat.eq_of_beq_eq_true hb]⟩
    · obtain ⟨j, hj⟩ := ih h
      exact ⟨j + 1, by rw [List.getElem?_cons_succ]; exact hj⟩
theorem setT_i {T : Tm} {a n : Nat} {w : Bool} {f : Nat → Int32} (g : Nat → Int32) (h : lkT T a = some (w, n, f)) : ∃ j : Nat, T[j]? = some (a, w, n, f) ∧ setT T a g = T.set j (a, w, n, g) := by
  induction T with
  | nil => cases h
  | cons t l ih =>
    unfold lkT at h
    unfold setT
    split at h
    · next hb =>
      have e := Nat.eq_of_beq_eq_true hb
      refine ⟨0, ?_, ?_⟩
      · rw [List.getElem?_cons_zero]
        obtain ⟨t1, t2⟩ := t
        cases h
        cases e
        rfl
      · obtain ⟨t1, t2, t3, t4⟩ := t
        cases h
        cases e
        rfl
    · next hb =>
      obtain ⟨j, hj, h2⟩ := ih h
      refine ⟨j + 1, by rw [List.getElem?_cons_succ]; exact hj, ?_⟩
      rw [h2]
      rfl
theorem dropT_sub (T : Tm) (a : Nat) : (dropT T a).Sublist T := by
  induction T with
  | nil => exact List.Sublist.slnil
  | cons t l ih =>
    unfold dropT
    split
    · exact List.Sublist.cons _ ih
    · exact List.Sublist.cons₂ _ ih
theorem dropT_ne {T : Tm} {a : Nat} : ∀ t ∈ dropT T a, t.1 ≠ a := by
  induction T with
  | nil => intro t h; cases h
  | cons q l ih =>
    intro t h
    unfold dropT at h
    split at h
    · exact ih t h
    · next hb =>
      rcases List.mem_cons.mp h with h | h
      · subst h
        intro e
        rw [e] at hb
        rw [Nat.beq_refl] at hb
        cases hb
      · exact ih t h
/-- worlds of fewer arrays -/
theorem va_P_sl {D : va_G} {cl : List vw_C} {w w' : va_W} {H : Heap} (h : va_P D cl w H) (hs : w'.Sublist w) : va_P D cl w' H := by
  intro k q hk
  obtain ⟨i, hi⟩ := List.getElem?_of_mem (hs.subset (List.mem_of_getElem? hk))
  exact h i q hi
theorem va_D_pw {A : Nat → Prop} {w : va_W} (h : va_D A w) : w.Pairwise (fun x y => x.1 ≠ y.1) := by
  rw [List.pairwise_iff_getElem]
  intro i j hi hj hij e
  have := h.1 i j w[i] w[j] (List.getElem?_eq_getElem hi) (List.getElem?_eq_getElem hj) e
  omega
theorem va_D_of {A : Nat → Prop} {w : va_W} (h1 : w.Pairwise (fun x y => x.1 ≠ y.1)) (h2 : ∀ q ∈ w, A q.1) : va_D A w := by
  refine ⟨fun i j x y hi hj e => ?_, fun k q hk => h2 q (List.mem_of_getElem? hk)⟩
  rw [List.pairwise_iff_getElem] at h1
  obtain ⟨li, ei⟩ := List.getElem?_eq_some_iff.mp hi
  obtain ⟨lj, ej⟩ := List.getElem?_eq_some_iff.mp hj
  rcases Nat.lt_trichotomy i j with q | q | q
  · exact absurd (by rw [ei, ej]; exact e) (h1 i j li lj q)
  · exact q
  · exact absurd (by rw [ei, ej]; exact e.symm) (h1 j i lj li q)
theorem va_D_sl {A : Nat → Prop} {w w' : va_W} (h : va_D A w) (hs : w'.Sublist w) : va_D A w' :=
  va_D_of ((va_D_pw h).sublist hs) (fun q hq => by
    obtain ⟨i, hi⟩ := List.getElem?_of_mem (hs.subset hq)
    exact h.2 i q hi)
theorem wsT_sl {ty : Nat → ClassId} {tt : Nat → Nat} {T T' : Tm} (h : T'.Sublist T) : (wsT ty tt T').Sublist (wsT ty tt T) := h.map _
theorem WT_sub {ty : Nat → ClassId} {D : va_G} {B0 : Nat × Nat} {tt : Nat → Nat} {A : Nat → Prop} {H : Heap} {T T' : Tm} (h : WT ty D B0 tt A H T) (hs : subT T T') : WT ty D B0 tt A H T' :=
  ⟨va_P_sl h.1 (wsT_sl hs), va_D_sl h.2.1 (wsT_sl hs), fun t ht => h.2.2.1 t (List.Sublist.subset hs ht), fun t ht => h.2.2.2 t (List.Sublist.subset hs ht)⟩
theorem WT_kept {ty : Nat → ClassId} {D : va_G} {B0 : Nat × Nat} {tt : Nat → Nat} {A : Nat → Prop} {H H1 : Heap} {T : Tm} (h : WT ty D B0 tt A H T) (hk : ∀ q, q < H.size → B0.2 ≤ q → H1[q]? = H[q]?) : WT ty D B0 tt A H1 T :=
  ⟨h.1.kept (fun k q hq => hk q.1 ((h.1 k q hq).lt) (h.2.1.2 k q hq)), h.2⟩
theorem Wld_kept {ad : Nat → Nat} {ty : Nat → ClassId} {D : va_G} {B0 : Nat × Nat} {U : State} {H H1 : Heap} {M : Mem} (h : Wld ad ty D B0 U H M) (hk : ∀ q, q < H.size → inA B0 q → H1[q]? = H[q]?) : Wld ad ty D B0 U H1 M :=
  ⟨h.1.kept (fun k q hq => hk q.1 ((h.1 k q hq).lt) (h.2.2.2 k q hq)), h.2⟩
