/-! the machine's cells over the JVM's heap -/
def cv (ad : Nat → Nat) (v : Value) : Value := match v with
  | .ref k => .ref (ad k)
  | .int x => .int x
  | .long x => .long x
  | .float x => .float x
  | .double x => .double x
  | .null => .null
  | .retAddr x => .retAddr x
def cvp (ad : Nat → Nat) (q : Nat × Value) : Nat × Value := (q.1, cv ad q.2)
theorem cv_cat (ad : Nat → Nat) (v : Value) : (cv ad v).category = v.category := by cases v <;> rfl
def tyL (ty : Nat → ClassId) : List (ClassId × FieldType) := [(ty 0, .int), (ty 1, .byte), (ty 2, .byte), (ty 3, .long), (ty 4, .object "HayRemembers$Shelf")]
def cfs (ad : Nat → Nat) (M : Mem) (a : Nat) (fs : List Nat) : List Value := fs.mapIdx fun j r => cv ad (fval M a j r)
def cont (ad : Nat → Nat) (ty : Nat → ClassId) (M : Mem) (a : Nat) : va_E := match layK a with
  | (0, ci, fs) => .inr (ci, cfs ad M a fs)
  | (1, t, [n]) => .inl (ty t, n, .inl (M.1 a))
  | (2, 3, [n]) => .inl (ty 3, n, .inr (.inl (M.2 a)))
  | (3, 4, [n, b, s]) => .inl (ty 4, n, .inr (.inr (.inr (.inr (fun j => some (ad (b + s * j)))))))
  | _ => .inr (99, [])
def wsA (ad : Nat → Nat) (ty : Nat → ClassId) (M : Mem) : va_W := (List.range nNC).map fun a => (ad a, cont ad ty M a)
theorem wsA_at {ad : Nat → Nat} {ty : Nat → ClassId} {M : Mem} {a : Nat} (h : a < nNC) : (wsA ad ty M)[a]? = some (ad a, cont ad ty M a) := by
  simp [wsA, h]
theorem nth_ge {α : Type} {d : α} : ∀ {l : List α} {k : Nat}, l.length ≤ k → nth d l k = d
  | [], _, _ => rfl
  | _ :: l, k + 1, h => nth_ge (l := l) (k := k) (by simpa using h)
theorem nth_at {α : Type} {d : α} : ∀ {l : List α} {k : Nat}, k < l.length → l[k]? = some (nth d l k)
  | _ :: _, 0, _ => rfl
  | _ :: l, k + 1, h => by
    have := nth_at (d := d) (l := l) (k := k) (by simpa using h)
    simpa [nth] using this
theorem nth_mem {α : Type} {d : α} {l : List α} {k : Nat} (h : k < l.length) : nth d l k ∈ l := List.mem_of_getElem? (nth_at h)
theorem layL_len : layL.length = 55 := by decide +kernel
theorem layL_kind : layL.all (fun q => Nat.blt q.1 4) = true := by decide +kernel
theorem lay_lo {a : Nat} (h : a < 900) : layK a = nth (9, 0, []) layL a := by
  have : Nat.blt a 900 = true := Nat.ble_eq_true_of_le (by omega)
  simp [layK, this]
theorem lay_hi {a : Nat} (h : 900 ≤ a) : layK a = nth (9, 0, []) laySt (a - 900) := by
  have : Nat.blt a 900 = false := by
    cases hb : Nat.blt a 900 with
    | false => rfl
    | true => exact absurd (Nat.le_of_ble_eq_true hb) (by omega)
  simp [layK, this]
theorem laySt_hi : ∀ j, j < 12 → ¬ (nth (9, 0, []) laySt j).1 < 4 := by decide +kernel
theorem lay_lt {a : Nat} (h : (layK a).1 < 4) : a < nNC := by
  rcases Nat.lt_or_ge a 900 with q | q
  · rw [lay_lo q] at h
    rcases Nat.lt_or_ge a layL.length with q2 | q2
    · rw [layL_len] at q2; exact q2
    · rw [nth_ge q2] at h; omega
  · rw [lay_hi q] at h
    rcases Nat.lt_or_ge (a - 900) 12 with q2 | q2
    · exact absurd h (laySt_hi _ q2)
    · rw [nth_ge (show laySt.length ≤ a - 900 from q2)] at h; omega
theorem lay_lt' {a k : Nat} {x : Nat × List Nat} (h : layK a = (k, x)) (hk : k < 4) : a < nNC := lay_lt (by rw [h]; exact hk)
theorem layK4 {a t : Nat} {x : List Nat} (h : layK a = (4, t, x)) : (t = 0 ∧ x = [8] ∧ (a = 900 ∨ a = 901)) ∨ (t = 1 ∧ x = [6] ∧ a = 911) := by
  rcases Nat.lt_or_ge a 900 with q | q
  · rw [lay_lo q] at h
    rcases Nat.lt_or_ge a layL.length with q2 | q2
    · have h1 := List.all_eq_true.mp layL_kind _ (nth_mem (d := (9, 0, [])) q2)
      rw [h] at h1
      cases h1
    · rw [nth_ge q2] at h; cases h
  · rw [lay_hi q] at h
    obtain ⟨j, rfl⟩ : ∃ j, a = 900 + j := ⟨a - 900, by omega⟩
    rw [show 900 + j - 900 = j by omega] at h
    match j, h with
    | 0, h => cases h; exact Or.inl ⟨rfl, rfl, Or.inl rfl⟩
    | 1, h => cases h; exact Or.inl ⟨rfl, rfl, Or.inr rfl⟩
    | 2, h => cases h
    | 11, h => cases h; exact Or.inr ⟨rfl, rfl, rfl⟩
    | 3, h => cases h
    | 4, h => cases h
    | 5, h => cases h
    | 6, h => cases h
    | 7, h => cases h
    | 8, h => cases h
    | 9, h => cases h
    | 10, h => cases h
    | j + 12, h => rw [nth_ge (show laySt.length ≤ j + 12 from by show 12 ≤ j + 12; omega)] at h; cases h
theorem layK5 {a : Nat} {x : Nat × List Nat} (h : layK a = (5, x)) : a = 910 := by
  rcases Nat.lt_or_ge a 900 with q | q
  · rw [lay_lo q] at h
    rcases Nat.lt_or_ge a layL.length with q2 | q2
    · have h1 := List.all_eq_true.mp layL_kind _ (nth_mem (d := (9, 0, [])) q2)
      rw [h] at h1
      cases h1
    · rw [nth_ge q2] at h; cases h
  · rw [lay_hi q] at h
    obtain ⟨j, rfl⟩ : ∃ j, a = 900 + j := ⟨a - 900, by omega⟩
    rw [show 900 + j - 900 = j by omega] at h
    match j, h with
    | 0, h => cases h
    | 1, h => cases h
    | 2, h => cases h
    | 11, h => cases h
    | 3, h => cases h
    | 4, h => cases h
    | 5, h => cases h
    | 6, h => cases h
    | 7, h => cases h
    | 8, h => cases h
    | 9, h => cases h
    | 10, h => rfl
    | j + 12, h => rw [nth_ge (show laySt.length ≤ j + 12 from by show 12 ≤ j + 12; omega)] at h; cases h
theorem cfs_at {ad : Nat → Nat} {M : Mem} {a j : Nat} {fs : List Nat} (h : j < fs.length) {d : Nat} : (cfs ad M a fs)[j]? = some (cv ad (fval M a j (nth d fs j))) := by
  simp only [cfs, List.getElem?_mapIdx, nth_at (d := d) h]
  rfl
theorem cfs_len {ad : Nat → Nat} {M : Mem} {a : Nat} {fs : List Nat} : (cfs ad M a fs).length = fs.length := by simp [cfs]
theorem mI_same (M : Mem) (a j : Nat) (v : Int32) : (mI M a j v).1 a = upd (M.1 a) j v := by simp [mI]
theorem mI_ne (M : Mem) {a b : Nat} (j : Nat) (v : Int32) (h : b ≠ a) : (mI M a j v).1 b = M.1 b := by simp [mI, h]
theorem mL_same (M : Mem) (a j : Nat) (v : Int64) : (mL M a j v).2 a = vp_updL (M.2 a) j v := by simp [mL]
theorem mL_ne (M : Mem) {a b : Nat} (j : Nat) (v : Int64) (h : b ≠ a) : (mL M a j v).2 b = M.2 b := by simp [mL, h]
theorem mC_same (M : Mem) (a0 a sp dp n : Nat) : (mC M a0 a sp dp n).1 a = va_cpy (M.1 a0) (M.1 a) sp dp n := by simp [mC]
theorem mC_ne (M : Mem) {a b : Nat} (a0 sp dp n : Nat) (h : b ≠ a) : (mC M a0 a sp dp n).1 b = M.1 b := by simp [mC, h]
theorem cfs_congr {ad : Nat → Nat} {M M1 : Mem} {a : Nat} {fs : List Nat} (h : M1.1 a = M.1 a) : cfs ad M1 a fs = cfs ad M a fs := by
  have : ∀ j r, fval M1 a j r = fval M a j r := fun j r => by cases r <;> simp [fval, h]
  simp [cfs, this]
theorem cont_congr {ad : Nat → Nat} {ty : Nat → ClassId} {M M1 : Mem} {a : Nat} (h : M1.1 a = M.1 a) (h2 : M1.2 a = M.2 a) : cont ad ty M1 a = cont ad ty M a := by
  simp only [cont, h, h2, cfs_congr (ad := ad) (a := a) h]
theorem wsA_set {ad : Nat → Nat} {ty : Nat → ClassId} {M M1 : Mem} {a : Nat} {e : va_E} (h : cont ad ty M1 a = e) (hne : ∀ b, b ≠ a → cont ad ty M1 b = cont ad ty M b) : (wsA ad ty M).set a (ad a, e) = wsA ad ty M1 := by
  apply List.ext_getElem?
  intro i
  by_cases hi : i < nNC
  · rw [wsA_at (M := M1) hi]
    by_cases he : a = i
    · subst he
      rw [List.getElem?_set_self (by simp [wsA, hi]), h]
    · rw [List.getElem?_set_ne he, wsA_at hi, hne i (fun q => he q.symm)]
  · rw [List.getElem?_eq_none (by simp [wsA]; omega), List.getElem?_eq_none (by simp [wsA]; omega)]
theorem set_fld {ad : Nat → Nat} {ty : Nat → ClassId} {M : Mem} {a ci j : Nat} {fs : List Nat} {v : Int32} (hl : layK a = (0, ci, fs)) (hr : nth 1 fs j = 0) : (wsA ad ty M).set a (ad a, .inr (ci, (cfs ad M a fs).set j (.int v))) = wsA ad ty (mI M a j v) := by
  refine wsA_set ?_ (fun b hb => cont_congr (mI_ne M j v hb) rfl)
  simp only [cont, hl]
  congr 2
  apply List.ext_getElem?
  intro i
  have hj : j < fs.length := by
    rcases Nat.lt_or_ge j fs.length with q | q
    · exact q
    · rw [nth_ge q] at hr; cases hr
  by_cases hi : i < fs.length
  · rw [cfs_at (d := 1) hi]
    by_cases he : j = i
    · subst he
      rw [List.getElem?_set_self (by rw [cfs_len]; exact hi), hr]
      simp [fval, cv, mI_same, upd]
    · rw [List.getElem?_set_ne he, cfs_at (d := 1) hi]
      congr 2
      cases nth 1 fs i with
      | zero => simp [fval, mI_same, upd, Ne.symm he]
      | succ r => rfl
  · rw [List.getElem?_eq_none (by rw [cfs_len]; omega), List.getElem?_eq_none (by rw [List.length_set, cfs_len]; omega)]
theorem set_arr {ad : Nat → Nat} {ty : Nat → ClassId} {M : Mem} {a t n j : Nat} {v : Int32} (hl : layK a = (1, t, [n])) : (wsA ad ty M).set a (ad a, .inl (ty t, n, .inl (upd (M.1 a) j v))) = wsA ad ty (mI M a j v) :=
  wsA_set (by simp only [cont, hl, mI_same]) (fun b hb => cont_congr (mI_ne M j v hb) rfl)
theorem set_lng {ad : Nat → Nat} {ty : Nat → ClassId} {M : Mem} {a n j : Nat} {v : Int64} (hl : layK a = (2, 3, [n])) : (wsA ad ty M).set a (ad a, .inl (ty 3, n, .inr (.inl (vp_updL (M.2 a) j v)))) = wsA ad ty (mL M a j v) :=
  wsA_set (by simp only [cont, hl, mL_same]) (fun b hb => cont_congr rfl (mL_ne M j v hb))
theorem set_cpy {ad : Nat → Nat} {ty : Nat → ClassId} {M : Mem} {a0 a t n sp dp k : Nat} (hl : layK a = (1, t, [n])) : (wsA ad ty M).set a (ad a, .inl (ty t, n, .inl (va_cpy (M.1 a0) (M.1 a) sp dp k))) = wsA ad ty (mC M a0 a sp dp k) :=
  wsA_set (by simp only [cont, hl, mC_same]) (fun b hb => cont_congr (mC_ne M a0 sp dp k hb) rfl)
/-- where the class may write -/
def inA (B0 : Nat × Nat) (q : Nat) : Prop := B0.1 ≤ q ∧ q < B0.2
/-- the world: all cells, of B0 -/
def Wld (ad : Nat → Nat) (ty : Nat → ClassId) (D : va_G) (B0 : Nat × Nat) (U : State) (H : Heap) (M : Mem) : Prop :=
  va_P D vwCl (wsA ad ty M) H ∧ va_K D vwCl (tyL ty) U ∧ va_D (inA B0) (wsA ad ty M)
def bNames : List (List Int32) := [[102, 97, 108, 109, 99, 107]]
/-- what nobody writes: two tables, a flag, the text of names -/
def StA (ad : Nat → Nat) (B0 : Nat × Nat) (U : State) (H : Heap) : Prop :=
  va_Z "HayRemembers$Lean" "RIGHT" "[I" (.ref (ad 900)) (inA B0) U H ∧ va_Z "HayRemembers$Lean" "DOWN" "[I" (.ref (ad 901)) (inA B0) U H ∧
  True ∧ va_Z "java/lang/String" "COMPACT_STRINGS" "Z" (.int 1) (inA B0) U H ∧
  (∀ a, (a = 900 ∨ a = 901) → va_T .int (ad a) 8 (fun j => .int ((stc a).getD j 0)) (inA B0) U H) ∧
  vk_S 1 [6] bNames (fun _ => ad 910) (fun _ => ad 911) (inA B0) U H ∧ vk_R "HayRemembers$LawReader" 54 "falmck" (ad 910) U
def Fix (k : Nat) (p : Program) (s : State) (m : MethodId) (args : Array Value) (meth : Method) (c : Code) : Prop :=
  p.tables.exec = Jvm.exec ∧ c.code = (mi k).2.1 ∧ meth.sig.returnType = (mi k).2.2.2.1 ∧ c.maxLocals = (mi k).2.2.1 ∧ s.vm.findClass (nmC (mi k).2.2.2.2.1) = some m.cls ∧ (∀ w ∈ lwG, w.before args s = true) ∧ meth.locks = false ∧ k < 123
def roomD (d : Nat) : Room := { frames := d, cells := 0, slots := 0, locals := 40 * d }
def Qcc (ad : Nat → Nat) (ty : Nat → ClassId) (D : va_G) (B0 : Nat × Nat) (Q : Po) : Array Value → State → Outcome → State → Prop := fun _ st o t =>
  (∃ (r : Option Value) (M1 : Mem), o = .returned (r.map (cv ad)) ∧ Q r M1 ∧ Wld ad ty D B0 t t.heap M1) ∧ va_F (inA B0) st t
def wsM (k : Nat) : List Cond := Cond.code (mi k).1 (mi k).2.1 (mi k).2.2.1 (mi k).2.2.2.1 :: lwG
/-- A CALL of method k at depth d: from the world M it comes back with an answer and a world of which Q holds -/
def Call (d k : Nat) (as : List Value) (M : Mem) (Q : Po) : Prop := k < 123 ∧ ∀ (l : Launch) (ad : Nat → Nat) (ty : Nat → ClassId) (D : va_G) (B0 : Nat × Nat),
  Met l (mi k).1 (wsM k) (roomD d) (va_Pc (as.map (cv ad)) (fun U => B0.1 ≤ U.heap.size ∧ Wld ad ty D B0 U U.heap M ∧ StA ad B0 U U.heap)) (Qcc ad ty D B0 Q) 0 0 (inA B0)
/-- a place in method k's body -/
def BodyK (d k pc : Nat) (lv : Lv) (st : List Value) (M : Mem) (Q : Po) : Prop :=
  ∀ (p : Program) (l : Launch) (e : Env) (s : State) (m : MethodId) (args : Array Value) (below : List Frame) (meth : Method) (c : Code) (ad : Nat → Nat) (ty : Nat → ClassId) (D : va_G) (B0 : Nat × Nat) (H : Heap) (locs : List Loc) (ls : Array Slot),
    Fix k p s m args meth c → B0.1 ≤ s.heap.size → StA ad B0 s s.heap → Wld ad ty D B0 s H M → va_S (inA B0) s.heap H locs → lv_has ls (mi k).2.2.1 (lv.map (cvp ad)) →
    W p l e (roomD d) s m args below meth c H locs 0 0 (MQ below (Qcc ad ty D B0 Q) args s 0 0 (inA B0)) (F0 m pc ls (st.map (cv ad)))
theorem Wld.moved {ad : Nat → Nat} {ty : Nat → ClassId} {D : va_G} {B0 : Nat × Nat} {u U : State} {H : Heap} {M : Mem} (hvm : u.vm.Alike U.vm) (h : Wld ad ty D B0 u H M) : Wld ad ty D B0 U H M := ⟨h.1, va_K.moved hvm h.2.1, h.2.2⟩
theorem StA.moved {ad : Nat → Nat} {B0 : Nat × Nat} {s U : State} {H : Heap} (hW : s.WarmedH U.vm) (h : StA ad B0 s H) : StA ad B0 U H := by
  obtain ⟨h1, h2, h3, h4, h5, h6, h7⟩ := h
  exact ⟨h1.moved hW.alike, h2.moved hW.alike, trivial, h4.moved hW.alike, fun a ha => (h5 a ha).moved hW.alike, h6.moved hW.alike, h7.warm hW⟩
theorem StA.kept {ad : Nat → Nat} {B0 : Nat × Nat} {U : State} {H H1 : Heap} (h : StA ad B0 U H) (hq : ∀ a : Nat, a < H.size → ¬ inA B0 a → H1[a]? = H[a]?) : StA ad B0 U H1 := by
  obtain ⟨h1, h2, h3, h4, h5, h6, h7⟩ := h
  exact ⟨h1.kept hq, h2.kept hq, trivial, h4.kept hq, fun a ha => (h5 a ha).kept hq, h6.kept hq, h7⟩
theorem StA.calling {ad : Nat → Nat} {B0 : Nat × Nat} {U : State} {H : Heap} (g : JFrame) (mk : MethodId) (a : Array Value) (h : StA ad B0 U H) : StA ad B0 (U.calling g mk a) H := by
  obtain ⟨h1, h2, h3, h4, h5, h6, h7⟩ := h
  have e : U.vm.Alike (U.calling g mk a).vm := Vm.Alike.refl U.vm
  exact ⟨h1.moved e, h2.moved e, trivial, h4.moved e, fun a ha => (h5 a ha).moved e, h6.moved e, h7.same rfl⟩
