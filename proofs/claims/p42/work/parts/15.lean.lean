/-! frames; sums of what layers keep -/
def Fr (A : List Nat) (M M' : Mem) : Prop := (∀ a, a ∉ A → M'.1 a = M.1 a) ∧ ∀ a, a ∉ A → M'.2 a = M.2 a
theorem Fr_refl {A : List Nat} {M : Mem} : Fr A M M := ⟨fun _ _ => rfl, fun _ _ => rfl⟩
theorem Fr_trans {A : List Nat} {M M1 M2 : Mem} (h1 : Fr A M M1) (h2 : Fr A M1 M2) : Fr A M M2 :=
  ⟨fun a q => (h2.1 a q).trans (h1.1 a q), fun a q => (h2.2 a q).trans (h1.2 a q)⟩
theorem Fr_sub {A B : List Nat} {M M1 : Mem} (h1 : Fr A M M1) (h : A.all (fun a => B.contains a) = true) : Fr B M M1 := by
  have q : ∀ a, a ∉ B → a ∉ A := fun a hb ha => hb (by simpa using List.all_eq_true.mp h a ha)
  exact ⟨fun a hb => h1.1 a (q a hb), fun a hb => h1.2 a (q a hb)⟩
theorem Fr_mI {A : List Nat} {M M1 : Mem} {a j : Nat} {v : Int32} (h : Fr A M M1) (ha : a ∈ A) : Fr A M (mI M1 a j v) :=
  ⟨fun b hb => by rw [mI_ne M1 (b := b) j v (fun e => hb (by rw [e]; exact ha))]; exact h.1 b hb, h.2⟩
theorem Fr_mL {A : List Nat} {M M1 : Mem} {a j : Nat} {v : Int64} (h : Fr A M M1) (ha : a ∈ A) : Fr A M (mL M1 a j v) :=
  ⟨h.1, fun b hb => by rw [mL_ne M1 (b := b) j v (fun e => hb (by rw [e]; exact ha))]; exact h.2 b hb⟩
theorem Fr_mC {A : List Nat} {M M1 : Mem} {a0 a sp dp n : Nat} (h : Fr A M M1) (ha : a ∈ A) : Fr A M (mC M1 a0 a sp dp n) :=
  ⟨fun b hb => by rw [mC_ne M1 (b := b) a0 sp dp n (fun e => hb (by rw [e]; exact ha))]; exact h.1 b hb, h.2⟩
/-- a sum's two numbers -/
def RLn (M : Mem) (s : Nat) (x y : Int32) : Prop := M.1 s 0 = x ∧ M.1 s 1 = y
def isLn (s : Nat) : Prop := s = 3 ∨ s = 8 ∨ s = 9
def rgt (w : Nat) : Int32 := (stc 900).getD w 0
def dwn (w : Nat) : Int32 := (stc 901).getD w 0
theorem sp_right {d : Nat} {M : Mem} {w : Nat} (h : w < 8) : Call (d + 1) 32 [.int (nI w)] M (RV (some (.int (rgt w))) M) := by
  have e := nI_v (n := w) (by omega)
  refine call_run 400 rfl rfl (fun B Cl Z hZ hB hC => ?_)
  (conv => whnf); refine ⟨fun a => ?_, fun a => ?_⟩
  · simp only [c_lt, c_gt, c_le, c_ge, c_eq, c_ne, b2_z, b2_nz, b2_i, Classical.not_not, t0, t1, Nat.reduceMod, Nat.reduceDiv, Int.reduceAdd, Int.reduceNeg, Nat.reduceAdd, kv_0, kc_0, e] at a
    omega
  · (conv => whnf); refine ⟨fun b => ?_, fun b => ?_⟩
    · simp only [c_lt, c_gt, c_le, c_ge, c_eq, c_ne, b2_z, b2_nz, b2_i, Classical.not_not, t0, t1, Nat.reduceMod, Nat.reduceDiv, Int.reduceAdd, Int.reduceNeg, Nat.reduceAdd, kv_0, kc_0, e] at b
      replace b : (8 : Int) ≤ w := b
      omega
    · (conv => whnf)
      refine ⟨nI_vp h (by omega), ?_⟩
      (conv => whnf)
      refine hZ _ _ ⟨congrArg (fun z => some (Value.int z)) ?_, rfl⟩
      rw [nI_c (by omega)]
      rfl
theorem sp_down {d : Nat} {M : Mem} {w : Nat} (h : w < 8) : Call (d + 1) 33 [.int (nI w)] M (RV (some (.int (dwn w))) M) := by
  have e := nI_v (n := w) (by omega)
  refine call_run 400 rfl rfl (fun B Cl Z hZ hB hC => ?_)
  (conv => whnf); refine ⟨fun a => ?_, fun a => ?_⟩
  · simp only [c_lt, c_gt, c_le, c_ge, c_eq, c_ne, b2_z, b2_nz, b2_i, Classical.not_not, t0, t1, Nat.reduceMod, Nat.reduceDiv, Int.reduceAdd, Int.reduceNeg, Nat.reduceAdd, kv_0, kc_0, e] at a
    omega
  · (conv => whnf); refine ⟨fun b => ?_, fun b => ?_⟩
    · simp only [c_lt, c_gt, c_le, c_ge, c_eq, c_ne, b2_z, b2_nz, b2_i, Classical.not_not, t0, t1, Nat.reduceMod, Nat.reduceDiv, Int.reduceAdd, Int.reduceNeg, Nat.reduceAdd, kv_0, kc_0, e] at b
      replace b : (8 : Int) ≤ w := b
      omega
    · (conv => whnf)
      refine ⟨nI_vp h (by omega), ?_⟩
      (conv => whnf)
      refine hZ _ _ ⟨congrArg (fun z => some (Value.int z)) ?_, rfl⟩
      rw [nI_c (by omega)]
      rfl
theorem mI_1 (M : Mem) (a j : Nat) (v : Int32) : (mI M a j v).1 a j = v := by simp [mI, upd]
theorem mI_2 (M : Mem) {a j i : Nat} (v : Int32) (h : i ≠ j) : (mI M a j v).1 a i = M.1 a i := by simp [mI, upd, h]
theorem sp_begin {d : Nat} {M : Mem} {s : Nat} {x y : Int32} (hs : isLn s) : Call (d + 1) 30 [.ref s, .int x, .int y] M (fun r M' => r = none ∧ RLn M' s x y ∧ Fr [s] M M') := by
  rcases hs with rfl | rfl | rfl <;>
  · refine call_run 400 rfl rfl (fun B Cl Z hZ hB hC => ?_)
    conv => whnf
    refine hZ _ _ ⟨rfl, ⟨?_, ?_⟩, Fr_mI (Fr_mI Fr_refl (by decide)) (by decide)⟩
    · exact (mI_2 _ _ (by decide)).trans (mI_1 _ _ _ _)
    · exact mI_1 _ _ _ _
theorem sp_add {d : Nat} {M : Mem} {s w : Nat} {x y v : Int32} (hs : isLn s) (h : RLn M s x y) (hw : w < 8) : Call (d + 2) 31 [.ref s, .int (nI w), .int v] M (fun r M' => r = none ∧ RLn M' s (x + v * rgt w) (y + v * dwn w) ∧ Fr [s] M M') := by
  obtain ⟨h1, h2⟩ := h
  rcases hs with rfl | rfl | rfl <;>
  · refine call_run 400 rfl rfl (fun B Cl Z hZ hB hC => ?_)
    (conv => whnf); refine ret_k hC (sp_right hw) ?_
    (conv => whnf); refine ret_k hC (sp_down hw) ?_
    conv => whnf
    refine hZ _ _ ⟨rfl, ⟨?_, ?_⟩, Fr_mI (Fr_mI Fr_refl (by decide)) (by decide)⟩
    · rw [← h1]; exact (mI_2 _ _ (by decide)).trans (mI_1 _ _ _ _)
    · rw [← h2]; exact (mI_1 _ _ _ _)
def absI (x : Int32) : Int32 := if 0 ≤ x then x else 0 - x
def maxI (x y : Int32) : Int32 := if x < y then y else x
def minI (x y : Int32) : Int32 := if y < x then y else x
theorem sp_greater {d : Nat} {M : Mem} {s : Nat} {x y : Int32} (hs : isLn s) (h : RLn M s x y) : Call (d + 1) 34 [.ref s] M (RV (some (.int (maxI (absI x) (absI y)))) M) := by
  obtain ⟨h1, h2⟩ := h
  subst h1
  subst h2
  rcases hs with rfl | rfl | rfl <;>
  · refine call_run 400 rfl rfl (fun B Cl Z hZ hB hC => ?_)
    conv => whnf
    exact hZ _ _ ⟨rfl, rfl⟩
