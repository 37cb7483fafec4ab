/-! lines and texts read -/
abbrev Ln : Type := List Nat × List Nat
def pline (t : List Nat) (a : Nat) : Nat × Option Ln := match pz t 48 0 0 a with
  | (p, none) => (p, none)
  | (p, some cs) => if t[p]? = some 63 then (match pz t 48 0 0 (p + 1) with
      | (q, some ds) => (q, some (cs, ds))
      | (q, none) => (q, none)) else (p, some ([], cs))
def ptext (t : List Nat) : Nat → Nat → List Ln → Nat × Option (List Ln)
  | 0, a, _ => (a, none)
  | k + 1, a, ls => match pline t a with
    | (p, none) => (p, none)
    | (p, some l) => if p = t.length then (p, some (ls ++ [l])) else if t[p]? = some 59 then ptext t k (p + 1) (ls ++ [l]) else (p, none)
def encL (l : Ln) : List Nat := (match l.1 with
  | [] => []
  | _ => l.1 ++ [10073]) ++ (l.2 ++ [10069])
def encT (ls : List Ln) : List Nat := ls.flatMap encL
theorem pline_fine {t : List Nat} {a : Nat} (h : a ≤ t.length) : a ≤ (pline t a).1 ∧ (pline t a).1 ≤ t.length ∧ ∀ l, (pline t a).2 = some l → (encL l).length + a ≤ (pline t a).1 + 1 ∧ a + 1 ≤ (pline t a).1 := by
  have h1 := pz_fine (t := t) 48 0 0 a h
  unfold pline
  split
  · next p hp =>
    rw [hp] at h1
    exact ⟨h1.1, h1.2.1, fun l q => by cases q⟩
  · next p cs hp =>
    rw [hp] at h1
    obtain ⟨g1, g2, g3⟩ := h1
    obtain ⟨g4, g5⟩ := g3 cs rfl
    simp at g1 g2 g4 g5
    split
    · next hq =>
      have hpl := (List.getElem?_eq_some_iff.mp hq).1
      have h2 := pz_fine (t := t) 48 0 0 (p + 1) hpl
      split
      · next q ds hp2 =>
        rw [hp2] at h2
        obtain ⟨f1, f2, f3⟩ := h2
        obtain ⟨f4, f5⟩ := f3 ds rfl
        simp at f1 f2 f4 f5
        refine ⟨by simp; omega, f2, fun l ql => ?_⟩
        cases ql
        obtain ⟨c0, cs0, rfl⟩ := List.exists_cons_of_length_pos g5
        simp [encL] at g4 ⊢
        omega
      · next q hp2 =>
        rw [hp2] at h2
        exact ⟨by have := h2.1; simp at this; simp; omega, h2.2.1, fun l ql => by cases ql⟩
    · refine ⟨g1, g2, fun l ql => ?_⟩
      cases ql
      simp [encL]
      omega
theorem encL_cons {cs ds : List Nat} (h : 0 < cs.length) : encL (cs, ds) = cs ++ [10073] ++ (ds ++ [10069]) := by
  obtain ⟨c0, cs0, rfl⟩ := List.exists_cons_of_length_pos h
  rfl
def plt (M' : Mem) (t code : List Nat) (r : Nat × Option Ln) : Prop := match r.2 with
  | some l => RRd M' t r.1 (code ++ encL l)
  | none => RFd M' t r.1
theorem sp_readLine {D a : Nat} {t code : List Nat} {M : Mem} (hD : 160 ≤ D) (h : RRd M t a code) (hl : code.length ≤ a) : Call D 22 [.ref 2] M (fun v M' => v = none ∧ Fr AD M M' ∧ plt M' t code (pline t a)) := by
  obtain ⟨d, rfl⟩ : ∃ d, D = d + 160 := ⟨D - 160, by omega⟩
  have hL := (sosl t 48).2
  have hle := h.2.2.1
  have h120 := h.1.2.1
  refine call_run 400 rfl rfl (fun B Cl Z hZ hB hC => ?_)
  (conv => whnf)
  refine hC _ _ _ _ _ (hL _ 0 0 a code M (by omega) (by omega) (by omega) (by decide) h hl) (fun v M1 q => ?_)
  obtain ⟨rfl, q2, q3⟩ := q
  have hf := pz_fine (t := t) 48 0 0 a hle
  have hun : pline t a = (match pz t 48 0 0 a with
    | (p, none) => (p, none)
    | (p, some cs) => if t[p]? = some 63 then (match pz t 48 0 0 (p + 1) with
      | (q, some ds) => (q, some (cs, ds))
      | (q, none) => (q, none)) else (p, some ([], cs))) := rfl
  cases hr : pz t 48 0 0 a with
  | mk p oc =>
    rw [hr] at q3 hf hun
    cases oc with
    | none =>
      have q4 : RFd M1 t p := q3
      have e5 := nI_v (n := p) (by have := q4.2.2.1; omega)
      (conv => whnf); refine ⟨fun g => ?_, fun g => ?_⟩
      · (conv => whnf)
        refine hC _ _ _ _ _ (sp_stepF q4) (fun v M2 r => ?_)
        obtain ⟨rfl, r2, r3⟩ := r
        (conv => whnf)
        refine hZ _ _ ⟨rfl, Fr_trans q2 r3, ?_⟩
        rw [hun]
        exact r2
      · simp only [c_lt, c_gt, c_le, c_ge, c_eq, c_ne, b2_z, b2_nz, b2_i, Classical.not_not, t0, t1, Nat.reduceMod, Nat.reduceDiv, Int.reduceAdd, Int.reduceNeg, Nat.reduceAdd, kv_0, kv_1, kv_63, kv_10069, kv_10073, kc_0, kc_1, kc_63, kc_10069, kc_10073, q4.2.1, e5] at g
        omega
    | some cs =>
      have q4 : RRd M1 t p (code ++ cs) := q3
      obtain ⟨g1, g2, g3⟩ := hf
      obtain ⟨g3, g5⟩ := g3 cs rfl
      simp at g1 g2 g3 g5
      (conv => whnf); refine ⟨fun g => ?_, fun g => ?_⟩
      · simp only [c_lt, c_gt, c_le, c_ge, c_eq, c_ne, b2_z, b2_nz, b2_i, Classical.not_not, t0, t1, Nat.reduceMod, Nat.reduceDiv, Int.reduceAdd, Int.reduceNeg, Nat.reduceAdd, kv_0, kv_1, kv_63, kv_10069, kv_10073, kc_0, kc_1, kc_63, kc_10069, kc_10073, q4.2.2.2.1, kv_m1] at g
        omega
      · (conv => whnf); refine ret_k hC (sp_next q4.1 q4.2.1 (by omega)) ?_
        (conv => whnf); refine ⟨fun f => ?_, fun f => ?_⟩
        · replace f : ¬ nxI t p = cI 63 := f
          have hx : ¬ t[p]? = some 63 := fun q => f (by rw [nxI_s q]; rfl)
          (conv => whnf)
          refine hC _ _ _ _ _ (sp_step (c := 10069) q4 (by simp; omega)) (fun v M2 r => ?_)
          obtain ⟨rfl, r2, r3⟩ := r
          (conv => whnf)
          refine hZ _ _ ⟨rfl, Fr_trans q2 r3, ?_⟩
          rw [hun]
          show plt M2 t code (if t[p]? = some 63 then _ else (p, some ([], cs)))
          rw [if_neg hx]
          show RRd M2 t p (code ++ ([] ++ (cs ++ [10069])))
          rw [List.nil_append, ← List.append_assoc]
          exact r2
        · replace f : ¬ ¬ nxI t p = cI 63 := f
          have f := Classical.not_not.mp f
          have hx : t[p]? = some 63 := by
            cases hx : t[p]? with
            | none => rw [nxI_n hx] at f; exact absurd f (by decide)
            | some c2 =>
              rw [nxI_s hx, x_eq, nI_v (by have := (q4.1.2.2 p c2 hx).2; omega), kv_63] at f
              have : c2 = 63 := by omega
              rw [this]
          have hpl := (List.getElem?_eq_some_iff.mp hx).1
          replace hun : pline t a = (if t[p]? = some 63 then (match pz t 48 0 0 (p + 1) with
            | (q, some ds) => (q, some (cs, ds))
            | (q, none) => (q, none)) else (p, some ([], cs))) := hun
          rw [if_pos hx] at hun
          (conv => whnf)
          simp only [Nat.reduceMod, q4.2.1, nI_i1]
          refine hC _ _ _ _ _ (sp_step (c := 10073) (RRd_at q4 hpl) (by simp; omega)) (fun v M2 r => ?_)
          obtain ⟨rfl, r2, r3⟩ := r
          (conv => whnf)
          refine hC _ _ _ _ _ (hL _ 0 0 (p + 1) _ M2 (by omega) (by omega) (by omega) (by decide) r2 (by simp; omega)) (fun v M3 s => ?_)
          obtain ⟨rfl, s2, s3⟩ := s
          have hF : Fr AD M M3 := Fr_trans q2 (Fr_trans (Fr_mI Fr_refl (by decide)) (Fr_trans r3 s2))
          have hf2 := pz_fine (t := t) 48 0 0 (p + 1) (by omega)
          cases hr2 : pz t 48 0 0 (p + 1) with
          | mk q oc2 =>
            rw [hr2] at s3 hf2 hun
            cases oc2 with
            | none =>
              have s4 : RFd M3 t q := s3
              (conv => whnf)
              refine hC _ _ _ _ _ (sp_stepF s4) (fun v M4 u => ?_)
              obtain ⟨rfl, u2, u3⟩ := u
              (conv => whnf)
              refine hZ _ _ ⟨rfl, Fr_trans hF u3, ?_⟩
              rw [hun]
              exact u2
            | some ds =>
              have s4 : RRd M3 t q (code ++ cs ++ [10073] ++ ds) := s3
              obtain ⟨k1, k2, k3⟩ := hf2
              have k3 := (k3 ds rfl).1
              simp at k1 k2 k3
              (conv => whnf)
              refine hC _ _ _ _ _ (sp_step (c := 10069) s4 (by simp; omega)) (fun v M4 u => ?_)
              obtain ⟨rfl, u2, u3⟩ := u
              (conv => whnf)
              refine hZ _ _ ⟨rfl, Fr_trans hF u3, ?_⟩
              rw [hun]
              show RRd M4 t q (code ++ encL (cs, ds))
              rw [encL_cons g5]
              simp only [List.append_assoc] at u2 ⊢
              exact u2
theorem read_fault {d p : Nat} {t : List Nat} {x : Int32} {M : Mem} (h : RFd M t p) : BodyK (d + 1) 21 17 [(0, .ref 2), (1, .int x)] [] M (fun v M' => Fr AD M M' ∧ v = some (.int (nI p)) ∧ RFd M' t p) := by
  have e := nI_v (n := p) (by have := h.2.2.1; omega)
  refine body_run 400 rfl (fun B Cl Z hZ hB hC => ?_)
  (conv => whnf); refine ⟨fun b => ?_, fun b => ?_⟩
  · conv => whnf
    exact hZ _ _ ⟨Fr_refl, v_eq h.2.1, h⟩
  · (conv => whnf); refine ⟨fun b => ?_, fun b => ?_⟩
    · conv => whnf
      exact hZ _ _ ⟨Fr_refl, v_eq h.2.1, h⟩
    · simp only [c_lt, c_gt, c_le, c_ge, c_eq, c_ne, b2_z, b2_nz, b2_i, Classical.not_not, t0, t1, Nat.reduceMod, Nat.reduceDiv, Int.reduceAdd, Int.reduceNeg, Nat.reduceAdd, kv_m1, kv_0, kv_1, kv_59, kv_120, kc_0, kc_1, kc_59, kc_120, h.2.1, e] at b
      omega
theorem read_loop {D : Nat} {t : List Nat} (hD : 161 ≤ D) : ∀ (k i a : Nat) (ls : List Ln) (M : Mem), i + k = 121 → 2 * i ≤ a → RRd M t a (encT ls) → (encT ls).length ≤ a →
    BodyK D 21 17 [(0, .ref 2), (1, .int (nI i))] [] M (fun v M' => Fr AD M M' ∧ match ptext t k a ls with
      | (p, some ls') => v = some (.int (cI (-1))) ∧ RRd M' t p (encT ls') ∧ (encT ls').length ≤ 121
      | (p, none) => v = some (.int (nI p)) ∧ RFd M' t p) := by
  obtain ⟨d, rfl⟩ : ∃ d, D = d + 161 := ⟨D - 161, by omega⟩
  intro k
  induction k with
  | zero =>
    intro i a ls M hi ha h hl
    have := h.2.2.1
    have := h.1.2.1
    omega
  | succ k ih =>
    intro i a ls M hi ha h hl
    have hle := h.2.2.1
    have h120 := h.1.2.1
    have e := nI_v (n := i) (by omega)
    have hun : ptext t (k + 1) a ls = (match pline t a with
      | (p, none) => (p, none)
      | (p, some l) => if p = t.length then (p, some (ls ++ [l])) else if t[p]? = some 59 then ptext t k (p + 1) (ls ++ [l]) else (p, none)) := rfl
    refine body_run 400 rfl (fun B Cl Z hZ hB hC => ?_)
    (conv => whnf); refine ⟨fun b => ?_, fun b => ?_⟩
    · simp only [c_lt, c_gt, c_le, c_ge, c_eq, c_ne, b2_z, b2_nz, b2_i, Classical.not_not, t0, t1, Nat.reduceMod, Nat.reduceDiv, Int.reduceAdd, Int.reduceNeg, Nat.reduceAdd, kv_m1, kv_0, kv_1, kv_59, kv_120, kc_0, kc_1, kc_59, kc_120, e] at b
      omega
    (conv => whnf); refine ⟨fun b => ?_, fun b => ?_⟩
    · simp only [c_lt, c_gt, c_le, c_ge, c_eq, c_ne, b2_z, b2_nz, b2_i, Classical.not_not, t0, t1, Nat.reduceMod, Nat.reduceDiv, Int.reduceAdd, Int.reduceNeg, Nat.reduceAdd, kv_m1, kv_0, kv_1, kv_59, kv_120, kc_0, kc_1, kc_59, kc_120, h.2.2.2.1, kv_m1] at b
      omega
    (conv => whnf)
    refine hC _ _ _ _ _ (sp_readLine (by omega) h hl) (fun v M1 q => ?_)
    obtain ⟨rfl, q2, q3⟩ := q
    have hf := pline_fine (t := t) hle
    cases hr : pline t a with
    | mk p oc =>
      rw [hr] at q3 hf hun
      cases oc with
      | none =>
        have q4 : RFd M1 t p := q3
        have e5 := nI_v (n := p) (by have := q4.2.2.1; omega)
        rw [hun] at hZ
        (conv => whnf); refine ⟨fun g => ?_, fun g => ?_⟩
        · (conv => whnf)
          exact hZ _ _ ⟨q2, v_eq q4.2.1, q4⟩
        · simp only [c_lt, c_gt, c_le, c_ge, c_eq, c_ne, b2_z, b2_nz, b2_i, Classical.not_not, t0, t1, Nat.reduceMod, Nat.reduceDiv, Int.reduceAdd, Int.reduceNeg, Nat.reduceAdd, kv_m1, kv_0, kv_1, kv_59, kv_120, kc_0, kc_1, kc_59, kc_120, q4.2.1, e5] at g
          omega
      | some l =>
        have q4 : RRd M1 t p (encT ls ++ encL l) := q3
        have q5 : encT (ls ++ [l]) = encT ls ++ encL l := by simp [encT]
        obtain ⟨g1, g2, g3⟩ := hf
        obtain ⟨g3, g5⟩ := g3 l rfl
        simp at g1 g2 g3 g5
        have ep := nI_v (n := p) (by omega)
        have et := nI_v (n := t.length) (by omega)
        replace hun : ptext t (k + 1) a ls = (if p = t.length then (p, some (ls ++ [l])) else if t[p]? = some 59 then ptext t k (p + 1) (ls ++ [l]) else (p, none)) := hun
        rw [hun] at hZ hB
        (conv => whnf); refine ⟨fun g => ?_, fun g => ?_⟩
        · simp only [c_lt, c_gt, c_le, c_ge, c_eq, c_ne, b2_z, b2_nz, b2_i, Classical.not_not, t0, t1, Nat.reduceMod, Nat.reduceDiv, Int.reduceAdd, Int.reduceNeg, Nat.reduceAdd, kv_m1, kv_0, kv_1, kv_59, kv_120, kc_0, kc_1, kc_59, kc_120, q4.2.2.2.1, kv_m1] at g
          omega
        (conv => whnf); refine ⟨fun g => ?_, fun g => ?_⟩
        rotate_left
        · simp only [c_lt, c_gt, c_le, c_ge, c_eq, c_ne, b2_z, b2_nz, b2_i, Classical.not_not, t0, t1, Nat.reduceMod, Nat.reduceDiv, Int.reduceAdd, Int.reduceNeg, Nat.reduceAdd, kv_m1, kv_0, kv_1, kv_59, kv_120, kc_0, kc_1, kc_59, kc_120, q4.2.1, q4.1.1, ep, et] at g
          have g : p = t.length := by omega
          rw [if_pos g] at hZ
          (conv => whnf)
          exact hZ _ _ ⟨q2, v_eq q4.2.2.2.1, by rw [q5]; exact q4, by rw [q5]; simp; omega⟩
        simp only [c_lt, c_gt, c_le, c_ge, c_eq, c_ne, b2_z, b2_nz, b2_i, Classical.not_not, t0, t1, Nat.reduceMod, Nat.reduceDiv, Int.reduceAdd, Int.reduceNeg, Nat.reduceAdd, kv_m1, kv_0, kv_1, kv_59, kv_120, kc_0, kc_1, kc_59, kc_120, q4.2.1, q4.1.1, ep, et] at g
        have g : ¬ p = t.length := by omega
        rw [if_neg g] at hZ hB
        (conv => whnf); refine ret_k hC (sp_next q4.1 q4.2.1 (by omega)) ?_
        (conv => whnf); refine ⟨fun f => ?_, fun f => ?_⟩
        · replace f : nxI t p = cI 59 := f
          have hx : t[p]? = some 59 := by
            cases hx : t[p]? with
            | none => rw [nxI_n hx] at f; exact absurd f (by decide)
            | some c2 =>
              rw [nxI_s hx, x_eq, nI_v (by have := (q4.1.2.2 p c2 hx).2; omega), kv_59] at f
              have : c2 = 59 := by omega
              rw [this]
          have hpl := (List.getElem?_eq_some_iff.mp hx).1
          rw [if_pos hx] at hB
          (conv => whnf)
          simp only [Nat.reduceMod, q4.2.1, nI_i1]
          have := ih (i + 1) (p + 1) (ls ++ [l]) _ (by omega) (by omega) (by rw [q5]; exact RRd_at q4 hpl) (by rw [q5]; simp; omega)
          exact hB _ _ _ _ (Body_lv (Body_mono this (fun v M' z => ⟨Fr_trans q2 (Fr_trans (Fr_mI Fr_refl (by decide)) z.1), z.2⟩)) ⟨rfl, rfl, trivial⟩)
        · replace f : ¬ nxI t p = cI 59 := f
          have hx : ¬ t[p]? = some 59 := fun q => f (by rw [nxI_s q]; rfl)
          rw [if_neg hx] at hB
          (conv => whnf)
          simp only [Nat.reduceMod, q4.2.1]
          have hR : RFd (mI (mI M1 2 5 (nI p)) 2 4 ((mI M1 2 5 (nI p)).1 2 4 + cI 1)) t p := RFd_at (RFd_of q4 (by simp; omega))
          refine hB _ _ _ _ (Body_lv (Body_mono (Q := fun v M' => Fr AD _ M' ∧ v = some (.int (nI p)) ∧ RFd M' t p) (read_fault (d := d + 160) hR) (fun v M' z => ⟨Fr_trans q2 (Fr_trans (Fr_mI (Fr_mI Fr_refl (by decide)) (by decide)) z.1), z.2⟩)) ⟨rfl, rfl, trivial⟩)
