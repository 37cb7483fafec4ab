/-! the reference: builder and wind by turns -/
def bO (E : EnvK) (r : Nat) : Nat → Bool → Rk → Int32
  | 0, _, w => lM E w r
  | n + 1, b, w => (List.range 8).foldl (fun c wy => if c < 0 ∨ (if b then bO E r n (!b) (put w r (wy, 5, 0, 0)) < c else c < bO E r n (!b) (put w r (wy, 5, 0, 0))) then bO E r n (!b) (put w r (wy, 5, 0, 0)) else c) (cI (-2))
section MTURNS
variable {s : St} {r : Nat}
def BOs (s : St) (r n : Nat) : Prop := ∀ (D : Nat) (b : Bool) (w : Rk) (M : Mem), 2 * n + 8 ≤ D → RM M s → YM M 75 w → okR w → r < w.length → hgt w r + n ≤ 12 →
  Call D 237 [.ref 55, .int (nI r), .int (nI n), .int (bI b)] M (fun v M' => v = some (.int (bO (envS s) r n b w)) ∧ FrM DA [] M M' ∧ YM M' 75 w)
theorem bo_0 (hv : inv s) : BOs s r 0 := by
  intro D b w M hD h hw ho hr hh
  obtain ⟨d, rfl⟩ : ∃ d, D = d + 8 := ⟨D - 8, by omega⟩
  refine call_run 400 rfl rfl (fun B Cl Z hZ hB hC => ?_)
  (conv => whnf); refine ⟨fun a => ?_, fun a => ?_⟩
  · exact absurd rfl a
  (conv => whnf)
  refine hC _ _ _ _ _ (m_leanMost h hv hw ho hr) (fun v M1 p => ?_)
  obtain ⟨rfl, p2⟩ := p
  conv => whnf
  exact hZ _ _ ⟨rfl, FrM_sub p2 (by decide) (by decide), YM_f hw p2 (by decide)⟩
theorem m_byWay {n wy : Nat} (hv : inv s) (ih : BOs s r n) {D : Nat} {b : Bool} {w : Rk} {M : Mem} (hD : 2 * n + 9 ≤ D) (hn : n < 12) (hwy : wy < 8) (h : RM M s) (hw : YM M 75 w) (ho : okR w) (hr : r < w.length) (hh : hgt w r + (n + 1) ≤ 12) :
    Call D 236 [.ref 55, .int (nI r), .int (nI wy), .int (nI (n + 1)), .int (bI b)] M (fun v M' => v = some (.int (bO (envS s) r n (!b) (put w r (wy, 5, 0, 0)))) ∧ FrM DA [] M M' ∧ YM M' 75 w) := by
  obtain ⟨d, rfl⟩ : ∃ d, D = d + 9 := ⟨D - 9, by omega⟩
  have hl := ho.1
  have vr : vp_in (nI r) 4 := nI_vp (by omega) (by decide)
  have cr := nI_c (n := r) (by omega)
  refine call_run 400 rfl rfl (fun B Cl Z hZ hB hC => ?_)
  (conv => whnf)
  refine hC _ _ _ _ _ (m_layOn (w := wy) (f := 5) (m := 0) hw ho hr (by omega)) (fun v M1 p => ?_)
  obtain ⟨rfl, p2, p3⟩ := p
  have h1 := RM_x h (FrM_sub p2 (by decide) (by decide))
  have e1 : nI (n + 1) - cI 1 = nI n := nI_sub (b := 1) (by omega)
  have ho1 : okR (put w r (wy, 5, 0, 0)) := okR_put ho hr (by omega) ⟨hwy, by show 1 ≤ 5 ∧ 5 ≤ 9; omega, by show 0 < 8; omega, by show 0 < 100; omega⟩
  have hcall : ∀ x, x = nI n → Call (d + 8) 237 [.ref 55, .int (nI r), .int x, .int (bI (!b))] M1 (fun v M' => v = some (.int (bO (envS s) r n (!b) (put w r (wy, 5, 0, 0)))) ∧ FrM DA [] M1 M' ∧ YM M' 75 (put w r (wy, 5, 0, 0))) := by
    rintro x rfl
    exact ih (d + 8) (!b) _ M1 (by omega) h1 p3 ho1 (by rw [put_len]; exact hr) (by rw [hgt_put hr, if_pos rfl]; omega)
  have fin : ∀ M2, FrM DA [] M1 M2 → YM M2 75 (put w r (wy, 5, 0, 0)) → FrM DA [] M (mI M2 75 r (M2.1 75 r - cI 1)) ∧ YM (mI M2 75 r (M2.1 75 r - cI 1)) 75 w := fun M2 f2 w2 => ⟨FrM_a (FrM_trans (FrM_sub p2 (by decide) (by decide)) f2) (by decide) (by decide), YM_un w2 hr⟩
  cases b
  · (conv => whnf); refine ⟨fun a => ?_, fun a => ?_⟩
    · exact absurd rfl a
    (conv => whnf)
    refine hC _ _ _ _ _ (hcall _ e1) (fun v M2 q => ?_)
    obtain ⟨rfl, q2, q3⟩ := q
    (conv => whnf)
    refine ⟨vr, ?_⟩
    (conv => whnf)
    refine ⟨vr, ?_⟩
    conv => whnf
    rw [cr]
    exact hZ _ _ ⟨rfl, fin M2 q2 q3⟩
  · (conv => whnf); refine ⟨fun a => ?_, fun a => ?_⟩
    case' refine_2 => exact absurd (show ¬ (1 : Int32) = 0 by decide) a
    (conv => whnf)
    refine hC _ _ _ _ _ (hcall _ e1) (fun v M2 q => ?_)
    obtain ⟨rfl, q2, q3⟩ := q
    (conv => whnf)
    refine ⟨vr, ?_⟩
    (conv => whnf)
    refine ⟨vr, ?_⟩
    conv => whnf
    rw [cr]
    exact hZ _ _ ⟨rfl, fin M2 q2 q3⟩
theorem bo_loop {n : Nat} (hv : inv s) (ih : BOs s r n) {D : Nat} {b : Bool} {w : Rk} {M0 : Mem} {x : Int32} (hD : 2 * n + 10 ≤ D) (hn : n < 12) (ho : okR w) (hr : r < w.length) (hh : hgt w r + (n + 1) ≤ 12) : ∀ (m wy : Nat) (c x : Int32) (M : Mem), wy + m = 8 → RM M s → YM M 75 w → FrM DA [] M0 M →
    BodyK D 237 17 [(0, .ref 55), (1, .int (nI r)), (2, .int (nI (n + 1))), (3, .int (bI b)), (4, .int c), (5, .int (nI wy))] [] M (fun v M' => v = some (.int (((List.range 8).drop wy).foldl (fun c wy => if c < 0 ∨ (if b then bO (envS s) r n (!b) (put w r (wy, 5, 0, 0)) < c else c < bO (envS s) r n (!b) (put w r (wy, 5, 0, 0))) then bO (envS s) r n (!b) (put w r (wy, 5, 0, 0)) else c) c)) ∧ FrM DA [] M0 M' ∧ YM M' 75 w) := by
  obtain ⟨d, rfl⟩ : ∃ d, D = d + 10 := ⟨D - 10, by omega⟩
  intro m
  induction m with
  | zero =>
    intro wy c x M hm h hw hF
    have e := nI_v (n := wy) (by omega)
    have hd : (List.range 8).drop wy = [] := List.drop_eq_nil_of_le (by simp; omega)
    rw [hd]
    refine body_run 400 rfl (fun B Cl Z hZ hB hC => ?_)
    (conv => whnf); refine ⟨fun k => ?_, fun k => ?_⟩
    · conv => whnf
      exact hZ _ _ ⟨rfl, hF, hw⟩
    · simp only [c_lt, c_gt, c_le, c_ge, c_eq, c_ne, b2_z, b2_nz, b2_i, Classical.not_not, t0, t1, Nat.reduceMod, Nat.reduceDiv, Int.reduceAdd, Int.reduceNeg, Nat.reduceAdd, kv_m2, kv_0, kv_1, kv_8, kc_0, kc_1, kc_8, e] at k
      omega
  | succ m ihm =>
    intro wy c x M hm h hw hF
    have e := nI_v (n := wy) (by omega)
    rw [range_drop 8 wy (by omega), List.foldl_cons]
    have hcall := m_byWay (n := n) (wy := wy) hv ih (D := d + 9) (b := b) (w := w) (M := M) (by omega) hn (by omega) h hw ho hr hh
    generalize bO (envS s) r n (!b) (put w r (wy, 5, 0, 0)) = v at *
    have step : ∀ (M1 : Mem) (c' : Int32), FrM DA [] M M1 → YM M1 75 w → c' = (if c < 0 ∨ (if b then v < c else c < v) then v else c) → BodyK (d + 10) 237 17 [(0, .ref 55), (1, .int (nI r)), (2, .int (nI (n + 1))), (3, .int (bI b)), (4, .int c'), (5, .int (nI wy + cI 1))] [] M1 (fun u M' => u = some (.int (((List.range 8).drop (wy + 1)).foldl (fun c wy => if c < 0 ∨ (if b then bO (envS s) r n (!b) (put w r (wy, 5, 0, 0)) < c else c < bO (envS s) r n (!b) (put w r (wy, 5, 0, 0))) then bO (envS s) r n (!b) (put w r (wy, 5, 0, 0)) else c) (if c < 0 ∨ (if b then v < c else c < v) then v else c))) ∧ FrM DA [] M0 M' ∧ YM M' 75 w) := by
      intro M1 c' f1 w1 hc'
      rw [hc', nI_i1]
      exact ihm (wy + 1) _ x M1 (by omega) (RM_x h (DAx f1)) w1 (FrM_trans hF f1)
    refine body_run 400 rfl (fun B Cl Z hZ hB hC => ?_)
    (conv => whnf); refine ⟨fun k => ?_, fun k => ?_⟩
    · simp only [c_lt, c_gt, c_le, c_ge, c_eq, c_ne, b2_z, b2_nz, b2_i, Classical.not_not, t0, t1, Nat.reduceMod, Nat.reduceDiv, Int.reduceAdd, Int.reduceNeg, Nat.reduceAdd, kv_m2, kv_0, kv_1, kv_8, kc_0, kc_1, kc_8, e] at k
      omega
    (conv => whnf)
    refine hC _ _ _ _ _ hcall (fun u M1 p => ?_)
    obtain ⟨rfl, p2, p3⟩ := p
    (conv => whnf); refine ⟨fun a => ?_, fun a => ?_⟩
    · replace a : c < 0 := a
      (conv => whnf)
      exact hB _ _ _ _ (Body_lv (step M1 v p2 p3 (by rw [if_pos (Or.inl a)])) ⟨rfl, rfl, rfl, rfl, rfl, rfl, trivial⟩)
    replace a : ¬ c < 0 := a
    cases b
    · (conv => whnf); refine ⟨fun g => ?_, fun g => ?_⟩
      case' refine_2 => exact absurd rfl g
      (conv => whnf); refine ⟨fun t => ?_, fun t => ?_⟩
      · replace t : v ≤ c := t
        (conv => whnf)
        refine hB _ _ _ _ (Body_lv (step M1 c p2 p3 ?_) ⟨rfl, rfl, rfl, rfl, rfl, rfl, trivial⟩)
        rw [if_neg (fun z => z.elim a (fun y => by
          replace y : c < v := y
          rw [lt_i] at y; rw [le_i] at t; omega))]
      · replace t : ¬ v ≤ c := t
        (conv => whnf)
        refine hB _ _ _ _ (Body_lv (step M1 v p2 p3 ?_) ⟨rfl, rfl, rfl, rfl, rfl, rfl, trivial⟩)
        exact (if_pos (Or.inr (show c < v by rw [lt_i]; rw [le_i] at t; omega))).symm
    · (conv => whnf); refine ⟨fun g => ?_, fun g => ?_⟩
      · exact absurd (show (1 : Int32) = 0 from g) (by decide)
      (conv => whnf); refine ⟨fun t => ?_, fun t => ?_⟩
      · replace t : v ≥ c := t
        (conv => whnf)
        refine hB _ _ _ _ (Body_lv (step M1 c p2 p3 ?_) ⟨rfl, rfl, rfl, rfl, rfl, rfl, trivial⟩)
        rw [if_neg (fun z => z.elim a (fun y => by
          replace y : v < c := y
          have t : c ≤ v := t
          rw [lt_i] at y; rw [le_i] at t; omega))]
      · replace t : ¬ v ≥ c := t
        (conv => whnf)
        refine hB _ _ _ _ (Body_lv (step M1 v p2 p3 ?_) ⟨rfl, rfl, rfl, rfl, rfl, rfl, trivial⟩)
        have t : ¬ c ≤ v := t
        exact (if_pos (Or.inr (show v < c by rw [lt_i]; rw [le_i] at t; omega))).symm
theorem bo_s (hv : inv s) : ∀ n, n ≤ 4 → BOs s r n
  | 0, _ => bo_0 hv
  | n + 1, hn => by
    have ih := bo_s hv n (by omega)
    intro D b w M hD h hw ho hr hh
    obtain ⟨d, rfl⟩ : ∃ d, D = d + 10 := ⟨D - 10, by omega⟩
    have e := nI_v (n := n + 1) (by omega)
    refine call_run 400 rfl rfl (fun B Cl Z hZ hB hC => ?_)
    (conv => whnf); refine ⟨fun a => ?_, fun a => ?_⟩
    case' refine_2 =>
      simp only [c_lt, c_gt, c_le, c_ge, c_eq, c_ne, b2_z, b2_nz, b2_i, Classical.not_not, t0, t1, Nat.reduceMod, Nat.reduceDiv, Int.reduceAdd, Int.reduceNeg, Nat.reduceAdd, kv_m2, kv_0, kv_1, kv_8, kc_0, kc_1, kc_8, e] at a
      omega
    (conv => whnf)
    exact hB _ _ _ _ (Body_lv (bo_loop (n := n) hv ih (D := d + 9 + 1) (M0 := M) (x := 0) (by omega) (by omega) ho hr hh 8 0 (cI (-2)) 0 M (by omega) h hw FrM_refl) ⟨rfl, rfl, rfl, rfl, rfl, rfl, trivial⟩)
end MTURNS
