/-! an order looked for, the best first -/
theorem RSr_0 {M : Mem} {E : EnvK} {ls : List Lyr} {sell : Bool} {x : Int32} (h : RSr M E ls sell) : RSr (mI M 5 0 x) E ls sell :=
  ⟨⟨(mI_2 _ _ (by decide)).trans h.1.1, h.1.2.1, fun i q hq => ⟨(h.1.2.2 i q hq).1, fun j hj => by rw [mI_ne _ _ _ (by decide)]; exact (h.1.2.2 i q hq).2 j hj⟩⟩, (mI_2 _ _ (by decide)).trans h.2.1, fun i b ab h1 h2 h3 => by rw [mI_ne _ _ _ (by decide)]; exact h.2.2 i b ab h1 h2 h3⟩
section LN
variable {E : EnvK} {ls : List Lyr} {base n : Nat}
def LNs (E : EnvK) (ls : List Lyr) (base n f : Nat) : Prop := ∀ (D used : Nat) (pth : List Nat) (worst : Int32) (st : DS) (M : Mem), f + 8 ≤ D → pth.length + f = n → (∀ p ∈ pth, p < n) → used < 4096 → RSr M E ls false → RE M E → RPt M pth → RB M E ls base n → RDS M st →
  Call D 43 [.ref 5, .int (nI pth.length), .int (nI n), .int (nI used), .int worst] M (fun v M' => v = none ∧ RDS M' (dC (gP E ls base) n f pth used worst st) ∧ RSr M' E ls false ∧ F5 M M' pth.length)
theorem ln_0 (hn : n ≤ 7) : LNs E ls base n 0 := by
  intro D used pth worst st M hD hf hp hu h he hP hB0 hst
  obtain ⟨d, rfl⟩ : ∃ d, D = d + 8 := ⟨D - 8, by omega⟩
  have e := nI_v (n := pth.length) (by omega)
  have e2 := nI_v (n := n) (by omega)
  refine call_run 400 rfl rfl (fun B Cl Z hZ hB hC => ?_)
  (conv => whnf); refine ⟨fun b => ?_, fun b => ?_⟩
  · (conv => whnf)
    refine hC _ _ _ _ _ (sp_keepPath (d := d + 6) (by omega)) (fun v M1 q => ?_)
    obtain ⟨rfl, q2, q3⟩ := q
    (conv => whnf)
    refine hZ _ _ ⟨rfl, ⟨?_, fun j p hj => ?_⟩, RSr_fr (RSr_0 h) q2 (by decide), Fr_trans (Fr_mI Fr_refl (by decide)) (Fr_sub q2 (by decide)), fun j hj => ?_, fun j hj => ?_⟩
    · rw [Fr_1 q2 5 (by decide)]; exact mI_1 _ _ _ _
    · have hjl := (List.getElem?_eq_some_iff.mp hj).1
      rw [q3 j (by show j < n; have : j < pth.length := hjl; omega), mI_ne _ _ _ (by decide)]
      exact hP j p hj
    · rw [Fr_1 q2 5 (by decide)]; exact mI_2 _ _ hj
    · rw [Fr_1 q2 46 (by decide), mI_ne _ _ _ (by decide)]
  · simp only [c_lt, c_gt, c_le, c_ge, c_eq, c_ne, b2_z, b2_nz, b2_i, Classical.not_not, t0, t1, Nat.reduceMod, Nat.reduceDiv, Int.reduceAdd, Int.reduceNeg, Nat.reduceAdd, kv_0, kv_1, kv_7, kc_0, kc_1, kc_7, e, e2] at b
    omega
theorem ln_loop {f : Nat} (hb : base + n = ls.length) (hn : n ≤ 7) (ih : LNs E ls base n f) {D used : Nat} {pth : List Nat} {worst : Int32} (hD : f + 9 ≤ D) (hf : pth.length + (f + 1) = n) (hp : ∀ p ∈ pth, p < n) (hu : used < 4096) : ∀ (m i : Nat) (st : DS) (M : Mem), i + m = n → RSr M E ls false → RE M E → RPt M pth → RB M E ls base n → RDS M st →
    BodyK D 43 26 [(0, .ref 5), (1, .int (nI pth.length)), (2, .int (nI n)), (3, .int (nI used)), (4, .int worst), (5, .int (nI i))] [] M (fun v M' => v = none ∧ RDS M' (((List.range n).drop i).foldl (fun st i => if used.testBit i = true then st else if maxI worst (gP E ls base (pth ++ [i])) < st.1 then dC (gP E ls base) n f (pth ++ [i]) (used ||| 2 ^ i) (maxI worst (gP E ls base (pth ++ [i]))) st else st) st) ∧ RSr M' E ls false ∧ F5 M M' pth.length) := by
  obtain ⟨d, rfl⟩ : ∃ d, D = d + 9 := ⟨D - 9, by omega⟩
  have ek := nI_v (n := pth.length) (by omega)
  have en := nI_v (n := n) (by omega)
  intro m
  induction m with
  | zero =>
    intro i st M hi h he hP hB0 hst
    have e := nI_v (n := i) (by omega)
    have hd : (List.range n).drop i = [] := List.drop_eq_nil_of_le (by simp; omega)
    rw [hd]
    refine body_run 400 rfl (fun B Cl Z hZ hB hC => ?_)
    (conv => whnf); refine ⟨fun b => ?_, fun b => ?_⟩
    · conv => whnf
      exact hZ _ _ ⟨rfl, hst, h, Fr_refl, fun _ _ => rfl, fun _ _ => rfl⟩
    · simp only [c_lt, c_gt, c_le, c_ge, c_eq, c_ne, b2_z, b2_nz, b2_i, Classical.not_not, t0, t1, Nat.reduceMod, Nat.reduceDiv, Int.reduceAdd, Int.reduceNeg, Nat.reduceAdd, kv_0, kv_1, kv_7, kc_0, kc_1, kc_7, e, en] at b
      omega
  | succ m ihm =>
    intro i st M hi h he hP hB0 hst
    have e := nI_v (n := i) (by omega)
    rw [range_drop n i (by omega), List.foldl_cons]
    have hz := has_z (s := used) (j := i) hu (by omega)
    have hstep : ∀ (st' : DS) (M1 : Mem), (if used.testBit i = true then st else if maxI worst (gP E ls base (pth ++ [i])) < st.1 then dC (gP E ls base) n f (pth ++ [i]) (used ||| 2 ^ i) (maxI worst (gP E ls base (pth ++ [i]))) st else st) = st' → RSr M1 E ls false → RE M1 E → RPt M1 pth → RB M1 E ls base n → RDS M1 st' → F5 M M1 pth.length →
        BodyK (d + 9) 43 26 [(0, .ref 5), (1, .int (nI pth.length)), (2, .int (nI n)), (3, .int (nI used)), (4, .int worst), (5, .int (nI (i + 1)))] [] M1 (fun v M' => v = none ∧ RDS M' (((List.range n).drop (i + 1)).foldl (fun st i => if used.testBit i = true then st else if maxI worst (gP E ls base (pth ++ [i])) < st.1 then dC (gP E ls base) n f (pth ++ [i]) (used ||| 2 ^ i) (maxI worst (gP E ls base (pth ++ [i]))) st else st) (if used.testBit i = true then st else if maxI worst (gP E ls base (pth ++ [i])) < st.1 then dC (gP E ls base) n f (pth ++ [i]) (used ||| 2 ^ i) (maxI worst (gP E ls base (pth ++ [i]))) st else st)) ∧ RSr M' E ls false ∧ F5 M M' pth.length) := by
      intro st' M1 hst' a1 a2 a3 a4 a5 a6
      rw [hst']
      exact Body_mono (ihm (i + 1) st' M1 (by omega) a1 a2 a3 a4 a5) (fun v M' z => ⟨z.1, z.2.1, z.2.2.1, F5_trans a6 z.2.2.2⟩)
    refine body_run 400 rfl (fun B Cl Z hZ hB hC => ?_)
    (conv => whnf); refine ⟨fun b => ?_, fun b => ?_⟩
    · simp only [c_lt, c_gt, c_le, c_ge, c_eq, c_ne, b2_z, b2_nz, b2_i, Classical.not_not, t0, t1, Nat.reduceMod, Nat.reduceDiv, Int.reduceAdd, Int.reduceNeg, Nat.reduceAdd, kv_0, kv_1, kv_7, kc_0, kc_1, kc_7, e, en] at b
      omega
    (conv => whnf); refine ⟨fun g => ?_, fun g => ?_⟩
    · replace g : ¬ ((nI used >>> (nI i &&& 31)) &&& cI 1) = 0 := g
      rw [hz] at g
      have g : used.testBit i = true := by
        cases q : used.testBit i with
        | true => rfl
        | false => rw [q] at g; exact absurd rfl g
      (conv => whnf)
      exact hB _ _ _ _ (Body_lv (hstep st M (if_pos g) h he hP hB0 hst ⟨Fr_refl, fun _ _ => rfl, fun _ _ => rfl⟩) ⟨rfl, rfl, rfl, rfl, rfl, v_eq (nI_i1 i), trivial⟩)
    · replace g : ¬ ¬ ((nI used >>> (nI i &&& 31)) &&& cI 1) = 0 := g
      have g := Classical.not_not.mp g
      rw [hz] at g
      have g : ¬ used.testBit i = true := by
        intro q
        rw [if_pos q] at g
        exact absurd g (by decide)
      (conv => whnf)
      refine ⟨nI_vp (by omega) (by omega), ?_⟩
      (conv => whnf)
      rw [nI_c (n := pth.length) (by omega), nI_i1]
      have hl1 : (pth ++ [i]).length = pth.length + 1 := by simp
      have hF1 : Fr [46] M (mI M 46 pth.length (nI i)) := Fr_mI Fr_refl (by decide)
      have h1 : RSr (mI M 46 pth.length (nI i)) E ls false := RSr_fr h hF1 (by decide)
      have he1 : RE (mI M 46 pth.length (nI i)) E := RE_fr he hF1 (by decide)
      have hB1 : RB (mI M 46 pth.length (nI i)) E ls base n := RB_fr hB0 hF1 (by decide)
      have hP1 : RPt (mI M 46 pth.length (nI i)) (pth ++ [i]) := by
        intro j p hj
        rw [mI_at]
        rcases Nat.lt_or_ge j pth.length with z | z
        · rw [List.getElem?_append_left z] at hj
          rw [if_neg (by omega)]
          exact hP j p hj
        · have := (List.getElem?_eq_some_iff.mp hj).1
          simp at this
          obtain rfl : j = pth.length := by omega
          rw [List.getElem?_append_right (Nat.le_refl _), Nat.sub_self] at hj
          cases hj
          rw [if_pos ⟨rfl, rfl⟩]
      have hp1 : ∀ p ∈ pth ++ [i], p < n := by
        intro p hp'
        rcases List.mem_append.mp hp' with z | z
        · exact hp p z
        · rw [List.mem_singleton] at z; omega
      have hF51 : F5 M (mI M 46 pth.length (nI i)) pth.length := ⟨Fr_sub hF1 (by decide), fun j _ => by rw [mI_ne _ _ _ (by decide)], fun j hj => mI_2 _ _ (by omega)⟩
      have hlb := sp_leanBehind (d := d + 3) hb hn hp1 (by rw [hl1]; omega) h1 he1 hP1 hB1
      rw [hl1] at hlb
      refine hC _ _ _ _ _ hlb (fun v M2 q => ?_)
      obtain ⟨rfl, q2, q3⟩ := q
      have he2 : RE M2 E := RE_fr he1 q3 (by decide)
      have hB2 : RB M2 E ls base n := RB_fr hB1 q3 (by decide)
      have hP2 : RPt M2 (pth ++ [i]) := fun j p hj => by rw [Fr_1 q3 46 (by decide)]; exact hP1 j p hj
      have hF52 : F5 M M2 pth.length := F5_trans hF51 ⟨Fr_sub q3 (by decide), fun j _ => by rw [Fr_1 q3 5 (by decide)], fun j _ => by rw [Fr_1 q3 46 (by decide)]⟩
      have hst2 : RDS M2 st := by
        refine ⟨?_, fun j p hj => ?_⟩
        · rw [Fr_1 q3 5 (by decide), mI_ne _ _ _ (by decide)]; exact hst.1
        · rw [Fr_1 q3 47 (by decide), mI_ne _ _ _ (by decide)]; exact hst.2 j p hj
      (conv => whnf); refine ⟨fun k => ?_, fun k => ?_⟩
      · replace k : M2.1 5 0 ≤ maxI worst (gP E ls base (pth ++ [i])) := k
        rw [hst2.1] at k
        (conv => whnf)
        exact hB _ _ _ _ (Body_lv (hstep st M2 (by rw [if_neg g, if_neg (Int32.not_lt.mpr k)]) q2 he2 (RPt_F5 hP hF52) hB2 hst2 hF52) ⟨rfl, rfl, rfl, rfl, rfl, v_eq (nI_i1 i), trivial⟩)
      · replace k : ¬ M2.1 5 0 ≤ maxI worst (gP E ls base (pth ++ [i])) := k
        rw [hst2.1] at k
        have k := Int32.not_le.mp k
        (conv => whnf)
        rw [nI_i1, add_i hu (by omega)]
        have hu2 : used ||| 2 ^ i < 4096 := Nat.or_lt_two_pow (n := 12) hu (Nat.pow_lt_pow_right (by omega) (by omega))
        have hrec := ih (d + 8) (used ||| 2 ^ i) (pth ++ [i]) (maxI worst (gP E ls base (pth ++ [i]))) st M2 (by omega) (by rw [hl1]; omega) hp1 hu2 q2 he2 hP2 hB2 hst2
        rw [hl1] at hrec
        refine hC _ _ _ _ _ hrec (fun v M3 u => ?_)
        obtain ⟨rfl, u2, u3, u4⟩ := u
        have hF53 : F5 M M3 pth.length := F5_trans hF52 (F5_le u4 (by omega))
        (conv => whnf)
        exact hB _ _ _ _ (Body_lv (hstep _ M3 (by rw [if_neg g, if_pos k]) u3 (RE_fr he2 u4.1 (by decide)) (RPt_F5 hP hF53) (RB_fr hB2 u4.1 (by decide)) u2 hF53) ⟨rfl, rfl, rfl, rfl, rfl, v_eq (nI_i1 i), trivial⟩)
theorem ln_step {f : Nat} (hb : base + n = ls.length) (hn : n ≤ 7) (ih : LNs E ls base n f) : LNs E ls base n (f + 1) := by
  intro D used pth worst st M hD hf hp hu h he hP hB0 hst
  obtain ⟨d, rfl⟩ : ∃ d, D = d + 9 := ⟨D - 9, by omega⟩
  have e := nI_v (n := pth.length) (by omega)
  have e2 := nI_v (n := n) (by omega)
  refine call_run 400 rfl rfl (fun B Cl Z hZ hB hC => ?_)
  (conv => whnf); refine ⟨fun b => ?_, fun b => ?_⟩
  · simp only [c_lt, c_gt, c_le, c_ge, c_eq, c_ne, b2_z, b2_nz, b2_i, Classical.not_not, t0, t1, Nat.reduceMod, Nat.reduceDiv, Int.reduceAdd, Int.reduceNeg, Nat.reduceAdd, kv_0, kv_1, kv_7, kc_0, kc_1, kc_7, e, e2] at b
    omega
  (conv => whnf); refine ⟨fun b => ?_, fun b => ?_⟩
  rotate_left
  · simp only [c_lt, c_gt, c_le, c_ge, c_eq, c_ne, b2_z, b2_nz, b2_i, Classical.not_not, t0, t1, Nat.reduceMod, Nat.reduceDiv, Int.reduceAdd, Int.reduceNeg, Nat.reduceAdd, kv_0, kv_1, kv_7, kc_0, kc_1, kc_7, e] at b
    omega
  (conv => whnf)
  exact hB _ _ _ _ (Body_lv (ln_loop hb hn ih (D := d + 9) (by omega) hf hp hu n 0 st M (by omega) h he hP hB0 hst) ⟨rfl, rfl, rfl, rfl, rfl, rfl, trivial⟩)
theorem ln_all (hb : base + n = ls.length) (hn : n ≤ 7) : ∀ f, LNs E ls base n f
  | 0 => ln_0 hn
  | f + 1 => ln_step hb hn (ln_all hb hn f)
end LN
