/-! selling, looked through -/
/-- what is paid for i out of a set, a layer sold each day -/
def pS (E : EnvK) (ls : List Lyr) (s i : Nat) : Int32 := match ls[i]? with
  | some q => amS E true ls.length q (pcn s i) (pcn s 12 - 1 - pcn s i)
  | none => 0
/-- the most paid, and the order first come to by it -/
def sC (E : EnvK) (ls : List Lyr) (t : Nat) : Nat → List Nat → Nat → Int32 → DS → DS
  | 0, pth, _, paid, _ => (paid, pth)
  | f + 1, pth, s, paid, st => (List.range ls.length).foldl (fun st i => if s.testBit i = true then (if st.1 < (paid + pS E ls s i) + cI 9 * (nI t - cI 1 - nI pth.length) then sC E ls t f (pth ++ [i]) (clr s i) (paid + pS E ls s i) st else st) else st) st
theorem pcn_lt {s i : Nat} (h : s.testBit i = true) : ∀ n, i < n → pcn s i + 1 ≤ pcn s n
  | 0, hn => absurd hn (Nat.not_lt_zero _)
  | n + 1, hn => by
    by_cases q : i = n
    · subst q; rw [pcn, if_pos h]; omega
    · have := pcn_lt h n (by omega)
      rw [pcn]; omega
theorem pcn_big {s n : Nat} (h : s < 2 ^ n) : ∀ m, pcn s (n + m) = pcn s n
  | 0 => rfl
  | m + 1 => by
    have hz : s.testBit (n + m) = false := Nat.testBit_lt_two_pow (Nat.lt_of_lt_of_le h (Nat.pow_le_pow_right (by omega) (by omega)))
    rw [← Nat.add_assoc, pcn, hz, pcn_big h m]
    simp
section SN
variable {E : EnvK} {ls : List Lyr} {t : Nat}
def SNs (E : EnvK) (ls : List Lyr) (t f : Nat) : Prop := ∀ (D s : Nat) (pth : List Nat) (paid : Int32) (st : DS) (M : Mem), f + 8 ≤ D → pth.length + f = t → s < 2 ^ ls.length → RSr M E ls true → RE M E → RPt M pth → RDS M st →
  Call D 50 [.ref 5, .int (nI pth.length), .int (nI t), .int (nI s), .int paid] M (fun v M' => v = none ∧ RDS M' (sC E ls t f pth s paid st) ∧ RSr M' E ls true ∧ F5 M M' pth.length)
theorem sn_0 (ht : t ≤ 4) : SNs E ls t 0 := by
  intro D s pth paid st M hD hf hs h he hP hst
  obtain ⟨d, rfl⟩ : ∃ d, D = d + 8 := ⟨D - 8, by omega⟩
  have e := nI_v (n := pth.length) (by omega)
  have e2 := nI_v (n := t) (by omega)
  refine call_run 400 rfl rfl (fun B Cl Z hZ hB hC => ?_)
  (conv => whnf); refine ⟨fun b => ?_, fun b => ?_⟩
  · (conv => whnf)
    refine hC _ _ _ _ _ (sp_keepPath (d := d + 6) (by omega)) (fun v M1 q => ?_)
    obtain ⟨rfl, q2, q3⟩ := q
    (conv => whnf)
    refine hZ _ _ ⟨rfl, ⟨?_, fun j p hj => ?_⟩, RSr_fr (RSr_0 h) q2 (by decide), Fr_trans (Fr_mI Fr_refl (by decide)) (Fr_sub q2 (by decide)), fun j hj => ?_, fun j hj => ?_⟩
    · rw [Fr_1 q2 5 (by decide)]; exact mI_1 _ _ _ _
    · have hjl := (List.getElem?_eq_some_iff.mp hj).1
      rw [q3 j (by show j < t; have : j < pth.length := hjl; omega), mI_ne _ _ _ (by decide)]
      exact hP j p hj
    · rw [Fr_1 q2 5 (by decide)]; exact mI_2 _ _ hj
    · rw [Fr_1 q2 46 (by decide), mI_ne _ _ _ (by decide)]
  · simp only [c_lt, c_gt, c_le, c_ge, c_eq, c_ne, b2_z, b2_nz, b2_i, Classical.not_not, t0, t1, Nat.reduceMod, Nat.reduceDiv, Int.reduceAdd, Int.reduceNeg, Nat.reduceAdd, kv_m1, kv_0, kv_1, kv_9, kv_12, kc_0, kc_1, kc_9, kc_12, e, e2] at b
    omega
theorem sn_loop {f : Nat} (ht : t ≤ 4) (ih : SNs E ls t f) {D s : Nat} {pth : List Nat} {paid : Int32} (hD : f + 9 ≤ D) (hf : pth.length + (f + 1) = t) (hs : s < 2 ^ ls.length) : ∀ (m i : Nat) (st : DS) (M : Mem), i + m = ls.length → RSr M E ls true → RE M E → RPt M pth → RDS M st →
    BodyK D 50 35 [(0, .ref 5), (1, .int (nI pth.length)), (2, .int (nI t)), (3, .int (nI s)), (4, .int paid), (5, .int (nI (pcn s 12))), (6, .int (nI (pcn s i))), (7, .int (nI i))] [] M (fun v M' => v = none ∧ RDS M' (((List.range ls.length).drop i).foldl (fun st i => if s.testBit i = true then (if st.1 < (paid + pS E ls s i) + cI 9 * (nI t - cI 1 - nI pth.length) then sC E ls t f (pth ++ [i]) (clr s i) (paid + pS E ls s i) st else st) else st) st) ∧ RSr M' E ls true ∧ F5 M M' pth.length) := by
  obtain ⟨d, rfl⟩ : ∃ d, D = d + 9 := ⟨D - 9, by omega⟩
  have ek := nI_v (n := pth.length) (by omega)
  intro m
  induction m with
  | zero =>
    intro i st M hi h he hP hst
    have h12 := h.1.2.1
    have e := nI_v (n := i) (by omega)
    have en := nI_v (n := ls.length) (by omega)
    have hd : (List.range ls.length).drop i = [] := List.drop_eq_nil_of_le (by simp; omega)
    rw [hd]
    refine body_run 400 rfl (fun B Cl Z hZ hB hC => ?_)
    (conv => whnf); refine ⟨fun b => ?_, fun b => ?_⟩
    · conv => whnf
      exact hZ _ _ ⟨rfl, hst, h, Fr_refl, fun _ _ => rfl, fun _ _ => rfl⟩
    · simp only [c_lt, c_gt, c_le, c_ge, c_eq, c_ne, b2_z, b2_nz, b2_i, Classical.not_not, t0, t1, Nat.reduceMod, Nat.reduceDiv, Int.reduceAdd, Int.reduceNeg, Nat.reduceAdd, kv_m1, kv_0, kv_1, kv_9, kv_12, kc_0, kc_1, kc_9, kc_12, h.1.1, e, en] at b
      omega
  | succ m ihm =>
    intro i st M hi h he hP hst
    have h12 := h.1.2.1
    have e := nI_v (n := i) (by omega)
    have en := nI_v (n := ls.length) (by omega)
    have hs12 : s < 4096 := Nat.lt_of_lt_of_le hs (Nat.pow_le_pow_right (n := 2) (by omega) h12)
    rw [range_drop ls.length i (by omega), List.foldl_cons]
    have hz := has_z (s := s) (j := i) hs12 (by omega)
    have hstep : ∀ (st' : DS) (M1 : Mem), (if s.testBit i = true then (if st.1 < (paid + pS E ls s i) + cI 9 * (nI t - cI 1 - nI pth.length) then sC E ls t f (pth ++ [i]) (clr s i) (paid + pS E ls s i) st else st) else st) = st' → RSr M1 E ls true → RE M1 E → RPt M1 pth → RDS M1 st' → F5 M M1 pth.length →
        BodyK (d + 9) 50 35 [(0, .ref 5), (1, .int (nI pth.length)), (2, .int (nI t)), (3, .int (nI s)), (4, .int paid), (5, .int (nI (pcn s 12))), (6, .int (nI (pcn s (i + 1)))), (7, .int (nI (i + 1)))] [] M1 (fun v M' => v = none ∧ RDS M' (((List.range ls.length).drop (i + 1)).foldl (fun st i => if s.testBit i = true then (if st.1 < (paid + pS E ls s i) + cI 9 * (nI t - cI 1 - nI pth.length) then sC E ls t f (pth ++ [i]) (clr s i) (paid + pS E ls s i) st else st) else st) (if s.testBit i = true then (if st.1 < (paid + pS E ls s i) + cI 9 * (nI t - cI 1 - nI pth.length) then sC E ls t f (pth ++ [i]) (clr s i) (paid + pS E ls s i) st else st) else st)) ∧ RSr M' E ls true ∧ F5 M M' pth.length) := by
      intro st' M1 hst' a1 a2 a3 a5 a6
      rw [hst']
      exact Body_mono (ihm (i + 1) st' M1 (by omega) a1 a2 a3 a5) (fun v M' z => ⟨z.1, z.2.1, z.2.2.1, F5_trans a6 z.2.2.2⟩)
    refine body_run 400 rfl (fun B Cl Z hZ hB hC => ?_)
    (conv => whnf); refine ⟨fun b => ?_, fun b => ?_⟩
    · simp only [c_lt, c_gt, c_le, c_ge, c_eq, c_ne, b2_z, b2_nz, b2_i, Classical.not_not, t0, t1, Nat.reduceMod, Nat.reduceDiv, Int.reduceAdd, Int.reduceNeg, Nat.reduceAdd, kv_m1, kv_0, kv_1, kv_9, kv_12, kc_0, kc_1, kc_9, kc_12, h.1.1, e, en] at b
      omega
    (conv => whnf); refine ⟨fun g => ?_, fun g => ?_⟩
    · replace g : ((nI s >>> (nI i &&& 31)) &&& cI 1) = 0 := g
      rw [hz] at g
      have g : ¬ s.testBit i = true := by
        intro q
        rw [if_pos q] at g
        exact absurd g (by decide)
      have hp1 : pcn s (i + 1) = pcn s i := by rw [pcn, if_neg g]; rfl
      (conv => whnf)
      exact hB _ _ _ _ (Body_lv (hstep st M (if_neg g) h he hP hst ⟨Fr_refl, fun _ _ => rfl, fun _ _ => rfl⟩) ⟨rfl, rfl, rfl, rfl, rfl, rfl, v_eq (by rw [hp1]), v_eq (nI_i1 i), trivial⟩)
    · replace g : ¬ ((nI s >>> (nI i &&& 31)) &&& cI 1) = 0 := g
      rw [hz] at g
      have g : s.testBit i = true := by
        cases q : s.testBit i with
        | true => rfl
        | false => rw [q] at g; exact absurd rfl g
      have hp1 : pcn s (i + 1) = pcn s i + 1 := by rw [pcn, if_pos g]
      have hpl := pcn_lt g ls.length (by omega)
      have hpb : pcn s 12 = pcn s ls.length := by
        have := pcn_big hs (12 - ls.length)
        rw [show ls.length + (12 - ls.length) = 12 by omega] at this
        exact this
      have hple := pcn_le s ls.length
      have hil : i < ls.length := by omega
      have hq := List.getElem?_eq_getElem hil
      generalize ls[i] = q at hq
      have hpS : pS E ls s i = amS E true ls.length q (pcn s i) (pcn s 12 - 1 - pcn s i) := by unfold pS; rw [hq]
      have x1 : nI (pcn s 12) - cI 1 - nI (pcn s i) = nI (pcn s 12 - 1 - pcn s i) := by
        rw [show nI (pcn s 12) - cI 1 = nI (pcn s 12 - 1) from nI_sub (b := 1) (by omega), nI_sub (by omega)]
      (conv => whnf)
      refine ⟨nI_vp (by omega) (by omega), ?_⟩
      (conv => whnf)
      rw [nI_c (n := pth.length) (by omega), x1]
      have hF1 : Fr [46] M (mI M 46 pth.length (nI i)) := Fr_mI Fr_refl (by decide)
      have hl1 : (pth ++ [i]).length = pth.length + 1 := by simp
      have hP1 : RPt (mI M 46 pth.length (nI i)) (pth ++ [i]) := by
        intro j p hj
        rw [mI_at]
        rcases Nat.lt_or_ge j pth.length with z | z
        · rw [List.getElem?_append_left z] at hj
          rw [if_neg (by omega)]
          exact hP j p hj
        · have := (List.getElem?_eq_some_iff.mp hj).1
          simp at this
          obtain rfl : j = pth.length := by omega
          rw [List.getElem?_append_right (Nat.le_refl _), Nat.sub_self] at hj
          cases hj
          rw [if_pos ⟨rfl, rfl⟩]
      have hF51 : F5 M (mI M 46 pth.length (nI i)) pth.length := ⟨Fr_sub hF1 (by decide), fun j _ => by rw [mI_ne _ _ _ (by decide)], fun j hj => mI_2 _ _ (by omega)⟩
      refine hC _ _ _ _ _ (sp_samount (d := d + 4) (RSr_fr h hF1 (by decide)) (RE_fr he hF1 (by decide)) hq (by omega) (by omega) (fun _ => by omega)) (fun v M2 p => ?_)
      obtain ⟨rfl, p2, p3⟩ := p
      rw [← hpS]
      have he2 : RE M2 E := RE_fr (RE_fr he hF1 (by decide)) p3 (by decide)
      have hP2 : RPt M2 (pth ++ [i]) := fun j p hj => by rw [Fr_1 p3 46 (by decide)]; exact hP1 j p hj
      have hF52 : F5 M M2 pth.length := F5_trans hF51 ⟨Fr_sub p3 (by decide), fun j _ => by rw [Fr_1 p3 5 (by decide)], fun j _ => by rw [Fr_1 p3 46 (by decide)]⟩
      have hst2 : RDS M2 st := by
        refine ⟨?_, fun j p hj => ?_⟩
        · rw [Fr_1 p3 5 (by decide), mI_ne _ _ _ (by decide)]; exact hst.1
        · rw [Fr_1 p3 47 (by decide), mI_ne _ _ _ (by decide)]; exact hst.2 j p hj
      (conv => whnf); refine ⟨fun k => ?_, fun k => ?_⟩
      · replace k : (paid + pS E ls s i) + cI 9 * (nI t - cI 1 - nI pth.length) ≤ M2.1 5 0 := k
        rw [hst2.1] at k
        (conv => whnf)
        exact hB _ _ _ _ (Body_lv (hstep st M2 (by rw [if_pos g, if_neg (Int32.not_lt.mpr k)]) p2 he2 (RPt_F5 hP hF52) hst2 hF52) ⟨rfl, rfl, rfl, rfl, rfl, rfl, v_eq (by rw [hp1]; exact nI_i1 _), v_eq (nI_i1 i), trivial⟩)
      · replace k : ¬ (paid + pS E ls s i) + cI 9 * (nI t - cI 1 - nI pth.length) ≤ M2.1 5 0 := k
        rw [hst2.1] at k
        have k := Int32.not_le.mp k
        (conv => whnf)
        rw [nI_i1, clr_i hs12 (by omega)]
        have hs2 : clr s i < 2 ^ ls.length := Nat.lt_of_le_of_lt Nat.and_le_left hs
        have hrec := ih (d + 8) (clr s i) (pth ++ [i]) (paid + pS E ls s i) st M2 (by omega) (by rw [hl1]; omega) hs2 p2 he2 hP2 hst2
        rw [hl1] at hrec
        refine hC _ _ _ _ _ hrec (fun v M3 u => ?_)
        obtain ⟨rfl, u2, u3, u4⟩ := u
        have hF53 : F5 M M3 pth.length := F5_trans hF52 (F5_le u4 (by omega))
        (conv => whnf)
        exact hB _ _ _ _ (Body_lv (hstep _ M3 (by rw [if_pos g, if_pos k]) u3 (RE_fr he2 u4.1 (by decide)) (RPt_F5 hP hF53) u2 hF53) ⟨rfl, rfl, rfl, rfl, rfl, rfl, v_eq (by rw [hp1]; exact nI_i1 _), v_eq (nI_i1 i), trivial⟩)
theorem sn_step {f : Nat} (ht : t ≤ 4) (ih : SNs E ls t f) : SNs E ls t (f + 1) := by
  intro D s pth paid st M hD hf hs h he hP hst
  obtain ⟨d, rfl⟩ : ∃ d, D = d + 9 := ⟨D - 9, by omega⟩
  have h12 := h.1.2.1
  have hs12 : s < 4096 := Nat.lt_of_lt_of_le hs (Nat.pow_le_pow_right (n := 2) (by omega) h12)
  have e := nI_v (n := pth.length) (by omega)
  have e2 := nI_v (n := t) (by omega)
  refine call_run 400 rfl rfl (fun B Cl Z hZ hB hC => ?_)
  (conv => whnf); refine ⟨fun b => ?_, fun b => ?_⟩
  · simp only [c_lt, c_gt, c_le, c_ge, c_eq, c_ne, b2_z, b2_nz, b2_i, Classical.not_not, t0, t1, Nat.reduceMod, Nat.reduceDiv, Int.reduceAdd, Int.reduceNeg, Nat.reduceAdd, kv_m1, kv_0, kv_1, kv_9, kv_12, kc_0, kc_1, kc_9, kc_12, e, e2] at b
    omega
  (conv => whnf); refine ⟨fun b => ?_, fun b => ?_⟩
  rotate_left
  · simp only [c_lt, c_gt, c_le, c_ge, c_eq, c_ne, b2_z, b2_nz, b2_i, Classical.not_not, t0, t1, Nat.reduceMod, Nat.reduceDiv, Int.reduceAdd, Int.reduceNeg, Nat.reduceAdd, kv_m1, kv_0, kv_1, kv_9, kv_12, kc_0, kc_1, kc_9, kc_12, e] at b
    omega
  (conv => whnf); refine ret_k hC (sp_bitCount hs12) ?_
  (conv => whnf)
  exact hB _ _ _ _ (Body_lv (sn_loop ht ih (D := d + 9) (by omega) hf hs ls.length 0 st M (by omega) h he hP hst) ⟨rfl, rfl, rfl, rfl, rfl, rfl, rfl, rfl, trivial⟩)
theorem sn_all (ht : t ≤ 4) : ∀ f, SNs E ls t f
  | 0 => sn_0 ht
  | f + 1 => sn_step ht (sn_all ht f)
end SN
def sres (E : EnvK) (ls : List Lyr) (t : Nat) : DS := sC E ls t t [] (2 ^ ls.length - 1) (cI 0) (cI (-1), [])
theorem sp_sellBest {d t : Nat} {M : Mem} {E : EnvK} {ls : List Lyr} (ht : t ≤ 4) (h : RSr M E ls true) (he : RE M E) : Call (d + 13) 49 [.ref 5, .int (nI t)] M (fun v M' => v = none ∧ RDS M' (sres E ls t) ∧ RSr M' E ls true ∧ Fr AL M M') := by
  have h12 := h.1.2.1
  have hF0 : Fr [5] M (mI M 5 0 (cI (-1))) := Fr_mI Fr_refl (by decide)
  have hrec := sn_all (E := E) (ls := ls) ht t (d + 12) (2 ^ ls.length - 1) [] (cI 0) (cI (-1), []) (mI M 5 0 (cI (-1))) (by omega) (by simp) (by have := Nat.two_pow_pos ls.length; omega) (RSr_0 h) (RE_fr he hF0 (by decide)) (fun i p hi => by simp at hi) ⟨mI_1 _ _ _ _, fun j p hj => by simp at hj⟩
  have x1 : (cI 1 <<< ((mI M 5 0 (cI (-1))).1 5 5 &&& 31)) - cI 1 = nI (2 ^ ls.length - 1) := by
    rw [mI_2 _ _ (by decide), h.1.1]; exact full_i _ h12
  rw [← x1] at hrec
  refine call_run 400 rfl rfl (fun B Cl Z hZ hB hC => ?_)
  (conv => whnf)
  refine hC _ _ _ _ _ hrec (fun v M1 q => ?_)
  obtain ⟨rfl, q2, q3, q4⟩ := q
  conv => whnf
  exact hZ _ _ ⟨rfl, q2, q3, Fr_trans (Fr_sub hF0 (by decide)) q4.1⟩
