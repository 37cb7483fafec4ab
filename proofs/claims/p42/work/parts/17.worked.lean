/-! locals by their places; the class's law worked out -/
def Lsub (lv : Lv) : Lv → Prop
  | [] => True
  | q :: l => lkp lv q.1 = some q.2 ∧ Lsub lv l
theorem Lsub_has {ad : Nat → Nat} {ls : Array Slot} {n : Nat} {lv : Lv} (h : lv_has ls n (lv.map (cvp ad))) : ∀ {lv' : Lv}, Lsub lv lv' → ∀ q ∈ lv'.map (cvp ad), ls[q.1]? = some (.val q.2)
  | [], _, q, hq => by cases hq
  | x :: l, hs, q, hq => by
    rcases List.mem_cons.mp hq with e | e
    · rw [e]; exact lkp_at h hs.1
    · exact Lsub_has h hs.2 q e
theorem Body_lv {d k pc : Nat} {lv lv' : Lv} {st : List Value} {M : Mem} {Q : Po} (h : BodyK d k pc lv' st M Q) (hs : Lsub lv lv') : BodyK d k pc lv st M Q := by
  intro p l e s m args below meth c ad ty D B0 H locs ls a1 a2 a3 a4 a5 a6
  exact h p l e s m args below meth c ad ty D B0 H locs ls a1 a2 a3 a4 a5 ⟨a6.1, a6.2.1, Lsub_has a6 hs⟩
theorem v_eq {x y : Int32} (h : x = y) : (some (Value.int x) : Option Value) = some (Value.int y) := by rw [h]
theorem nI_i1 (i : Nat) : nI i + cI 1 = nI (i + 1) := nI_1 i
theorem nI_d1 {i : Nat} (h : 1 ≤ i) : nI i + cI (-1) = nI (i - 1) := by
  obtain ⟨j, rfl⟩ : ∃ j, i = j + 1 := ⟨i - 1, by omega⟩
  show nI (j + 1) + -(nI 1) = nI j
  rw [← Int32.sub_eq_add_neg, nI_sub (by omega)]
  rfl
def stk (M : Mem) (st : List Int32) : Prop := ∀ j x, st[j]? = some x → M.1 37 (st.length - 1 - j) = x
theorem stk_hd {M : Mem} {a : Int32} {st : List Int32} (h : stk M (a :: st)) : M.1 37 st.length = a := by
  have := h 0 a rfl
  simpa using this
theorem stk_tl {M : Mem} {a : Int32} {st : List Int32} (h : stk M (a :: st)) : stk M st := by
  intro j x hx
  have := h (j + 1) x (by simpa using hx)
  have hl := (List.getElem?_eq_some_iff.mp hx).1
  rw [← this]
  exact congrArg (M.1 37) (by simp; omega)
theorem stk_push {M : Mem} {v : Int32} {st : List Int32} (h : stk M st) : stk (mI M 37 st.length v) (v :: st) := by
  intro j x hx
  cases j with
  | zero =>
    simp at hx
    subst hx
    exact mI_1 _ _ _ _
  | succ j =>
    have hx : st[j]? = some x := by simpa using hx
    have hl := (List.getElem?_eq_some_iff.mp hx).1
    rw [mI_2 _ _ (by simp; omega), ← h j x hx]
    exact congrArg (M.1 37) (by simp; omega)
/-- the code's cells, from i on -/
def RCo (M : Mem) (i : Nat) (l : List Nat) : Prop := ∀ j c, l[j]? = some c → M.1 36 (i + j) = nI c
theorem RCo_tl {M : Mem} {i c : Nat} {l : List Nat} (h : RCo M i (c :: l)) : RCo M (i + 1) l := by
  intro j x hx
  rw [← h (j + 1) x (by simpa using hx)]
  exact congrArg (M.1 36) (by omega)
set_option maxHeartbeats 4000000 in
theorem wk_loop {d L : Nat} {fc : Nat → Int32} (hL : L ≤ 121) : ∀ (l : List Nat) (i : Nat) (st : List Int32) (ps : Bool) (M : Mem), i + l.length = L → RCo M i l → M.1 1 4 = nI L → (∀ j, j < 6 → M.1 38 j = fc j) → (∀ c ∈ l, c < 10140) → stk M st → st.length ≤ 64 → sfc l st.length ps = true →
    BodyK (d + 2) 11 6 [(0, .ref 1), (1, .int (nI st.length)), (2, .int (bI ps)), (3, .int (nI i))] [] M (fun r M' => r = some (.int (wk fc l st ps)) ∧ Fr [37] M M') := by
  intro l
  induction l with
  | nil =>
    intro i st ps M hi hc hs hf hb hk hk2 hsf
    have e := nI_v (n := i) (by omega)
    have e2 := nI_v (n := L) (by omega)
    refine body_run 400 rfl (fun B Cl Z hZ hB hC => ?_)
    (conv => whnf); refine ⟨fun a => ?_, fun a => ?_⟩
    · conv => whnf
      exact hZ _ _ ⟨rfl, Fr_refl⟩
    · simp only [c_lt, c_gt, c_le, c_ge, c_eq, c_ne, b2_z, b2_nz, b2_i, Classical.not_not, t0, t1, Nat.reduceMod, Nat.reduceDiv, Int.reduceAdd, Int.reduceNeg, Nat.reduceAdd, kv_m1, kv_0, kv_1, kv_2, kv_10000, kv_10010, kv_10043, kv_10069, kv_10073, kv_10136, kc_0, kc_1, kc_2, kc_10000, kc_10010, kc_10043, kc_10069, kc_10073, kc_10136, e, e2, hs] at a
      simp at hi
      omega
  | cons c l ih =>
    intro i st ps M hi hc hs hf hb hk hk2 hsf
    have e := nI_v (n := i) (by simp at hi; omega)
    have e2 := nI_v (n := L) (by omega)
    have hcb := hb c List.mem_cons_self
    have ec := nI_v (n := c) (by omega)
    have hi' : i + 1 + l.length = L := by simp at hi; omega
    have hop : M.1 36 (nI i).toNatClampNeg = nI c := by rw [nI_c (by omega)]; exact hc 0 c rfl
    have hb' : ∀ c ∈ l, c < 10140 := fun x hx => hb x (List.mem_cons_of_mem _ hx)
    have hc' := RCo_tl hc
    refine body_run 400 rfl (fun B Cl Z hZ hB hC => ?_)
    (conv => whnf); refine ⟨fun a => ?_, fun a => ?_⟩
    · simp only [c_lt, c_gt, c_le, c_ge, c_eq, c_ne, b2_z, b2_nz, b2_i, Classical.not_not, t0, t1, Nat.reduceMod, Nat.reduceDiv, Int.reduceAdd, Int.reduceNeg, Nat.reduceAdd, kv_m1, kv_0, kv_1, kv_2, kv_10000, kv_10010, kv_10043, kv_10069, kv_10073, kv_10136, kc_0, kc_1, kc_2, kc_10000, kc_10010, kc_10043, kc_10069, kc_10073, kc_10136, e, e2, hs] at a
      omega
    · (conv => whnf)
      refine ⟨nI_vp (by omega) (by omega), ?_⟩
      cases ps with
      | true =>
        (conv => whnf); refine ⟨fun b => ?_, fun b => ?_⟩
        · replace b : (1 : Int32) = 0 := b
          exact absurd b (by decide)
        · (conv => whnf); refine ⟨fun g => ?_, fun g => ?_⟩
          · rw [hop] at g
            simp only [c_lt, c_gt, c_le, c_ge, c_eq, c_ne, b2_z, b2_nz, b2_i, Classical.not_not, t0, t1, Nat.reduceMod, Nat.reduceDiv, Int.reduceAdd, Int.reduceNeg, Nat.reduceAdd, kv_m1, kv_0, kv_1, kv_2, kv_10000, kv_10010, kv_10043, kv_10069, kv_10073, kv_10136, kc_0, kc_1, kc_2, kc_10000, kc_10010, kc_10043, kc_10069, kc_10073, kc_10136, ec] at g
            have g : c = 10069 := by omega
            (conv => whnf)
            have := ih (i + 1) st false M hi' hc' hs hf hb' hk hk2 (by simp [sfc, g] at hsf; exact hsf)
            refine hB _ _ _ _ (Body_lv (Body_mono this (fun r M' q => ⟨by rw [q.1]; simp [wk, g], q.2⟩)) ⟨rfl, rfl, rfl, v_eq (nI_i1 i), trivial⟩)
          · rw [hop] at g
            simp only [c_lt, c_gt, c_le, c_ge, c_eq, c_ne, b2_z, b2_nz, b2_i, Classical.not_not, t0, t1, Nat.reduceMod, Nat.reduceDiv, Int.reduceAdd, Int.reduceNeg, Nat.reduceAdd, kv_m1, kv_0, kv_1, kv_2, kv_10000, kv_10010, kv_10043, kv_10069, kv_10073, kv_10136, kc_0, kc_1, kc_2, kc_10000, kc_10010, kc_10043, kc_10069, kc_10073, kc_10136, ec] at g
            have hg : ¬ c = 10069 := by omega
            (conv => whnf)
            have := ih (i + 1) st true M hi' hc' hs hf hb' hk hk2 (by simp [sfc, hg] at hsf; exact hsf)
            refine hB _ _ _ _ (Body_lv (Body_mono this (fun r M' q => ⟨by rw [q.1]; simp [wk, hg], q.2⟩)) ⟨rfl, rfl, rfl, v_eq (nI_i1 i), trivial⟩)
      | false =>
        unfold sfc at hsf
        (conv => whnf); refine ⟨fun b => ?_, fun b => ?_⟩
        rotate_left
        · exact absurd rfl b
        clear b
        (conv => whnf); refine ⟨fun g => ?_, fun g => ?_⟩
        · rw [hop] at g
          simp only [c_lt, c_gt, c_le, c_ge, c_eq, c_ne, b2_z, b2_nz, b2_i, Classical.not_not, t0, t1, Nat.reduceMod, Nat.reduceDiv, Int.reduceAdd, Int.reduceNeg, Nat.reduceAdd, kv_m1, kv_0, kv_1, kv_2, kv_10000, kv_10010, kv_10043, kv_10069, kv_10073, kv_10136, kc_0, kc_1, kc_2, kc_10000, kc_10010, kc_10043, kc_10069, kc_10073, kc_10136, ec] at g
          rw [if_neg (by omega)] at hsf
          have g1 : ¬ c < 10000 := by omega
          have g1' : ¬ c < 10010 := by omega
          (conv => whnf); refine ⟨fun g2 => ?_, fun g2 => ?_⟩
          rotate_left
          · rw [hop] at g2
            simp only [c_lt, c_gt, c_le, c_ge, c_eq, c_ne, b2_z, b2_nz, b2_i, Classical.not_not, t0, t1, Nat.reduceMod, Nat.reduceDiv, Int.reduceAdd, Int.reduceNeg, Nat.reduceAdd, kv_m1, kv_0, kv_1, kv_2, kv_10000, kv_10010, kv_10043, kv_10069, kv_10073, kv_10136, kc_0, kc_1, kc_2, kc_10000, kc_10010, kc_10043, kc_10069, kc_10073, kc_10136, ec] at g2
            have g2 : c = 10069 := by omega
            rw [if_pos g2] at hsf
            have hsf := of_decide_eq_true hsf
            (conv => whnf); refine ret_k hC (sp_under hk2 (Nat.le_refl 1) hsf) ?_
            conv => whnf
            refine hZ _ _ ⟨v_eq ?_, Fr_refl⟩
            obtain ⟨a, st, rfl⟩ := List.exists_cons_of_length_pos hsf
            simp [wk, g2]
            exact stk_hd hk
          rw [hop] at g2
          simp only [c_lt, c_gt, c_le, c_ge, c_eq, c_ne, b2_z, b2_nz, b2_i, Classical.not_not, t0, t1, Nat.reduceMod, Nat.reduceDiv, Int.reduceAdd, Int.reduceNeg, Nat.reduceAdd, kv_m1, kv_0, kv_1, kv_2, kv_10000, kv_10010, kv_10043, kv_10069, kv_10073, kv_10136, kc_0, kc_1, kc_2, kc_10000, kc_10010, kc_10043, kc_10069, kc_10073, kc_10136, ec] at g2
          have g2 : ¬ c = 10069 := by omega
          rw [if_neg g2] at hsf
          (conv => whnf); refine ⟨fun g3 => ?_, fun g3 => ?_⟩
          rotate_left
          · rw [hop] at g3
            simp only [c_lt, c_gt, c_le, c_ge, c_eq, c_ne, b2_z, b2_nz, b2_i, Classical.not_not, t0, t1, Nat.reduceMod, Nat.reduceDiv, Int.reduceAdd, Int.reduceNeg, Nat.reduceAdd, kv_m1, kv_0, kv_1, kv_2, kv_10000, kv_10010, kv_10043, kv_10069, kv_10073, kv_10136, kc_0, kc_1, kc_2, kc_10000, kc_10010, kc_10043, kc_10069, kc_10073, kc_10136, ec] at g3
            have g3 : c = 10073 := by omega
            rw [if_pos g3] at hsf
            simp only [Bool.and_eq_true, decide_eq_true_eq] at hsf
            obtain ⟨s1, s2, s3⟩ := hsf
            (conv => whnf); refine ret_k hC (sp_under hk2 (Nat.le_refl 1) s1) ?_
            obtain ⟨a, st, rfl⟩ := List.exists_cons_of_length_pos s1
            have hd := stk_hd hk
            simp only [List.length_cons, Nat.add_sub_cancel] at s2 s3
            (conv => whnf); refine ⟨fun b => ?_, fun b => ?_⟩
            · replace b : ¬ M.1 37 st.length = 0 := b
              rw [hd] at b
              (conv => whnf)
              have := ih (i + 1) st false M hi' hc' hs hf hb' (stk_tl hk) (by simp at hk2; omega) s3
              refine hB _ _ _ _ (Body_lv (Body_mono this (fun r M' q => ⟨by rw [q.1]; simp [wk, g3, b], q.2⟩)) ⟨rfl, v_eq (nI_d1 (by simp)), rfl, v_eq (nI_i1 i), trivial⟩)
            · replace b : ¬ ¬ M.1 37 st.length = 0 := b
              rw [hd] at b
              have b := Classical.not_not.mp b
              (conv => whnf)
              have := ih (i + 1) st true M hi' hc' hs hf hb' (stk_tl hk) (by simp at hk2; omega) s2
              refine hB _ _ _ _ (Body_lv (Body_mono this (fun r M' q => ⟨by rw [q.1]; simp [wk, g3, b], q.2⟩)) ⟨rfl, v_eq (nI_d1 (by simp)), rfl, v_eq (nI_i1 i), trivial⟩)
          rw [hop] at g3
          simp only [c_lt, c_gt, c_le, c_ge, c_eq, c_ne, b2_z, b2_nz, b2_i, Classical.not_not, t0, t1, Nat.reduceMod, Nat.reduceDiv, Int.reduceAdd, Int.reduceNeg, Nat.reduceAdd, kv_m1, kv_0, kv_1, kv_2, kv_10000, kv_10010, kv_10043, kv_10069, kv_10073, kv_10136, kc_0, kc_1, kc_2, kc_10000, kc_10010, kc_10043, kc_10069, kc_10073, kc_10136, ec] at g3
          have g3 : ¬ c = 10073 := by omega
          rw [if_neg g3] at hsf
          (conv => whnf); refine ⟨fun g4 => ?_, fun g4 => ?_⟩
          rotate_left
          · rw [hop] at g4
            simp only [c_lt, c_gt, c_le, c_ge, c_eq, c_ne, b2_z, b2_nz, b2_i, Classical.not_not, t0, t1, Nat.reduceMod, Nat.reduceDiv, Int.reduceAdd, Int.reduceNeg, Nat.reduceAdd, kv_m1, kv_0, kv_1, kv_2, kv_10000, kv_10010, kv_10043, kv_10069, kv_10073, kv_10136, kc_0, kc_1, kc_2, kc_10000, kc_10010, kc_10043, kc_10069, kc_10073, kc_10136, ec] at g4
            have g4 : c = 10136 := by omega
            rw [if_pos (Or.inl g4)] at hsf
            simp only [Bool.and_eq_true, decide_eq_true_eq] at hsf
            obtain ⟨s1, s2⟩ := hsf
            (conv => whnf); refine ret_k hC (sp_under hk2 (Nat.le_refl 1) s1) ?_
            obtain ⟨a, st, rfl⟩ := List.exists_cons_of_length_pos s1
            have hd := stk_hd hk
            have e5 : nI (a :: st).length - cI 1 = nI st.length := nI_sub (a := st.length + 1) (b := 1) (by omega)
            have hk3 : st.length < 64 := by simp at hk2; omega
            (conv => whnf)
            rw [e5]
            refine ret_k hC (sp_push hk3) ?_
            (conv => whnf)
            simp only [List.length_cons, Nat.add_sub_cancel, hd]
            have := ih (i + 1) (-a :: st) false (mI M 37 st.length (-a)) hi' (fun j x hx => by rw [mI_ne M _ _ (by decide)]; exact hc' j x hx) (by rw [mI_ne M _ _ (by decide)]; exact hs) (fun j hj => by rw [mI_ne M _ _ (by decide)]; exact hf j hj) hb' (stk_push (stk_tl hk)) (by simp; omega) (by simpa using s2)
            refine hB _ _ _ _ (Body_lv (Body_mono this (fun r M' q => ⟨by rw [q.1]; simp [wk, g4], Fr_trans (Fr_mI Fr_refl (by decide)) q.2⟩)) ⟨rfl, rfl, rfl, v_eq (nI_i1 i), trivial⟩)
          rw [hop] at g4
          simp only [c_lt, c_gt, c_le, c_ge, c_eq, c_ne, b2_z, b2_nz, b2_i, Classical.not_not, t0, t1, Nat.reduceMod, Nat.reduceDiv, Int.reduceAdd, Int.reduceNeg, Nat.reduceAdd, kv_m1, kv_0, kv_1, kv_2, kv_10000, kv_10010, kv_10043, kv_10069, kv_10073, kv_10136, kc_0, kc_1, kc_2, kc_10000, kc_10010, kc_10043, kc_10069, kc_10073, kc_10136, ec] at g4
          have g4 : ¬ c = 10136 := by omega
          (conv => whnf); refine ⟨fun g5 => ?_, fun g5 => ?_⟩
          rotate_left
          · rw [hop] at g5
            simp only [c_lt, c_gt, c_le, c_ge, c_eq, c_ne, b2_z, b2_nz, b2_i, Classical.not_not, t0, t1, Nat.reduceMod, Nat.reduceDiv, Int.reduceAdd, Int.reduceNeg, Nat.reduceAdd, kv_m1, kv_0, kv_1, kv_2, kv_10000, kv_10010, kv_10043, kv_10069, kv_10073, kv_10136, kc_0, kc_1, kc_2, kc_10000, kc_10010, kc_10043, kc_10069, kc_10073, kc_10136, ec] at g5
            have g5 : c = 10043 := by omega
            rw [if_pos (Or.inr g5)] at hsf
            simp only [Bool.and_eq_true, decide_eq_true_eq] at hsf
            obtain ⟨s1, s2⟩ := hsf
            (conv => whnf); refine ret_k hC (sp_under hk2 (Nat.le_refl 1) s1) ?_
            obtain ⟨a, st, rfl⟩ := List.exists_cons_of_length_pos s1
            have hd := stk_hd hk
            have e5 : nI (a :: st).length - cI 1 = nI st.length := nI_sub (a := st.length + 1) (b := 1) (by omega)
            have hk3 : st.length < 64 := by simp at hk2; omega
            (conv => whnf); refine ⟨fun b => ?_, fun b => ?_⟩
            · replace b : ¬ M.1 37 st.length = 0 := b
              rw [hd] at b
              (conv => whnf)
              rw [e5]
              refine ret_k hC (sp_push hk3) ?_
              (conv => whnf)
              have := ih (i + 1) (0 :: st) false (mI M 37 st.length 0) hi' (fun j x hx => by rw [mI_ne M _ _ (by decide)]; exact hc' j x hx) (by rw [mI_ne M _ _ (by decide)]; exact hs) (fun j hj => by rw [mI_ne M _ _ (by decide)]; exact hf j hj) hb' (stk_push (stk_tl hk)) (by simp; omega) (by simpa using s2)
              refine hB _ _ _ _ (Body_lv (Body_mono this (fun r M' q => ⟨by rw [q.1]; simp [wk, g5, b2_f b], Fr_trans (Fr_mI Fr_refl (by decide)) q.2⟩)) ⟨rfl, rfl, rfl, v_eq (nI_i1 i), trivial⟩)
            · replace b : ¬ ¬ M.1 37 st.length = 0 := b
              rw [hd] at b
              have b := Classical.not_not.mp b
              (conv => whnf)
              rw [e5]
              refine ret_k hC (sp_push hk3) ?_
              (conv => whnf)
              have := ih (i + 1) (1 :: st) false (mI M 37 st.length 1) hi' (fun j x hx => by rw [mI_ne M _ _ (by decide)]; exact hc' j x hx) (by rw [mI_ne M _ _ (by decide)]; exact hs) (fun j hj => by rw [mI_ne M _ _ (by decide)]; exact hf j hj) hb' (stk_push (stk_tl hk)) (by simp; omega) (by simpa using s2)
              refine hB _ _ _ _ (Body_lv (Body_mono this (fun r M' q => ⟨by rw [q.1]; simp [wk, g5, b2_t b], Fr_trans (Fr_mI Fr_refl (by decide)) q.2⟩)) ⟨rfl, rfl, rfl, v_eq (nI_i1 i), trivial⟩)
          rw [hop] at g5
          simp only [c_lt, c_gt, c_le, c_ge, c_eq, c_ne, b2_z, b2_nz, b2_i, Classical.not_not, t0, t1, Nat.reduceMod, Nat.reduceDiv, Int.reduceAdd, Int.reduceNeg, Nat.reduceAdd, kv_m1, kv_0, kv_1, kv_2, kv_10000, kv_10010, kv_10043, kv_10069, kv_10073, kv_10136, kc_0, kc_1, kc_2, kc_10000, kc_10010, kc_10043, kc_10069, kc_10073, kc_10136, ec] at g5
          have g5 : ¬ c = 10043 := by omega
          rw [if_neg (by omega)] at hsf
          simp only [Bool.and_eq_true, decide_eq_true_eq] at hsf
          obtain ⟨s1, s4, s2⟩ := hsf
          rw [hop]
          (conv => whnf); refine ret_k hC (sp_under hk2 (show 1 ≤ 2 by omega) s1) ?_
          have s5 : 1 ≤ st.length := by omega
          (conv => whnf); refine ret_k hC (sp_under hk2 (Nat.le_refl 1) s5) ?_
          have e3 : nI c - cI 10010 = nI (c - 10010) := nI_sub (a := c) (b := 10010) (by omega)
          (conv => whnf)
          rw [e3]
          refine ret_k hC (sp_joined (by omega)) ?_
          obtain ⟨a, st, rfl⟩ := List.exists_cons_of_length_pos s5
          have s6 : 0 < st.length := by simp at s1; omega
          obtain ⟨b, st, rfl⟩ := List.exists_cons_of_length_pos s6
          have hd := stk_hd hk
          have hd2 := stk_hd (stk_tl hk)
          have e5 : nI (a :: b :: st).length - cI 2 = nI st.length := nI_sub (a := st.length + 2) (b := 2) (by omega)
          have hk3 : st.length < 64 := by simp at hk2; omega
          have z1 : (a :: b :: st).length - 2 = st.length := rfl
          have z2 : (a :: b :: st).length - 1 = (b :: st).length := rfl
          rw [z1, z2, hd, hd2]
          (conv => whnf)
          rw [e5]
          refine ret_k hC (sp_push hk3) ?_
          (conv => whnf)
          have := ih (i + 1) (two (c - 10010) b a :: st) false (mI M 37 st.length (two (c - 10010) b a)) hi' (fun j x hx => by rw [mI_ne M _ _ (by decide)]; exact hc' j x hx) (by rw [mI_ne M _ _ (by decide)]; exact hs) (fun j hj => by rw [mI_ne M _ _ (by decide)]; exact hf j hj) hb' (stk_push (stk_tl (stk_tl hk))) (by simp; omega) (by simpa using s2)
          refine hB _ _ _ _ (Body_lv (Body_mono this (fun r M' q => ⟨by rw [q.1]; simp [wk, g1, g1', g2, g3, g4, g5], Fr_trans (Fr_mI Fr_refl (by decide)) q.2⟩)) ⟨rfl, rfl, rfl, v_eq (nI_i1 i), trivial⟩)
        · rw [hop] at g
          simp only [c_lt, c_gt, c_le, c_ge, c_eq, c_ne, b2_z, b2_nz, b2_i, Classical.not_not, t0, t1, Nat.reduceMod, Nat.reduceDiv, Int.reduceAdd, Int.reduceNeg, Nat.reduceAdd, kv_m1, kv_0, kv_1, kv_2, kv_10000, kv_10010, kv_10043, kv_10069, kv_10073, kv_10136, kc_0, kc_1, kc_2, kc_10000, kc_10010, kc_10043, kc_10069, kc_10073, kc_10136, ec] at g
          rw [if_pos (by omega)] at hsf
          simp only [Bool.and_eq_true, decide_eq_true_eq] at hsf
          obtain ⟨s1, s3, s2⟩ := hsf
          (conv => whnf); refine ⟨fun g2 => ?_, fun g2 => ?_⟩
          · rw [hop] at g2
            simp only [c_lt, c_gt, c_le, c_ge, c_eq, c_ne, b2_z, b2_nz, b2_i, Classical.not_not, t0, t1, Nat.reduceMod, Nat.reduceDiv, Int.reduceAdd, Int.reduceNeg, Nat.reduceAdd, kv_m1, kv_0, kv_1, kv_2, kv_10000, kv_10010, kv_10043, kv_10069, kv_10073, kv_10136, kc_0, kc_1, kc_2, kc_10000, kc_10010, kc_10043, kc_10069, kc_10073, kc_10136, ec] at g2
            rw [hop]
            have e3 : nI c - cI 10000 = nI (c - 10000) := nI_sub (a := c) (b := 10000) (by omega)
            (conv => whnf)
            rw [e3]
            refine ret_k hC (sp_named (by omega)) ?_
            rw [hf _ (by omega)]
            (conv => whnf); refine ret_k hC (sp_push s1) ?_
            (conv => whnf)
            have := ih (i + 1) (fc (c - 10000) :: st) false (mI M 37 st.length (fc (c - 10000))) hi' (fun j x hx => by rw [mI_ne M _ _ (by decide)]; exact hc' j x hx) (by rw [mI_ne M _ _ (by decide)]; exact hs) (fun j hj => by rw [mI_ne M _ _ (by decide)]; exact hf j hj) hb' (stk_push hk) (by simp; omega) (by simpa using s2)
            refine hB _ _ _ _ (Body_lv (Body_mono this (fun r M' q => ⟨by rw [q.1]; simp [wk, show ¬ c < 10000 by omega, show c < 10010 by omega], Fr_trans (Fr_mI Fr_refl (by decide)) q.2⟩)) ⟨rfl, rfl, rfl, v_eq (nI_i1 i), trivial⟩)
          · rw [hop] at g2
            simp only [c_lt, c_gt, c_le, c_ge, c_eq, c_ne, b2_z, b2_nz, b2_i, Classical.not_not, t0, t1, Nat.reduceMod, Nat.reduceDiv, Int.reduceAdd, Int.reduceNeg, Nat.reduceAdd, kv_m1, kv_0, kv_1, kv_2, kv_10000, kv_10010, kv_10043, kv_10069, kv_10073, kv_10136, kc_0, kc_1, kc_2, kc_10000, kc_10010, kc_10043, kc_10069, kc_10073, kc_10136, ec] at g2
            rw [hop]
            (conv => whnf); refine ret_k hC (sp_push s1) ?_
            (conv => whnf)
            have := ih (i + 1) (nI c :: st) false (mI M 37 st.length (nI c)) hi' (fun j x hx => by rw [mI_ne M _ _ (by decide)]; exact hc' j x hx) (by rw [mI_ne M _ _ (by decide)]; exact hs) (fun j hj => by rw [mI_ne M _ _ (by decide)]; exact hf j hj) hb' (stk_push hk) (by simp; omega) (by simpa using s2)
            refine hB _ _ _ _ (Body_lv (Body_mono this (fun r M' q => ⟨by rw [q.1]; simp [wk, show c < 10000 by omega], Fr_trans (Fr_mI Fr_refl (by decide)) q.2⟩)) ⟨rfl, rfl, rfl, v_eq (nI_i1 i), trivial⟩)
