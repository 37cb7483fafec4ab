/-! how a rick leans in thought: the layers that layK, and those laid on them -/
def kq (E : EnvK) (h i : Nat) (q : Lyr) : Int32 := kpt E.1 E.2.1 h i q
theorem amS_f {E : EnvK} {n b ab : Nat} {q : Lyr} (h : okL q) : amS E false n q b ab = kq E (b + ab + 1) b q := by
  have h4 := h.2.2.2
  have e : agS false n q b ab = q.2.2.2 := by
    unfold agS
    simp only [Bool.false_eq_true, if_false, Nat.add_zero]
    split <;> omega
  unfold amS kq kpt
  rw [e, show b + ab + 1 - 1 - b = ab by omega]
theorem lob_loop {d base ab : Nat} {E : EnvK} {ls : List Lyr} (hb : base ≤ ls.length) (hab : base + ab ≤ 12) : ∀ (n i : Nat) (x y : Int32) (M : Mem), i + n = base → RLn M 9 x y → RSr M E ls false → RE M E →
    BodyK (d + 5) 42 11 [(0, .ref 5), (1, .int (nI base)), (2, .int (nI ab)), (3, .int (nI i))] [] M (fun v M' => v = none ∧ RLn M' 9 (lnX rgt (kq E (base + ab)) ((ls.take base).drop i) i x) (lnX dwn (kq E (base + ab)) ((ls.take base).drop i) i y) ∧ RSr M' E ls false ∧ Fr [9, 37, 38, 45] M M') := by
  have eb := nI_v (n := base) (by omega)
  intro n
  induction n with
  | zero =>
    intro i x y M hi hs h he
    have e := nI_v (n := i) (by omega)
    have hd : (ls.take base).drop i = [] := List.drop_eq_nil_of_le (by simp; omega)
    rw [hd]
    refine body_run 400 rfl (fun B Cl Z hZ hB hC => ?_)
    (conv => whnf); refine ⟨fun b => ?_, fun b => ?_⟩
    · conv => whnf
      exact hZ _ _ ⟨rfl, hs, h, Fr_refl⟩
    · simp only [c_lt, c_gt, c_le, c_ge, c_eq, c_ne, b2_z, b2_nz, b2_i, Classical.not_not, t0, t1, Nat.reduceMod, Nat.reduceDiv, Int.reduceAdd, Int.reduceNeg, Nat.reduceAdd, kv_0, kv_1, kc_0, kc_1, e, eb] at b
      omega
  | succ n ih =>
    intro i x y M hi hs h he
    have e := nI_v (n := i) (by omega)
    have hil : i < ls.length := by omega
    have hq := List.getElem?_eq_getElem hil
    generalize ls[i] = q at hq
    have hok := (h.1.2.2 i q hq).1
    have hd : (ls.take base).drop i = q :: (ls.take base).drop (i + 1) := by
      have z1 : i < (ls.take base).length := by simp; omega
      rw [List.drop_eq_getElem_cons z1]
      congr 1
      rw [List.getElem_take]
      exact (List.getElem?_eq_some_iff.mp hq).2
    rw [hd]
    have x1 : nI base - cI 1 - nI i + nI ab = nI (base - 1 - i + ab) := by
      rw [show nI base - cI 1 = nI (base - 1) from nI_sub (b := 1) (by omega), nI_sub (by omega), nI_add]
    refine body_run 400 rfl (fun B Cl Z hZ hB hC => ?_)
    (conv => whnf); refine ⟨fun b => ?_, fun b => ?_⟩
    · simp only [c_lt, c_gt, c_le, c_ge, c_eq, c_ne, b2_z, b2_nz, b2_i, Classical.not_not, t0, t1, Nat.reduceMod, Nat.reduceDiv, Int.reduceAdd, Int.reduceNeg, Nat.reduceAdd, kv_0, kv_1, kc_0, kc_1, e, eb] at b
      omega
    · (conv => whnf); refine ret_k hC (sp_snumber h.1 hq (show 0 < 4 by omega)) ?_
      (conv => whnf)
      rw [x1]
      refine hC _ _ _ _ _ (sp_samount h he hq (by omega) (by omega) (fun z => by cases z)) (fun v M1 p => ?_)
      obtain ⟨rfl, p2, p3⟩ := p
      rw [amS_f hok, show i + (base - 1 - i + ab) + 1 = base + ab by omega]
      (conv => whnf)
      refine hC _ _ _ _ _ (sp_add (d := d + 2) (by simp [isLn]) (RLn_fr hs p3 (by decide)) hok.1) (fun v M2 u => ?_)
      obtain ⟨rfl, u2, u3⟩ := u
      (conv => whnf)
      have hF : Fr [9, 37, 38, 45] M M2 := Fr_trans (Fr_sub p3 (by decide)) (Fr_sub u3 (by decide))
      refine hB _ _ _ _ (Body_lv (Body_mono (ih (i + 1) _ _ M2 (by omega) u2 (RSr_fr p2 u3 (by decide)) (RE_fr he hF (by decide))) (fun v M' z => ⟨z.1, z.2.1, z.2.2.1, Fr_trans hF z.2.2.2⟩)) ⟨rfl, rfl, rfl, v_eq (nI_i1 i), trivial⟩)
def bX (E : EnvK) (w : Nat → Int32) (ls : List Lyr) (base ab : Nat) : Int32 := lnX w (kq E (base + ab)) (ls.take base) 0 0
theorem sp_leanOfBase {d base ab : Nat} {M : Mem} {E : EnvK} {ls : List Lyr} (hb : base ≤ ls.length) (hab : base + ab ≤ 12) (h : RSr M E ls false) (he : RE M E) :
    Call (d + 5) 42 [.ref 5, .int (nI base), .int (nI ab)] M (fun v M' => v = none ∧ RLn M' 9 (bX E rgt ls base ab) (bX E dwn ls base ab) ∧ RSr M' E ls false ∧ Fr [9, 37, 38, 45] M M') := by
  refine call_run 400 rfl rfl (fun B Cl Z hZ hB hC => ?_)
  (conv => whnf)
  refine hC _ _ _ _ _ (sp_begin (d := d + 3) (by simp [isLn])) (fun v M1 q => ?_)
  obtain ⟨rfl, q2, q3⟩ := q
  (conv => whnf)
  exact hB _ _ _ _ (Body_lv (Body_mono (lob_loop (d := d) hb hab base 0 _ _ M1 (by omega) q2 (RSr_fr h q3 (by decide)) (RE_fr he q3 (by decide))) (fun v M' z => ⟨z.1, z.2.1, z.2.2.1, Fr_trans (Fr_sub q3 (by decide)) z.2.2.2⟩)) ⟨rfl, rfl, rfl, rfl, trivial⟩)
