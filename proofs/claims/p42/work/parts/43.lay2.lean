/-! orders of laying, looked through -/
def hL (ls : List Lyr) (base p : Nat) : Lyr := ls.getD (base + p) (0, 0, 0, 0)
def gX (E : EnvK) (w : Nat → Int32) (ls : List Lyr) (base : Nat) (pth : List Nat) : Int32 := lnX w (kq E (base + pth.length)) (pth.map (hL ls base)) base (bX E w ls base pth.length)
def gP (E : EnvK) (ls : List Lyr) (base : Nat) (pth : List Nat) : Int32 := maxI (absI (gX E rgt ls base pth)) (absI (gX E dwn ls base pth))
def RB (M : Mem) (E : EnvK) (ls : List Lyr) (base n : Nat) : Prop := ∀ k, k ≤ n → M.1 48 k = bX E rgt ls base k ∧ M.1 49 k = bX E dwn ls base k
def RPt (M : Mem) (pth : List Nat) : Prop := ∀ i p, pth[i]? = some p → M.1 46 i = nI p
theorem RB_fr {A : List Nat} {M M' : Mem} {E : EnvK} {ls : List Lyr} {base n : Nat} (h : RB M E ls base n) (hf : Fr A M M') (ha : (A.contains 48 || A.contains 49) = false) : RB M' E ls base n := by
  rw [Bool.or_eq_false_iff] at ha
  intro k hk
  rw [Fr_1 hf 48 ha.1, Fr_1 hf 49 ha.2]
  exact h k hk
theorem behind_loop {d base n : Nat} {E : EnvK} {ls : List Lyr} {pth : List Nat} (hb : base + n = ls.length) (hp : ∀ p ∈ pth, p < n) (hk : pth.length ≤ n) : ∀ (m i : Nat) (x y : Int32) (M : Mem), i + m = pth.length → RLn M 9 x y → RSr M E ls false → RE M E → RPt M pth →
    BodyK (d + 5) 44 41 [(0, .ref 5), (1, .int (nI pth.length)), (3, .int (nI base)), (4, .int (nI i))] [] M (fun v M' => v = some (.int (maxI (absI (lnX rgt (kq E (base + pth.length)) ((pth.map (hL ls base)).drop i) (base + i) x)) (absI (lnX dwn (kq E (base + pth.length)) ((pth.map (hL ls base)).drop i) (base + i) y)))) ∧ RSr M' E ls false ∧ Fr [9, 37, 38, 45] M M') := by
  intro m
  induction m with
  | zero =>
    intro i x y M hi hs h he hP
    have h12 := h.1.2.1
    have e := nI_v (n := i) (by omega)
    have ek := nI_v (n := pth.length) (by omega)
    have hd : (pth.map (hL ls base)).drop i = [] := List.drop_eq_nil_of_le (by simp; omega)
    rw [hd]
    refine body_run 400 rfl (fun B Cl Z hZ hB hC => ?_)
    (conv => whnf); refine ⟨fun b => ?_, fun b => ?_⟩
    · (conv => whnf); refine ret_k hC (sp_greater (by simp [isLn]) hs) ?_
      conv => whnf
      exact hZ _ _ ⟨rfl, h, Fr_refl⟩
    · simp only [c_lt, c_gt, c_le, c_ge, c_eq, c_ne, b2_z, b2_nz, b2_i, Classical.not_not, t0, t1, Nat.reduceMod, Nat.reduceDiv, Int.reduceAdd, Int.reduceNeg, Nat.reduceAdd, kv_0, kv_1, kv_7, kc_0, kc_1, kc_7, e, ek] at b
      omega
  | succ m ih =>
    intro i x y M hi hs h he hP
    have h12 := h.1.2.1
    have e := nI_v (n := i) (by omega)
    have ek := nI_v (n := pth.length) (by omega)
    have hil : i < pth.length := by omega
    have hq := List.getElem?_eq_getElem hil
    have hpn := hp _ (List.getElem_mem hil)
    generalize pth[i] = p at hq hpn
    have hpc := hP i p hq
    have hlp : base + p < ls.length := by omega
    have hq2 := List.getElem?_eq_getElem hlp
    have hhl : hL ls base p = ls[base + p] := by simp [hL, List.getD, hq2]
    generalize ls[base + p] = q at hq2 hhl
    have hok := (h.1.2.2 _ q hq2).1
    have hd : (pth.map (hL ls base)).drop i = q :: (pth.map (hL ls base)).drop (i + 1) := by
      have z1 : i < (pth.map (hL ls base)).length := by simp; exact hil
      rw [List.drop_eq_getElem_cons z1]
      congr 1
      rw [List.getElem_map, (List.getElem?_eq_some_iff.mp hq).2, hhl]
    rw [hd]
    have x1 : nI pth.length - cI 1 - nI i = nI (pth.length - 1 - i) := by
      rw [show nI pth.length - cI 1 = nI (pth.length - 1) from nI_sub (b := 1) (by omega), nI_sub (by omega)]
    refine body_run 400 rfl (fun B Cl Z hZ hB hC => ?_)
    (conv => whnf); refine ⟨fun b => ?_, fun b => ?_⟩
    · simp only [c_lt, c_gt, c_le, c_ge, c_eq, c_ne, b2_z, b2_nz, b2_i, Classical.not_not, t0, t1, Nat.reduceMod, Nat.reduceDiv, Int.reduceAdd, Int.reduceNeg, Nat.reduceAdd, kv_0, kv_1, kv_7, kc_0, kc_1, kc_7, e, ek] at b
      omega
    · (conv => whnf)
      refine ⟨nI_vp (by omega) (by omega), ?_⟩
      (conv => whnf)
      rw [nI_c (n := i) (by omega), hpc, nI_add]
      refine ret_k hC (sp_snumber h.1 hq2 (show 0 < 4 by omega)) ?_
      (conv => whnf)
      rw [x1, nI_add]
      refine hC _ _ _ _ _ (sp_samount h he hq2 (by omega) (by omega) (fun z => by cases z)) (fun v M1 p => ?_)
      obtain ⟨rfl, p2, p3⟩ := p
      rw [amS_f hok, show base + i + (pth.length - 1 - i) + 1 = base + pth.length by omega]
      (conv => whnf)
      refine hC _ _ _ _ _ (sp_add (d := d + 2) (by simp [isLn]) (RLn_fr hs p3 (by decide)) hok.1) (fun v M2 u => ?_)
      obtain ⟨rfl, u2, u3⟩ := u
      (conv => whnf)
      have hF : Fr [9, 37, 38, 45] M M2 := Fr_trans (Fr_sub p3 (by decide)) (Fr_sub u3 (by decide))
      have hP2 : RPt M2 pth := fun j p' hj => by rw [Fr_1 hF 46 (by decide)]; exact hP j p' hj
      refine hB _ _ _ _ (Body_lv (Body_mono (ih (i + 1) _ _ M2 (by omega) u2 (RSr_fr p2 u3 (by decide)) (RE_fr he hF (by decide)) hP2) (fun v M' z => ⟨z.1, z.2.1, Fr_trans hF z.2.2⟩)) ⟨rfl, rfl, rfl, v_eq (nI_i1 i), trivial⟩)
theorem sp_leanBehind {d base n : Nat} {M : Mem} {E : EnvK} {ls : List Lyr} {pth : List Nat} (hb : base + n = ls.length) (hn : n ≤ 7) (hp : ∀ p ∈ pth, p < n) (hk : pth.length ≤ n) (h : RSr M E ls false) (he : RE M E) (hP : RPt M pth) (hB0 : RB M E ls base n) :
    Call (d + 5) 44 [.ref 5, .int (nI pth.length), .int (nI n)] M (fun v M' => v = some (.int (gP E ls base pth)) ∧ RSr M' E ls false ∧ Fr [9, 37, 38, 45] M M') := by
  have h12 := h.1.2.1
  have ek := nI_v (n := pth.length) (by omega)
  have x1 : nI ls.length - nI n = nI base := by rw [nI_sub (by omega)]; congr 1; omega
  obtain ⟨b1, b2⟩ := hB0 pth.length hk
  refine call_run 400 rfl rfl (fun B Cl Z hZ hB hC => ?_)
  (conv => whnf); refine ⟨fun b => ?_, fun b => ?_⟩
  · simp only [c_lt, c_gt, c_le, c_ge, c_eq, c_ne, b2_z, b2_nz, b2_i, Classical.not_not, t0, t1, Nat.reduceMod, Nat.reduceDiv, Int.reduceAdd, Int.reduceNeg, Nat.reduceAdd, kv_0, kv_1, kv_7, kc_0, kc_1, kc_7, ek] at b
    omega
  (conv => whnf); refine ⟨fun b => ?_, fun b => ?_⟩
  rotate_left
  · simp only [c_lt, c_gt, c_le, c_ge, c_eq, c_ne, b2_z, b2_nz, b2_i, Classical.not_not, t0, t1, Nat.reduceMod, Nat.reduceDiv, Int.reduceAdd, Int.reduceNeg, Nat.reduceAdd, kv_0, kv_1, kv_7, kc_0, kc_1, kc_7, ek] at b
    omega
  (conv => whnf)
  refine ⟨nI_vp (by omega) (by omega), ?_⟩
  (conv => whnf)
  refine ⟨nI_vp (by omega) (by omega), ?_⟩
  (conv => whnf)
  rw [nI_c (n := pth.length) (by omega), b1, b2]
  refine hC _ _ _ _ _ (sp_begin (d := d + 3) (by simp [isLn])) (fun v M1 q => ?_)
  obtain ⟨rfl, q2, q3⟩ := q
  (conv => whnf)
  have hP1 : RPt M1 pth := fun j p' hj => by rw [Fr_1 q3 46 (by decide)]; exact hP j p' hj
  exact hB _ _ _ _ (Body_lv (Body_mono (behind_loop (d := d) hb hp hk pth.length 0 _ _ M1 (by omega) q2 (RSr_fr h q3 (by decide)) (RE_fr he q3 (by decide)) hP1) (fun v M' z => ⟨z.1, z.2.1, Fr_trans (Fr_sub q3 (by decide)) z.2.2⟩)) ⟨rfl, rfl, v_eq ((congrArg (fun z => z - nI n) h.1.1).trans x1), rfl, trivial⟩)
/-- the least of the greatest leans, and the order first come to by it -/
abbrev DS : Type := Int32 × List Nat
def dC (g : List Nat → Int32) (n : Nat) : Nat → List Nat → Nat → Int32 → DS → DS
  | 0, pth, _, worst, _ => (worst, pth)
  | f + 1, pth, used, worst, st => (List.range n).foldl (fun st i => if used.testBit i = true then st else if maxI worst (g (pth ++ [i])) < st.1 then dC g n f (pth ++ [i]) (used ||| 2 ^ i) (maxI worst (g (pth ++ [i]))) st else st) st
def RDS (M : Mem) (st : DS) : Prop := M.1 5 0 = st.1 ∧ ∀ j p, st.2[j]? = some p → M.1 47 j = nI p
def AL : List Nat := [5, 9, 37, 38, 45, 46, 47]
def F5 (M M' : Mem) (k : Nat) : Prop := Fr AL M M' ∧ (∀ j, ¬ j = 0 → M'.1 5 j = M.1 5 j) ∧ ∀ j, j < k → M'.1 46 j = M.1 46 j
theorem F5_trans {M M1 M2 : Mem} {k : Nat} (h1 : F5 M M1 k) (h2 : F5 M1 M2 k) : F5 M M2 k := ⟨Fr_trans h1.1 h2.1, fun j hj => (h2.2.1 j hj).trans (h1.2.1 j hj), fun j hj => (h2.2.2 j hj).trans (h1.2.2 j hj)⟩
theorem F5_le {M M1 : Mem} {k k' : Nat} (h1 : F5 M M1 k) (h : k' ≤ k) : F5 M M1 k' := ⟨h1.1, h1.2.1, fun j hj => h1.2.2 j (by omega)⟩
theorem RPt_F5 {M M' : Mem} {pth : List Nat} (h : RPt M pth) (hf : F5 M M' pth.length) : RPt M' pth := fun j p hj => by rw [hf.2.2 j (List.getElem?_eq_some_iff.mp hj).1]; exact h j p hj
theorem range_drop (n i : Nat) (h : i < n) : (List.range n).drop i = i :: (List.range n).drop (i + 1) := by
  rw [List.drop_eq_getElem_cons (by simpa using h)]
  simp
