/-! sums are small; turns, the class's way and the reference's -/
def unit3 (w : Nat → Int32) : Prop := ∀ k, k < 8 → (w k).toInt = -1 ∨ (w k).toInt = 0 ∨ (w k).toInt = 1
theorem rgt_u : unit3 rgt := by unfold unit3; decide +kernel
theorem dwn_u : unit3 dwn := by unfold unit3; decide +kernel
theorem mul_u {x y : Int32} (hx : 0 ≤ x.toInt ∧ x.toInt ≤ 9) (hy : y.toInt = -1 ∨ y.toInt = 0 ∨ y.toInt = 1) : -9 ≤ (x * y).toInt ∧ (x * y).toInt ≤ 9 := by
  rcases hy with h | h | h
  · have := ml_v (x := x) (y := y) (by rw [h]; omega) (by rw [h]; omega)
    rw [h] at this; omega
  · have := ml_v (x := x) (y := y) (by rw [h]; omega) (by rw [h]; omega)
    rw [h] at this; omega
  · have := ml_v (x := x) (y := y) (by rw [h]; omega) (by rw [h]; omega)
    rw [h] at this; omega
theorem lnX_b {w : Nat → Int32} {g : Nat → Lyr → Int32} (hw : unit3 w) (hg : ∀ i q, 0 ≤ (g i q).toInt ∧ (g i q).toInt ≤ 9) : ∀ (l : List Lyr) (i : Nat) (a : Int32) (B : Int), (∀ q ∈ l, q.1 < 8) → -B ≤ a.toInt → a.toInt ≤ B → B + 9 * l.length < 1000000 →
    -(B + 9 * l.length) ≤ (lnX w g l i a).toInt ∧ (lnX w g l i a).toInt ≤ B + 9 * l.length
  | [], i, a, B, _, h1, h2, _ => by
    show -(B + 9 * ((0 : Nat) : Int)) ≤ a.toInt ∧ a.toInt ≤ B + 9 * ((0 : Nat) : Int)
    omega
  | q :: l, i, a, B, hq, h1, h2, h3 => by
    have hm := mul_u (hg i q) (hw q.1 (hq q (List.mem_cons_self ..)))
    rw [List.length_cons] at h3 ⊢
    have ha := ad_v (x := a) (y := g i q * w q.1) (by omega) (by omega)
    have := lnX_b hw hg l (i + 1) (a + g i q * w q.1) (B + 9) (fun x hx => hq x (List.mem_cons_of_mem _ hx)) (by omega) (by omega) (by omega)
    show _ ≤ (lnX w g l (i + 1) (a + g i q * w q.1)).toInt ∧ _
    refine ⟨?_, ?_⟩
    · have := this.1; omega
    · have := this.2; show (lnX w g l (i + 1) (a + g i q * w q.1)).toInt ≤ _; omega
theorem kpt_r (lw : List Nat) (cold : Int32) (h i : Nat) (q : Lyr) : 0 ≤ (kpt lw cold h i q).toInt ∧ (kpt lw cold h i q).toInt ≤ 9 := amt_r _ _ _ _ _ _ _
theorem okR_q {w : Rk} {r : Nat} (ho : okR w) : ∀ q ∈ w.getD r [], q.1 < 8 := by
  intro q hq
  obtain ⟨l, hl, e⟩ := List.getElem_of_mem hq
  have : (w.getD r [])[l]? = some q := by rw [List.getElem?_eq_getElem hl, e]
  exact (ho.2.2 r l q this).1
theorem lX_b {E : EnvK} {w : Rk} {r : Nat} (ho : okR w) : -108 ≤ (lX E w r).toInt ∧ (lX E w r).toInt ≤ 108 := by
  have h12 := ho.2.1 r
  have hl : ((w.getD r []).length : Int) ≤ 12 := by have : (w.getD r []).length ≤ 12 := h12; omega
  have := lnX_b (w := rgt) rgt_u (kpt_r E.1 E.2.1 (hgt w r)) (w.getD r []) 0 0 0 (okR_q ho) (by rw [t0]; omega) (by rw [t0]; omega) (by omega)
  unfold lX
  omega
theorem lY_b {E : EnvK} {w : Rk} {r : Nat} (ho : okR w) : -108 ≤ (lY E w r).toInt ∧ (lY E w r).toInt ≤ 108 := by
  have h12 := ho.2.1 r
  have hl : ((w.getD r []).length : Int) ≤ 12 := by have : (w.getD r []).length ≤ 12 := h12; omega
  have := lnX_b (w := dwn) dwn_u (kpt_r E.1 E.2.1 (hgt w r)) (w.getD r []) 0 0 0 (okR_q ho) (by rw [t0]; omega) (by rw [t0]; omega) (by omega)
  unfold lY
  omega
theorem absI_v {x : Int32} (h : -2147483648 < x.toInt) : (absI x).toInt = if 0 ≤ x.toInt then x.toInt else -x.toInt := by
  unfold absI
  have := Int32.toInt_lt x
  by_cases z : 0 ≤ x.toInt
  · rw [if_pos z, if_pos (by rw [le_i, t0]; exact z)]
  · rw [if_neg z, if_neg (by rw [le_i, t0]; exact z), sb_v (by rw [t0]; omega) (by rw [t0]; omega), t0]
    omega
theorem maxI_v {x y : Int32} : (maxI x y).toInt = if x.toInt < y.toInt then y.toInt else x.toInt := by
  unfold maxI
  by_cases z : x.toInt < y.toInt
  · rw [if_pos z, if_pos (by rw [lt_i]; exact z)]
  · rw [if_neg z, if_neg (by rw [lt_i]; exact z)]
theorem lM_b {E : EnvK} {w : Rk} {r : Nat} (ho : okR w) : 0 ≤ (lM E w r).toInt ∧ (lM E w r).toInt ≤ 108 := by
  have h1 := lX_b (E := E) (r := r) ho
  have h2 := lY_b (E := E) (r := r) ho
  unfold lM
  rw [maxI_v, absI_v (by omega), absI_v (by omega)]
  split <;> split <;> (try split) <;> omega
/-- the first of the least, or greatest -/
def fstep (v : Nat → Int32) (b : Bool) (c : Int32 × Nat) (w : Nat) : Int32 × Nat := if c.1 < 0 ∨ (if b then v w < c.1 else c.1 < v w) then (v w, w) else c
theorem fstep_n {v : Nat → Int32} {b : Bool} : (List.range (0 + 1)).foldl (fstep v b) (cI (-1), 0) = (v 0, 0) := by
  show fstep v b (cI (-1), 0) 0 = (v 0, 0)
  unfold fstep
  rw [if_pos (Or.inl (show cI (-1) < 0 by decide))]
theorem fold_fst {v : Nat → Int32} {b : Bool} (hv : ∀ w, w < 8 → 0 ≤ (v w).toInt) : ∀ n, n < 8 → ((List.range (n + 1)).foldl (fstep v b) (cI (-1), 0)).2 ≤ n ∧ ((List.range (n + 1)).foldl (fstep v b) (cI (-1), 0)).1 = v ((List.range (n + 1)).foldl (fstep v b) (cI (-1), 0)).2 ∧ ∀ j, j < ((List.range (n + 1)).foldl (fstep v b) (cI (-1), 0)).2 → ¬ v j = ((List.range (n + 1)).foldl (fstep v b) (cI (-1), 0)).1
  | 0, _ => by
    have e : (List.range (0 + 1)).foldl (fstep v b) (cI (-1), 0) = (v 0, 0) := fstep_n
    rw [e]
    exact ⟨Nat.le_refl _, rfl, fun j hj => absurd hj (Nat.not_lt_zero j)⟩
  | n + 1, hn => by
    have inv : ∀ m, m < 8 → 0 ≤ ((List.range (m + 1)).foldl (fstep v b) (cI (-1), 0)).1.toInt ∧ ∀ j, j ≤ m → (if b then ((List.range (m + 1)).foldl (fstep v b) (cI (-1), 0)).1.toInt ≤ (v j).toInt else (v j).toInt ≤ ((List.range (m + 1)).foldl (fstep v b) (cI (-1), 0)).1.toInt) := by
      intro m
      induction m with
      | zero =>
        intro _
        have e : (List.range (0 + 1)).foldl (fstep v b) (cI (-1), 0) = (v 0, 0) := fstep_n
        rw [e]
        refine ⟨hv 0 (by omega), fun j hj => ?_⟩
        obtain rfl : j = 0 := by omega
        cases b <;> exact Int.le_refl _
      | succ m ih =>
        intro hm
        obtain ⟨i1, i2⟩ := ih (by omega)
        rw [List.range_succ, List.foldl_append]
        generalize (List.range (m + 1)).foldl (fstep v b) (cI (-1), 0) = c at i1 i2 ⊢
        show 0 ≤ (fstep v b c (m + 1)).1.toInt ∧ _
        have nn : ¬ c.1 < 0 := by rw [lt_i, t0]; omega
        have hm1 := hv (m + 1) hm
        by_cases z : c.1 < 0 ∨ (if b then v (m + 1) < c.1 else c.1 < v (m + 1))
        · have e : fstep v b c (m + 1) = (v (m + 1), m + 1) := if_pos z
          have z := z.resolve_left nn
          refine ⟨by rw [e]; exact hm1, fun j hj => ?_⟩
          show (if b then (fstep v b c (m + 1)).1.toInt ≤ _ else _ ≤ (fstep v b c (m + 1)).1.toInt)
          rw [e]
          by_cases y : j = m + 1
          · subst y; cases b <;> exact Int.le_refl _
          · have q := i2 j (by omega)
            cases b
            · replace z : c.1 < v (m + 1) := z
              replace q : (v j).toInt ≤ c.1.toInt := q
              rw [lt_i] at z
              show (v j).toInt ≤ (v (m + 1)).toInt
              omega
            · replace z : v (m + 1) < c.1 := z
              replace q : c.1.toInt ≤ (v j).toInt := q
              rw [lt_i] at z
              show (v (m + 1)).toInt ≤ (v j).toInt
              omega
        · have e : fstep v b c (m + 1) = c := if_neg z
          refine ⟨by rw [e]; exact i1, fun j hj => ?_⟩
          show (if b then (fstep v b c (m + 1)).1.toInt ≤ _ else _ ≤ (fstep v b c (m + 1)).1.toInt)
          rw [e]
          by_cases y : j = m + 1
          · subst y
            cases b
            · have z : ¬ c.1 < v (m + 1) := fun y => z (Or.inr y)
              rw [lt_i] at z
              show (v (m + 1)).toInt ≤ c.1.toInt
              omega
            · have z : ¬ v (m + 1) < c.1 := fun y => z (Or.inr y)
              rw [lt_i] at z
              show c.1.toInt ≤ (v (m + 1)).toInt
              omega
          · exact i2 j (by omega)
    obtain ⟨h1, h2, h3⟩ := fold_fst hv n (by omega)
    obtain ⟨k1, k2⟩ := inv n (by omega)
    rw [List.range_succ, List.foldl_append]
    generalize (List.range (n + 1)).foldl (fstep v b) (cI (-1), 0) = c at h1 h2 h3 k1 k2 ⊢
    show (fstep v b c (n + 1)).2 ≤ n + 1 ∧ (fstep v b c (n + 1)).1 = v (fstep v b c (n + 1)).2 ∧ ∀ j, j < (fstep v b c (n + 1)).2 → ¬ v j = (fstep v b c (n + 1)).1
    have nn : ¬ c.1 < 0 := by rw [lt_i, t0]; omega
    by_cases z : c.1 < 0 ∨ (if b then v (n + 1) < c.1 else c.1 < v (n + 1))
    · have e : fstep v b c (n + 1) = (v (n + 1), n + 1) := if_pos z
      have z := z.resolve_left nn
      rw [e]
      refine ⟨Nat.le_refl _, rfl, fun j hj => ?_⟩
      replace hj : j < n + 1 := hj
      have q := k2 j (by omega)
      show ¬ v j = v (n + 1)
      rw [x_eq]
      cases b
      · replace z : c.1 < v (n + 1) := z
        replace q : (v j).toInt ≤ c.1.toInt := q
        rw [lt_i] at z
        omega
      · replace z : v (n + 1) < c.1 := z
        replace q : c.1.toInt ≤ (v j).toInt := q
        rw [lt_i] at z
        omega
    · have e : fstep v b c (n + 1) = c := if_neg z
      rw [e]
      exact ⟨by omega, h2, h3⟩
/-- a fold of values, and one of values with their ways -/
theorem fold_pair {v : Nat → Int32} {b : Bool} : ∀ (l : List Nat) (c : Int32 × Nat), l.foldl (fun c w => if c < 0 ∨ (if b then v w < c else c < v w) then v w else c) c.1 = (l.foldl (fstep v b) c).1
  | [], _ => rfl
  | w :: l, c => by
    rw [List.foldl_cons, List.foldl_cons, ← fold_pair l]
    congr 1
    unfold fstep
    by_cases z : c.1 < 0 ∨ (if b then v w < c.1 else c.1 < v w)
    · rw [if_pos z, if_pos z]
    · rw [if_neg z, if_neg z]
theorem fold_neg {v : Nat → Int32} {b : Bool} {c c' : Int32} (h : c < 0) (h' : c' < 0) {w : Nat} {l : List Nat} : (w :: l).foldl (fun c w => if c < 0 ∨ (if b then v w < c else c < v w) then v w else c) c = (w :: l).foldl (fun c w => if c < 0 ∨ (if b then v w < c else c < v w) then v w else c) c' := by
  rw [List.foldl_cons, List.foldl_cons, if_pos (Or.inl h), if_pos (Or.inl h')]
theorem bO_b {E : EnvK} {r : Nat} : ∀ (n : Nat) (b : Bool) (w : Rk), okR w → r < w.length → hgt w r + n ≤ 12 → 0 ≤ (bO E r n b w).toInt
  | 0, b, w, ho, _, _ => (lM_b ho).1
  | n + 1, b, w, ho, hr, hh => by
    have hv : ∀ wy, wy < 8 → 0 ≤ (bO E r n (!b) (put w r (wy, 5, 0, 0))).toInt := fun wy hwy => bO_b n (!b) _ (okR_put ho hr (by omega) ⟨hwy, by show 1 ≤ 5 ∧ 5 ≤ 9; omega, by show 0 < 8; omega, by show 0 < 100; omega⟩) (by rw [put_len]; exact hr) (by rw [hgt_put hr, if_pos rfl]; omega)
    have e : bO E r (n + 1) b w = ((List.range 8).foldl (fstep (fun wy => bO E r n (!b) (put w r (wy, 5, 0, 0))) b) (cI (-1), 0)).1 := by
      rw [← fold_pair]
      exact fold_neg (show cI (-2) < 0 by decide) (show cI (-1) < 0 by decide)
    rw [e]
    have := fold_fst (v := fun wy => bO E r n (!b) (put w r (wy, 5, 0, 0))) (b := b) hv 7 (by omega)
    rw [this.2.1]
    exact hv _ (by omega)
theorem getD_put {w : Rk} {r : Nat} {q : Lyr} (hr : r < w.length) : (put w r q).getD r [] = w.getD r [] ++ [q] := by
  unfold put
  rw [getD_set hr, if_pos rfl]
theorem foldl_cg {α β : Type} {f g : α → β → α} : ∀ (l : List β) (c : α), (∀ c, ∀ x ∈ l, f c x = g c x) → l.foldl f c = l.foldl g c
  | [], _, _ => rfl
  | a :: l, c, h => by
    rw [List.foldl_cons, List.foldl_cons, h c a (List.mem_cons_self ..)]
    exact foldl_cg l _ (fun c x hx => h c x (List.mem_cons_of_mem _ hx))
theorem fstep_cg {v v' : Nat → Int32} {b : Bool} {c : Int32 × Nat} {w : Nat} (h : v w = v' w) : fstep v b c w = fstep v' b c w := by
  unfold fstep
  rw [h]
theorem fold_cg {v v' : Nat → Int32} {b : Bool} {c : Int32 × Nat} (h : ∀ w, w < 8 → v w = v' w) : (List.range 8).foldl (fstep v b) c = (List.range 8).foldl (fstep v' b) c :=
  foldl_cg _ _ (fun _ x hx => fstep_cg (h x (List.mem_range.mp hx)))
def tV (tr : Nat → Int32) (n f : Nat) (x y : Int32) (wy : Nat) : Int32 := (tS tr n f (x + tr (n - (f + 1)) * rgt wy) (y + tr (n - (f + 1)) * dwn wy)).1
def bV (E : EnvK) (r n : Nat) (b : Bool) (w : Rk) (wy : Nat) : Int32 := bO E r n (!b) (put w r (wy, 5, 0, 0))
theorem tS_s {tr : Nat → Int32} {n f : Nat} {x y : Int32} {b : Bool} (hb : b = decide ((n - (f + 1)) % 2 = 0)) : tS tr n (f + 1) x y = (List.range 8).foldl (fstep (tV tr n f x y) b) (cI (-1), 0) := by
  rw [tS]
  refine foldl_cg _ _ (fun c wy _ => ?_)
  unfold fstep tV
  refine ite_congr (propext (or_congr Iff.rfl ?_)) (fun _ => rfl) (fun _ => rfl)
  by_cases z : (n - (f + 1)) % 2 = 0
  · rw [if_pos z, if_pos (show b = true by rw [hb]; exact decide_eq_true z)]
  · rw [if_neg z, if_neg (show ¬ b = true by rw [hb, decide_eq_false z]; decide)]
theorem bO_s {E : EnvK} {r n : Nat} {b : Bool} {w : Rk} : bO E r (n + 1) b w = ((List.range 8).foldl (fstep (bV E r n b w) b) (cI (-1), 0)).1 := by
  rw [← fold_pair]
  exact fold_neg (v := bV E r n b w) (show cI (-2) < 0 by decide) (show cI (-1) < 0 by decide)
theorem okQ {wy : Nat} (h : wy < 8) : okL (wy, 5, 0, 0) := ⟨h, by show 1 ≤ 5 ∧ 5 ≤ 9; omega, by show 0 < 8; omega, by show 0 < 100; omega⟩
/-- the class's way by sums, the reference's by ricks -/
theorem tS_bO {E : EnvK} {r L n : Nat} : ∀ (f : Nat) (b : Bool) (w : Rk) (x y : Int32), f ≤ n → okR w → r < w.length → hgt w r = L + (n - f) → L + n ≤ 12 → b = decide ((n - f) % 2 = 0) → x = lnX rgt (kpt E.1 E.2.1 (L + n)) (w.getD r []) 0 0 → y = lnX dwn (kpt E.1 E.2.1 (L + n)) (w.getD r []) 0 0 → (tS (trn E L n) n f x y).1 = bO E r f b w
  | 0, b, w, x, y, _, ho, hr, hh, _, hb, hx, hy => by
    show maxI (absI x) (absI y) = lM E w r
    unfold lM lX lY
    rw [hx, hy, hh]
    rfl
  | f + 1, b, w, x, y, hf, ho, hr, hh, hL, hb, hx, hy => by
    have hv : ∀ wy, wy < 8 → tV (trn E L n) n f x y wy = bV E r f b w wy := by
      intro wy hwy
      have ek : trn E L n (n - (f + 1)) = kpt E.1 E.2.1 (L + n) (0 + (w.getD r []).length) (wy, 5, 0, 0) := by
        unfold trn kpt
        rw [show (w.getD r []).length = L + (n - (f + 1)) from hh]
        rw [show 0 + (L + (n - (f + 1))) = L + (n - (f + 1)) by omega, show L + n - 1 - (L + (n - (f + 1))) = n - 1 - (n - (f + 1)) by omega]
        rfl
      refine tS_bO f (!b) (put w r (wy, 5, 0, 0)) _ _ (by omega) (okR_put ho hr (by omega) (okQ hwy)) (by rw [put_len]; exact hr) (by rw [hgt_put hr, if_pos rfl]; omega) hL ?_ ?_ ?_
      · rw [hb]
        by_cases z : (n - (f + 1)) % 2 = 0
        · rw [decide_eq_true z, decide_eq_false (by omega)]; rfl
        · rw [decide_eq_false z, decide_eq_true (by omega)]; rfl
      · rw [getD_put hr, lnX_snoc, ← hx, ek]
      · rw [getD_put hr, lnX_snoc, ← hy, ek]
    rw [tS_s hb, bO_s, fold_cg hv]
theorem tS_way {E : EnvK} {r L n : Nat} {w : Rk} (ho : okR w) (hr : r < w.length) (hh : hgt w r = L) (hL : L + (n + 1) ≤ 12) : (tres E (w.getD r []) (n + 1)).2 < 8 ∧ (tres E (w.getD r []) (n + 1)).1 = bO E r (n + 1) true w ∧ bV E r n true w (tres E (w.getD r []) (n + 1)).2 = bO E r (n + 1) true w ∧ ∀ j, j < (tres E (w.getD r []) (n + 1)).2 → ¬ bV E r n true w j = bO E r (n + 1) true w := by
  have hlen : (w.getD r []).length = L := hh
  have eB : ∀ g, bX E g (w.getD r []) (w.getD r []).length (n + 1) = lnX g (kpt E.1 E.2.1 (L + (n + 1))) (w.getD r []) 0 0 := by
    intro g
    unfold bX
    rw [List.take_length, hlen]
    rfl
  have hb : true = decide ((n + 1 - (n + 1)) % 2 = 0) := by rw [Nat.sub_self]; rfl
  have e1 : tres E (w.getD r []) (n + 1) = (List.range 8).foldl (fstep (bV E r n true w) true) (cI (-1), 0) := by
    unfold tres
    rw [eB, eB, hlen, tS_s hb]
    refine fold_cg (fun wy hwy => ?_)
    have ek : trn E L (n + 1) (n + 1 - (n + 1)) = kpt E.1 E.2.1 (L + (n + 1)) (0 + (w.getD r []).length) (wy, 5, 0, 0) := by
      unfold trn kpt
      rw [hlen, show L + (n + 1 - (n + 1)) = 0 + L by omega, show n + 1 - 1 - (n + 1 - (n + 1)) = L + (n + 1) - 1 - (0 + L) by omega]
      rfl
    refine tS_bO n false (put w r (wy, 5, 0, 0)) _ _ (by omega) (okR_put ho hr (by omega) (okQ hwy)) (by rw [put_len]; exact hr) (by rw [hgt_put hr, if_pos rfl]; omega) hL (by rw [show n + 1 - n = 1 by omega]; rfl) ?_ ?_
    · rw [getD_put hr, lnX_snoc, ek]
    · rw [getD_put hr, lnX_snoc, ek]
  have h2 := fold_fst (v := bV E r n true w) (b := true) (fun wy hwy => bO_b n false _ (okR_put ho hr (by omega) (okQ hwy)) (by rw [put_len]; exact hr) (by rw [hgt_put hr, if_pos rfl]; omega)) 7 (by omega)
  rw [show 7 + 1 = 8 from rfl, ← e1] at h2
  obtain ⟨k1, k2, k3⟩ := h2
  have h1 : (tres E (w.getD r []) (n + 1)).1 = bO E r (n + 1) true w := by rw [e1, bO_s]
  exact ⟨by omega, h1, by rw [← h1]; exact k2.symm, fun j hj => by rw [← h1]; exact k3 j hj⟩
theorem mturn_loop {d n i0 i : Nat} {M0 : Mem} {s : St} {x : Int32} (h0 : RM M0 s) (hv : inv s) (hn : n < 4) (hi : i < (sK s).length) (hh : hgt (sK s) i + (n + 1) ≤ 12) (hx : x = bO (envS s) i (n + 1) true (sK s)) (h8 : i0 < 8) (h1 : bV (envS s) i n true (sK s) i0 = x) (h2 : ∀ j, j < i0 → ¬ bV (envS s) i n true (sK s) j = x) : ∀ (m wy : Nat) (M : Mem), wy + m = i0 → FrM DA [] M0 M → YM M 75 (sK s) →
    BodyK (d + 18) 238 67 [(0, .ref 55), (1, .int (nI i)), (2, .int (nI (n + 1))), (4, .int x), (5, .int (nI wy))] [] M (QP M0 (.int (nI i0)) s) := by
  intro m
  induction m with
  | zero =>
    intro wy M hm hF hw
    obtain rfl : wy = i0 := by omega
    refine body_run 400 rfl (fun B Cl Z hZ hB hC => ?_)
    (conv => whnf)
    refine hC _ _ _ _ _ (m_byWay (n := n) (wy := wy) (D := d + 17) (b := true) hv (bo_s hv n (by omega)) (by omega) (by omega) h8 (RM_x h0 (DAx hF)) hw hv.1 hi hh) (fun v M1 p => ?_)
    obtain ⟨rfl, p2, p3⟩ := p
    replace h1 : bO (envS s) i n (!true) (put (sK s) i (wy, 5, 0, 0)) = x := h1
    rw [h1]
    (conv => whnf); refine ⟨fun k => ?_, fun k => ?_⟩
    · conv => whnf
      exact hZ _ _ (QP_same h0 (DAx (FrM_trans hF p2)))
    · exact absurd rfl k
  | succ m ih =>
    intro wy M hm hF hw
    have hne : ¬ bO (envS s) i n (!true) (put (sK s) i (wy, 5, 0, 0)) = x := h2 wy (by omega)
    refine body_run 400 rfl (fun B Cl Z hZ hB hC => ?_)
    (conv => whnf)
    refine hC _ _ _ _ _ (m_byWay (n := n) (wy := wy) (D := d + 17) (b := true) hv (bo_s hv n (by omega)) (by omega) (by omega) (by omega) (RM_x h0 (DAx hF)) hw hv.1 hi hh) (fun v M1 p => ?_)
    obtain ⟨rfl, p2, p3⟩ := p
    (conv => whnf); refine ⟨fun k => ?_, fun k => ?_⟩
    · exact absurd k hne
    (conv => whnf)
    exact hB _ _ _ _ (Body_lv (ih (wy + 1) M1 (by omega) (FrM_trans hF p2) p3) ⟨rfl, rfl, rfl, rfl, v_eq (nI_i1 wy), trivial⟩)
theorem m_byTurns {d : Nat} {M : Mem} {s : St} {r n w : Int32} (h : RM M s) (hv : inv s) : Call (d + 18) 238 [.ref 55, .int r, .int n, .int w] M (QP M (.int (aByTurns s r n w)) s) := by
  have h4 := hv.1.1
  refine call_run 400 rfl rfl (fun B Cl Z hZ hB hC => ?_)
  (conv => whnf); refine ret_k hC (m_isRick h.1.1 h4) ?_
  (conv => whnf); refine ⟨fun a => ?_, fun a => ?_⟩
  · rw [b2_z] at a
    have e9 : aByTurns s r n w = cI (-1) := if_neg (fun z => a z.1)
    rw [e9] at hZ
    conv => whnf
    exact hZ _ _ (QP_same h FrM_refl)
  rw [b2_z] at a
  have a := Classical.not_not.mp a
  have out : ¬ ((1 ≤ n.toInt ∧ n.toInt ≤ 4) ∧ 0 ≤ w.toInt ∧ w.toInt ≤ 1) → aByTurns s r n w = cI (-1) := fun z => if_neg (fun y => z y.2)
  (conv => whnf); refine ret_k hC (m_in) ?_
  rw [kv_1, kv_4]
  (conv => whnf); refine ⟨fun b => ?_, fun b => ?_⟩
  · rw [b2_z] at b
    rw [out (fun z => b z.1)] at hZ
    conv => whnf
    exact hZ _ _ (QP_same h FrM_refl)
  rw [b2_z] at b
  have b := Classical.not_not.mp b
  (conv => whnf); refine ret_k hC (m_in) ?_
  rw [kv_0, kv_1]
  (conv => whnf); refine ⟨fun c => ?_, fun c => ?_⟩
  case' refine_2 =>
    rw [b2_nz] at c
    rw [out (fun z => c z.2)] at hZ
    conv => whnf
    exact hZ _ _ (QP_same h FrM_refl)
  rw [b2_nz] at c
  obtain ⟨i, rfl, ei, hi⟩ := to_nI a.1
  obtain ⟨m, rfl, em, hm⟩ := to_nI (x := n) (by omega)
  have h12 : hgt (sK s) i ≤ 12 := hv.1.2.1 i
  have hil : i < (sK s).length := by omega
  have e8 : aByTurns s (nI i) (nI m) w = (if 12 < hgt (sK s) i + m then cI (-2) else if w.toInt = 0 then (tres (envS s) ((sK s).getD i []) m).1 else nI (tres (envS s) ((sK s).getD i []) m).2) := by
    unfold aByTurns
    rw [if_pos (by omega), ei, em]
    rfl
  rw [e8] at hZ hB
  have mm := (h.1.2 i hil).1
  (conv => whnf)
  refine ⟨nI_vp (by omega) (by decide), ?_⟩
  (conv => whnf); refine ⟨fun k => ?_, fun k => ?_⟩
  case' refine_2 =>
    replace k : ¬ cnd .le (M.1 56 (nI i).toNatClampNeg + nI m) (cI 12) := k
    rw [nI_c hi, mm, nI_add, c_le, nI_v (by omega), kv_12] at k
    rw [if_pos (by omega)] at hZ
    conv => whnf
    exact hZ _ _ (QP_same h FrM_refl)
  replace k : cnd .le (M.1 56 (nI i).toNatClampNeg + nI m) (cI 12) := k
  rw [nI_c hi, mm, nI_add, c_le, nI_v (by omega), kv_12] at k
  rw [if_neg (by omega)] at hZ hB
  obtain ⟨n, rfl⟩ : ∃ n, m = n + 1 := ⟨m - 1, by omega⟩
  obtain ⟨w1, w2, w3, w4⟩ := tS_way (E := envS s) (r := i) (L := hgt (sK s) i) (n := n) (w := sK s) hv.1 hil rfl (by omega)
  rw [w2] at hZ hB
  (conv => whnf)
  refine hC _ _ _ _ _ (m_layNow h.1 hv.1) (fun v M1 y => ?_)
  obtain ⟨rfl, p2, p3⟩ := y
  have f1 : FrM DA [] M M1 := FrM_sub p2 (by decide) (by decide)
  (conv => whnf)
  refine hC _ _ _ _ _ (bo_s hv (n + 1) (by omega) (d + 17) true (sK s) M1 (by omega) (RM_x h (DAx f1)) p3 hv.1 hil (by omega)) (fun v M2 y => ?_)
  obtain ⟨rfl, q2, q3⟩ := y
  have f2 : FrM DA [] M M2 := FrM_trans f1 q2
  (conv => whnf); refine ⟨fun t => ?_, fun t => ?_⟩
  · simp only [c_lt, c_gt, c_le, c_ge, c_eq, c_ne, b2_z, b2_nz, b2_i, Classical.not_not, t0, t1, Nat.reduceMod, Nat.reduceDiv, Int.reduceAdd, Int.reduceNeg, Nat.reduceAdd, kv_m2, kv_m1, kv_0, kv_1, kv_4, kv_12, kc_0, kc_1, kc_4, kc_12] at t
    rw [if_neg t] at hB
    (conv => whnf)
    exact hB _ _ _ _ (Body_lv (mturn_loop (d := d) (n := n) (i := i) (M0 := M) h hv (by omega) hil (by omega) rfl w1 w3 w4 _ 0 M2 (Nat.zero_add _) f2 q3) ⟨rfl, rfl, rfl, rfl, rfl, trivial⟩)
  · simp only [c_lt, c_gt, c_le, c_ge, c_eq, c_ne, b2_z, b2_nz, b2_i, Classical.not_not, t0, t1, Nat.reduceMod, Nat.reduceDiv, Int.reduceAdd, Int.reduceNeg, Nat.reduceAdd, kv_m2, kv_m1, kv_0, kv_1, kv_4, kv_12, kc_0, kc_1, kc_4, kc_12] at t
    rw [if_pos t] at hZ
    conv => whnf
    exact hZ _ _ (QP_same h (DAx f2))
