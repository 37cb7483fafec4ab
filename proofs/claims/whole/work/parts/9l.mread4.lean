/-! the reference: the text copied, its law -/
def tlL (t : List Nat) (k p : Nat) (ls : List Ln) : Nat × Option (List Ln) := if p = t.length then (p, some ls) else if t[p]? = some 59 then ptext t k (p + 1) ls else (p, none)
theorem ptext_s {t : List Nat} {k a : Nat} {ls : List Ln} : ptext t (k + 1) a ls = (match pline t a with
    | (p, none) => (p, none)
    | (p, some l) => tlL t k p (ls ++ [l])) := rfl
def RdQ (M : Mem) (r : Nat × Option (List Ln)) : Po := fun v M' => FrM [68, 69, 70, 71, 72] [16, 17, 18, 19, 20] M M' ∧ M'.1 55 16 = 0 ∧ match r.2 with
  | some ls => v = some (.int (cI (-1))) ∧ RTm M' 0 ls
  | none => v = some (.int (nI r.1)) ∧ FrR M M' ∧ r.1 ≤ 120
theorem RdQ_tr {M M1 : Mem} {r : Nat × Option (List Ln)} (hf : FrR M M1) {v : Option Value} {M' : Mem} (h : RdQ M1 r v M') : RdQ M r v M' := by
  obtain ⟨h1, h2, h3⟩ := h
  refine ⟨FrM_trans hf.1 h1, h2, ?_⟩
  revert h3
  cases r.2 with
  | none => exact fun q => ⟨q.1, FrR_trans hf q.2.1, q.2.2⟩
  | some ls => exact id
theorem cp_ix {i : Nat} : cI 130 * cI 0 + nI i = nI i := by
  rw [show cI 0 = 0 from rfl, Int32.mul_zero, Int32.zero_add]
theorem cp_ix2 {i : Nat} : cI 61 * cI 0 + nI i = nI i := by
  rw [show cI 0 = 0 from rfl, Int32.mul_zero, Int32.zero_add]
theorem cp2 {d L : Nat} (hL : L ≤ 61) : ∀ (k i : Nat) (M : Mem), i + k = L → M.1 70 0 = nI L → (∀ j, j < L → (∃ v, v < 200 ∧ M.1 71 (61 + j) = nI v) ∧ ∃ v, v < 200 ∧ M.1 72 (61 + j) = nI v) →
    BodyK (d + 1) 192 177 [(0, .ref 55), (1, .int (cI 0)), (2, .int (nI i))] [] M (fun v M' => v = some (.int (cI (-1))) ∧ FrM [71, 72] [] M M' ∧ (∀ j, j < i → M'.1 71 j = M.1 71 j ∧ M'.1 72 j = M.1 72 j) ∧ ∀ j, i ≤ j → j < L → M'.1 71 j = M.1 71 (61 + j) ∧ M'.1 72 j = M.1 72 (61 + j)) := by
  intro k
  have eL := nI_v (n := L) (by omega)
  induction k with
  | zero =>
    intro i M hi h70 hv
    have e := nI_v (n := i) (by omega)
    refine body_run 400 rfl (fun B Cl Z hZ hB hC => ?_)
    (conv => whnf)
    refine ⟨nI_vp (c := 0) (by decide) (by decide), ?_⟩
    (conv => whnf); refine ⟨fun b => ?_, fun b => ?_⟩
    · conv => whnf
      exact hZ _ _ ⟨rfl, FrM_refl, fun _ _ => ⟨rfl, rfl⟩, fun j h1 h2 => by omega⟩
    · replace b : ¬ cnd .ge (nI i) (M.1 70 0) := b
      rw [h70, c_ge, e, eL] at b
      omega
  | succ k ih =>
    intro i M hi h70 hv
    have e := nI_v (n := i) (by omega)
    have v1 : vp_in (nI i) 122 := nI_vp (by omega) (by decide)
    have ei : cI 61 + nI i = nI (61 + i) := nI_add 61 i
    have v2 : vp_in (nI (61 + i)) 122 := nI_vp (by omega) (by decide)
    have c1 := nI_c (n := i) (by omega)
    have c2 := nI_c (n := 61 + i) (by omega)
    obtain ⟨⟨x, x1, x2⟩, ⟨y, y1, y2⟩⟩ := hv i (by omega)
    refine body_run 400 rfl (fun B Cl Z hZ hB hC => ?_)
    (conv => whnf)
    refine ⟨nI_vp (c := 0) (by decide) (by decide), ?_⟩
    (conv => whnf); refine ⟨fun b => ?_, fun b => ?_⟩
    · replace b : cnd .ge (nI i) (M.1 70 0) := b
      rw [h70, c_ge, e, eL] at b
      omega
    have y2' : (mI M 71 i (nI x)).1 72 (61 + i) = nI y := by rw [mI_ne _ _ _ (by decide)]; exact y2
    (conv => whnf)
    (try simp only [Nat.reduceMod, cp_ix2, ei, c1, c2, x2, n16v x1, y2', n16v y1, nI_i1])
    refine ⟨v2, ?_⟩
    (conv => whnf)
    (try simp only [Nat.reduceMod, cp_ix2, ei, c1, c2, x2, n16v x1, y2', n16v y1, nI_i1])
    refine ⟨v1, ?_⟩
    (conv => whnf)
    (try simp only [Nat.reduceMod, cp_ix2, ei, c1, c2, x2, n16v x1, y2', n16v y1, nI_i1])
    refine ⟨v2, ?_⟩
    (conv => whnf)
    (try simp only [Nat.reduceMod, cp_ix2, ei, c1, c2, x2, n16v x1, y2', n16v y1, nI_i1])
    refine ⟨v1, ?_⟩
    (conv => whnf)
    (try simp only [Nat.reduceMod, cp_ix2, ei, c1, c2, x2, n16v x1, y2', n16v y1, nI_i1])
    have hn : ∀ j v w, ¬ j = i → (mI (mI M 71 i v) 72 i w).1 71 j = M.1 71 j ∧ (mI (mI M 71 i v) 72 i w).1 72 j = M.1 72 j := fun j v w hj => ⟨by rw [mI_ne _ _ _ (by decide), mI_2 _ _ hj], by rw [mI_2 _ _ hj, mI_ne _ _ _ (by decide)]⟩
    refine hB _ _ _ _ (Body_lv (Body_mono (ih (i + 1) (mI (mI M 71 i (nI x)) 72 i (nI y)) (by omega) (by rw [mI_ne _ _ _ (by decide), mI_ne _ _ _ (by decide)]; exact h70) (fun j hj => ?_)) (fun v M' q => ⟨q.1, FrM_trans (FrM_a (FrM_a FrM_refl (by decide) (by decide)) (by decide) (by decide)) q.2.1, fun j hj => ?_, fun j hj1 hj2 => ?_⟩)) ⟨rfl, rfl, rfl, trivial⟩)
    · have := hn (61 + j) (nI x) (nI y) (by omega)
      rw [this.1, this.2]
      exact hv j hj
    · have := hn j (nI x) (nI y) (by omega)
      have q2 := q.2.2.1 j (by omega)
      rw [q2.1, q2.2]
      exact this
    · by_cases z : j = i
      · subst z
        have q2 := q.2.2.1 j (by omega)
        rw [q2.1, q2.2]
        exact ⟨by rw [mI_ne _ _ _ (by decide), mI_1, x2], by rw [mI_1, y2]⟩
      · have := hn (61 + j) (nI x) (nI y) (by omega)
        have q2 := q.2.2.2 j (by omega) hj2
        rw [q2.1, q2.2]
        exact this
theorem LnE_v {M : Mem} {u : Nat} : ∀ (ls : List Ln) (k p : Nat), p + lnL ls < 200 → LnE M u ls k p → ∀ j, k ≤ j → j < k + ls.length → (∃ v, v < 200 ∧ M.1 71 (61 * u + j) = nI v) ∧ ∃ v, v < 200 ∧ M.1 72 (61 * u + j) = nI v
  | [], k, p, _, _, j, h1, h2 => by simp only [List.length_nil] at h2; omega
  | (ts, vs) :: ls, k, p, hp, h, j, h1, h2 => by
    obtain ⟨g1, g2, g3⟩ := h
    have hp : p + (ts.length + vs.length + lnL ls) < 200 := hp
    simp only [List.length_cons] at h2
    by_cases z : j = k
    · subst z
      exact ⟨⟨_, by omega, g1⟩, ⟨_, by omega, g2⟩⟩
    · exact LnE_v ls _ _ (by omega) g3 j (by omega) (by omega)
theorem cp1 {d : Nat} {ls : List Ln} (hl : ls.length ≤ 61) (hn : lnL ls ≤ 130) (hs : sgL ls) : ∀ (k i : Nat) (M : Mem), i + k = (fltL ls).length → M.1 55 20 = nI (fltL ls).length → StpR M 130 (fltL ls) → (∀ j c, j < i → (fltL ls)[j]? = some c → M.1 68 j = nI (actN c) ∧ M.1 69 j = nI (withN c)) → M.1 70 1 = nI ls.length → LnE M 1 ls 0 0 →
    BodyK (d + 1) 192 105 [(0, .ref 55), (1, .int (cI 0)), (2, .int (nI i))] [] M (fun v M' => v = some (.int (cI (-1))) ∧ FrM [68, 69, 70, 71, 72] [] M M' ∧ RTm M' 0 ls) := by
  have hfl := fltL_len ls
  have eL := nI_v (n := (fltL ls).length) (by omega)
  have hb := sgL_b hs
  intro k
  induction k with
  | zero =>
    intro i M hi h20 hst hdone h70 hE
    have e := nI_v (n := i) (by omega)
    refine body_run 400 rfl (fun B Cl Z hZ hB hC => ?_)
    (conv => whnf); refine ⟨fun b => ?_, fun b => ?_⟩
    · (conv => whnf)
      refine ⟨nI_vp (c := 1) (by decide) (by decide), ?_⟩
      (conv => whnf)
      refine ⟨nI_vp (c := 0) (by decide) (by decide), ?_⟩
      (conv => whnf)
      simp only [kc_1, kc_0, h70]
      have h70' : (mI M 70 0 (nI ls.length)).1 70 0 = nI ls.length := mI_1 _ _ _ _
      have hv := LnE_v ls 0 0 (by omega) hE
      refine hB _ _ _ _ (Body_lv (Body_mono (cp2 (d := d) (L := ls.length) hl ls.length 0 (mI M 70 0 (nI ls.length)) (by omega) h70' (fun j hj => by rw [mI_ne _ _ _ (by decide), mI_ne _ _ _ (by decide)]; exact hv j (by omega) (by omega))) (fun v M' q => ?_)) ⟨rfl, rfl, rfl, trivial⟩)
      obtain ⟨q1, q2, q3, q4⟩ := q
      have k68 : M'.1 68 = M.1 68 := (FrM_c q2 (by decide) (by decide)).trans (mI_ne _ _ _ (by decide))
      have k69 : M'.1 69 = M.1 69 := (FrM_c q2 (by decide) (by decide)).trans (mI_ne _ _ _ (by decide))
      have k70 : M'.1 70 0 = nI ls.length := by rw [FrM_c q2 (by decide) (by decide)]; exact h70'
      refine ⟨q1, FrM_trans (FrM_a FrM_refl (by decide) (by decide)) (FrM_sub q2 (by decide) (by decide)), k70, hl, ⟨hn, sgL_T hs⟩, LnR_of ls 0 0 (fun j c hc => ?_) (LnE_e (u := 1) ls 0 0 (fun j _ hj => ?_) hE)⟩
      · have hj := (List.getElem?_eq_some_iff.mp hc).1
        rw [k68, k69, show 130 * 0 + 0 + j = j by omega]
        exact hdone j c (by omega) hc
      · have := q4 j (by omega) (by omega)
        rw [show 61 * 0 + j = j by omega, this.1, this.2]
        exact ⟨by rw [mI_ne _ _ _ (by decide)], by rw [mI_ne _ _ _ (by decide)]⟩
    · replace b : ¬ cnd .ge (nI i) (M.1 55 20) := b
      rw [h20, c_ge, e, eL] at b
      omega
  | succ k ih =>
    intro i M hi h20 hst hdone h70 hE
    have e := nI_v (n := i) (by omega)
    have v1 : vp_in (nI i) 260 := nI_vp (by omega) (by decide)
    have ei : cI 130 + nI i = nI (130 + i) := nI_add 130 i
    have v2 : vp_in (nI (130 + i)) 260 := nI_vp (by omega) (by decide)
    have c1 := nI_c (n := i) (by omega)
    have c2 := nI_c (n := 130 + i) (by omega)
    have hil : i < (fltL ls).length := by omega
    have hx := List.getElem?_eq_getElem hil
    have hop := hst i _ hx
    have hca := hb _ (List.mem_of_getElem? hx)
    have en : vp_nar .byte (nI (actN (fltL ls)[i])) = nI (actN (fltL ls)[i]) := nI_b hca
    generalize hcc : (fltL ls)[i] = c at hop hca en hx
    refine body_run 400 rfl (fun B Cl Z hZ hB hC => ?_)
    (conv => whnf); refine ⟨fun b => ?_, fun b => ?_⟩
    · replace b : cnd .ge (nI i) (M.1 55 20) := b
      rw [h20, c_ge, e, eL] at b
      omega
    have y2' : (mI M 68 i (nI (actN c))).1 69 (130 + i) = nI (withN c) := by rw [mI_ne _ _ _ (by decide)]; exact hop.2
    (conv => whnf)
    (try simp only [Nat.reduceMod, cp_ix, ei, c1, c2, hop.1, en, y2', nI_i1])
    refine ⟨v2, ?_⟩
    (conv => whnf)
    (try simp only [Nat.reduceMod, cp_ix, ei, c1, c2, hop.1, en, y2', nI_i1])
    refine ⟨v1, ?_⟩
    (conv => whnf)
    (try simp only [Nat.reduceMod, cp_ix, ei, c1, c2, hop.1, en, y2', nI_i1])
    refine ⟨v2, ?_⟩
    (conv => whnf)
    (try simp only [Nat.reduceMod, cp_ix, ei, c1, c2, hop.1, en, y2', nI_i1])
    refine ⟨v1, ?_⟩
    (conv => whnf)
    (try simp only [Nat.reduceMod, cp_ix, ei, c1, c2, hop.1, en, y2', nI_i1])
    have hn2 : ∀ j v w, ¬ j = i → (mI (mI M 68 i v) 69 i w).1 68 j = M.1 68 j ∧ (mI (mI M 68 i v) 69 i w).1 69 j = M.1 69 j := fun j v w hj => ⟨by rw [mI_ne _ _ _ (by decide), mI_2 _ _ hj], by rw [mI_2 _ _ hj, mI_ne _ _ _ (by decide)]⟩
    refine hB _ _ _ _ (Body_lv (Body_mono (ih (i + 1) (mI (mI M 68 i (nI (actN c))) 69 i (nI (withN c))) (by omega) (by rw [mI_ne _ _ _ (by decide), mI_ne _ _ _ (by decide)]; exact h20) (fun j c' hc => ?_) (fun j c' hj hc => ?_) (by rw [mI_ne _ _ _ (by decide), mI_ne _ _ _ (by decide)]; exact h70) (LnE_e ls 0 0 (fun j _ _ => ⟨by rw [mI_ne _ _ _ (by decide), mI_ne _ _ _ (by decide)], by rw [mI_ne _ _ _ (by decide), mI_ne _ _ _ (by decide)]⟩) hE)) (fun v M' q => ⟨q.1, FrM_trans (FrM_a (FrM_a FrM_refl (by decide) (by decide)) (by decide) (by decide)) q.2.1, q.2.2⟩)) ⟨rfl, rfl, rfl, trivial⟩)
    · have := hn2 (130 + j) (nI (actN c)) (nI (withN c)) (by omega)
      rw [this.1, this.2]
      exact hst j c' hc
    · by_cases z : j = i
      · subst z
        rw [hx] at hc
        cases hc
        exact ⟨by rw [mI_ne _ _ _ (by decide), mI_1], by rw [mI_1]⟩
      · have := hn2 j (nI (actN c)) (nI (withN c)) z
        rw [this.1, this.2]
        exact hdone j c' (by omega) hc
theorem rd_bad {d p n : Nat} {M : Mem} {t : List Nat} (h : MFlt M t p n) : BodyK (d + 1) 192 31 [(0, .ref 55), (1, .int (cI 0))] [] M (RdQ M (p, none)) := by
  have h18 : (mI M 55 16 (cI 0)).1 55 18 = nI p := by rw [mI_2 _ _ (by decide)]; exact h.2.2.2.1
  have fin : RdQ M (p, none) (some (.int (nI p))) (mI M 55 16 (cI 0)) := ⟨(FrR_s (by decide)).1, mI_1 _ _ _ _, rfl, FrR_s (by decide), by have := h.2.2.1; have := h.1.2.1; show p ≤ 120; omega⟩
  refine body_run 400 rfl (fun B Cl Z hZ hB hC => ?_)
  (conv => whnf); refine ⟨fun b => ?_, fun b => ?_⟩
  case' refine_2 => exact absurd (rd_fl h) b
  (conv => whnf); refine ⟨fun c => ?_, fun c => ?_⟩
  case' refine_2 => exact absurd (rd_fl h) c
  (conv => whnf); refine ⟨fun g => ?_, fun g => ?_⟩
  · replace g : cnd .lt ((mI M 55 16 (cI 0)).1 55 18) 0 := g
    rw [mI_2 _ _ (by decide)] at g
    exact absurd g (rd_nl h)
  · conv => whnf
    show Z (some (.int ((mI M 55 16 (cI 0)).1 55 18))) (mI M 55 16 (cI 0))
    rw [h18]
    exact hZ _ _ fin
theorem rd_head {d : Nat} {t : List Nat} : ∀ (k p : Nat) (ls : List Ln) (M : Mem), 121 ≤ k + p → ML M t p ls → (fltL ls).length ≤ p → 2 * ls.length ≤ p + 1 → sgL ls →
    BodyK (d + 58) 192 31 [(0, .ref 55), (1, .int (cI 0))] [] M (RdQ M (tlL t k p ls)) := by
  intro k
  induction k with
  | zero =>
    intro p ls M hk h hl h2 hs
    have := h.1.1.2.1
    have := h.1.2.2.1
    omega
  | succ k ih =>
    intro p ls M hk h hl h2 hs
    have hR := h.1
    have ht := hR.1.2.2
    have h120 := hR.1.2.1
    have hle := hR.2.2.1
    have h17 := hR.2.1
    have h16 : M.1 55 16 = nI t.length := hR.1.1.1
    have ep := nI_v (n := p) (by omega)
    have et := nI_v (n := t.length) (by omega)
    refine body_run 400 rfl (fun B Cl Z hZ hB hC => ?_)
    (conv => whnf); refine ⟨fun b => ?_, fun b => ?_⟩
    · exact absurd b (rd_nf hR)
    (conv => whnf); refine ret_k hC (m_look hR.1 h17 hle) ?_
    (conv => whnf); refine ⟨fun x => ?_, fun x => ?_⟩
    · replace x : cnd .ne (lkI t p) (cI 59) := x
      rw [c_ne, lk_v ht, kv_59] at x
      have x := (not_congr (lk_k (t := t) (a := p) (k := 59) (by decide))).mp x
      (conv => whnf); refine ⟨fun c => ?_, fun c => ?_⟩
      · exact absurd c (rd_nf hR)
      (conv => whnf); refine ⟨fun g => ?_, fun g => ?_⟩
      · replace g : cnd .ge (M.1 55 17) (M.1 55 16) := g
        rw [h17, h16, c_ge, ep, et] at g
        have e9 : tlL t (k + 1) p ls = (p, some ls) := if_pos (by omega)
        rw [e9] at hZ hB
        (conv => whnf); refine ⟨fun f => ?_, fun f => ?_⟩
        case' refine_2 => exact absurd (show cnd .lt ((mI M 55 16 (cI 0)).1 55 18) 0 by rw [mI_2 _ _ (by decide)]; exact rd_lt hR) f
        (conv => whnf)
        have hfl := fltL_len ls
        refine hB _ _ _ _ (Body_lv (Body_mono (cp1 (d := d + 57) (ls := ls) (by omega) (by omega) hs (fltL ls).length 0 (mI M 55 16 (cI 0)) (by omega) (by rw [mI_2 _ _ (by decide)]; exact hR.2.2.2.2.2.1) (StpR_s hR.2.2.2.2.2.2) (fun j c hj => by omega) (by rw [mI_ne _ _ _ (by decide)]; exact h.2.1) (LnE_e ls 0 0 (fun j _ _ => ⟨by rw [mI_ne _ _ _ (by decide)], by rw [mI_ne _ _ _ (by decide)]⟩) h.2.2)) (fun v M' q => ?_)) ⟨rfl, rfl, rfl, trivial⟩)
        obtain ⟨q1, q2, q3⟩ := q
        refine ⟨FrM_trans (FrM_s FrM_refl (by decide)) (FrM_sub q2 (by decide) (by decide)), ?_, q1, q3⟩
        rw [FrM_j q2 16 (by decide), mI_1]
        rfl
      · replace g : ¬ cnd .ge (M.1 55 17) (M.1 55 16) := g
        rw [h17, h16, c_ge, ep, et] at g
        have e9 : tlL t (k + 1) p ls = (p, none) := by unfold tlL; rw [if_neg (by omega), if_neg x]
        rw [e9] at hZ
        (conv => whnf)
        refine hC _ _ _ _ _ (m_wrong hR) (fun v M1 q => ?_)
        obtain ⟨rfl, q2, q3⟩ := q
        have h18 : (mI M1 55 16 (cI 0)).1 55 18 = nI p := by rw [mI_2 _ _ (by decide)]; exact q2.2.2.2.1
        (conv => whnf); refine ⟨fun f => ?_, fun f => ?_⟩
        · replace f : cnd .lt ((mI M1 55 16 (cI 0)).1 55 18) 0 := f
          rw [mI_2 _ _ (by decide)] at f
          exact absurd f (rd_nl q2)
        · conv => whnf
          show Z (some (.int ((mI M1 55 16 (cI 0)).1 55 18))) (mI M1 55 16 (cI 0))
          rw [h18]
          have hF : FrR M (mI M1 55 16 (cI 0)) := FrR_trans (FrR_E q3) (FrR_s (by decide))
          exact hZ _ _ ⟨hF.1, mI_1 _ _ _ _, rfl, hF, by show p ≤ 120; omega⟩
    · replace x : ¬ cnd .ne (lkI t p) (cI 59) := x
      rw [c_ne, lk_v ht, kv_59] at x
      have x := (lk_k (t := t) (a := p) (k := 59) (by decide)).mp (Classical.not_not.mp x)
      have hpl := (List.getElem?_eq_some_iff.mp x).1
      have e9 : tlL t (k + 1) p ls = (match pline t (p + 1) with
          | (q, none) => (q, none)
          | (q, some l) => tlL t k q (ls ++ [l])) := by
        unfold tlL
        rw [if_neg (by omega), if_pos x]
        rfl
      rw [e9] at hB
      have hf := pline_fine (t := t) (a := p + 1) hpl
      have hM1 : ML (mI M 55 17 (nI (p + 1))) t (p + 1) ls := ⟨MR_at hR hpl, by rw [mI_ne _ _ _ (by decide)]; exact h.2.1, LnE_e ls 0 0 (fun j _ _ => ⟨by rw [mI_ne _ _ _ (by decide)], by rw [mI_ne _ _ _ (by decide)]⟩) h.2.2⟩
      (conv => whnf)
      simp only [Nat.reduceMod, h17, nI_i1]
      refine hC _ _ _ _ _ (m_line (by omega) hM1 (by omega) (by omega)) (fun v M2 q => ?_)
      obtain ⟨rfl, q2, q3⟩ := q
      have hF : FrR M M2 := FrR_trans (FrR_s (by decide)) q2
      have hsg := fun l => pline_sg (t := t) (a := p + 1) (l := l)
      (conv => whnf)
      cases hr : pline t (p + 1) with
      | mk q oc =>
        rw [hr] at q3 hf hB hsg
        rcases q3 with ⟨l, e, q4⟩ | ⟨e, n, q4⟩
        · cases (show oc = some l from e)
          obtain ⟨f1, f2, f3⟩ := hf
          have f4 := f3 l rfl
          replace f1 : p + 1 ≤ q := f1
          replace f4 : (encL l).length + (p + 1) ≤ q + 1 ∧ p + 1 + 1 ≤ q := f4
          have f5 : (l.1 ++ l.2).length + 1 ≤ (encL l).length := by
            obtain ⟨l1, l2⟩ := l
            unfold encL
            cases l1 with
            | nil => simp
            | cons c l1 => simp; omega
          refine hB _ _ _ _ (Body_lv (Body_mono (ih q (ls ++ [l]) M2 (by omega) q4 (by rw [fltL_snoc, List.length_append]; omega) (by rw [List.length_append, List.length_singleton]; omega) (fun y hy => ?_)) (fun v M' z => RdQ_tr hF z)) ⟨rfl, rfl, trivial⟩)
          rcases List.mem_append.mp hy with z | z
          · exact hs y z
          · rw [List.mem_singleton] at z
            subst z
            exact hsg _ rfl
        · refine hB _ _ _ _ (Body_lv (Body_mono (rd_bad (d := d + 57) q4) (fun v M' z => ?_)) ⟨rfl, rfl, trivial⟩)
          have : (match (q, oc) with
            | (q, none) => (q, none)
            | (q, some l) => tlL t k q (ls ++ [l]) : Nat × Option (List Ln)) = (q, none) := by
            cases oc with
            | none => rfl
            | some l =>
              obtain ⟨y, hy, y1, y2⟩ : dgt t q := e.resolve_left (fun w => by cases w)
              have hql := (List.getElem?_eq_some_iff.mp hy).1
              show tlL t k q (ls ++ [l]) = _
              unfold tlL
              rw [if_neg (by omega), if_neg (fun w => by rw [hy] at w; cases w; omega)]
          show RdQ M (match (q, oc) with
            | (q, none) => (q, none)
            | (q, some l) => tlL t k q (ls ++ [l]) : Nat × Option (List Ln)) v M'
          rw [this]
          exact RdQ_tr hF z
theorem m_read {d : Nat} {t : List Nat} {M : Mem} (h : MT M t) : Call (d + 58) 192 [.ref 55, .int (cI 0)] M (RdQ M (ptext t 121 0 [])) := by
  have h120 := h.2.1
  rw [ptext_s]
  refine call_run 400 rfl rfl (fun B Cl Z hZ hB hC => ?_)
  (conv => whnf)
  refine ⟨nI_vp (c := 1) (by decide) (by decide), ?_⟩
  (conv => whnf)
  show Cl 191 [.ref 55] (mI (mI (mI (mI (mI M 55 17 (cI 0)) 55 18 (cI (-1))) 55 19 (cI 0)) 55 20 (cI 0)) 70 (cI 1).toNatClampNeg (cI 0)) _
  rw [kc_1]
  have hM1 : ML (mI (mI (mI (mI (mI M 55 17 (cI 0)) 55 18 (cI (-1))) 55 19 (cI 0)) 55 20 (cI 0)) 70 1 (cI 0)) t 0 [] := by
    refine ⟨MR_70 ⟨MT_s (MT_s (MT_s (MT_s h (by decide)) (by decide)) (by decide)) (by decide), ?_, Nat.zero_le _, ?_, ?_, mI_1 _ _ _ _, fun i c q => by cases q⟩, mI_1 _ _ _ _, trivial⟩
    · rw [mI_2 _ _ (by decide), mI_2 _ _ (by decide), mI_2 _ _ (by decide), mI_1]; rfl
    · rw [mI_2 _ _ (by decide), mI_2 _ _ (by decide), mI_1]
    · rw [mI_2 _ _ (by decide), mI_1]; rfl
  have hF1 : FrR M (mI (mI (mI (mI (mI M 55 17 (cI 0)) 55 18 (cI (-1))) 55 19 (cI 0)) 55 20 (cI 0)) 70 1 (cI 0)) := FrR_trans (FrR_s (by decide)) (FrR_trans (FrR_s (by decide)) (FrR_trans (FrR_s (by decide)) (FrR_trans (FrR_s (by decide)) FrR_70)))
  generalize mI (mI (mI (mI (mI M 55 17 (cI 0)) 55 18 (cI (-1))) 55 19 (cI 0)) 55 20 (cI 0)) 70 1 (cI 0) = M1 at hM1 hF1 ⊢
  have hf := pline_fine (t := t) (a := 0) (Nat.zero_le _)
  have hsg := fun l => pline_sg (t := t) (a := 0) (l := l)
  refine hC _ _ _ _ _ (m_line (by omega) hM1 (Nat.zero_le _) (by simp)) (fun v M2 q => ?_)
  obtain ⟨rfl, q2, q3⟩ := q
  have hF : FrR M M2 := FrR_trans hF1 q2
  (conv => whnf)
  cases hr : pline t 0 with
  | mk q oc =>
    rw [hr] at q3 hf hB hsg
    rcases q3 with ⟨l, e, q4⟩ | ⟨e, n, q4⟩
    · cases (show oc = some l from e)
      obtain ⟨f1, f2, f3⟩ := hf
      have f4 := f3 l rfl
      replace f4 : (encL l).length + 0 ≤ q + 1 ∧ 0 + 1 ≤ q := f4
      have f5 : (l.1 ++ l.2).length + 1 ≤ (encL l).length := by
        obtain ⟨l1, l2⟩ := l
        unfold encL
        cases l1 with
        | nil => simp
        | cons c l1 => simp; omega
      refine hB _ _ _ _ (Body_lv (Body_mono (rd_head 120 q ([] ++ [l]) M2 (by omega) q4 (by rw [fltL_snoc, List.length_append]; show 0 + _ ≤ q; omega) (by simp; omega) (fun y hy => ?_)) (fun v M' z => RdQ_tr hF z)) ⟨rfl, rfl, trivial⟩)
      rw [List.nil_append, List.mem_singleton] at hy
      subst hy
      exact hsg _ rfl
    · refine hB _ _ _ _ (Body_lv (Body_mono (rd_bad (d := d + 57) q4) (fun v M' z => ?_)) ⟨rfl, rfl, trivial⟩)
      have : (match (q, oc) with
        | (q, none) => (q, none)
        | (q, some l) => tlL t 120 q ([] ++ [l]) : Nat × Option (List Ln)) = (q, none) := by
        cases oc with
        | none => rfl
        | some l =>
          obtain ⟨y, hy, y1, y2⟩ : dgt t q := e.resolve_left (fun w => by cases w)
          have hql := (List.getElem?_eq_some_iff.mp hy).1
          show tlL t 120 q ([] ++ [l]) = _
          unfold tlL
          rw [if_neg (by omega), if_neg (fun w => by rw [hy] at w; cases w; omega)]
      show RdQ M (match (q, oc) with
        | (q, none) => (q, none)
        | (q, some l) => tlL t 120 q ([] ++ [l]) : Nat × Option (List Ln)) v M'
      rw [this]
      exact RdQ_tr hF z
theorem m_law {d : Nat} {M : Mem} {s : St} (h : RM M s) (hv : inv s) : Call (d + 60) 196 [.ref 55] M (QP M (.int (aLaw s).1) (aLaw s).2) := by
  obtain ⟨h1, h2, h3, h4, h5, h6, h7, h8, h9, h10⟩ := id h
  have hT : MT M (sTp s) := ⟨h6, hv.2.2.2.2.2.2.1⟩
  refine call_run 400 rfl rfl (fun B Cl Z hZ hB hC => ?_)
  (conv => whnf)
  refine hC _ _ _ _ _ (m_read (d := d + 1) hT) (fun v M1 q => ?_)
  obtain ⟨q1, q2, q3⟩ := q
  match hp : ptext (sTp s) 121 0 [], q3 with
  | (e, some ls), q3 =>
    obtain ⟨rfl, q4⟩ := q3
    have e9 : aLaw s = (cI 1, wL (wTp s []) (some ls)) := by unfold aLaw; rw [hp]
    rw [e9] at hZ
    (conv => whnf); refine ⟨fun g => ?_, fun g => absurd (show cnd .lt (cI (-1)) 0 by rw [c_lt]; decide) g⟩
    (conv => whnf)
    refine ⟨Or.inr rfl, ?_⟩
    conv => whnf
    have hf : FrM [68, 69, 70, 71, 72] [16, 17, 18, 19, 20, 28] M (mI M1 55 28 (cI 1)) := FrM_s (FrM_sub q1 (by decide) (by decide)) (by decide)
    refine hZ _ _ ⟨rfl, RM_st h hf (RMk_fr h1 hf (by decide) (by decide)) (RMn_f h2 hf (by decide)) (RMd_f h4 hf (by decide)) (RMi_f h5 hf (by decide) (by decide)) ⟨by rw [mI_2 _ _ (by decide)]; exact q2, fun i c y => by cases y⟩ (RMb_f h7 hf (by decide) (by decide)) (RMr_f h8 hf (by decide) (by decide)) (RMs_f h9 hf (by decide)) (RMc_f h10 hf (by decide) (by decide)) ⟨mI_1 _ _ _ _, RTm_fr q4 (mI_ne _ _ _ (by decide)) (mI_ne _ _ _ (by decide)) (mI_ne _ _ _ (by decide)) (mI_ne _ _ _ (by decide)) (mI_ne _ _ _ (by decide))⟩, Fr_sub hf.1 (by decide)⟩
  | (e, none), q3 =>
    obtain ⟨rfl, q4, he⟩ := q3
    replace he : e ≤ 120 := he
    have e9 : aLaw s = (cI (-100) - nI e, wTp s []) := by unfold aLaw; rw [hp]
    rw [e9] at hZ
    have en := nI_v (n := e) (by omega)
    (conv => whnf); refine ⟨fun g => absurd (show cnd .lt (nI e) 0 from g) (by rw [c_lt, en, t0]; omega), fun g => ?_⟩
    conv => whnf
    have hf := q4.1
    exact hZ _ _ ⟨rfl, RM_st h hf (RMk_fr h1 hf (by decide) (by decide)) (RMn_f h2 hf (by decide)) (RMd_f h4 hf (by decide)) (RMi_f h5 hf (by decide) (by decide)) ⟨q2, fun i c y => by cases y⟩ (RMb_f h7 hf (by decide) (by decide)) (RMr_f h8 hf (by decide) (by decide)) (RMs_f h9 hf (by decide)) (RMc_f h10 hf (by decide) (by decide)) (RMl_R h3 q4), Fr_sub hf.1 (by decide)⟩
