/-! the reference: lines, a text read, its law -/
def FrR (M M' : Mem) : Prop := FrM [68, 69, 70, 71, 72] [16, 17, 18, 19, 20] M M' ∧ (∀ j, j < 130 → M'.1 68 j = M.1 68 j ∧ M'.1 69 j = M.1 69 j) ∧ (∀ j, j < 61 → M'.1 71 j = M.1 71 j ∧ M'.1 72 j = M.1 72 j) ∧ M'.1 70 0 = M.1 70 0
theorem FrR_refl {M : Mem} : FrR M M := ⟨FrM_refl, fun _ _ => ⟨rfl, rfl⟩, fun _ _ => ⟨rfl, rfl⟩, rfl⟩
theorem FrR_trans {M M1 M2 : Mem} (h1 : FrR M M1) (h2 : FrR M1 M2) : FrR M M2 :=
  ⟨FrM_trans h1.1 h2.1, fun j hj => ⟨(h2.2.1 j hj).1.trans (h1.2.1 j hj).1, (h2.2.1 j hj).2.trans (h1.2.1 j hj).2⟩, fun j hj => ⟨(h2.2.2.1 j hj).1.trans (h1.2.2.1 j hj).1, (h2.2.2.1 j hj).2.trans (h1.2.2.1 j hj).2⟩, h2.2.2.2.trans h1.2.2.2⟩
theorem FrR_E {M M1 : Mem} (h : FrE M M1) : FrR M M1 :=
  ⟨FrM_sub h.1 (by decide) (by decide), h.2, fun j _ => ⟨by rw [FrM_c h.1 (by decide) (by decide)], by rw [FrM_c h.1 (by decide) (by decide)]⟩, by rw [FrM_c h.1 (by decide) (by decide)]⟩
theorem FrR_s {M : Mem} {j : Nat} {v : Int32} (hj : ([16, 17, 18, 19, 20] : List Nat).contains j = true) : FrR M (mI M 55 j v) :=
  ⟨FrM_s FrM_refl hj, fun i _ => ⟨by rw [mI_ne _ _ _ (by decide)], by rw [mI_ne _ _ _ (by decide)]⟩, fun i _ => ⟨by rw [mI_ne _ _ _ (by decide)], by rw [mI_ne _ _ _ (by decide)]⟩, by rw [mI_ne _ _ _ (by decide)]⟩
theorem FrR_71 {M : Mem} {L : Nat} {v : Int32} : FrR M (mI M 71 (61 + L) v) :=
  ⟨FrM_a FrM_refl (by decide) (by decide), fun i _ => ⟨by rw [mI_ne _ _ _ (by decide)], by rw [mI_ne _ _ _ (by decide)]⟩, fun i _ => ⟨by rw [mI_2 _ _ (by omega)], by rw [mI_ne _ _ _ (by decide)]⟩, by rw [mI_ne _ _ _ (by decide)]⟩
theorem FrR_72 {M : Mem} {L : Nat} {v : Int32} : FrR M (mI M 72 (61 + L) v) :=
  ⟨FrM_a FrM_refl (by decide) (by decide), fun i _ => ⟨by rw [mI_ne _ _ _ (by decide)], by rw [mI_ne _ _ _ (by decide)]⟩, fun i _ => ⟨by rw [mI_ne _ _ _ (by decide)], by rw [mI_2 _ _ (by omega)]⟩, by rw [mI_ne _ _ _ (by decide)]⟩
theorem FrR_70 {M : Mem} {v : Int32} : FrR M (mI M 70 1 v) :=
  ⟨FrM_a FrM_refl (by decide) (by decide), fun i _ => ⟨by rw [mI_ne _ _ _ (by decide)], by rw [mI_ne _ _ _ (by decide)]⟩, fun i _ => ⟨by rw [mI_ne _ _ _ (by decide)], by rw [mI_ne _ _ _ (by decide)]⟩, by rw [mI_2 _ _ (by decide)]⟩
def LnE (M : Mem) (u : Nat) : List Ln → Nat → Nat → Prop
  | [], _, _ => True
  | (ts, vs) :: ls, k, p => M.1 71 (61 * u + k) = nI (p + ts.length) ∧ M.1 72 (61 * u + k) = nI (p + ts.length + vs.length) ∧ LnE M u ls (k + 1) (p + ts.length + vs.length)
def fltL (ls : List Ln) : List Nat := ls.flatMap (fun l => l.1 ++ l.2)
theorem fltL_len : ∀ (ls : List Ln), (fltL ls).length = lnL ls
  | [] => rfl
  | (ts, vs) :: ls => by
    show ((ts ++ vs) ++ fltL ls).length = ts.length + vs.length + lnL ls
    rw [List.length_append, List.length_append, fltL_len ls]
theorem fltL_snoc (ls : List Ln) (l : Ln) : fltL (ls ++ [l]) = fltL ls ++ (l.1 ++ l.2) := by simp [fltL]
theorem LnE_e {M M' : Mem} {u v : Nat} : ∀ (ls : List Ln) (k p : Nat), (∀ j, k ≤ j → j < k + ls.length → M'.1 71 (61 * v + j) = M.1 71 (61 * u + j) ∧ M'.1 72 (61 * v + j) = M.1 72 (61 * u + j)) → LnE M u ls k p → LnE M' v ls k p
  | [], _, _, _, _ => trivial
  | (ts, vs) :: ls, k, p, e, h => by
    obtain ⟨h1, h2, h3⟩ := h
    have e0 := e k (Nat.le_refl _) (by simp)
    exact ⟨by rw [e0.1]; exact h1, by rw [e0.2]; exact h2, LnE_e ls _ _ (fun j a b => e j (by omega) (by simp only [List.length_cons]; omega)) h3⟩
theorem LnE_snoc {M : Mem} {u : Nat} {l : Ln} : ∀ (ls : List Ln) (k p : Nat), LnE M u ls k p → M.1 71 (61 * u + (k + ls.length)) = nI (p + lnL ls + l.1.length) → M.1 72 (61 * u + (k + ls.length)) = nI (p + lnL ls + l.1.length + l.2.length) → LnE M u (ls ++ [l]) k p
  | [], k, p, _, h1, h2 => by
    obtain ⟨ts, vs⟩ := l
    exact ⟨h1, h2, trivial⟩
  | (ts, vs) :: ls, k, p, h, h1, h2 => by
    obtain ⟨g1, g2, g3⟩ := h
    have e1 : k + ((ts, vs) :: ls).length = k + 1 + ls.length := by simp only [List.length_cons]; omega
    have e2 : p + lnL ((ts, vs) :: ls) = p + ts.length + vs.length + lnL ls := by show p + (ts.length + vs.length + lnL ls) = _; omega
    rw [e1, e2] at h1 h2
    exact ⟨g1, g2, LnE_snoc ls _ _ g3 h1 h2⟩
theorem StpR_app {M : Mem} {b : Nat} {xs ys : List Nat} (h : StpR M b (xs ++ ys)) : StpR M b xs ∧ StpR M (b + xs.length) ys := by
  refine ⟨fun i c hc => ?_, fun i c hc => ?_⟩
  · have := (List.getElem?_eq_some_iff.mp hc).1
    exact h i c (by rw [List.getElem?_append_left this]; exact hc)
  · rw [Nat.add_assoc]
    exact h (xs.length + i) c (by rw [List.getElem?_append_right (by omega), Nat.add_sub_cancel_left]; exact hc)
theorem LnR_of {M : Mem} {u : Nat} : ∀ (ls : List Ln) (k p : Nat), StpR M (130 * u + p) (fltL ls) → LnE M u ls k p → LnR M u ls k p
  | [], _, _, _, _ => trivial
  | (ts, vs) :: ls, k, p, hs, h => by
    obtain ⟨h1, h2, h3⟩ := h
    have hs : StpR M (130 * u + p) (ts ++ vs ++ fltL ls) := hs
    obtain ⟨s1, s3⟩ := StpR_app hs
    obtain ⟨s1, s2⟩ := StpR_app s1
    rw [List.length_append] at s3
    refine ⟨s1, h1, ?_, h2, LnR_of ls _ _ ?_ h3⟩
    · rw [show 130 * u + (p + ts.length) = 130 * u + p + ts.length by omega]; exact s2
    · rw [show 130 * u + (p + ts.length + vs.length) = 130 * u + p + (ts.length + vs.length) by omega]; exact s3
theorem LnR_lo {M M' : Mem} (h : FrR M M') : ∀ (ls : List Ln) (k p : Nat), k + ls.length ≤ 61 → p + lnL ls ≤ 130 → LnR M 0 ls k p → LnR M' 0 ls k p
  | [], _, _, _, _, _ => trivial
  | (ts, vs) :: ls, k, p, hk, hp, g => by
    obtain ⟨g1, g2, g3, g4, g5⟩ := g
    have hp : p + (ts.length + vs.length + lnL ls) ≤ 130 := hp
    simp only [List.length_cons] at hk
    refine ⟨fun i c hc => ?_, ?_, fun i c hc => ?_, ?_, LnR_lo h ls _ _ (by omega) (by omega) g5⟩
    · have := (List.getElem?_eq_some_iff.mp hc).1
      have e := h.2.1 (130 * 0 + p + i) (by omega)
      rw [e.1, e.2]
      exact g1 i c hc
    · rw [(h.2.2.1 (61 * 0 + k) (by omega)).1]; exact g2
    · have := (List.getElem?_eq_some_iff.mp hc).1
      have e := h.2.1 (130 * 0 + (p + ts.length) + i) (by omega)
      rw [e.1, e.2]
      exact g3 i c hc
    · rw [(h.2.2.1 (61 * 0 + k) (by omega)).2]; exact g4
theorem RMl_R {M M' : Mem} {o : Option (List Ln)} (h : RMl M o) (hf : FrR M M') : RMl M' o := by
  match o, h with
  | none, h => exact (FrM_j hf.1 28 (by decide)).trans h
  | some ls, h =>
    obtain ⟨h0, h1, h2, h3, h4⟩ := h
    exact ⟨(FrM_j hf.1 28 (by decide)).trans h0, hf.2.2.2.trans h1, h2, h3, LnR_lo hf ls 0 0 (by omega) (by have := h3.1; omega) h4⟩
/-- signs, exactly -/
def sgS (c : Nat) : Prop := c < 10006 ∨ c = 10043 ∨ c = 10136 ∨ ∃ x, c = 10010 + x ∧ lvO x < 5
theorem lv_rng {x : Nat} (h : lvO x < 5) : x = 124 ∨ x = 38 ∨ x = 60 ∨ x = 61 ∨ x = 62 ∨ x = 43 ∨ x = 45 ∨ x = 42 ∨ x = 47 ∨ x = 37 := by
  unfold lvO at h
  repeat' split at h
  all_goals omega
theorem sgS_C {c : Nat} (h : sgS c) : sgC c ∧ actN c < 128 := by
  rcases h with h | h | h | ⟨x, h, hx⟩
  · refine ⟨Or.inl h, ?_⟩
    unfold actN
    repeat' split
    all_goals omega
  · subst h; exact ⟨Or.inr (Or.inl rfl), by decide⟩
  · subst h; exact ⟨Or.inr (Or.inr (Or.inl rfl)), by decide⟩
  · have := lv_rng hx
    have h2 := act_sg hx
    subst h
    exact ⟨Or.inr (Or.inr (Or.inr ⟨by omega, by omega, by omega, by omega⟩)), by omega⟩
theorem lp_sg {t : List Nat} {f : Nat → PR} {m : Nat} (hm : m < 5) (hf : ∀ a ds, (f a).2 = some ds → ∀ c ∈ ds, sgS c) : ∀ (k p : Nat) (cs : List Nat), (∀ c ∈ cs, sgS c) → ∀ ds, (lp t f m k p cs).2 = some ds → ∀ c ∈ ds, sgS c
  | 0, p, cs, h, ds, q => by cases q; exact h
  | k + 1, p, cs, h, ds, q => by
    unfold lp at q
    split at q
    · next c hc =>
      split at q
      · next hl =>
        have hh := hf (p + 1)
        split at q
        · next r es hr =>
          rw [hr] at hh
          have h2 := hh es rfl
          refine lp_sg hm hf k r _ (fun x hx => ?_) ds q
          rcases List.mem_append.mp hx with y | y
          · rcases List.mem_append.mp y with y | y
            · exact h x y
            · exact h2 x y
          · rw [List.mem_singleton] at y
            exact Or.inr (Or.inr (Or.inr ⟨c, y, by omega⟩))
        · cases q
      · cases q; exact h
    · cases q; exact h
theorem pz_sg {t : List Nat} : ∀ (n m o a : Nat), ∀ ds, (pz t n m o a).2 = some ds → ∀ c ∈ ds, sgS c
  | 0, m, o, a, ds, q => by cases q
  | n + 1, m, o, a, ds, q => by
    unfold pz at q
    split at q
    · next hm5 =>
      have h1 := pz_sg (t := t) n (m + 1) o
      split at q
      · cases q
      · next p cs hp =>
        have h2 := h1 a
        rw [hp] at h2
        exact lp_sg hm5 h1 _ p cs (h2 cs rfl) ds q
    · split at q
      · cases q
      · next c hc =>
        split at q
        · cases q
          have := dg_v (t := t) 4 a 0 1 (by omega)
          intro x hx
          rw [List.mem_singleton] at hx
          exact Or.inl (by omega)
        split at q
        · cases q
          have := fnd_rng c 6 0 (by omega)
          intro x hx
          rw [List.mem_singleton] at hx
          exact Or.inl (by omega)
        split at q
        · split at q
          · have h2 := pz_sg (t := t) n 5 (o + 1) (a + 1)
            split at q
            · next p cs hp =>
              rw [hp] at h2
              cases q
              intro x hx
              rcases List.mem_append.mp hx with y | y
              · exact h2 cs rfl x y
              · rw [List.mem_singleton] at y
                split at y
                · exact Or.inr (Or.inl y)
                · exact Or.inr (Or.inr (Or.inl y))
            · cases q
          · cases q
        split at q
        · split at q
          · have h2 := pz_sg (t := t) n 0 (o + 1) (a + 1)
            split at q
            · next p cs hp =>
              rw [hp] at h2
              split at q
              · cases q
                exact h2 _ rfl
              · cases q
            · cases q
          · cases q
        · cases q
def sgL (ls : List Ln) : Prop := ∀ l ∈ ls, (∀ c ∈ l.1, sgS c) ∧ ∀ c ∈ l.2, sgS c
theorem pline_sg {t : List Nat} {a : Nat} {l : Ln} (h : (pline t a).2 = some l) : (∀ c ∈ l.1, sgS c) ∧ ∀ c ∈ l.2, sgS c := by
  have h1 := pz_sg (t := t) 48 0 0
  unfold pline at h
  split at h
  · cases h
  · next p cs hp =>
    have h2 := h1 a
    rw [hp] at h2
    split at h
    · have h3 := h1 (p + 1)
      split at h
      · next q ds hq =>
        rw [hq] at h3
        cases h
        exact ⟨h2 cs rfl, h3 ds rfl⟩
      · cases h
    · cases h
      exact ⟨fun c hc => absurd hc List.not_mem_nil, h2 cs rfl⟩
theorem sgL_T {ls : List Ln} (h : sgL ls) : sgT ls := fun l hl => ⟨fun c hc => (sgS_C ((h l hl).1 c hc)).1, fun c hc => (sgS_C ((h l hl).2 c hc)).1⟩
theorem sgL_b {ls : List Ln} (h : sgL ls) : ∀ c ∈ fltL ls, actN c < 128 := by
  intro c hc
  obtain ⟨l, hl, hcl⟩ := List.mem_flatMap.mp hc
  rcases List.mem_append.mp hcl with q | q
  · exact (sgS_C ((h l hl).1 c q)).2
  · exact (sgS_C ((h l hl).2 c q)).2
theorem n16_0 : (List.range 200).all (fun n => decide ((nI n).toInt16.toInt32.toInt = (n : Int))) = true := by decide +kernel
theorem n16 {n : Nat} (h : n < 200) : (nI n).toInt16.toInt32 = nI n := by
  apply Int32.toInt_inj.mp
  rw [nI_v (by omega)]
  exact of_decide_eq_true (List.all_eq_true.mp n16_0 n (List.mem_range.mpr h))
theorem n16s {n : Nat} (h : n < 200) : vp_nar .short (nI n).toInt16.toInt32 = nI n := by
  show (nI n).toInt16.toInt32.toInt16.toInt32 = _
  rw [n16 h, n16 h]
theorem n16v {n : Nat} (h : n < 200) : vp_nar .short (nI n) = nI n := n16 h
/-- lines read, the tape at a -/
def ML (M : Mem) (t : List Nat) (a : Nat) (ls : List Ln) : Prop := MR M t a 0 (fltL ls) ∧ M.1 70 1 = nI ls.length ∧ LnE M 1 ls 0 0
def LQ (M : Mem) (t : List Nat) (ls : List Ln) (r : Nat × Option Ln) : Po := fun v M' => v = none ∧ FrR M M' ∧ ((∃ l, r.2 = some l ∧ ML M' t r.1 (ls ++ [l])) ∨ ((r.2 = none ∨ dgt t r.1) ∧ ∃ n, MFlt M' t r.1 n))
theorem MR_c {M M' : Mem} {t code : List Nat} {a o : Nat} (h : MR M t a o code) (h1 : M'.1 55 = M.1 55) (h2 : M'.1 67 = M.1 67) (h3 : M'.1 68 = M.1 68) (h4 : M'.1 69 = M.1 69) : MR M' t a o code := by
  obtain ⟨g1, g2, g3, g4, g5, g6, g7⟩ := h
  exact ⟨MT_e g1 (by rw [h1]) h2, by rw [h1]; exact g2, g3, by rw [h1]; exact g4, by rw [h1]; exact g5, by rw [h1]; exact g6, StpR_fr g7 h3 h4⟩
theorem MF_c {M M' : Mem} {t : List Nat} {p n : Nat} (h : MFlt M t p n) (h1 : M'.1 55 = M.1 55) (h2 : M'.1 67 = M.1 67) : MFlt M' t p n := by
  obtain ⟨g1, g2, g3, g4, g5⟩ := h
  exact ⟨MT_e g1 (by rw [h1]) h2, by rw [h1]; exact g2, g3, by rw [h1]; exact g4, by rw [h1]; exact g5⟩
theorem MR_71 {M : Mem} {t code : List Nat} {a o j : Nat} {v : Int32} (h : MR M t a o code) : MR (mI M 71 j v) t a o code := MR_c h (mI_ne _ _ _ (by decide)) (mI_ne _ _ _ (by decide)) (mI_ne _ _ _ (by decide)) (mI_ne _ _ _ (by decide))
theorem MR_72 {M : Mem} {t code : List Nat} {a o j : Nat} {v : Int32} (h : MR M t a o code) : MR (mI M 72 j v) t a o code := MR_c h (mI_ne _ _ _ (by decide)) (mI_ne _ _ _ (by decide)) (mI_ne _ _ _ (by decide)) (mI_ne _ _ _ (by decide))
theorem MR_70 {M : Mem} {t code : List Nat} {a o j : Nat} {v : Int32} (h : MR M t a o code) : MR (mI M 70 j v) t a o code := MR_c h (mI_ne _ _ _ (by decide)) (mI_ne _ _ _ (by decide)) (mI_ne _ _ _ (by decide)) (mI_ne _ _ _ (by decide))
theorem MF_72 {M : Mem} {t : List Nat} {p n j : Nat} {v : Int32} (h : MFlt M t p n) : MFlt (mI M 72 j v) t p n := MF_c h (mI_ne _ _ _ (by decide)) (mI_ne _ _ _ (by decide))
theorem MF_70 {M : Mem} {t : List Nat} {p n j : Nat} {v : Int32} (h : MFlt M t p n) : MFlt (mI M 70 j v) t p n := MF_c h (mI_ne _ _ _ (by decide)) (mI_ne _ _ _ (by decide))
theorem m_line {D a : Nat} {ls : List Ln} {M : Mem} {t : List Nat} (hD : 57 ≤ D) (h : ML M t a ls) (hl : (fltL ls).length ≤ a) (h2 : 2 * ls.length ≤ a) : Call D 191 [.ref 55] M (LQ M t ls (pline t a)) := by
  obtain ⟨d, rfl⟩ : ∃ d, D = d + 57 := ⟨D - 57, by omega⟩
  obtain ⟨hR, h70, hE⟩ := h
  have h120 := hR.1.2.1
  have hle := hR.2.2.1
  have h20 := hR.2.2.2.2.2.1
  have hf := pz_fine (t := t) 48 0 0 a hle
  have ei : cI 61 + M.1 70 1 = nI (61 + ls.length) := by rw [h70]; exact nI_add 61 _
  have vi : vp_in (nI (61 + ls.length)) 122 := nI_vp (by omega) (by decide)
  have ci := nI_c (n := 61 + ls.length) (by omega)
  have es := n16s (n := (fltL ls).length) (by omega)
  have hL := ml_all (t := t) 48 0 (by omega)
  have hun : pline t a = (match pz t 48 0 0 a with
    | (p, none) => (p, none)
    | (p, some cs) => if t[p]? = some 63 then (match pz t 48 0 0 (p + 1) with
      | (q, some ds) => (q, some (cs, ds))
      | (q, none) => (q, none)) else (p, some ([], cs))) := rfl
  -- the end of a line
  have snoc : ∀ (M2 : Mem) (l : Ln) (q n : Nat), FrR M M2 → (∀ j, j < ls.length → M2.1 71 (61 + j) = M.1 71 (61 + j) ∧ M2.1 72 (61 + j) = M.1 72 (61 + j)) → MR M2 t q 0 (fltL ls ++ (l.1 ++ l.2)) → M2.1 71 (61 + ls.length) = nI (lnL ls + l.1.length) → n = (fltL ls ++ (l.1 ++ l.2)).length →
      ML (mI (mI M2 72 (61 + ls.length) (nI n)) 70 1 (nI (ls.length + 1))) t q (ls ++ [l]) := by
    intro M2 l q n f g1 g2 g3 g4
    refine ⟨by rw [fltL_snoc]; exact MR_70 (MR_72 g2), by rw [mI_1, List.length_append]; rfl, ?_⟩
    refine LnE_snoc ls 0 0 (LnE_e ls 0 0 (fun j _ hj => ?_) hE) ?_ ?_
    · have := g1 j (by omega)
      exact ⟨by rw [mI_ne _ _ _ (by decide), mI_ne _ _ _ (by decide)]; exact this.1, by rw [mI_ne _ _ _ (by decide), mI_2 _ _ (by omega)]; exact this.2⟩
    · rw [mI_ne _ _ _ (by decide), mI_ne _ _ _ (by decide), show 61 * 1 + (0 + ls.length) = 61 + ls.length by omega, g3, Nat.zero_add]
    · rw [mI_ne _ _ _ (by decide), show 61 * 1 + (0 + ls.length) = 61 + ls.length by omega, mI_1, g4, List.length_append, List.length_append, fltL_len]
      congr 1
      omega
  refine call_run 400 rfl rfl (fun B Cl Z hZ hB hC => ?_)
  (conv => whnf)
  refine ⟨nI_vp (c := 1) (by decide) (by decide), ?_⟩
  (conv => whnf)
  simp only [Nat.reduceMod, kc_1, ei, ci, h20, es]
  refine ⟨vi, ?_⟩
  have fin : ∀ (m3 n : Nat) (x : Int32) (M2 : Mem), x = nI (61 + ls.length) → M2.1 55 20 = nI n → n < 200 → M2.1 70 1 = nI ls.length → Z none (mI (mI M2 72 (61 + ls.length) (nI n)) 70 1 (nI (ls.length + 1))) → wpN 191 B Cl Z (m3 + 60) (seekK (cdo 191) 66) (put1 1 (.int x) (lv_args 0 [.ref 55])) [] M2 := by
    intro m3 n x M2 hx g1 g2 g3 hz
    subst hx
    have es2 := n16s g2
    have g4 : (mI M2 72 (61 + ls.length) (nI n)).1 70 1 = nI ls.length := by rw [mI_ne _ _ _ (by decide)]; exact g3
    (conv => whnf)
    simp only [Nat.reduceMod, ci, g1, es2]
    refine ⟨vi, ?_⟩
    (conv => whnf)
    refine ⟨nI_vp (c := 1) (by decide) (by decide), ?_⟩
    (conv => whnf)
    refine ⟨nI_vp (c := 1) (by decide) (by decide), ?_⟩
    conv => whnf
    simp only [kc_1, g4, nI_i1]
    exact hz
  (conv => whnf)
  have hM0 : MR (mI M 71 (61 + ls.length) (nI (fltL ls).length)) t a 0 (fltL ls) := MR_71 hR
  refine hC _ _ _ _ _ (hL _ 0 a (fltL ls) _ (by omega) (by omega) (by decide) hM0 hl) (fun v M1 r => ?_)
  obtain ⟨rfl, r2, r3⟩ := r
  have f1 : FrR M M1 := FrR_trans FrR_71 (FrR_E r2)
  have k71 : M1.1 71 = (mI M 71 (61 + ls.length) (nI (fltL ls).length)).1 71 := FrM_c r2.1 (by decide) (by decide)
  have k72 : M1.1 72 = M.1 72 := (FrM_c r2.1 (by decide) (by decide)).trans (mI_ne _ _ _ (by decide))
  have k70 : M1.1 70 = M.1 70 := (FrM_c r2.1 (by decide) (by decide)).trans (mI_ne _ _ _ (by decide))
  have k70' : M1.1 70 1 = nI ls.length := by rw [k70]; exact h70
  have low : ∀ j, j < ls.length → M1.1 71 (61 + j) = M.1 71 (61 + j) ∧ M1.1 72 (61 + j) = M.1 72 (61 + j) := fun j hj => ⟨by rw [k71, mI_2 _ _ (by omega)], by rw [k72]⟩
  cases hr : pz t 48 0 0 a with
  | mk p oc =>
    rw [hr] at r3 hf hun
    obtain ⟨g1, g2, g3⟩ := hf
    replace g1 : a ≤ p := g1
    replace g2 : p ≤ t.length := g2
    rcases r3 with ⟨cs, e, r4⟩ | ⟨e, n1, r4, r5⟩
    · cases (show oc = some cs from e)
      have g4 := (g3 cs rfl).1
      simp only [List.length_nil] at g4
      replace r4 : MR M1 t p 0 (fltL ls ++ cs) := r4
      replace hun : pline t a = (if t[p]? = some 63 then (match pz t 48 0 0 (p + 1) with
        | (q, some ds) => (q, some (cs, ds))
        | (q, none) => (q, none)) else (p, some ([], cs))) := hun
      (conv => whnf); refine ⟨fun b => ?_, fun b => ?_⟩
      · exact absurd b (rd_nf r4)
      (conv => whnf); refine ret_k hC (m_look r4.1 r4.2.1 r4.2.2.1) ?_
      (conv => whnf); refine ⟨fun x => ?_, fun x => ?_⟩
      · replace x : cnd .ne (lkI t p) (cI 63) := x
        rw [c_ne, lk_v r4.1.2.2, kv_63] at x
        have x := (not_congr (lk_k (t := t) (a := p) (k := 63) (by decide))).mp x
        rw [if_neg x] at hun
        rw [hun] at hZ
        refine fin _ (fltL ls ++ cs).length _ M1 (by first | rfl | exact ei) r4.2.2.2.2.2.1 (by rw [List.length_append]; omega) k70' (hZ _ _ ⟨rfl, FrR_trans f1 (FrR_trans FrR_72 FrR_70), Or.inl ⟨_, rfl, ?_⟩⟩)
        refine snoc M1 ([], cs) p _ f1 low r4 ?_ rfl
        rw [k71, mI_1, fltL_len]
        rfl
      · replace x : ¬ cnd .ne (lkI t p) (cI 63) := x
        rw [c_ne, lk_v r4.1.2.2, kv_63] at x
        have x := (lk_k (t := t) (a := p) (k := 63) (by decide)).mp (Classical.not_not.mp x)
        have hpl := (List.getElem?_eq_some_iff.mp x).1
        rw [if_pos x] at hun
        have h17' : M1.1 55 17 = nI p := r4.2.1
        have h20' : M1.1 55 20 = nI (fltL ls ++ cs).length := r4.2.2.2.2.2.1
        have hlen : (fltL ls ++ cs).length ≤ p := by rw [List.length_append]; omega
        have es' := n16s (n := (fltL ls ++ cs).length) (by omega)
        have hq : (mI M1 55 17 (nI (p + 1))).1 55 20 = nI (fltL ls ++ cs).length := by rw [mI_2 _ _ (by decide)]; exact h20'
        (conv => whnf)
        simp only [Nat.reduceMod, ci, h17', nI_i1, hq, es', h20']
        refine ⟨vi, ?_⟩
        (conv => whnf)
        have hM2 : MR (mI (mI M1 55 17 (nI (p + 1))) 71 (61 + ls.length) (nI (fltL ls ++ cs).length)) t (p + 1) 0 (fltL ls ++ cs) := MR_71 (MR_at r4 hpl)
        refine hC _ _ _ _ _ (hL _ 0 (p + 1) (fltL ls ++ cs) _ (by omega) (by omega) (by decide) hM2 (by omega)) (fun v M3 u => ?_)
        obtain ⟨rfl, u2, u3⟩ := u
        have f3 : FrR M M3 := FrR_trans f1 (FrR_trans (FrR_s (by decide)) (FrR_trans FrR_71 (FrR_E u2)))
        have j71 : M3.1 71 = (mI (mI M1 55 17 (nI (p + 1))) 71 (61 + ls.length) (nI (fltL ls ++ cs).length)).1 71 := FrM_c u2.1 (by decide) (by decide)
        have j72 : M3.1 72 = M1.1 72 := ((FrM_c u2.1 (by decide) (by decide)).trans (mI_ne _ _ _ (by decide))).trans (mI_ne _ _ _ (by decide))
        have j70 : M3.1 70 = M1.1 70 := ((FrM_c u2.1 (by decide) (by decide)).trans (mI_ne _ _ _ (by decide))).trans (mI_ne _ _ _ (by decide))
        have j70' : M3.1 70 1 = nI ls.length := by rw [j70]; exact k70'
        have low3 : ∀ j, j < ls.length → M3.1 71 (61 + j) = M.1 71 (61 + j) ∧ M3.1 72 (61 + j) = M.1 72 (61 + j) := fun j hj => ⟨by rw [j71, mI_2 _ _ (by omega), mI_ne _ _ _ (by decide)]; exact (low j hj).1, by rw [j72]; exact (low j hj).2⟩
        have hf2 := pz_fine (t := t) 48 0 0 (p + 1) hpl
        cases hr2 : pz t 48 0 0 (p + 1) with
        | mk q oc2 =>
          rw [hr2] at u3 hf2 hun
          obtain ⟨y1, y2, y3⟩ := hf2
          replace y1 : p + 1 ≤ q := y1
          replace y2 : q ≤ t.length := y2
          rcases u3 with ⟨ds, e, u4⟩ | ⟨e, n2, u4, u5⟩
          · cases (show oc2 = some ds from e)
            have y4 := (y3 ds rfl).1
            simp only [List.length_nil] at y4
            replace u4 : MR M3 t q 0 (fltL ls ++ cs ++ ds) := u4
            replace hun : pline t a = (q, some (cs, ds)) := hun
            rw [hun] at hZ
            refine fin _ (fltL ls ++ cs ++ ds).length _ M3 (by first | rfl | exact ei) u4.2.2.2.2.2.1 (by rw [List.length_append]; omega) j70' (hZ _ _ ⟨rfl, FrR_trans f3 (FrR_trans FrR_72 FrR_70), Or.inl ⟨_, rfl, ?_⟩⟩)
            refine snoc M3 (cs, ds) q _ f3 low3 (by rw [← List.append_assoc]; exact u4) ?_ (by rw [← List.append_assoc])
            rw [j71, mI_1, List.length_append, fltL_len]
          · replace u5 : n2 + (p + 1) ≤ (fltL ls ++ cs).length + q + 1 := u5
            have hb : (pline t a).1 = q ∧ ((pline t a).2 = none ∨ dgt t q) := by
              rw [hun]
              cases oc2 with
              | none => exact ⟨rfl, Or.inl rfl⟩
              | some ds => exact ⟨rfl, Or.inr (e.resolve_left (fun y => by cases y))⟩
            refine fin _ n2 _ M3 (by first | rfl | exact ei) u4.2.2.2.2 (by omega) j70' (hZ _ _ ⟨rfl, FrR_trans f3 (FrR_trans FrR_72 FrR_70), Or.inr ?_⟩)
            rw [hb.1]
            exact ⟨hb.2, n2, MF_70 (MF_72 u4)⟩
    · replace r5 : n1 + a ≤ (fltL ls).length + p + 1 := r5
      have hb : (pline t a).1 = p ∧ ((pline t a).2 = none ∨ dgt t p) := by
        rw [hun]
        cases oc with
        | none => exact ⟨rfl, Or.inl rfl⟩
        | some cs =>
          have hdg : dgt t p := e.resolve_left (fun y => by cases y)
          obtain ⟨x, hx, x1, x2⟩ := id hdg
          show (if t[p]? = some 63 then _ else (p, some ([], cs)) : Nat × Option Ln).1 = p ∧ _
          rw [if_neg (fun y => by rw [hx] at y; cases y; omega)]
          exact ⟨rfl, Or.inr hdg⟩
      (conv => whnf); refine ⟨fun b => ?_, fun b => ?_⟩
      · refine fin _ n1 _ M1 (by first | rfl | exact ei) r4.2.2.2.2 (by omega) k70' (hZ _ _ ⟨rfl, FrR_trans f1 (FrR_trans FrR_72 FrR_70), Or.inr ?_⟩)
        rw [hb.1]
        exact ⟨hb.2, n1, MF_70 (MF_72 r4)⟩
      · exact absurd (rd_fl r4) b
