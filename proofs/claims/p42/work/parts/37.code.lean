/-! what a text read is: its code's room, and what it gives -/
/-- a step that is neither a test's end nor a line's -/
def isOp (c : Nat) : Prop := c < 10140 ∧ ¬ c = 10069 ∧ ¬ c = 10073 ∧ (c < 10010 → c < 10006)
def stp (fc : Nat → Int32) (c : Nat) (st : List Int32) : List Int32 :=
  if c < 10000 then nI c :: st else if c < 10010 then fc (c - 10000) :: st else if c = 10136 then -(st.headD 0) :: st.tail
  else if c = 10043 then b2 (st.headD 0 = 0) :: st.tail else two (c - 10010) (st.tail.headD 0) (st.headD 0) :: st.tail.tail
def evs (fc : Nat → Int32) : List Nat → List Int32 → List Int32
  | [], st => st
  | c :: l, st => evs fc l (stp fc c st)
theorem evs_app {fc : Nat → Int32} : ∀ (cs ds : List Nat) (st : List Int32), evs fc (cs ++ ds) st = evs fc ds (evs fc cs st)
  | [], _, _ => rfl
  | c :: cs, ds, st => evs_app cs ds (stp fc c st)
/-- an expression's code, at most D deep -/
def exC (cs : List Nat) (D : Nat) : Prop := (∀ c ∈ cs, isOp c) ∧ (∀ n rest, n + D ≤ 64 → sfc rest (n + 1) false = true → sfc (cs ++ rest) n false = true) ∧ ∀ fc st, ∃ x, evs fc cs st = x :: st
theorem exC_mono {cs : List Nat} {D D' : Nat} (h : exC cs D) (hd : D ≤ D') : exC cs D' := ⟨h.1, fun n rest a b => h.2.1 n rest (by omega) b, h.2.2⟩
theorem exC_one {c D : Nat} (h : c < 10006) (hD : 1 ≤ D) : exC [c] D := by
  refine ⟨fun x hx => ?_, fun n rest a b => ?_, fun fc st => ?_⟩
  · rw [List.mem_singleton] at hx
    subst hx
    exact ⟨by omega, by omega, by omega, fun _ => h⟩
  · show sfc (c :: rest) n false = true
    unfold sfc
    rw [if_pos (by omega), b]
    simp
    omega
  · show ∃ x, stp fc c st = x :: st
    unfold stp
    by_cases q : c < 10000
    · rw [if_pos q]; exact ⟨_, rfl⟩
    · rw [if_neg q, if_pos (by omega)]; exact ⟨_, rfl⟩
theorem exC_un {cs : List Nat} {c D : Nat} (h : exC cs D) (hc : c = 10136 ∨ c = 10043) : exC (cs ++ [c]) D := by
  refine ⟨fun x hx => ?_, fun n rest a b => ?_, fun fc st => ?_⟩
  · rcases List.mem_append.mp hx with q | q
    · exact h.1 x q
    · rw [List.mem_singleton] at q
      subst q
      exact ⟨by omega, by omega, by omega, fun z => by omega⟩
  · rw [List.append_assoc]
    refine h.2.1 n _ a ?_
    show sfc (c :: rest) (n + 1) false = true
    unfold sfc
    rw [if_neg (by omega), if_neg (by omega), if_neg (by omega), if_pos hc, b]
    simp
  · obtain ⟨x, hx⟩ := h.2.2 fc st
    rw [evs_app, hx]
    show ∃ y, stp fc c (x :: st) = y :: st
    unfold stp
    rw [if_neg (by omega), if_neg (by omega)]
    rcases hc with q | q
    · rw [if_pos q]; exact ⟨_, rfl⟩
    · rw [if_neg (by omega), if_pos q]; exact ⟨_, rfl⟩
theorem exC_two {cs ds : List Nat} {c D : Nat} (h1 : exC cs (D + 1)) (h2 : exC ds D) (hc : 10010 < c ∧ c < 10140) (hc2 : ¬ c = 10069 ∧ ¬ c = 10073 ∧ ¬ c = 10136 ∧ ¬ c = 10043) : exC (cs ++ ds ++ [c]) (D + 1) := by
  refine ⟨fun x hx => ?_, fun n rest a b => ?_, fun fc st => ?_⟩
  · rcases List.mem_append.mp hx with q | q
    · rcases List.mem_append.mp q with q | q
      · exact h1.1 x q
      · exact h2.1 x q
    · rw [List.mem_singleton] at q
      subst q
      exact ⟨by omega, by omega, by omega, fun z => by omega⟩
  · rw [List.append_assoc, List.append_assoc]
    refine h1.2.1 n _ a (h2.2.1 (n + 1) _ (by omega) ?_)
    show sfc (c :: rest) (n + 1 + 1) false = true
    unfold sfc
    rw [if_neg (by omega), if_neg (by omega), if_neg (by omega), if_neg (by omega)]
    simp only [Bool.and_eq_true, decide_eq_true_eq]
    exact ⟨by omega, by omega, b⟩
  · obtain ⟨x, hx⟩ := h1.2.2 fc st
    obtain ⟨y, hy⟩ := h2.2.2 fc (x :: st)
    rw [evs_app, evs_app, hx, hy]
    show ∃ z, stp fc c (y :: x :: st) = z :: st
    unfold stp
    rw [if_neg (by omega), if_neg (by omega), if_neg (by omega), if_neg (by omega)]
    exact ⟨_, rfl⟩
def dm (m o : Nat) : Nat := (6 - o) * 6 + (6 - m)
theorem lvO_c {c m : Nat} (h : lvO c = m) (hm : m < 5) : (10010 < 10010 + c ∧ 10010 + c < 10140) ∧ ¬ 10010 + c = 10069 ∧ ¬ 10010 + c = 10073 ∧ ¬ 10010 + c = 10136 ∧ ¬ 10010 + c = 10043 := by
  unfold lvO at h
  repeat' split at h
  all_goals omega
theorem lp_ex {t : List Nat} {f : Nat → PR} {m D : Nat} (hm : m < 5) (hf : ∀ a ds, (f a).2 = some ds → exC ds D) : ∀ (k p : Nat) (cs : List Nat), exC cs (D + 1) → ∀ ds, (lp t f m k p cs).2 = some ds → exC ds (D + 1)
  | 0, p, cs, h, ds, q => by cases q; exact h
  | k + 1, p, cs, h, ds, q => by
    unfold lp at q
    split at q
    · next c hc =>
      split at q
      · next hl =>
        have hh := hf (p + 1)
        split at q
        · next r es hr =>
          rw [hr] at hh
          have h2 := hh es rfl
          obtain ⟨z1, z2⟩ := lvO_c hl hm
          exact lp_ex hm hf k r _ (exC_two h h2 z1 z2) ds q
        · cases q
      · cases q; exact h
    · cases q; exact h
theorem pz_ex {t : List Nat} : ∀ (n m o a : Nat), m ≤ 5 → o ≤ 6 → ∀ ds, (pz t n m o a).2 = some ds → exC ds (dm m o)
  | 0, m, o, a, _, _, ds, q => by cases q
  | n + 1, m, o, a, hm, ho, ds, q => by
    unfold pz at q
    split at q
    · next hm5 =>
      have h1 := pz_ex (t := t) n (m + 1) o
      split at q
      · cases q
      · next p cs hp =>
        have h2 := h1 a (by omega) ho
        rw [hp] at h2
        have hd : dm m o = dm (m + 1) o + 1 := by unfold dm; omega
        rw [hd]
        exact lp_ex hm5 (fun a ds hd => h1 a (by omega) ho ds hd) _ p cs (exC_mono (h2 cs rfl) (by omega)) ds q
    · next hm5 =>
      have hd1 : 1 ≤ dm m o := by unfold dm; omega
      split at q
      · cases q
      · next c hc =>
        split at q
        · cases q
          have := dg_v (t := t) 4 a 0 1 (by omega)
          exact exC_one (by omega) hd1
        split at q
        · next h0 =>
          cases q
          have := fnd_rng c 6 0 (by omega)
          exact exC_one (by omega) hd1
        split at q
        · split at q
          · have h2 := pz_ex (t := t) n 5 (o + 1) (a + 1) (by omega) (by omega)
            split at q
            · next p cs hp =>
              rw [hp] at h2
              cases q
              have h3 := exC_mono (h2 cs rfl) (show dm 5 (o + 1) ≤ dm m o by unfold dm; omega)
              split
              · exact exC_un h3 (Or.inr rfl)
              · exact exC_un h3 (Or.inl rfl)
            · cases q
          · cases q
        split at q
        · split at q
          · have h2 := pz_ex (t := t) n 0 (o + 1) (a + 1) (by omega) (by omega)
            split at q
            · next p cs hp =>
              rw [hp] at h2
              split at q
              · cases q
                exact exC_mono (h2 _ rfl) (by unfold dm; omega)
              · cases q
            · cases q
          · cases q
        · cases q
/-- a line as it is read -/
def lnOk (l : Ln) : Prop := exC l.2 42 ∧ (l.1 = [] ∨ exC l.1 42)
theorem pline_ok {t : List Nat} {a : Nat} {l : Ln} (h : (pline t a).2 = some l) : lnOk l := by
  have h1 := pz_ex (t := t) 48 0 0
  unfold pline at h
  split at h
  · cases h
  · next p cs hp =>
    have h2 := h1 a (by omega) (by omega)
    rw [hp] at h2
    split at h
    · have h3 := h1 (p + 1) (by omega) (by omega)
      split at h
      · next q ds hq =>
        rw [hq] at h3
        cases h
        exact ⟨h3 ds rfl, Or.inr (h2 cs rfl)⟩
      · cases h
    · cases h
      exact ⟨h2 cs rfl, Or.inl rfl⟩
theorem ptext_ok {t : List Nat} : ∀ (k a : Nat) (ls ls' : List Ln), (∀ l ∈ ls, lnOk l) → (ptext t k a ls).2 = some ls' → ∀ l ∈ ls', lnOk l
  | 0, a, ls, ls', _, h => by cases h
  | k + 1, a, ls, ls', h, q => by
    unfold ptext at q
    have hp := fun l => pline_ok (t := t) (a := a) (l := l)
    split at q
    · cases q
    · next p l hl =>
      simp only [hl] at hp
      have hl2 : ∀ x ∈ ls ++ [l], lnOk x := fun x hx => by
        rcases List.mem_append.mp hx with z | z
        · exact h x z
        · rw [List.mem_singleton] at z
          subst z
          exact hp _ rfl
      split at q
      · cases q; exact hl2
      · split at q
        · exact ptext_ok k (p + 1) _ ls' hl2 q
        · cases q
theorem sfc_skip : ∀ (cs : List Nat) (rest : List Nat) (n : Nat), (∀ c ∈ cs, isOp c) → sfc (cs ++ 10069 :: rest) n true = sfc rest n false
  | [], rest, n, _ => by simp [sfc]
  | c :: cs, rest, n, h => by
    have hc := (h c List.mem_cons_self).2.1
    show sfc (c :: (cs ++ 10069 :: rest)) n true = _
    have e : sfc (c :: (cs ++ 10069 :: rest)) n true = sfc (cs ++ 10069 :: rest) n (!decide (c = 10069)) := rfl
    rw [e]
    simp only [hc, decide_false, Bool.not_false]
    exact sfc_skip cs rest n (fun x hx => h x (List.mem_cons_of_mem _ hx))
theorem encT_cons (l : Ln) (ls : List Ln) : encT (l :: ls) = encL l ++ encT ls := rfl
theorem encL_ne {ts vs : List Nat} (h : ¬ ts = []) : encL (ts, vs) = ts ++ [10073] ++ (vs ++ [10069]) := by
  cases ts with
  | nil => exact absurd rfl h
  | cons c l => rfl
theorem encT_sf : ∀ (ls : List Ln), (∀ l ∈ ls, lnOk l) → sfc (encT ls) 0 false = true
  | [], _ => rfl
  | (ts, vs) :: ls, h => by
    have hr := encT_sf ls (fun x hx => h x (List.mem_cons_of_mem _ hx))
    obtain ⟨h1, h2⟩ := h (ts, vs) List.mem_cons_self
    have hv : sfc (vs ++ 10069 :: encT ls) 0 false = true := by
      refine h1.2.1 0 _ (by omega) ?_
      simp [sfc]
    rw [encT_cons]
    by_cases z : ts = []
    · subst z
      show sfc (([] ++ (vs ++ [10069])) ++ encT ls) 0 false = true
      simpa using hv
    · rw [encL_ne z]
      simp only [List.append_assoc, List.singleton_append]
      refine (h2.resolve_left z).2.1 0 _ (by omega) ?_
      have e9 : 10073 :: (vs ++ [10069]) ++ encT ls = 10073 :: (vs ++ 10069 :: encT ls) := by simp
      rw [e9]
      unfold sfc
      rw [if_neg (by omega), if_neg (by omega), if_pos rfl]
      simp only [Bool.and_eq_true, decide_eq_true_eq]
      refine ⟨by omega, ?_, ?_⟩
      · rw [sfc_skip _ _ _ h1.1]; exact hr
      · exact hv
theorem encT_lt {ls : List Ln} (h : ∀ l ∈ ls, lnOk l) : ∀ c ∈ encT ls, c < 10140 := by
  intro c hc
  obtain ⟨l, hl, hcl⟩ := List.mem_flatMap.mp hc
  obtain ⟨h1, h2⟩ := h l hl
  obtain ⟨ts, vs⟩ := l
  by_cases z : ts = []
  · subst z
    have : c ∈ vs ++ [10069] := hcl
    rcases List.mem_append.mp this with q | q
    · exact (h1.1 c q).1
    · rw [List.mem_singleton] at q; omega
  · rw [encL_ne z] at hcl
    rcases List.mem_append.mp hcl with q | q
    · rcases List.mem_append.mp q with q | q
      · exact ((h2.resolve_left z).1 c q).1
      · rw [List.mem_singleton] at q; omega
    · rcases List.mem_append.mp q with q | q
      · exact (h1.1 c q).1
      · rw [List.mem_singleton] at q; omega
theorem wk_evs {fc : Nat → Int32} : ∀ (cs rest : List Nat) (st : List Int32), (∀ c ∈ cs, isOp c) → wk fc (cs ++ rest) st false = wk fc rest (evs fc cs st) false
  | [], _, _, _ => rfl
  | c :: cs, rest, st, h => by
    have hc := h c List.mem_cons_self
    have e : wk fc (c :: (cs ++ rest)) st false = wk fc (cs ++ rest) (stp fc c st) false := by
      rw [wk]
      unfold stp
      by_cases q1 : c < 10000
      · rw [if_pos q1, if_pos q1]
      rw [if_neg q1, if_neg q1]
      by_cases q2 : c < 10010
      · rw [if_pos q2, if_pos q2]
      rw [if_neg q2, if_neg q2, if_neg hc.2.1, if_neg hc.2.2.1]
      by_cases q3 : c = 10136
      · rw [if_pos q3, if_pos q3]
      rw [if_neg q3, if_neg q3]
      by_cases q4 : c = 10043
      · rw [if_pos q4, if_pos q4]
      · rw [if_neg q4, if_neg q4]
    show wk fc (c :: (cs ++ rest)) st false = _
    rw [e]
    exact wk_evs cs rest _ (fun x hx => h x (List.mem_cons_of_mem _ hx))
theorem wk_skip {fc : Nat → Int32} : ∀ (cs rest : List Nat) (st : List Int32), (∀ c ∈ cs, isOp c) → wk fc (cs ++ 10069 :: rest) st true = wk fc rest st false
  | [], rest, st, _ => by simp [wk]
  | c :: cs, rest, st, h => by
    have hc := (h c List.mem_cons_self).2.1
    have e : wk fc (c :: (cs ++ 10069 :: rest)) st true = wk fc (cs ++ 10069 :: rest) st (!decide (c = 10069)) := by rw [wk]
    show wk fc (c :: (cs ++ 10069 :: rest)) st true = _
    rw [e]
    simp only [hc, decide_false, Bool.not_false]
    exact wk_skip cs rest st (fun x hx => h x (List.mem_cons_of_mem _ hx))
/-- what a law's lines give -/
def gvs (fc : Nat → Int32) : List Ln → Int32
  | [] => 0
  | (ts, vs) :: ls => if ts = [] ∨ ¬ (evs fc ts []).headD 0 = 0 then (evs fc vs []).headD 0 else gvs fc ls
theorem wk_gvs {fc : Nat → Int32} : ∀ (ls : List Ln), (∀ l ∈ ls, lnOk l) → wk fc (encT ls) [] false = gvs fc ls
  | [], _ => rfl
  | (ts, vs) :: ls, h => by
    have hr := wk_gvs (fc := fc) ls (fun x hx => h x (List.mem_cons_of_mem _ hx))
    obtain ⟨h1, h2⟩ := h (ts, vs) List.mem_cons_self
    have hv : wk fc (vs ++ 10069 :: encT ls) [] false = (evs fc vs []).headD 0 := by
      rw [wk_evs _ _ _ h1.1, wk, if_neg (by omega), if_neg (by omega), if_pos rfl]
    rw [encT_cons, gvs]
    by_cases z : ts = []
    · subst z
      rw [if_pos (Or.inl rfl), ← hv]
      show wk fc (([] ++ (vs ++ [10069])) ++ encT ls) [] false = _
      simp
    · rw [encL_ne z]
      have h3 := h2.resolve_left z
      obtain ⟨x, hx⟩ := h3.2.2 fc []
      have e9 : ts ++ [10073] ++ (vs ++ [10069]) ++ encT ls = ts ++ (10073 :: (vs ++ 10069 :: encT ls)) := by simp
      rw [e9, wk_evs _ _ _ h3.1, hx, wk, if_neg (by omega), if_neg (by omega), if_neg (by omega), if_pos rfl]
      show wk fc (vs ++ 10069 :: encT ls) [] (decide (x = 0)) = if ts = [] ∨ ¬ x = 0 then _ else _
      by_cases q : x = 0
      · rw [if_neg (by simp [z, q])]
        simp only [q, decide_true]
        rw [wk_skip _ _ _ h1.1]
        exact hr
      · rw [if_pos (Or.inr q)]
        simp only [q, decide_false]
        exact hv
