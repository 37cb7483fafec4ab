/-! order, worth -/
theorem foldl_inv {α β : Type} {P : α → Prop} {F : α → β → α} (h : ∀ a b, P a → P (F a b)) : ∀ (l : List β) (a : α), P a → P (l.foldl F a)
  | [], _, q => q
  | b :: l, a, q => foldl_inv h l (F a b) (h a b q)
theorem dC_len {g : List Nat → Int32} {n : Nat} {st0 : DS} : ∀ (f : Nat) (pth : List Nat) (used : Nat) (worst : Int32) (st : DS), pth.length + f = n → (st.2.length = n ∨ st = st0) → ((dC g n f pth used worst st).2.length = n ∨ dC g n f pth used worst st = st0)
  | 0, pth, used, worst, st, hl, _ => Or.inl (by show pth.length = n; omega)
  | f + 1, pth, used, worst, st, hl, h => by
    unfold dC
    refine foldl_inv (P := fun st : DS => st.2.length = n ∨ st = st0) (fun a b q => ?_) _ _ h
    split
    · exact q
    · split
      · exact dC_len f _ _ _ _ (by simp; omega) q
      · exact q
theorem dres_len {E : EnvK} {ls : List Lyr} {base n : Nat} (h : ¬ dres E ls base n = (E.2.2.1 + cI 1, [])) : (dres E ls base n).2.length = n := by
  unfold dres at h ⊢
  exact (dC_len (st0 := (E.2.2.1 + cI 1, [])) n [] 0 (cI 0) _ (by simp) (Or.inr rfl)).resolve_right h
theorem pcn_clr {s i : Nat} (hs : s < 4096) (h : s.testBit i = true) : ∀ n, pcn (clr s i) n + (if i < n then 1 else 0) = pcn s n
  | 0 => by simp [pcn]
  | n + 1 => by
    have ih := pcn_clr hs h n
    unfold pcn
    rw [tb_clr hs]
    by_cases z : i = n
    · subst z
      rw [if_neg (Nat.lt_irrefl i)] at ih
      simp [h]
      omega
    · by_cases y : i < n
      · rw [if_pos y] at ih
        rw [if_pos (by omega : i < n + 1)]
        simp [z]
        omega
      · rw [if_neg y] at ih
        rw [if_neg (by omega : ¬ i < n + 1)]
        simp [z]
        omega
theorem pcn_pos {s : Nat} : ∀ n, 1 ≤ pcn s n → ∃ i, i < n ∧ s.testBit i = true
  | 0, h => by simp [pcn] at h
  | n + 1, h => by
    unfold pcn at h
    by_cases z : s.testBit n = true
    · exact ⟨n, by omega, z⟩
    · rw [if_neg z] at h
      obtain ⟨i, h1, h2⟩ := pcn_pos n h
      exact ⟨i, by omega, h2⟩
theorem pS_r {E : EnvK} {ls : List Lyr} {s i : Nat} : 0 ≤ (pS E ls s i).toInt ∧ (pS E ls s i).toInt ≤ 9 := by
  unfold pS
  split
  · exact amt_r _ _ _ _ _ _ _
  · decide
theorem lt_i {x y : Int32} : (x < y) = (x.toInt < y.toInt) := propext Int32.lt_iff_toInt_lt
theorem le_i {x y : Int32} : (x ≤ y) = (x.toInt ≤ y.toInt) := propext Int32.le_iff_toInt_le
/-- the bound that selling looks at -/
theorem s_bnd {E : EnvK} {ls : List Lyr} {t f s i len : Nat} {paid : Int32} (ht : t ≤ 4) (hl : len + (f + 1) = t) (h0 : 0 ≤ paid.toInt) (h9 : paid.toInt ≤ 9 * (len : Int)) :
    (paid + pS E ls s i).toInt = paid.toInt + (pS E ls s i).toInt ∧ ((paid + pS E ls s i) + cI 9 * (nI t - cI 1 - nI len)).toInt = paid.toInt + (pS E ls s i).toInt + 9 * (f : Int) := by
  have hp := pS_r (E := E) (ls := ls) (s := s) (i := i)
  have e1 : (paid + pS E ls s i).toInt = paid.toInt + (pS E ls s i).toInt := ad_v (by omega) (by omega)
  have e2 : nI t - cI 1 - nI len = nI f := by
    have a1 : nI t - cI 1 = nI (t - 1) := nI_sub (b := 1) (by omega)
    rw [a1, nI_sub (by omega)]
    congr 1
    omega
  have e3 : (cI 9 * nI f) = nI (9 * f) := nI_mul 9 f
  have e4 := nI_v (n := 9 * f) (by omega)
  refine ⟨e1, ?_⟩
  rw [e2, e3, ad_v (by rw [e1, e4]; omega) (by rw [e1, e4]; omega), e1, e4]
  omega
theorem sC_ge {E : EnvK} {ls : List Lyr} {t : Nat} (ht : t ≤ 4) (h12 : ls.length ≤ 12) : ∀ (f : Nat) (pth : List Nat) (s : Nat) (paid : Int32) (st : DS), pth.length + f = t → 0 ≤ paid.toInt → paid.toInt ≤ 9 * (pth.length : Int) → s < 4096 → f ≤ pcn s ls.length → (f = 0 → st.1.toInt < paid.toInt) → st.1.toInt ≤ (sC E ls t f pth s paid st).1.toInt ∧ paid.toInt ≤ (sC E ls t f pth s paid st).1.toInt
  | 0, pth, s, paid, st, hl, h0, h9, hs, hp, hst => ⟨Int.le_of_lt (hst rfl), Int.le_refl _⟩
  | f + 1, pth, s, paid, st, hl, h0, h9, hs, hp, hst => by
    unfold sC
    have step : ∀ (st : DS) (i : Nat), s.testBit i = true → i < ls.length → st.1.toInt ≤ (if st.1 < (paid + pS E ls s i) + cI 9 * (nI t - cI 1 - nI pth.length) then sC E ls t f (pth ++ [i]) (clr s i) (paid + pS E ls s i) st else st).1.toInt ∧ paid.toInt ≤ (if st.1 < (paid + pS E ls s i) + cI 9 * (nI t - cI 1 - nI pth.length) then sC E ls t f (pth ++ [i]) (clr s i) (paid + pS E ls s i) st else st).1.toInt := by
      intro st i hi hil
      obtain ⟨b1, b2⟩ := s_bnd (E := E) (ls := ls) (s := s) (i := i) ht hl h0 h9
      have hpr := pS_r (E := E) (ls := ls) (s := s) (i := i)
      have hc := pcn_clr hs hi ls.length
      rw [if_pos hil] at hc
      split
      · next z =>
        rw [lt_i, b2] at z
        have c0 : (pth ++ [i]).length = pth.length + 1 := by simp
        have ih := sC_ge (E := E) ht h12 f (pth ++ [i]) (clr s i) (paid + pS E ls s i) st (by omega) (by rw [b1]; omega) (by rw [b1, c0]; omega) (clr_lt hs) (by omega) (fun q => by subst q; rw [b1]; omega)
        rw [b1] at ih
        exact ⟨ih.1, by omega⟩
      · next z =>
        rw [lt_i, b2] at z
        exact ⟨Int.le_refl _, by omega⟩
    obtain ⟨i, hi, hi2⟩ := pcn_pos ls.length (show 1 ≤ pcn s ls.length by omega)
    have key : ∀ (l : List Nat), (∀ j ∈ l, j < ls.length) → ∀ st : DS, (paid.toInt ≤ st.1.toInt ∨ i ∈ l) → st.1.toInt ≤ (l.foldl (fun st i => if s.testBit i = true then (if st.1 < (paid + pS E ls s i) + cI 9 * (nI t - cI 1 - nI pth.length) then sC E ls t f (pth ++ [i]) (clr s i) (paid + pS E ls s i) st else st) else st) st).1.toInt ∧ paid.toInt ≤ (l.foldl (fun st i => if s.testBit i = true then (if st.1 < (paid + pS E ls s i) + cI 9 * (nI t - cI 1 - nI pth.length) then sC E ls t f (pth ++ [i]) (clr s i) (paid + pS E ls s i) st else st) else st) st).1.toInt := by
      intro l
      induction l with
      | nil => intro _ st q; exact ⟨Int.le_refl _, q.elim id (fun z => by cases z)⟩
      | cons j l ih =>
        intro hj st q
        rw [List.foldl_cons]
        by_cases hb : s.testBit j = true
        · rw [if_pos hb]
          have st1 := step st j hb (hj j List.mem_cons_self)
          have := ih (fun k hk => hj k (List.mem_cons_of_mem _ hk)) _ (Or.inl st1.2)
          exact ⟨by omega, this.2⟩
        · rw [if_neg hb]
          refine ih (fun k hk => hj k (List.mem_cons_of_mem _ hk)) st (q.imp id (fun z => ?_))
          rcases List.mem_cons.mp z with rfl | z
          · exact absurd hi2 hb
          · exact z
    exact key (List.range ls.length) (fun j hj => List.mem_range.mp hj) st (Or.inr (List.mem_range.mpr hi))
theorem sC_len {E : EnvK} {ls : List Lyr} {t : Nat} {st0 : DS} : ∀ (f : Nat) (pth : List Nat) (s : Nat) (paid : Int32) (st : DS), pth.length + f = t → (st.2.length = t ∨ st = st0) → ((sC E ls t f pth s paid st).2.length = t ∨ sC E ls t f pth s paid st = st0)
  | 0, pth, s, paid, st, hl, _ => Or.inl (by show pth.length = t; omega)
  | f + 1, pth, s, paid, st, hl, h => by
    unfold sC
    refine foldl_inv (P := fun st : DS => st.2.length = t ∨ st = st0) (fun a b q => ?_) _ _ h
    split
    · split
      · exact sC_len f _ _ _ _ (by simp; omega) q
      · exact q
    · exact q
theorem full_tb {n i : Nat} : (2 ^ n - 1).testBit i = decide (i < n) := Nat.testBit_two_pow_sub_one n i
theorem pcn_full {n : Nat} : ∀ m, m ≤ n → pcn (2 ^ n - 1) m = m
  | 0, _ => rfl
  | m + 1, h => by
    unfold pcn
    rw [pcn_full m (by omega), full_tb, if_pos (by simp; omega)]
theorem full_lt {n : Nat} (h : n ≤ 12) : 2 ^ n - 1 < 4096 := by
  have := Nat.pow_le_pow_right (show 0 < 2 by omega) h
  omega
theorem sres_len {E : EnvK} {ls : List Lyr} {t : Nat} (ht : t ≤ 4) (h12 : ls.length ≤ 12) (hl : t ≤ ls.length) : (sres E ls t).2.length = t := by
  have h1 := sC_ge (E := E) ht h12 t [] (2 ^ ls.length - 1) (cI 0) (cI (-1), []) (by simp) (by decide) (by decide) (full_lt h12) (by rw [pcn_full _ (Nat.le_refl _)]; exact hl) (fun _ => by show (cI (-1)).toInt < (cI 0).toInt; rw [kv_m1]; decide)
  have h2 := sC_len (E := E) (ls := ls) (t := t) (st0 := (cI (-1), [])) t [] (2 ^ ls.length - 1) (cI 0) (cI (-1), []) (by simp) (Or.inr rfl)
  unfold sres
  refine h2.resolve_right (fun z => ?_)
  rw [z] at h1
  have h3 : (cI 0).toInt ≤ (cI (-1)).toInt := h1.2
  rw [kv_m1] at h3
  exact absurd h3 (by decide)
def aWorth (s : St) (r t k : Int32) : Int32 :=
  if (0 ≤ r.toInt ∧ r.toInt < ((sK s).length : Int)) ∧ (0 ≤ t.toInt ∧ t.toInt ≤ 4) ∧ -1 ≤ k.toInt ∧ k.toInt < t.toInt then
    (if hgt (sK s) r.toInt.toNat < t.toInt.toNat then cI (-2) else if k.toInt < 0 then (sres (envS s) ((sK s).getD r.toInt.toNat []) t.toInt.toNat).1 else nI ((sres (envS s) ((sK s).getD r.toInt.toNat []) t.toInt.toNat).2.getD k.toInt.toNat 0)) else cI (-1)
theorem at_get {l : List Nat} {j : Nat} (h : j < l.length) : l[j]? = some (l.getD j 0) := by
  rw [List.getD, List.getElem?_eq_getElem h]
  rfl
theorem pb_worth {d c : Nat} {M : Mem} {s : St} {r t k : Int32} (h : RC c M s) : Call (d + 14) 90 [.ref 0, .int r, .int t, .int k] M (RP c M (.int (aWorth s r t k)) s) := by
  have h1 := h.k
  have h2 := h.e
  refine call_run 400 rfl rfl (fun B Cl Z hZ hB hC => ?_)
  (conv => whnf); refine ret_k hC (sp_hasRick (by simp [isYd]) h1) ?_
  (conv => whnf); refine ⟨fun a => ?_, fun a => ?_⟩
  · rw [b2_z] at a
    have e9 : aWorth s r t k = cI (-1) := if_neg (fun z => a z.1)
    rw [e9] at hZ
    conv => whnf
    exact hZ _ _ (RP_same h Fr_refl)
  rw [b2_z] at a
  have a := Classical.not_not.mp a
  have out : ¬ ((0 ≤ t.toInt ∧ t.toInt ≤ 4) ∧ -1 ≤ k.toInt ∧ k.toInt < t.toInt) → aWorth s r t k = cI (-1) := fun z => if_neg (fun y => z y.2)
  (conv => whnf); refine ⟨fun b => ?_, fun b => ?_⟩
  · simp only [c_lt, c_gt, c_le, c_ge, c_eq, c_ne, b2_z, b2_nz, b2_i, Classical.not_not, t0, t1, Nat.reduceMod, Nat.reduceDiv, Int.reduceAdd, Int.reduceNeg, Nat.reduceAdd, kv_m2, kv_m1, kv_1, kv_4, kc_1, kc_4] at b
    rw [out (by omega)] at hZ
    conv => whnf
    exact hZ _ _ (RP_same h Fr_refl)
  simp only [c_lt, c_gt, c_le, c_ge, c_eq, c_ne, b2_z, b2_nz, b2_i, Classical.not_not, t0, t1, Nat.reduceMod, Nat.reduceDiv, Int.reduceAdd, Int.reduceNeg, Nat.reduceAdd, kv_m2, kv_m1, kv_1, kv_4, kc_1, kc_4] at b
  (conv => whnf); refine ⟨fun g => ?_, fun g => ?_⟩
  · simp only [c_lt, c_gt, c_le, c_ge, c_eq, c_ne, b2_z, b2_nz, b2_i, Classical.not_not, t0, t1, Nat.reduceMod, Nat.reduceDiv, Int.reduceAdd, Int.reduceNeg, Nat.reduceAdd, kv_m2, kv_m1, kv_1, kv_4, kc_1, kc_4] at g
    rw [out (by omega)] at hZ
    conv => whnf
    exact hZ _ _ (RP_same h Fr_refl)
  simp only [c_lt, c_gt, c_le, c_ge, c_eq, c_ne, b2_z, b2_nz, b2_i, Classical.not_not, t0, t1, Nat.reduceMod, Nat.reduceDiv, Int.reduceAdd, Int.reduceNeg, Nat.reduceAdd, kv_m2, kv_m1, kv_1, kv_4, kc_1, kc_4] at g
  (conv => whnf); refine ⟨fun q => ?_, fun q => ?_⟩
  · simp only [c_lt, c_gt, c_le, c_ge, c_eq, c_ne, b2_z, b2_nz, b2_i, Classical.not_not, t0, t1, Nat.reduceMod, Nat.reduceDiv, Int.reduceAdd, Int.reduceNeg, Nat.reduceAdd, kv_m2, kv_m1, kv_1, kv_4, kc_1, kc_4] at q
    rw [out (by omega)] at hZ
    conv => whnf
    exact hZ _ _ (RP_same h Fr_refl)
  simp only [c_lt, c_gt, c_le, c_ge, c_eq, c_ne, b2_z, b2_nz, b2_i, Classical.not_not, t0, t1, Nat.reduceMod, Nat.reduceDiv, Int.reduceAdd, Int.reduceNeg, Nat.reduceAdd, kv_m2, kv_m1, kv_1, kv_4, kc_1, kc_4] at q
  (conv => whnf); refine ⟨fun q2 => ?_, fun q2 => ?_⟩
  case' refine_2 =>
    simp only [c_lt, c_gt, c_le, c_ge, c_eq, c_ne, b2_z, b2_nz, b2_i, Classical.not_not, t0, t1, Nat.reduceMod, Nat.reduceDiv, Int.reduceAdd, Int.reduceNeg, Nat.reduceAdd, kv_m2, kv_m1, kv_1, kv_4, kc_1, kc_4] at q2
    rw [out (by omega)] at hZ
    conv => whnf
    exact hZ _ _ (RP_same h Fr_refl)
  simp only [c_lt, c_gt, c_le, c_ge, c_eq, c_ne, b2_z, b2_nz, b2_i, Classical.not_not, t0, t1, Nat.reduceMod, Nat.reduceDiv, Int.reduceAdd, Int.reduceNeg, Nat.reduceAdd, kv_m2, kv_m1, kv_1, kv_4, kc_1, kc_4] at q2
  obtain ⟨i, rfl, ei, hi⟩ := to_nI a.1
  obtain ⟨m, rfl, em, hm⟩ := to_nI (x := t) (by omega)
  have h12 : hgt (sK s) i ≤ 12 := h1.2.2.2.1 i
  have hi4 : i < 4 := by have := h1.2.1; omega
  have e8 : aWorth s (nI i) (nI m) k = (if hgt (sK s) i < m then cI (-2) else if k.toInt < 0 then (sres (envS s) ((sK s).getD i []) m).1 else nI ((sres (envS s) ((sK s).getD i []) m).2.getD k.toInt.toNat 0)) := by
    unfold aWorth
    rw [if_pos (by omega), ei, em]
    rfl
  rw [e8] at hZ
  have eh := nI_v (n := hgt (sK s) i) (by omega)
  (conv => whnf); refine ret_k hC (sp_height (r := i) (by simp [isYd]) h1 hi4) ?_
  (conv => whnf); refine ⟨fun u => ?_, fun u => ?_⟩
  · simp only [c_lt, c_gt, c_le, c_ge, c_eq, c_ne, b2_z, b2_nz, b2_i, Classical.not_not, t0, t1, Nat.reduceMod, Nat.reduceDiv, Int.reduceAdd, Int.reduceNeg, Nat.reduceAdd, kv_m2, kv_m1, kv_1, kv_4, kc_1, kc_4, eh, em] at u
    rw [if_neg (by omega)] at hZ
    (conv => whnf)
    refine hC _ _ _ _ _ (sp_sbegin (sell := true) h1 (by omega : i < (sK s).length)) (fun v M1 p => ?_)
    obtain ⟨rfl, p2, p3⟩ := p
    (conv => whnf)
    refine hC _ _ _ _ _ (sp_sellBest (t := m) (by omega) (RSe_r p3) (RE_fr h2 p2 (by decide))) (fun v M2 p => ?_)
    obtain ⟨rfl, y1, y2, y3⟩ := p
    have hF : Fr AX M M2 := Fr_trans (Fr_sub p2 (by decide)) (Fr_sub y3 (by decide))
    have hlen := sres_len (E := envS s) (ls := (sK s).getD i []) (t := m) (by omega) h12 (by show m ≤ hgt (sK s) i; omega)
    (conv => whnf); refine ⟨fun x => ?_, fun x => ?_⟩
    · simp only [c_lt, c_gt, c_le, c_ge, c_eq, c_ne, b2_z, b2_nz, b2_i, Classical.not_not, t0, t1, Nat.reduceMod, Nat.reduceDiv, Int.reduceAdd, Int.reduceNeg, Nat.reduceAdd, kv_m2, kv_m1, kv_1, kv_4, kc_1, kc_4] at x
      rw [if_neg (by omega)] at hZ
      obtain ⟨j, rfl, ej, hj⟩ := to_nI (x := k) (by omega)
      have e7 : (nI j).toInt.toNat = j := by rw [ej]; rfl
      rw [e7] at hZ
      (conv => whnf); refine ret_k hC (sp_bestAt (i := j) (by omega)) ?_
      conv => whnf
      rw [y1.2 j _ (at_get (by omega))]
      exact hZ _ _ (RP_same h hF)
    · simp only [c_lt, c_gt, c_le, c_ge, c_eq, c_ne, b2_z, b2_nz, b2_i, Classical.not_not, t0, t1, Nat.reduceMod, Nat.reduceDiv, Int.reduceAdd, Int.reduceNeg, Nat.reduceAdd, kv_m2, kv_m1, kv_1, kv_4, kc_1, kc_4] at x
      rw [if_pos (by omega)] at hZ
      conv => whnf
      exact hZ _ _ (RP_v h hF (congrArg Value.int y1.1))
  · simp only [c_lt, c_gt, c_le, c_ge, c_eq, c_ne, b2_z, b2_nz, b2_i, Classical.not_not, t0, t1, Nat.reduceMod, Nat.reduceDiv, Int.reduceAdd, Int.reduceNeg, Nat.reduceAdd, kv_m2, kv_m1, kv_1, kv_4, kc_1, kc_4, eh, em] at u
    rw [if_pos (by omega)] at hZ
    conv => whnf
    exact hZ _ _ (RP_same h Fr_refl)
/-- the hours at a row's head, as layers -/
def hrL (n : Nat) (l : List Int64) : List Lyr := (l.take n).map (fun v => lyN v.toInt.toNat)
theorem hrs_le : ∀ (n : Nat) (l : List Int64), hrs n l ≤ n ∧ hrs n l ≤ l.length
  | 0, _ => ⟨Nat.le_refl _, Nat.zero_le _⟩
  | n + 1, [] => ⟨Nat.zero_le _, Nat.zero_le _⟩
  | n + 1, x :: l => by
    unfold hrs
    have := hrs_le n l
    split <;> simp <;> omega
theorem hrs_at : ∀ (n : Nat) (l : List Int64) (i : Nat), i < hrs n l → ∃ x, l[i]? = some x ∧ hrZ x.toInt
  | 0, _, i, h => by simp [hrs] at h
  | n + 1, [], i, h => by simp [hrs] at h
  | n + 1, x :: l, i, h => by
    unfold hrs at h
    split at h
    · next z =>
      match i, h with
      | 0, _ => exact ⟨x, rfl, z⟩
      | i + 1, h => exact hrs_at n l i (by omega)
    · omega
theorem hr_n {x : Int64} (h : hrZ x.toInt) : x.toInt32 = nI x.toInt.toNat ∧ okL (lyN x.toInt.toNat) ∧ x.toInt.toNat < 1000 := by
  obtain ⟨n, hn⟩ := Int.eq_ofNat_of_zero_le (a := x.toInt) (by have := h.1; omega)
  rw [hn] at h ⊢
  refine ⟨?_, hr_ok h⟩
  have h2 := h.2.1
  apply Int32.toInt_inj.mp
  rw [Int64.toInt_toInt32, hn]
  show ((n : Int)).bmod _ = (nI n).toInt
  rw [nI_v (by omega)]
  exact Int.bmod_eq_of_le (by omega) (by omega)
theorem hrL_s {n : Nat} {l : List Int64} {x : Int64} (h : l[n]? = some x) : hrL (n + 1) l = hrL n l ++ [lyN x.toInt.toNat] := by
  unfold hrL
  rw [List.take_succ, h, List.map_append]
  rfl
theorem hrL_len {n : Nat} {l : List Int64} (h : n ≤ l.length) : (hrL n l).length = n := by
  unfold hrL
  rw [List.length_map, List.length_take]
  omega
def aOrder (s : St) (x r k : Int32) : Int32 :=
  if (0 ≤ x.toInt ∧ x.toInt < 6) ∧ (0 ≤ r.toInt ∧ r.toInt < ((sK s).length : Int)) ∧ -1 ≤ k.toInt then (match rowL (sSh s x.toInt.toNat) 1 with
    | some l => if 7 < hrs 12 l then cI (-5) else if 12 < hgt (sK s) r.toInt.toNat + hrs 12 l ∨ (hrs 12 l : Int) ≤ k.toInt then cI (-2)
      else if (dres (envS s) ((sK s).getD r.toInt.toNat [] ++ hrL (hrs 12 l) l) (hgt (sK s) r.toInt.toNat) (hrs 12 l)).1 ≤ (envS s).2.2.1 then (if k.toInt < 0 then (dres (envS s) ((sK s).getD r.toInt.toNat [] ++ hrL (hrs 12 l) l) (hgt (sK s) r.toInt.toNat) (hrs 12 l)).1 else nI ((dres (envS s) ((sK s).getD r.toInt.toNat [] ++ hrL (hrs 12 l) l) (hgt (sK s) r.toInt.toNat) (hrs 12 l)).2.getD k.toInt.toNat 0)) else cI (-2)
    | none => rfu (sSh s x.toInt.toNat) 1) else cI (-1)
theorem order_loop {d c i a : Nat} {M0 : Mem} {s : St} {x k z : Int32} {l : List Int64} (h : RC c M0 s) (ha : isSh a) (hi : i < (sK s).length) (h7 : hrs 12 l ≤ 7) (h12 : hgt (sK s) i + hrs 12 l ≤ 12) (hk : -1 ≤ k.toInt ∧ k.toInt < (hrs 12 l : Int)) : ∀ (m j : Nat) (M : Mem), j + m = hrs 12 l → Fr AX M0 M → RS M a (some (.inr (1, l))) → RSe M ((sK s).getD i [] ++ hrL j l) false →
    BodyK (d + 21) 88 104 [(0, .ref 0), (1, .int x), (2, .int (nI i)), (3, .int k), (4, .ref a), (5, .int z), (6, .int (nI (hrs 12 l))), (7, .int (nI j))] [] M (RP c M0 (.int (if (dres (envS s) ((sK s).getD i [] ++ hrL (hrs 12 l) l) (hgt (sK s) i) (hrs 12 l)).1 ≤ (envS s).2.2.1 then (if k.toInt < 0 then (dres (envS s) ((sK s).getD i [] ++ hrL (hrs 12 l) l) (hgt (sK s) i) (hrs 12 l)).1 else nI ((dres (envS s) ((sK s).getD i [] ++ hrL (hrs 12 l) l) (hgt (sK s) i) (hrs 12 l)).2.getD k.toInt.toNat 0)) else cI (-2))) s) := by
  have hle := hrs_le 12 l
  have en := nI_v (n := hrs 12 l) (by omega)
  intro m
  induction m with
  | zero =>
    intro j M hj hF hs hR
    obtain rfl : j = hrs 12 l := by omega
    refine body_run 400 rfl (fun B Cl Z hZ hB hC => ?_)
    (conv => whnf); refine ⟨fun b => ?_, fun b => ?_⟩
    case' refine_2 =>
      simp only [c_lt, c_gt, c_le, c_ge, c_eq, c_ne, b2_z, b2_nz, b2_i, Classical.not_not, t0, t1, Nat.reduceMod, Nat.reduceDiv, Int.reduceAdd, Int.reduceNeg, Nat.reduceAdd, kv_m5, kv_m2, kv_m1, kv_0, kv_1, kv_7, kv_12, kc_0, kc_1, kc_7, kc_12, en] at b
      omega
    have hE : RE M (envS s) := RE_fr h.e hF (by decide)
    (conv => whnf)
    refine hC _ _ _ _ _ (sp_layBest (base := hgt (sK s) i) (n := hrs 12 l) (by rw [List.length_append, hrL_len hle.2]; rfl) h7 (RSe_r hR) hE) (fun v M2 p => ?_)
    obtain ⟨rfl, y1, y2, y3⟩ := p
    have hF2 : Fr AX M0 M2 := Fr_trans hF (Fr_sub y3 (by decide))
    generalize hD : dres (envS s) ((sK s).getD i [] ++ hrL (hrs 12 l) l) (hgt (sK s) i) (hrs 12 l) = D at y1 hZ
    (conv => whnf); refine ⟨fun g => ?_, fun g => ?_⟩
    · rw [b2_nz] at g
      rw [if_pos g] at hZ
      have hlen : D.2.length = hrs 12 l := by
        rw [← hD]
        refine dres_len (fun q => ?_)
        rw [hD] at q
        rw [q] at g
        replace g : (nI (sSt s) + cI 1) ≤ nI (sSt s) := g
        have hst := h.2.2.2.1.2.1
        have e1 : nI (sSt s) + cI 1 = nI (sSt s + 1) := nI_1 _
        rw [e1, le_i, nI_v (by omega), nI_v (by omega)] at g
        omega
      (conv => whnf); refine ⟨fun u => ?_, fun u => ?_⟩
      · simp only [c_lt, c_gt, c_le, c_ge, c_eq, c_ne, b2_z, b2_nz, b2_i, Classical.not_not, t0, t1, Nat.reduceMod, Nat.reduceDiv, Int.reduceAdd, Int.reduceNeg, Nat.reduceAdd, kv_m5, kv_m2, kv_m1, kv_0, kv_1, kv_7, kv_12, kc_0, kc_1, kc_7, kc_12] at u
        rw [if_neg (by omega)] at hZ
        obtain ⟨q, rfl, eq, hq⟩ := to_nI (x := k) (by omega)
        have e7 : (nI q).toInt.toNat = q := by rw [eq]; rfl
        rw [e7] at hZ
        (conv => whnf); refine ret_k hC (sp_bestAt (i := q) (by omega)) ?_
        conv => whnf
        rw [y1.2 q _ (at_get (by omega))]
        exact hZ _ _ (RP_same h hF2)
      · simp only [c_lt, c_gt, c_le, c_ge, c_eq, c_ne, b2_z, b2_nz, b2_i, Classical.not_not, t0, t1, Nat.reduceMod, Nat.reduceDiv, Int.reduceAdd, Int.reduceNeg, Nat.reduceAdd, kv_m5, kv_m2, kv_m1, kv_0, kv_1, kv_7, kv_12, kc_0, kc_1, kc_7, kc_12] at u
        rw [if_pos (by omega)] at hZ
        conv => whnf
        exact hZ _ _ (RP_v h hF2 (congrArg Value.int y1.1))
    · rw [b2_nz] at g
      rw [if_neg g] at hZ
      conv => whnf
      exact hZ _ _ (RP_same h hF2)
  | succ m ih =>
    intro j M hj hF hs hR
    have ej := nI_v (n := j) (by omega)
    obtain ⟨y, hy, hyz⟩ := hrs_at 12 l j (by omega)
    obtain ⟨n1, n2, n3⟩ := hr_n hyz
    refine body_run 400 rfl (fun B Cl Z hZ hB hC => ?_)
    (conv => whnf); refine ⟨fun b => ?_, fun b => ?_⟩
    · simp only [c_lt, c_gt, c_le, c_ge, c_eq, c_ne, b2_z, b2_nz, b2_i, Classical.not_not, t0, t1, Nat.reduceMod, Nat.reduceDiv, Int.reduceAdd, Int.reduceNeg, Nat.reduceAdd, kv_m5, kv_m2, kv_m1, kv_0, kv_1, kv_7, kv_12, kc_0, kc_1, kc_7, kc_12, en, ej] at b
      omega
    conv => whnf
    rw [lay_sh ha]
    (conv => whnf); refine ret_k hC (sp_cell ha hs hy) ?_
    (conv => whnf)
    rw [n1]
    refine hC _ _ _ _ _ (sp_addHour hR (by rw [List.length_append, hrL_len (by omega)]; show hgt (sK s) i + j < 12; omega) n2 n3) (fun v M2 p => ?_)
    obtain ⟨rfl, p2, p3⟩ := p
    (conv => whnf)
    rw [List.append_assoc, ← hrL_s hy] at p3
    refine hB _ _ _ _ (Body_lv (ih (j + 1) M2 (by omega) (Fr_trans hF (Fr_sub p2 (by decide))) (RS_fr hs p2 ?_) p3) ⟨rfl, rfl, rfl, rfl, rfl, rfl, rfl, v_eq (nI_i1 j), trivial⟩)
    rcases ha with rfl | rfl | rfl | rfl | rfl | rfl <;> decide
theorem pb_order {d c : Nat} {M : Mem} {s : St} {x r k : Int32} (h : RC c M s) : Call (d + 21) 88 [.ref 0, .int x, .int r, .int k] M (RP c M (.int (aOrder s x r k)) s) := by
  have h1 := h.k
  have h2 := h.e
  refine call_run 400 rfl rfl (fun B Cl Z hZ hB hC => ?_)
  (conv => whnf)
  refine hC _ _ _ _ _ (sp_shelfR h) (fun v M1 p => ?_)
  obtain ⟨rfl, ⟨p1, rfl⟩ | ⟨i, a, hi, rfl, ei, hia, ha, hs, rfl⟩⟩ := p
  · have e9 : aOrder s x r k = cI (-1) := if_neg (fun z => p1 z.1)
    rw [e9] at hZ
    conv => whnf
    exact hZ _ _ (RP_same h Fr_refl)
  have out : ¬ ((0 ≤ r.toInt ∧ r.toInt < ((sK s).length : Int)) ∧ -1 ≤ k.toInt) → aOrder s (nI i) r k = cI (-1) := fun z => if_neg (fun y => z y.2)
  (conv => whnf); refine ret_k hC (sp_hasRick (by simp [isYd]) h1) ?_
  (conv => whnf); refine ⟨fun b => ?_, fun b => ?_⟩
  · rw [b2_z] at b
    rw [out (fun z => b z.1)] at hZ
    conv => whnf
    exact hZ _ _ (RP_same h Fr_refl)
  rw [b2_z] at b
  have b := Classical.not_not.mp b
  (conv => whnf); refine ⟨fun g => ?_, fun g => ?_⟩
  case' refine_2 =>
    simp only [c_lt, c_gt, c_le, c_ge, c_eq, c_ne, b2_z, b2_nz, b2_i, Classical.not_not, t0, t1, Nat.reduceMod, Nat.reduceDiv, Int.reduceAdd, Int.reduceNeg, Nat.reduceAdd, kv_m5, kv_m2, kv_m1, kv_0, kv_1, kv_7, kv_12, kc_0, kc_1, kc_7, kc_12] at g
    rw [out (by omega)] at hZ
    conv => whnf
    exact hZ _ _ (RP_same h Fr_refl)
  simp only [c_lt, c_gt, c_le, c_ge, c_eq, c_ne, b2_z, b2_nz, b2_i, Classical.not_not, t0, t1, Nat.reduceMod, Nat.reduceDiv, Int.reduceAdd, Int.reduceNeg, Nat.reduceAdd, kv_m5, kv_m2, kv_m1, kv_0, kv_1, kv_7, kv_12, kc_0, kc_1, kc_7, kc_12] at g
  obtain ⟨j, rfl, ej, hj⟩ := to_nI (x := r) (by omega)
  have hj4 : j < 4 := by have := h1.2.1; omega
  have h12 : hgt (sK s) j ≤ 12 := h1.2.2.2.1 j
  have e8 : aOrder s (nI i) (nI j) k = (match rowL (sSh s i) 1 with
    | some l => if 7 < hrs 12 l then cI (-5) else if 12 < hgt (sK s) j + hrs 12 l ∨ (hrs 12 l : Int) ≤ k.toInt then cI (-2)
      else if (dres (envS s) ((sK s).getD j [] ++ hrL (hrs 12 l) l) (hgt (sK s) j) (hrs 12 l)).1 ≤ (envS s).2.2.1 then (if k.toInt < 0 then (dres (envS s) ((sK s).getD j [] ++ hrL (hrs 12 l) l) (hgt (sK s) j) (hrs 12 l)).1 else nI ((dres (envS s) ((sK s).getD j [] ++ hrL (hrs 12 l) l) (hgt (sK s) j) (hrs 12 l)).2.getD k.toInt.toNat 0)) else cI (-2)
    | none => rfu (sSh s i) 1) := by
    unfold aOrder
    rw [if_pos (by omega), ei, ej]
    rfl
  rw [e8] at hZ hB
  conv => whnf
  rw [lay_sh ha]
  (conv => whnf); refine ret_k hC (sp_refusal (w := 1) ha hs (by decide)) ?_
  rcases rowL_c (sSh s i) 1 with ⟨l, q1, q2, q3⟩ | ⟨q1, q2⟩
  · rw [q2] at hZ hB
    rw [q1] at hs
    rw [q3]
    dsimp only at hZ hB
    have hle := hrs_le 12 l
    have en := nI_v (n := hrs 12 l) (by omega)
    (conv => whnf); refine ⟨fun t => ?_, fun t => ?_⟩
    case' refine_2 => exact absurd rfl t
    (conv => whnf); refine ret_k hC (sp_hoursOn ha hs) ?_
    (conv => whnf); refine ⟨fun t7 => ?_, fun t7 => ?_⟩
    case' refine_2 =>
      simp only [c_lt, c_gt, c_le, c_ge, c_eq, c_ne, b2_z, b2_nz, b2_i, Classical.not_not, t0, t1, Nat.reduceMod, Nat.reduceDiv, Int.reduceAdd, Int.reduceNeg, Nat.reduceAdd, kv_m5, kv_m2, kv_m1, kv_0, kv_1, kv_7, kv_12, kc_0, kc_1, kc_7, kc_12, en] at t7
      rw [if_pos (by omega)] at hZ
      conv => whnf
      exact hZ _ _ (RP_same h Fr_refl)
    simp only [c_lt, c_gt, c_le, c_ge, c_eq, c_ne, b2_z, b2_nz, b2_i, Classical.not_not, t0, t1, Nat.reduceMod, Nat.reduceDiv, Int.reduceAdd, Int.reduceNeg, Nat.reduceAdd, kv_m5, kv_m2, kv_m1, kv_0, kv_1, kv_7, kv_12, kc_0, kc_1, kc_7, kc_12, en] at t7
    rw [if_neg (by omega)] at hZ hB
    (conv => whnf); refine ret_k hC (sp_height (r := j) (by simp [isYd]) h1 hj4) ?_
    (conv => whnf); refine ⟨fun u => ?_, fun u => ?_⟩
    · replace u : cnd .gt (nI (hgt (sK s) j) + nI (hrs 12 l)) (cI 12) := u
      rw [nI_add, c_gt, nI_v (by omega), kv_12] at u
      rw [if_pos (by omega)] at hZ
      conv => whnf
      exact hZ _ _ (RP_same h Fr_refl)
    replace u : ¬ cnd .gt (nI (hgt (sK s) j) + nI (hrs 12 l)) (cI 12) := u
    rw [nI_add, c_gt, nI_v (by omega), kv_12] at u
    (conv => whnf); refine ⟨fun w => ?_, fun w => ?_⟩
    · simp only [c_lt, c_gt, c_le, c_ge, c_eq, c_ne, b2_z, b2_nz, b2_i, Classical.not_not, t0, t1, Nat.reduceMod, Nat.reduceDiv, Int.reduceAdd, Int.reduceNeg, Nat.reduceAdd, kv_m5, kv_m2, kv_m1, kv_0, kv_1, kv_7, kv_12, kc_0, kc_1, kc_7, kc_12, en] at w
      rw [if_neg (by omega)] at hB
      (conv => whnf)
      refine hC _ _ _ _ _ (sp_sbegin (sell := false) h1 (by omega : j < (sK s).length)) (fun v M2 p => ?_)
      obtain ⟨rfl, p2, p3⟩ := p
      (conv => whnf)
      have happ : (sK s).getD j [] = (sK s).getD j [] ++ hrL 0 l := by unfold hrL; simp
      rw [happ] at p3
      refine hB _ _ _ _ (Body_lv (order_loop (d := d) h ha (by omega) (by omega) (by omega) ⟨g, w⟩ (hrs 12 l) 0 M2 (by omega) (Fr_sub p2 (by decide)) (RS_fr hs p2 ?_) p3) ⟨rfl, rfl, rfl, rfl, rfl, rfl, rfl, rfl, trivial⟩)
      rcases ha with rfl | rfl | rfl | rfl | rfl | rfl <;> decide
    · simp only [c_lt, c_gt, c_le, c_ge, c_eq, c_ne, b2_z, b2_nz, b2_i, Classical.not_not, t0, t1, Nat.reduceMod, Nat.reduceDiv, Int.reduceAdd, Int.reduceNeg, Nat.reduceAdd, kv_m5, kv_m2, kv_m1, kv_0, kv_1, kv_7, kv_12, kc_0, kc_1, kc_7, kc_12, en] at w
      rw [if_pos (by omega)] at hZ
      conv => whnf
      exact hZ _ _ (RP_same h Fr_refl)
  · rw [q1] at hZ
    (conv => whnf); refine ⟨fun t => ?_, fun t => ?_⟩
    · rw [c_eq, t0] at t
      omega
    · conv => whnf
      exact hZ _ _ (RP_same h Fr_refl)
