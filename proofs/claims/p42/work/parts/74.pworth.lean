/-! worth: the told cuts may be made and pay it; one more sold pays no less -/
theorem heldK_v (v : Int32) : 0 ≤ (heldK v).toInt ∧ (heldK v).toInt ≤ 9 := by
  unfold heldK maxI minI
  have e0 : (0 : Int32).toInt = 0 := rfl
  have e9 : (9 : Int32).toInt = 9 := rfl
  by_cases h : v < 9
  · rw [if_pos h]
    rw [Int32.lt_iff_toInt_lt, e9] at h
    by_cases h2 : (0 : Int32) < v
    · rw [if_pos h2]
      rw [Int32.lt_iff_toInt_lt, e0] at h2
      omega
    · rw [if_neg h2, e0]
      omega
  · rw [if_neg h]
    rw [if_pos (by decide), e9]
    omega
theorem amt_v {lw : List Nat} {cold force age mark k above : Int32} : 0 ≤ (amt lw cold force age mark k above).toInt ∧ (amt lw cold force age mark k above).toInt ≤ 9 := by
  unfold amt
  split
  · exact heldK_v _
  · exact heldK_v _
theorem kpt_v {lw : List Nat} {cold : Int32} {h l : Nat} {q : Lyr} : 0 ≤ (kpt lw cold h l q).toInt ∧ (kpt lw cold h l q).toInt ≤ 9 := amt_v
theorem pS_v {E : EnvK} {ls : List Lyr} {s i : Nat} : 0 ≤ (pS E ls s i).toInt ∧ (pS E ls s i).toInt ≤ 9 := by
  unfold pS
  split
  · exact amt_v
  · exact ⟨by decide, by decide⟩
/-- cuts that may be made one by one from the set s; what they leave; what they pay -/
def okC : Nat → List Nat → Prop
  | _, [] => True
  | s, c :: l => s.testBit c = true ∧ okC (clr s c) l
def lft : Nat → List Nat → Nat
  | s, [] => s
  | s, c :: l => lft (clr s c) l
def pay (E : EnvK) (ls : List Lyr) : Nat → List Nat → Int32 → Int32
  | _, [], a => a
  | s, c :: l, a => pay E ls (clr s c) l (a + pS E ls s c)
theorem okC_app : ∀ {l l' : List Nat} {s : Nat}, okC s l → okC (lft s l) l' → okC s (l ++ l')
  | [], _, _, _, h2 => h2
  | c :: l, l', s, ⟨h1, h3⟩, h2 => ⟨h1, okC_app h3 h2⟩
theorem lft_app : ∀ {l l' : List Nat} {s : Nat}, lft s (l ++ l') = lft (lft s l) l'
  | [], _, _ => rfl
  | c :: l, l', s => lft_app (l := l) (l' := l') (s := clr s c)
theorem pay_app {E : EnvK} {ls : List Lyr} : ∀ {l l' : List Nat} {s : Nat} {a : Int32}, pay E ls s (l ++ l') a = pay E ls (lft s l) l' (pay E ls s l a)
  | [], _, _, _ => rfl
  | c :: l, l', s, a => pay_app (l := l) (l' := l') (s := clr s c)
theorem pay_v {E : EnvK} {ls : List Lyr} : ∀ (l : List Nat) (s : Nat) (a : Int32), 0 ≤ a.toInt → a.toInt + 9 * (l.length : Int) ≤ 1000 → a.toInt ≤ (pay E ls s l a).toInt ∧ (pay E ls s l a).toInt ≤ a.toInt + 9 * (l.length : Int)
  | [], _, a, _, _ => ⟨Int.le_refl _, by show a.toInt ≤ a.toInt + 9 * ((0 : Nat) : Int); omega⟩
  | c :: l, s, a, h0, hb => by
    have hp := pS_v (E := E) (ls := ls) (s := s) (i := c)
    rw [List.length_cons] at hb ⊢
    have e1 : (a + pS E ls s c).toInt = a.toInt + (pS E ls s c).toInt := ad_v (by omega) (by omega)
    have ih := pay_v (E := E) (ls := ls) l (clr s c) (a + pS E ls s c) (by omega) (by omega)
    show a.toInt ≤ (pay E ls (clr s c) l (a + pS E ls s c)).toInt ∧ (pay E ls (clr s c) l (a + pS E ls s c)).toInt ≤ _
    omega
def sGood (E : EnvK) (ls : List Lyr) (t : Nat) (st0 st : DS) : Prop := st = st0 ∨ (st.2.length = t ∧ okC (2 ^ ls.length - 1) st.2 ∧ st.1 = pay E ls (2 ^ ls.length - 1) st.2 (cI 0))
theorem sC_good {E : EnvK} {ls : List Lyr} {t : Nat} {st0 : DS} : ∀ (f : Nat) (pth : List Nat) (s : Nat) (paid : Int32) (st : DS), pth.length + f = t → okC (2 ^ ls.length - 1) pth → lft (2 ^ ls.length - 1) pth = s → pay E ls (2 ^ ls.length - 1) pth (cI 0) = paid → sGood E ls t st0 st → sGood E ls t st0 (sC E ls t f pth s paid st)
  | 0, pth, s, paid, st, hl, hc, hs, hp, _ => Or.inr ⟨(show pth.length = t by omega), hc, hp.symm⟩
  | f + 1, pth, s, paid, st, hl, hc, hs, hp, hg => by
    unfold sC
    refine foldl_ok _ _ hg (fun st i hi hst => ?_)
    split
    · next hb =>
      split
      · refine sC_good f (pth ++ [i]) (clr s i) _ st (by rw [List.length_append]; show pth.length + 1 + f = t; omega) (okC_app hc ⟨by rw [hs]; exact hb, trivial⟩) (by rw [lft_app, hs]; rfl) (by rw [pay_app, hs, hp]; rfl) hst
      · exact hst
    · exact hst
theorem foldl_ge {α β : Type} {m : α → Int} {F : α → β → α} (hF : ∀ a b, m a ≤ m (F a b)) : ∀ (l : List β) (a : α), m a ≤ m (l.foldl F a)
  | [], _ => Int.le_refl _
  | b :: l, a => Int.le_trans (hF a b) (foldl_ge hF l (F a b))
theorem foldl_hit {α β : Type} {m : α → Int} {F : α → β → α} {X : Int} {c : β} (hF : ∀ a b, m a ≤ m (F a b)) (hc : ∀ a, X ≤ m (F a c)) : ∀ (l : List β) (a : α), c ∈ l → X ≤ m (l.foldl F a)
  | [], _, h => absurd h List.not_mem_nil
  | b :: l, a, h => by
    rcases List.mem_cons.mp h with h | h
    · subst h
      exact Int.le_trans (hc a) (foldl_ge hF l (F a c))
    · exact foldl_hit hF hc l (F a b) h
theorem lim_v {t len f : Nat} (h : len + (f + 1) = t) (ht : t ≤ 12) : (cI 9 * (nI t - cI 1 - nI len)).toInt = 9 * (f : Int) := by
  have e : nI t - cI 1 - nI len = nI f := by
    rw [cn_1, nI_sub (by omega), nI_sub (by omega)]
    congr 1
    omega
  rw [e, cn_9, nI_mul, nI_v (by omega)]
  omega
theorem sC_up {E : EnvK} {ls : List Lyr} {t : Nat} (ht : t ≤ 12) : ∀ (f : Nat) (pth : List Nat) (s : Nat) (paid : Int32) (st : DS), pth.length + f = t → 0 ≤ paid.toInt → paid.toInt + 9 * (f : Int) ≤ 1000 → st.1.toInt < paid.toInt + 9 * (f : Int) → st.1.toInt ≤ (sC E ls t f pth s paid st).1.toInt
  | 0, pth, s, paid, st, _, _, _, h => by
    show st.1.toInt ≤ paid.toInt
    omega
  | f + 1, pth, s, paid, st, hl, h0, hb, _ => by
    unfold sC
    refine foldl_ge (m := fun st : DS => st.1.toInt) (fun st i => ?_) _ st
    have hp := pS_v (E := E) (ls := ls) (s := s) (i := i)
    have e1 : (paid + pS E ls s i).toInt = paid.toInt + (pS E ls s i).toInt := ad_v (by omega) (by omega)
    have e2 := lim_v hl ht
    split
    · split
      · next hc =>
        rw [Int32.lt_iff_toInt_lt, ad_v (by omega) (by omega), e2] at hc
        exact sC_up ht f _ _ _ st (by rw [List.length_append]; show pth.length + 1 + f = t; omega) (by omega) (by omega) hc
      · exact Int.le_refl _
    · exact Int.le_refl _
theorem sC_best {E : EnvK} {ls : List Lyr} {t : Nat} (ht : t ≤ 12) : ∀ (f : Nat) (pth : List Nat) (s : Nat) (paid : Int32) (st : DS), s < 2 ^ ls.length → pth.length + f = t → 0 ≤ paid.toInt → paid.toInt + 9 * (f : Int) ≤ 1000 → ∀ l, okC s l → l.length = f → (pay E ls s l paid).toInt ≤ (sC E ls t f pth s paid st).1.toInt
  | 0, pth, s, paid, st, _, _, _, _, l, _, hl => by
    rw [List.length_eq_zero_iff.mp hl]
    exact Int.le_refl _
  | f + 1, pth, s, paid, st, hs, hl, h0, hb, l, hc, hlen => by
    match l, hc, hlen with
    | c :: l, ⟨hbit, hc⟩, hlen =>
      rw [List.length_cons] at hlen
      have hp := pS_v (E := E) (ls := ls) (s := s) (i := c)
      have e1 : (paid + pS E ls s c).toInt = paid.toInt + (pS E ls s c).toInt := ad_v (by omega) (by omega)
      have e2 := lim_v hl ht
      unfold sC
      refine foldl_hit (m := fun st : DS => st.1.toInt) (c := c) (fun st i => ?_) (fun st => ?_) _ st (List.mem_range.mpr (testBit_lt hs hbit))
      · have hp := pS_v (E := E) (ls := ls) (s := s) (i := i)
        have e1 : (paid + pS E ls s i).toInt = paid.toInt + (pS E ls s i).toInt := ad_v (by omega) (by omega)
        split
        · split
          · next hc =>
            rw [Int32.lt_iff_toInt_lt, ad_v (by omega) (by omega), e2] at hc
            exact sC_up ht f _ _ _ st (by rw [List.length_append]; show pth.length + 1 + f = t; omega) (by omega) (by omega) hc
          · exact Int.le_refl _
        · exact Int.le_refl _
      · show (pay E ls (clr s c) l (paid + pS E ls s c)).toInt ≤ _
        rw [if_pos hbit]
        split
        · exact sC_best ht f _ _ _ st (clr_lt2 hs) (by rw [List.length_append]; show pth.length + 1 + f = t; omega) (by omega) (by omega) l hc (by omega)
        · next hn =>
          rw [Int32.lt_iff_toInt_lt, ad_v (by omega) (by omega), e2] at hn
          have := pay_v (E := E) (ls := ls) l (clr s c) (paid + pS E ls s c) (by omega) (by omega)
          have e3 : (l.length : Int) = (f : Int) := by omega
          rw [e3] at this
          omega
/-- from a set that has so many there are so many cuts -/
theorem okC_ex {n : Nat} (hn : n ≤ 12) : ∀ (f s : Nat), s < 2 ^ n → f ≤ pcn s n → ∃ l, okC s l ∧ l.length = f
  | 0, s, _, _ => ⟨[], trivial, rfl⟩
  | f + 1, s, hs, h => by
    have hex : ∀ m, 0 < pcn s m → ∃ c, s.testBit c = true := by
      intro m
      induction m with
      | zero => intro h; exact absurd h (Nat.lt_irrefl 0)
      | succ m ih =>
        intro h
        by_cases q : s.testBit m = true
        · exact ⟨m, q⟩
        · rw [pcn_n q] at h
          exact ih h
    obtain ⟨c, hc⟩ := hex n (by omega)
    have hp := pcn_clr2 (s4096 hs hn) hc n
    obtain ⟨l, h1, h2⟩ := okC_ex hn f (clr s c) (clr_lt2 hs) (by rw [hp]; split <;> omega)
    exact ⟨c :: l, ⟨hc, h1⟩, by rw [List.length_cons, h2]⟩
theorem pcn_all {n : Nat} : ∀ m, m ≤ n → pcn (2 ^ n - 1) m = m
  | 0, _ => rfl
  | m + 1, h => by rw [pcn_p (by rw [all_bit]; simp; omega), pcn_all m (by omega)]
theorem lft_pcn {n : Nat} (hn : n ≤ 12) : ∀ (l : List Nat) (s : Nat), s < 2 ^ n → okC s l → lft s l < 2 ^ n ∧ pcn (lft s l) n + l.length = pcn s n
  | [], s, hs, _ => ⟨hs, rfl⟩
  | c :: l, s, hs, ⟨h1, h2⟩ => by
    obtain ⟨a1, a2⟩ := lft_pcn hn l (clr s c) (clr_lt2 hs) h2
    have hp := pcn_clr2 (s4096 hs hn) h1 n
    have hc := testBit_lt hs h1
    rw [if_pos hc] at hp
    have hge := pcn_mono (s := s) (i := c + 1) (j := n) (by omega)
    rw [pcn_p h1] at hge
    refine ⟨a1, ?_⟩
    show pcn (lft (clr s c) l) n + (l.length + 1) = _
    omega
theorem sres_ok {E : EnvK} {ls : List Lyr} {t : Nat} (h12 : ls.length ≤ 12) (ht : t ≤ ls.length) : (sres E ls t).2.length = t ∧ okC (2 ^ ls.length - 1) (sres E ls t).2 ∧ (sres E ls t).1 = pay E ls (2 ^ ls.length - 1) (sres E ls t).2 (cI 0) ∧ 0 ≤ (sres E ls t).1.toInt := by
  have hpos : 0 < 2 ^ ls.length := Nat.two_pow_pos _
  obtain ⟨l, l1, l2⟩ := okC_ex h12 t (2 ^ ls.length - 1) (by omega) (by rw [pcn_all _ (Nat.le_refl _)]; exact ht)
  have hb := sC_best (E := E) (ls := ls) (t := t) (by omega) t [] (2 ^ ls.length - 1) (cI 0) (cI (-1), []) (by omega) (by simp) (by rw [kv_0]; omega) (by rw [kv_0]; omega) l l1 l2
  have hv := pay_v (E := E) (ls := ls) l (2 ^ ls.length - 1) (cI 0) (by rw [kv_0]; omega) (by rw [kv_0, l2]; omega)
  rw [kv_0] at hv
  have h0 : 0 ≤ (sres E ls t).1.toInt := by unfold sres; omega
  have hg := sC_good (E := E) (ls := ls) (t := t) (st0 := (cI (-1), [])) t [] (2 ^ ls.length - 1) (cI 0) (cI (-1), []) (by simp) trivial rfl rfl (Or.inl rfl)
  rcases hg with hg | ⟨g1, g2, g3⟩
  · exfalso
    have e : (sres E ls t).1 = cI (-1) := by unfold sres; rw [hg]
    rw [e, kv_m1] at h0
    omega
  · exact ⟨g1, g2, g3, h0⟩
theorem sres_up {E : EnvK} {ls : List Lyr} {t : Nat} (h12 : ls.length ≤ 12) (ht : t + 1 ≤ ls.length) : (sres E ls t).1.toInt ≤ (sres E ls (t + 1)).1.toInt := by
  have hpos : 0 < 2 ^ ls.length := Nat.two_pow_pos _
  obtain ⟨g1, g2, g3, g4⟩ := sres_ok (E := E) h12 (t := t) (by omega)
  obtain ⟨f1, f2⟩ := lft_pcn h12 _ _ (show 2 ^ ls.length - 1 < 2 ^ ls.length by omega) g2
  rw [pcn_all _ (Nat.le_refl _), g1] at f2
  obtain ⟨l, l1, l2⟩ := okC_ex h12 1 _ f1 (by omega)
  have hb := sC_best (E := E) (ls := ls) (t := t + 1) (by omega) (t + 1) [] (2 ^ ls.length - 1) (cI 0) (cI (-1), []) (by omega) (by simp) (by rw [kv_0]; omega) (by rw [kv_0]; omega) _ (okC_app g2 l1) (by rw [List.length_append, g1, l2])
  rw [pay_app, ← g3] at hb
  have hv := pay_v (E := E) (ls := ls) (sres E ls t).2 (2 ^ ls.length - 1) (cI 0) (by rw [kv_0]; omega) (by rw [kv_0, g1]; omega)
  rw [← g3, kv_0, g1] at hv
  have hv2 := pay_v (E := E) (ls := ls) l (lft (2 ^ ls.length - 1) (sres E ls t).2) (sres E ls t).1 (by omega) (by rw [l2]; omega)
  show _ ≤ (sC E ls (t + 1) (t + 1) [] (2 ^ ls.length - 1) (cI 0) (cI (-1), [])).1.toInt
  omega
