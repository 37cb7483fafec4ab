/-! order: a told order's path stands, and its worst is what was told -/
theorem lnX_app {w : Nat → Int32} {g : Nat → Lyr → Int32} : ∀ (l1 l2 : List Lyr) (i : Nat) (a : Int32), lnX w g (l1 ++ l2) i a = lnX w g l2 (i + l1.length) (lnX w g l1 i a)
  | [], l2, i, a => rfl
  | q :: l1, l2, i, a => by
    show lnX w g (l1 ++ l2) (i + 1) _ = lnX w g l2 (i + (l1.length + 1)) (lnX w g l1 (i + 1) _)
    rw [lnX_app l1 l2 (i + 1), show i + 1 + l1.length = i + (l1.length + 1) by omega]
/-- the worst lean on the way, behind k hours -/
def wst (g : List Nat → Int32) (pth : List Nat) : Nat → Int32
  | 0 => cI 0
  | k + 1 => maxI (wst g pth k) (g (pth.take (k + 1)))
theorem wst_app {g : List Nat → Int32} {pth : List Nat} {i : Nat} : ∀ k, k ≤ pth.length → wst g (pth ++ [i]) k = wst g pth k
  | 0, _ => rfl
  | k + 1, h => by
    show maxI (wst g (pth ++ [i]) k) (g ((pth ++ [i]).take (k + 1))) = maxI (wst g pth k) (g (pth.take (k + 1)))
    rw [wst_app k (by omega), List.take_append_of_le_length h]
theorem wst_snoc {g : List Nat → Int32} {pth : List Nat} {i : Nat} : wst g (pth ++ [i]) (pth.length + 1) = maxI (wst g pth pth.length) (g (pth ++ [i])) := by
  show maxI (wst g (pth ++ [i]) pth.length) (g ((pth ++ [i]).take (pth.length + 1))) = _
  rw [wst_app _ (Nat.le_refl _), List.take_of_length_le (by rw [List.length_append]; exact Nat.le_refl _)]
/-- a path through all n hours, and its worst -/
def dGood (g : List Nat → Int32) (n : Nat) (st0 st : DS) : Prop := st = st0 ∨ (st.2.length = n ∧ st.2.Nodup ∧ (∀ p ∈ st.2, p < n) ∧ st.1 = wst g st.2 n)
theorem or_bit {s i j : Nat} : (s ||| 2 ^ i).testBit j = (s.testBit j || decide (i = j)) := by
  rw [Nat.testBit_or, Nat.testBit_two_pow]
theorem foldl_ok {α β : Type} {P : α → Prop} {f : α → β → α} : ∀ (l : List β) (a : α), P a → (∀ a b, b ∈ l → P a → P (f a b)) → P (l.foldl f a)
  | [], _, h, _ => h
  | b :: l, a, h, hs => foldl_ok l (f a b) (hs a b List.mem_cons_self h) (fun a' b' hb => hs a' b' (List.mem_cons_of_mem _ hb))
theorem dC_good {g : List Nat → Int32} {n : Nat} {st0 : DS} : ∀ (f : Nat) (pth : List Nat) (used : Nat) (worst : Int32) (st : DS), pth.length + f = n → pth.Nodup → (∀ p ∈ pth, p < n) → (∀ i, i < n → (used.testBit i = true ↔ i ∈ pth)) → worst = wst g pth pth.length → dGood g n st0 st → dGood g n st0 (dC g n f pth used worst st)
  | 0, pth, used, worst, st, hl, hn, hp, _, hw, _ => by
    refine Or.inr ⟨(show pth.length = n by omega), hn, hp, ?_⟩
    show worst = wst g pth n
    rw [hw, show pth.length = n by omega]
  | f + 1, pth, used, worst, st, hl, hn, hp, hu, hw, hg => by
    unfold dC
    refine foldl_ok _ _ hg (fun st i hi hst => ?_)
    have hi := List.mem_range.mp hi
    split
    · exact hst
    · next hb =>
      split
      · refine dC_good f (pth ++ [i]) _ _ st (by rw [List.length_append]; show pth.length + 1 + f = n; omega) ?_ ?_ ?_ ?_ hst
        · refine List.nodup_append.mpr ⟨hn, List.nodup_cons.mpr ⟨List.not_mem_nil, List.nodup_nil⟩, fun a ha b hb2 e => ?_⟩
          rw [List.mem_singleton] at hb2
          subst hb2
          subst e
          exact hb ((hu a hi).mpr ha)
        · intro p h
          rcases List.mem_append.mp h with h | h
          · exact hp p h
          · rw [List.mem_singleton] at h; subst h; exact hi
        · intro j hj
          rw [or_bit, List.mem_append, List.mem_singleton, Bool.or_eq_true, decide_eq_true_eq, hu j hj]
          exact or_congr Iff.rfl eq_comm
        · rw [List.length_append]
          show _ = wst g (pth ++ [i]) (pth.length + 1)
          rw [wst_snoc, ← hw]
      · exact hst
theorem dres_good {E : EnvK} {ls : List Lyr} {base n : Nat} (h : ¬ (dres E ls base n).1 = E.2.2.1 + cI 1) : (dres E ls base n).2.length = n ∧ (dres E ls base n).2.Nodup ∧ (∀ p ∈ (dres E ls base n).2, p < n) ∧ (dres E ls base n).1 = wst (gP E ls base) (dres E ls base n).2 n := by
  have h0 := dC_good (g := gP E ls base) (n := n) (st0 := (E.2.2.1 + cI 1, [])) n [] 0 (cI 0) (E.2.2.1 + cI 1, []) (by simp) List.nodup_nil (fun p h => absurd h List.not_mem_nil) (fun i _ => by rw [Nat.zero_testBit]; simp) rfl (Or.inl rfl)
  rcases h0 with h0 | h0
  · exact absurd (by unfold dres; rw [h0]) h
  · exact h0
/-- how a rick leans whose layers are a base and hours laid on it -/
theorem lM_path {E : EnvK} {rk : Rk} {r base : Nat} {ls : List Lyr} {pth : List Nat} (h : rk.getD r [] = ls.take base ++ pth.map (hL ls base)) (hb : base ≤ ls.length) : lM E rk r = gP E ls base pth := by
  have hl : (ls.take base).length = base := by rw [List.length_take]; omega
  have hh : hgt rk r = base + pth.length := by
    unfold hgt
    rw [h, List.length_append, List.length_map, hl]
  have hx : ∀ w : Nat → Int32, lnX w (kpt E.1 E.2.1 (hgt rk r)) (rk.getD r []) 0 0 = gX E w ls base pth := by
    intro w
    rw [h, lnX_app, hl, hh, Nat.zero_add]
    rfl
  unfold lM lX lY gP
  rw [hx, hx]
