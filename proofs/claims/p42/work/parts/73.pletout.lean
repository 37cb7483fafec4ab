/-! letOut: the told cuts let the mark out last, and the rick stands throughout -/
abbrev mkA (ls : List Lyr) (i : Nat) : Nat := (ls.getD i (0, 0, 0, 0)).2.2.1
/-- cuts that may be made one by one from the set s, none of the mark, the rick stands; they leave the set t -/
def Cuts (E : EnvK) (ls : List Lyr) (mk : Nat) : Nat → List Nat → Nat → Prop
  | s, [], t => s = t
  | s, c :: l, t => s.testBit c = true ∧ ¬ mkA ls c = mk ∧ stS E ls (clr s c) ∧ Cuts E ls mk (clr s c) l t
theorem Cuts_app {E : EnvK} {ls : List Lyr} {mk : Nat} : ∀ {l l' : List Nat} {s t u : Nat}, Cuts E ls mk s l t → Cuts E ls mk t l' u → Cuts E ls mk s (l ++ l') u
  | [], l', s, t, u, h, h2 => by
    have h : s = t := h
    subst h
    exact h2
  | c :: l, l', s, t, u, ⟨h1, h2, h3, h4⟩, h5 => ⟨h1, h2, h3, Cuts_app h4 h5⟩
/-- what the search's cells tell of the sets that stand in its row -/
def BJ (E : EnvK) (ls : List Lyr) (mk : Nat) (cm : Nat → Nat) (Q : List Nat) : Prop := ∀ s ∈ Q, s < 2 ^ ls.length ∧ (s = 2 ^ ls.length - 1 ∨ (0 < cm s ∧ cm s ≤ ls.length ∧ ¬ s.testBit (cm s - 1) = true ∧ (s ||| 2 ^ (cm s - 1)) ∈ Q ∧ stS E ls s ∧ ¬ mkA ls (cm s - 1) = mk))
theorem clr_or2 {s c : Nat} (hs : s < 4096) (hb : s.testBit c = true) : clr s c ||| 2 ^ c = s := by
  apply Nat.eq_of_testBit_eq
  intro i
  rw [or_bit, tb_clr hs]
  by_cases e : c = i
  · subst e
    rw [hb]
    simp
  · have : decide (c = i) = false := by simp; exact e
    rw [this]
    simp
theorem or_clr {s c : Nat} (hs : s ||| 2 ^ c < 4096) (hb : ¬ s.testBit c = true) : clr (s ||| 2 ^ c) c = s := by
  apply Nat.eq_of_testBit_eq
  intro i
  rw [tb_clr hs, or_bit]
  by_cases e : c = i
  · subst e
    have : s.testBit c = false := by simpa using hb
    rw [this]
    simp
  · have : decide (c = i) = false := by simp; exact e
    rw [this]
    simp
theorem BJ_push {E : EnvK} {ls : List Lyr} {mk : Nat} {cm : Nat → Nat} {Q : List Nat} {set i : Nat} (h : BJ E ls mk cm Q) (hset : set ∈ Q) (h12 : ls.length ≤ 12) (hb : set.testBit i = true) (hst : stS E ls (clr set i)) (hm : ¬ mkA ls i = mk) (h0 : cm (clr set i) = 0) : BJ E ls mk (cmU cm (clr set i) (i + 1)) (Q ++ [clr set i]) := by
  have hset2 := (h set hset).1
  have h4 := s4096 hset2 h12
  intro s hs
  rcases List.mem_append.mp hs with hs | hs
  · obtain ⟨a1, a2⟩ := h s hs
    refine ⟨a1, a2.imp id (fun ⟨b1, b2, b3, b4, b5, b6⟩ => ?_)⟩
    have hne : ¬ s = clr set i := fun e => by rw [← e] at h0; omega
    have e1 : cmU cm (clr set i) (i + 1) s = cm s := if_neg hne
    rw [e1]
    exact ⟨b1, b2, b3, List.mem_append_left _ b4, b5, b6⟩
  · rw [List.mem_singleton] at hs
    subst hs
    have e1 : cmU cm (clr set i) (i + 1) (clr set i) = i + 1 := if_pos rfl
    have hi := testBit_lt hset2 hb
    refine ⟨clr_lt2 hset2, Or.inr ?_⟩
    rw [e1, Nat.add_sub_cancel, clr_or2 h4 hb]
    exact ⟨by omega, by omega, by rw [tb_clr h4]; simp, List.mem_append_left _ hset, hst, hm⟩
theorem bin_ok {E : EnvK} {ls : List Lyr} {mk set : Nat} (h12 : ls.length ≤ 12) : ∀ (m i : Nat) (Q : List Nat) (cm : Nat → Nat), i + m ≤ ls.length → set ∈ Q → BJ E ls mk cm Q →
    set ∈ (bin E ls mk set m i Q cm).2.1 ∧ BJ E ls mk (bin E ls mk set m i Q cm).2.2 (bin E ls mk set m i Q cm).2.1 ∧ ∀ c, (bin E ls mk set m i Q cm).1 = some c → set.testBit c = true ∧ stS E ls (clr set c) ∧ mkA ls c = mk
  | 0, i, Q, cm, _, hset, hJ => ⟨hset, hJ, fun c h => by cases h⟩
  | m + 1, i, Q, cm, hi, hset, hJ => by
    have hrec := fun Q' cm' h1 h2 => bin_ok (E := E) (mk := mk) (set := set) h12 m (i + 1) Q' cm' (by omega) h1 h2
    unfold bin
    split
    · next hc =>
      split
      · next hm => exact ⟨hset, hJ, fun c h => by cases h; exact ⟨hc.1, hc.2, hm⟩⟩
      · next hm =>
        split
        · next h0 => exact hrec _ _ (List.mem_append_left _ hset) (BJ_push hJ hset h12 hc.1 hc.2 hm h0.1)
        · exact hrec _ _ hset hJ
    · exact hrec _ _ hset hJ
theorem bfs_ok {E : EnvK} {ls : List Lyr} {mk : Nat} (h12 : ls.length ≤ 12) : ∀ (n hd : Nat) (Q : List Nat) (cm : Nat → Nat), BJ E ls mk cm Q → ∀ set c cm', bfs E ls mk n hd Q cm = some (set, c, cm') → ∃ Q', set ∈ Q' ∧ BJ E ls mk cm' Q' ∧ set.testBit c = true ∧ stS E ls (clr set c) ∧ mkA ls c = mk
  | 0, _, _, _, _, _, _, _, h => by cases h
  | n + 1, hd, Q, cm, hJ, set, c, cm', h => by
    unfold bfs at h
    split at h
    · cases h
    · next s hq =>
      have hs := List.mem_of_getElem? hq
      obtain ⟨b1, b2, b3⟩ := bin_ok (E := E) (mk := mk) (set := s) h12 ls.length 0 Q cm (by omega) hs hJ
      revert b1 b2 b3 h
      generalize bin E ls mk s ls.length 0 Q cm = z
      obtain ⟨z1, z2, z3⟩ := z
      intro h b1 b2 b3
      cases z1 with
      | none => exact bfs_ok h12 n (hd + 1) z2 z3 b2 set c cm' h
      | some i =>
        cases h
        obtain ⟨d1, d2, d3⟩ := b3 c rfl
        exact ⟨z2, b1, b2, d1, d2, d3⟩
/-- the cuts told, from the first to the last but one, are such cuts -/
theorem kcl_ok {E : EnvK} {ls : List Lyr} {mk : Nat} {cm : Nat → Nat} {Q : List Nat} (h12 : ls.length ≤ 12) (hJ : BJ E ls mk cm Q) : ∀ (m thn cut : Nat), thn ∈ Q → pcn thn ls.length + m = ls.length → ∃ l, kcl cm (2 ^ ls.length - 1) (m + 1) cut thn = l ++ [cut] ∧ l.length = m ∧ Cuts E ls mk (2 ^ ls.length - 1) l thn
  | 0, thn, cut, hq, hp => by
    obtain ⟨a1, a2⟩ := hJ thn hq
    have e : thn = 2 ^ ls.length - 1 := by
      rcases a2 with a2 | ⟨b1, b2, b3, b4, b5, b6⟩
      · exact a2
      · exfalso
        have hlt : ∀ n, n ≤ ls.length → cm thn - 1 < n → pcn thn n < n := by
          intro n
          induction n with
          | zero => intro _ h; omega
          | succ n ih =>
            intro hn hc
            by_cases q : cm thn - 1 = n
            · rw [pcn_n (by rw [← q]; exact b3)]
              exact Nat.lt_succ_of_le (pcn_le thn n)
            · have := ih (by omega) (by omega)
              have h2 : pcn thn (n + 1) ≤ pcn thn n + 1 := by
                by_cases q2 : thn.testBit n = true
                · rw [pcn_p q2]; exact Nat.le_refl _
                · rw [pcn_n q2]; omega
              omega
        have := hlt ls.length (Nat.le_refl _) (by omega)
        omega
    subst e
    refine ⟨[], ?_, rfl, rfl⟩
    show (if _ then _ else _) = _
    rw [if_pos rfl]
    rfl
  | m + 1, thn, cut, hq, hp => by
    obtain ⟨a1, a2⟩ := hJ thn hq
    have hne : ¬ thn = 2 ^ ls.length - 1 := by
      intro e
      have : pcn thn ls.length = ls.length := by
        rw [e]
        have hp2 : ∀ n, n ≤ ls.length → pcn (2 ^ ls.length - 1) n = n := by
          intro n
          induction n with
          | zero => intro _; rfl
          | succ n ih =>
            intro hn
            rw [pcn_p (by rw [all_bit]; simp; omega), ih (by omega)]
        exact hp2 _ (Nat.le_refl _)
      omega
    rcases a2 with a2 | ⟨b1, b2, b3, b4, b5, b6⟩
    · exact absurd a2 hne
    · have h4 : thn ||| 2 ^ (cm thn - 1) < 4096 := s4096 (hJ _ b4).1 h12
      have hclr := or_clr h4 b3
      have hbit : (thn ||| 2 ^ (cm thn - 1)).testBit (cm thn - 1) = true := by rw [or_bit]; simp
      have hpc := pcn_clr2 h4 hbit ls.length
      rw [hclr, if_pos (by omega)] at hpc
      have hge := pcn_mono (s := thn ||| 2 ^ (cm thn - 1)) (i := cm thn - 1 + 1) (j := ls.length) (by omega)
      rw [pcn_p hbit] at hge
      obtain ⟨l, e1, e2, e3⟩ := kcl_ok h12 hJ m (thn ||| 2 ^ (cm thn - 1)) (cm thn - 1) b4 (by omega)
      refine ⟨l ++ [cm thn - 1], ?_, by rw [List.length_append, e2]; rfl, Cuts_app e3 ⟨hbit, b6, by rw [hclr]; exact b5, by rw [hclr]; rfl⟩⟩
      show (if _ then _ else _) = _
      rw [if_neg hne, e1]
theorem lres_ok {E : EnvK} {ls : List Lyr} {mk set c : Nat} {cm : Nat → Nat} (h12 : ls.length ≤ 12) (h : lres E ls mk = some (set, c, cm)) : set < 2 ^ ls.length ∧ pcn set 12 ≤ ls.length ∧ set.testBit c = true ∧ stS E ls (clr set c) ∧ mkA ls c = mk ∧ (∃ q ∈ ls, q.2.2.1 = mk) ∧
    ∃ l, kcl cm (2 ^ ls.length - 1) (ls.length - pcn set 12 + 1) c set = l ++ [c] ∧ l.length = ls.length - pcn set 12 ∧ Cuts E ls mk (2 ^ ls.length - 1) l set := by
  unfold lres at h
  split at h
  · next hm =>
    have hpos : 0 < 2 ^ ls.length := Nat.two_pow_pos _
    obtain ⟨Q, q1, q2, q3, q4, q5⟩ := bfs_ok (mk := mk) h12 4096 0 [2 ^ ls.length - 1] (fun _ => 0) (fun s hs => by rw [List.mem_singleton] at hs; subst hs; exact ⟨by omega, Or.inl rfl⟩) set c cm h
    have hs := (q2 set q1).1
    have hpc : pcn set 12 = pcn set ls.length := pcn_hi hs h12
    have hle := pcn_le set ls.length
    rw [hpc]
    obtain ⟨l, e1, e2, e3⟩ := kcl_ok h12 q2 (ls.length - pcn set ls.length) set c q1 (by omega)
    refine ⟨hs, hle, q3, q4, q5, ?_, l, e1, e2, e3⟩
    have := List.any_eq_true.mp hm
    obtain ⟨q, h1, h2⟩ := this
    exact ⟨q, h1, of_decide_eq_true h2⟩
  · cases h
