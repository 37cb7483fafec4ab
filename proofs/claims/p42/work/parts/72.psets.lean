/-! some of a rick's layers: by a set of places -/
/-- the layers at the places of the set s, from place i on -/
def sel (s : Nat) : List Lyr → Nat → List Lyr
  | [], _ => []
  | q :: l, i => if s.testBit i = true then q :: sel s l (i + 1) else sel s l (i + 1)
theorem sel_p {s i : Nat} {q : Lyr} {l : List Lyr} (h : s.testBit i = true) : sel s (q :: l) i = q :: sel s l (i + 1) := if_pos h
theorem sel_n {s i : Nat} {q : Lyr} {l : List Lyr} (h : ¬ s.testBit i = true) : sel s (q :: l) i = sel s l (i + 1) := if_neg h
theorem pcn_p {s i : Nat} (h : s.testBit i = true) : pcn s (i + 1) = pcn s i + 1 := by
  show pcn s i + (if s.testBit i = true then 1 else 0) = _
  rw [if_pos h]
theorem pcn_n {s i : Nat} (h : ¬ s.testBit i = true) : pcn s (i + 1) = pcn s i := by
  show pcn s i + (if s.testBit i = true then 1 else 0) = _
  rw [if_neg h]
  rfl
theorem pcn_up (s i : Nat) : pcn s i ≤ pcn s (i + 1) := by
  by_cases h : s.testBit i = true
  · rw [pcn_p h]; omega
  · rw [pcn_n h]; exact Nat.le_refl _
theorem pcn_mono {s : Nat} : ∀ {i j : Nat}, i ≤ j → pcn s i ≤ pcn s j
  | i, 0, h => by rw [Nat.le_zero.mp h]; exact Nat.le_refl _
  | i, j + 1, h => by
    rcases Nat.lt_or_ge i (j + 1) with q | q
    · exact Nat.le_trans (pcn_mono (Nat.le_of_lt_succ q)) (pcn_up s j)
    · rw [show i = j + 1 by omega]; exact Nat.le_refl _
theorem sel_len {s : Nat} : ∀ (l : List Lyr) (i : Nat), (sel s l i).length + pcn s i = pcn s (i + l.length)
  | [], i => by show 0 + pcn s i = _; rw [Nat.zero_add]; rfl
  | q :: l, i => by
    have ih := sel_len (s := s) l (i + 1)
    rw [List.length_cons, show i + (l.length + 1) = i + 1 + l.length by omega, ← ih]
    by_cases h : s.testBit i = true
    · rw [sel_p h, pcn_p h, List.length_cons]; omega
    · rw [sel_n h, pcn_n h]
theorem sXl_sel {E : EnvK} {s : Nat} {w : Nat → Int32} : ∀ (l : List Lyr) (i : Nat) (a : Int32), sXl E s w l i a = lnX w (kq E (pcn s 12)) (sel s l i) (pcn s i) a
  | [], _, _ => rfl
  | q :: l, i, a => by
    show sXl E s w l (i + 1) (if s.testBit i = true then a + kq E (pcn s 12) (pcn s i) q * w q.1 else a) = _
    rw [sXl_sel l (i + 1)]
    by_cases h : s.testBit i = true
    · rw [sel_p h, pcn_p h, if_pos h]
      rfl
    · rw [sel_n h, pcn_n h, if_neg h]
theorem sel_get {s : Nat} : ∀ (l : List Lyr) (i c : Nat), i ≤ c → s.testBit c = true → (sel s l i)[pcn s c - pcn s i]? = l[c - i]?
  | [], i, c, h, hb => by
    show ([] : List Lyr)[_]? = _
    rw [List.getElem?_nil, List.getElem?_nil]
  | q :: l, i, c, h, hb => by
    by_cases e : c = i
    · subst e
      rw [sel_p hb, Nat.sub_self, Nat.sub_self]
      rfl
    · have ih := sel_get (s := s) l (i + 1) c (by omega) hb
      have hm := pcn_mono (s := s) (i := i + 1) (j := c) (by omega)
      rw [show c - i = (c - (i + 1)) + 1 by omega, List.getElem?_cons_succ, ← ih]
      by_cases h2 : s.testBit i = true
      · rw [pcn_p h2] at hm ⊢
        rw [sel_p h2, show pcn s c - pcn s i = (pcn s c - (pcn s i + 1)) + 1 by omega, List.getElem?_cons_succ]
      · rw [pcn_n h2, sel_n h2]
theorem sel_clr_hi {s c : Nat} (hs : s < 4096) : ∀ (l : List Lyr) (j : Nat), c < j → sel (clr s c) l j = sel s l j
  | [], _, _ => rfl
  | q :: l, j, hj => by
    have e : decide (c = j) = false := by simp; omega
    have hb : (clr s c).testBit j = s.testBit j := by rw [tb_clr hs, e]; simp
    have ih := sel_clr_hi (c := c) hs l (j + 1) (by omega)
    by_cases h : s.testBit j = true
    · rw [sel_p h, sel_p (by rw [hb]; exact h), ih]
    · rw [sel_n h, sel_n (by rw [hb]; exact h), ih]
theorem sel_cut {s c : Nat} (hs : s < 4096) : ∀ (l : List Lyr) (i : Nat), i ≤ c → s.testBit c = true → c < i + l.length → (sel s l i).eraseIdx (pcn s c - pcn s i) = sel (clr s c) l i
  | [], i, h, hb, hl => by simp at hl; omega
  | q :: l, i, h, hb, hl => by
    rw [List.length_cons] at hl
    by_cases e : c = i
    · subst e
      have h2 : ¬ (clr s c).testBit c = true := by rw [tb_clr hs]; simp
      rw [sel_p hb, sel_n h2, Nat.sub_self, sel_clr_hi hs l (c + 1) (by omega)]
      rfl
    · have ih := sel_cut (c := c) hs l (i + 1) (by omega) hb (by omega)
      have hm := pcn_mono (s := s) (i := i + 1) (j := c) (by omega)
      have e2 : decide (c = i) = false := by simp; omega
      have hbit : (clr s c).testBit i = s.testBit i := by rw [tb_clr hs, e2]; simp
      by_cases h2 : s.testBit i = true
      · rw [pcn_p h2] at hm ih
        rw [sel_p h2, sel_p (by rw [hbit]; exact h2), show pcn s c - pcn s i = (pcn s c - (pcn s i + 1)) + 1 by omega, List.eraseIdx_cons_succ, ih]
      · rw [pcn_n h2] at ih
        rw [sel_n h2, sel_n (by rw [hbit]; exact h2), ih]
theorem testBit_lt {s n i : Nat} (h : s < 2 ^ n) (hb : s.testBit i = true) : i < n := by
  rcases Nat.lt_or_ge i n with q | q
  · exact q
  · have : s.testBit i = false := Nat.testBit_lt_two_pow (Nat.lt_of_lt_of_le h (Nat.pow_le_pow_right (by omega) q))
    rw [this] at hb
    cases hb
theorem pcn_hi {s n : Nat} (h : s < 2 ^ n) : ∀ {j : Nat}, n ≤ j → pcn s j = pcn s n
  | 0, hj => by rw [Nat.le_zero.mp hj]
  | j + 1, hj => by
    rcases Nat.lt_or_ge j n with q | q
    · rw [show j + 1 = n by omega]
    · rw [pcn_n (fun hb => absurd (testBit_lt h hb) (by omega)), pcn_hi h q]
theorem all_bit {n i : Nat} : (2 ^ n - 1).testBit i = decide (i < n) := Nat.testBit_two_pow_sub_one _ _
theorem sel_all {n : Nat} : ∀ (l : List Lyr) (i : Nat), i + l.length ≤ n → sel (2 ^ n - 1) l i = l
  | [], _, _ => rfl
  | q :: l, i, h => by
    rw [List.length_cons] at h
    rw [sel_p (by rw [all_bit]; simp; omega), sel_all l (i + 1) (by omega)]
/-- how a rick leans whose layers are those of a set -/
theorem lM_sel {E : EnvK} {rk : Rk} {r s : Nat} {ls : List Lyr} (h : rk.getD r [] = sel s ls 0) (hs : s < 2 ^ ls.length) (h12 : ls.length ≤ 12) : lM E rk r = sM E ls s := by
  have hl := sel_len (s := s) ls 0
  have e0 : pcn s 0 = 0 := rfl
  rw [e0, Nat.zero_add, Nat.add_zero] at hl
  have hh : hgt rk r = pcn s 12 := by
    unfold hgt
    rw [h, hl, pcn_hi hs h12]
  have hx : ∀ w : Nat → Int32, lnX w (kpt E.1 E.2.1 (hgt rk r)) (rk.getD r []) 0 0 = sXl E s w ls 0 0 := by
    intro w
    rw [sXl_sel, h, hh]
    rfl
  unfold lM lX lY sM
  rw [hx, hx]
theorem clr_lt2 {s n i : Nat} (h : s < 2 ^ n) : clr s i < 2 ^ n := Nat.lt_of_le_of_lt Nat.and_le_left h
theorem s4096 {s n : Nat} (h : s < 2 ^ n) (hn : n ≤ 12) : s < 4096 := Nat.lt_of_lt_of_le h (Nat.pow_le_pow_right (n := 2) (by omega) hn)
/-- the cuts so far and the set that they leave: what the law counts is the place now -/
theorem pcn_clr2 {s c : Nat} (hs : s < 4096) (hb : s.testBit c = true) : ∀ j, pcn (clr s c) j = pcn s j - (if c < j then 1 else 0)
  | 0 => by
    show 0 = 0 - _
    rw [Nat.zero_sub]
  | j + 1 => by
    have ih := pcn_clr2 hs hb j
    have hm : c < j → 1 ≤ pcn s j := fun h => by
      have h1 := pcn_mono (s := s) (i := c + 1) (j := j) (by omega)
      rw [pcn_p hb] at h1
      omega
    by_cases e : c = j
    · subst e
      have h2 : ¬ (clr s c).testBit c = true := by rw [tb_clr hs]; simp
      rw [if_neg (Nat.lt_irrefl c)] at ih
      rw [pcn_n h2, ih, pcn_p hb, if_pos (by omega)]
      omega
    · have e2 : decide (c = j) = false := by simp; omega
      have hbit : (clr s c).testBit j = s.testBit j := by rw [tb_clr hs, e2]; simp
      by_cases q : c < j
      · have := hm q
        rw [if_pos q] at ih
        rw [if_pos (by omega)]
        by_cases h : s.testBit j = true
        · rw [pcn_p h, pcn_p (by rw [hbit]; exact h), ih]; omega
        · rw [pcn_n h, pcn_n (by rw [hbit]; exact h), ih]
      · rw [if_neg q] at ih
        rw [if_neg (by omega)]
        by_cases h : s.testBit j = true
        · rw [pcn_p h, pcn_p (by rw [hbit]; exact h), ih]; omega
        · rw [pcn_n h, pcn_n (by rw [hbit]; exact h), ih]
