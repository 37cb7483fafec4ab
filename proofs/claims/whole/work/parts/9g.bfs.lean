/-! the class's search by levels finds what the tables find -/
theorem nodup_len : ∀ (N : Nat) (l : List Nat), l.Nodup → (∀ x ∈ l, x < N) → l.length ≤ N
  | 0, [], _, _ => Nat.le_refl _
  | 0, x :: _, _, h => absurd (h x (List.mem_cons_self ..)) (Nat.not_lt_zero _)
  | N + 1, l, hn, h => by
    by_cases z : N ∈ l
    · have h1 := nodup_len N (l.erase N) (hn.erase N) (fun x hx => by
        have h2 := (List.Nodup.mem_erase_iff hn).mp hx
        have h3 := h x h2.2
        have h4 := h2.1
        omega)
      have h2 := List.length_erase_of_mem z
      have h3 := List.length_pos_of_mem z
      omega
    · have := nodup_len N l hn (fun x hx => by
        have h1 := h x hx
        have : ¬ x = N := fun q => z (q ▸ hx)
        omega)
      omega
theorem clr_back {s i : Nat} (hs : s < 4096) (hi : i < 12) (h : s.testBit i = true) : clr s i ||| 2 ^ i = s := by
  apply Nat.eq_of_testBit_eq
  intro j
  rw [Nat.testBit_or, tb_clr hs, Nat.testBit_two_pow]
  by_cases z : i = j
  · subst z; rw [h, decide_eq_true rfl]; rfl
  · rw [decide_eq_false z]; simp
def Chn (cm : Nat → Nat) (all : Nat) : List Nat → Nat → Prop
  | [], T => T = all
  | g :: rp, T => ¬ T = all ∧ cm T = g + 1 ∧ Chn cm all rp (T ||| 2 ^ g)
theorem chn_U {cm : Nat → Nat} {all X v : Nat} (hX : cm X = 0) : ∀ (rp : List Nat) (T : Nat), Chn cm all rp T → Chn (cmU cm X v) all rp T
  | [], _, h => h
  | g :: rp, T, h => by
    refine ⟨h.1, ?_, chn_U hX rp _ h.2.2⟩
    unfold cmU
    rw [if_neg (fun z => by have := h.2.1; rw [z, hX] at this; omega)]
    exact h.2.1
theorem kcl_chn {cm : Nat → Nat} {all : Nat} : ∀ (rp : List Nat) (T cut : Nat), Chn cm all rp T → kcl cm all (rp.length + 1) cut T = rp.reverse ++ [cut]
  | [], T, cut, h => by
    show (if T = all then kcl cm all 0 cut T ++ [cut] else _) = _
    rw [if_pos (show T = all from h)]
    rfl
  | g :: rp, T, cut, h => by
    show (if T = all then kcl cm all (rp.length + 1) cut T ++ [cut] else kcl cm all (rp.length + 1) (cm T - 1) (T ||| 2 ^ (cm T - 1)) ++ [cut]) = _
    rw [if_neg h.1, h.2.1, Nat.add_sub_cancel, kcl_chn rp _ g h.2.2, List.reverse_cons]
section BFS
variable {E : EnvK} {ls : List Lyr} {mk : Nat}
abbrev dpt (ls : List Lyr) (T : Nat) : Nat := ls.length - pcn T 12
abbrev allS (ls : List Lyr) : Nat := 2 ^ ls.length - 1
def goodS (E : EnvK) (ls : List Lyr) (mk T : Nat) : Prop := 0 < fw E ls mk T ∧ dpt ls T + fw E ls mk T = fw E ls mk (allS ls)
/-- what holds of the queue -/
def JB (E : EnvK) (ls : List Lyr) (mk : Nat) (rp : List Nat) (S j : Nat) (Q : List Nat) (cm : Nat → Nat) : Prop :=
  (Q.Nodup ∧ (∀ T ∈ Q, T = allS ls ∨ ¬ cm T = 0) ∧ (∀ T ∈ Q, T < 2 ^ ls.length) ∧ (∀ T ∈ Q, 0 < fw E ls mk T → fw E ls mk (allS ls) ≤ dpt ls T + fw E ls mk T) ∧ ∀ T, ¬ cm T = 0 → T ∈ Q) ∧ Chn cm (allS ls) rp S ∧ (∀ T ∈ Q, goodS E ls mk T → dpt ls T ≤ j) ∧ ∀ T ∈ Q, dpt ls T ≤ j + 1
theorem pcn_sub {s n : Nat} (h : s < 2 ^ n) (hn : n ≤ 12) : pcn s 12 ≤ n := by
  have := pcn_big h (12 - n)
  rw [show n + (12 - n) = 12 by omega] at this
  rw [this]
  exact pcn_le s n
theorem dpt_clr {T i : Nat} (h12 : ls.length ≤ 12) (hT : T < 2 ^ ls.length) (hi : i < ls.length) (hb : T.testBit i = true) : dpt ls (clr T i) = dpt ls T + 1 ∧ clr T i < 2 ^ ls.length ∧ ¬ clr T i = allS ls := by
  have hp : 2 ^ ls.length ≤ 2 ^ 12 := Nat.pow_le_pow_right (by omega) h12
  have h1 := pcn_clr (show T < 4096 by omega) hb 12
  rw [if_pos (show i < 12 by omega)] at h1
  have h2 := pcn_sub hT h12
  have h3 := clr_less (show T < 4096 by omega) hb
  unfold dpt
  refine ⟨by omega, by omega, fun z => ?_⟩
  unfold allS at z
  omega
theorem fwB_s {F : Nat → Nat} {P i : Nat} (h1 : stS E ls (clr P i)) (h2 : ¬ (ls.getD i (0, 0, 0, 0)).2.2.1 = mk) (h3 : 0 < F (clr P i)) : fwB E ls mk F P i = F (clr P i) + 1 := by
  unfold fwB
  rw [if_pos h1, if_neg h2, if_neg (by omega)]
theorem fwB_m {F : Nat → Nat} {P i : Nat} (h1 : stS E ls (clr P i)) (h2 : (ls.getD i (0, 0, 0, 0)).2.2.1 = mk) : fwB E ls mk F P i = 1 := by
  unfold fwB
  rw [if_pos h1, if_pos h2]
theorem jb_push {rp Q : List Nat} {S j P i : Nat} {cm : Nat → Nat} (h12 : ls.length ≤ 12) (hJ : JB E ls mk rp S j Q cm) (hP : P ∈ Q) (hd : dpt ls P ≤ j) (hi : i < ls.length) (hb : P.testBit i = true) (h1 : stS E ls (clr P i)) (h2 : ¬ (ls.getD i (0, 0, 0, 0)).2.2.1 = mk) (h0 : cm (clr P i) = 0) (hg : goodS E ls mk (clr P i) → dpt ls (clr P i) ≤ j) : JB E ls mk rp S j (Q ++ [clr P i]) (cmU cm (clr P i) (i + 1)) := by
  obtain ⟨⟨c1, c2, c3, c4, c8⟩, c5, c6, c7⟩ := hJ
  have hPl := c3 P hP
  have hp : 2 ^ ls.length ≤ 2 ^ 12 := Nat.pow_le_pow_right (by omega) h12
  obtain ⟨d1, d2, d3⟩ := dpt_clr h12 hPl hi hb
  have hx : clr P i ∉ Q := fun q => by
    rcases c2 _ q with z | z
    · exact d3 z
    · exact z h0
  refine ⟨⟨?_, fun T hT => ?_, fun T hT => ?_, fun T hT hF => ?_, fun T hT => ?_⟩, chn_U h0 rp S c5, fun T hT hG => ?_, fun T hT => ?_⟩
  · rw [List.nodup_append]
    refine ⟨c1, by simp, fun a ha b hb q => ?_⟩
    rw [List.mem_singleton.mp hb] at q
    exact hx (q ▸ ha)
  · rcases List.mem_append.mp hT with hT | hT
    · rcases c2 T hT with z | z
      · exact Or.inl z
      · right
        unfold cmU
        split
        · omega
        · exact z
    · right
      rw [List.mem_singleton.mp hT]
      unfold cmU
      rw [if_pos rfl]
      omega
  · rcases List.mem_append.mp hT with hT | hT
    · exact c3 T hT
    · rw [List.mem_singleton.mp hT]; exact d2
  · rcases List.mem_append.mp hT with hT | hT
    · exact c4 T hT hF
    · rw [List.mem_singleton.mp hT] at hF ⊢
      have e := fwB_s (F := fw E ls mk) h1 h2 hF
      have h3 := fw_le (E := E) (mk := mk) (show P < 4096 by omega) hi hb (by omega)
      have h4 := c4 P hP h3.1
      omega
  · unfold cmU at hT
    by_cases y : T = clr P i
    · rw [y]; exact List.mem_append_right _ (List.mem_singleton.mpr rfl)
    · rw [if_neg y] at hT; exact List.mem_append_left _ (c8 T hT)
  · rcases List.mem_append.mp hT with hT | hT
    · exact c6 T hT hG
    · rw [List.mem_singleton.mp hT] at hG ⊢; exact hg hG
  · rcases List.mem_append.mp hT with hT | hT
    · exact c7 T hT
    · rw [List.mem_singleton.mp hT]; omega
/-- a set whose cuts are gone through, nothing found -/
theorem bin_A {rp : List Nat} {S j P : Nat} (h12 : ls.length ≤ 12) (hd : dpt ls P ≤ j) : ∀ (m i : Nat) (Q : List Nat) (cm : Nat → Nat), i + m = ls.length → JB E ls mk rp S j Q cm → P ∈ Q → (∀ i', i ≤ i' → i' < ls.length → P.testBit i' = true → stS E ls (clr P i') → ¬ (ls.getD i' (0, 0, 0, 0)).2.2.1 = mk) → (∀ i', i ≤ i' → i' < ls.length → P.testBit i' = true → stS E ls (clr P i') → goodS E ls mk (clr P i') → dpt ls (clr P i') ≤ j) →
    ∃ new cm', bin E ls mk P m i Q cm = (none, Q ++ new, cm') ∧ JB E ls mk rp S j (Q ++ new) cm'
  | 0, i, Q, cm, _, hJ, _, _, _ => ⟨[], cm, by rw [List.append_nil]; rfl, by rw [List.append_nil]; exact hJ⟩
  | m + 1, i, Q, cm, hi, hJ, hP, hn, hg => by
    have hil : i < ls.length := by omega
    rw [bin]
    by_cases z : P.testBit i = true ∧ stS E ls (clr P i)
    · rw [if_pos z]
      have hm := hn i (Nat.le_refl _) hil z.1 z.2
      rw [if_neg hm]
      by_cases y : cm (clr P i) = 0 ∧ Q.length < 4096
      · rw [if_pos y]
        have hJ2 := jb_push h12 hJ hP hd hil z.1 z.2 hm y.1 (fun q => hg i (Nat.le_refl _) hil z.1 z.2 q)
        obtain ⟨new, cm', e1, e2⟩ := bin_A h12 hd m (i + 1) _ _ (by omega) hJ2 (List.mem_append_left _ hP) (fun i' a b => hn i' (by omega) b) (fun i' a b => hg i' (by omega) b)
        refine ⟨clr P i :: new, cm', ?_, ?_⟩
        · rw [e1, List.append_assoc]; rfl
        · rw [List.append_assoc] at e2; exact e2
      · rw [if_neg y]
        exact bin_A h12 hd m (i + 1) Q cm (by omega) hJ hP (fun i' a b => hn i' (by omega) b) (fun i' a b => hg i' (by omega) b)
    · rw [if_neg z]
      exact bin_A h12 hd m (i + 1) Q cm (by omega) hJ hP (fun i' a b => hn i' (by omega) b) (fun i' a b => hg i' (by omega) b)
/-- up to a cut -/
theorem bin_B {rp : List Nat} {S j P g : Nat} (h12 : ls.length ≤ 12) (hd : dpt ls P ≤ j) (hgl : g < ls.length) : ∀ (m i m0 : Nat) (Q : List Nat) (cm : Nat → Nat), i + m = g → m + m0 + 1 = ls.length - i → JB E ls mk rp S j Q cm → P ∈ Q → (∀ i', i' < g → P.testBit i' = true → stS E ls (clr P i') → ¬ (ls.getD i' (0, 0, 0, 0)).2.2.1 = mk ∧ ¬ goodS E ls mk (clr P i')) →
    ∃ new cm', bin E ls mk P (m + (m0 + 1)) i Q cm = bin E ls mk P (m0 + 1) g (Q ++ new) cm' ∧ JB E ls mk rp S j (Q ++ new) cm'
  | 0, i, m0, Q, cm, h, _, hJ, _, _ => ⟨[], cm, by rw [List.append_nil, Nat.zero_add, ← h]; rfl, by rw [List.append_nil]; exact hJ⟩
  | m + 1, i, m0, Q, cm, h, hl, hJ, hP, hn => by
    have hil : i < ls.length := by omega
    rw [show m + 1 + (m0 + 1) = (m + (m0 + 1)) + 1 by omega, bin]
    by_cases z : P.testBit i = true ∧ stS E ls (clr P i)
    · rw [if_pos z]
      have hm := hn i (by omega) z.1 z.2
      rw [if_neg hm.1]
      by_cases y : cm (clr P i) = 0 ∧ Q.length < 4096
      · rw [if_pos y]
        have hJ2 := jb_push h12 hJ hP hd hil z.1 z.2 hm.1 y.1 (fun q => absurd q hm.2)
        obtain ⟨new, cm', e1, e2⟩ := bin_B h12 hd hgl m (i + 1) m0 _ _ (by omega) (by omega) hJ2 (List.mem_append_left _ hP) hn
        refine ⟨clr P i :: new, cm', ?_, ?_⟩
        · rw [e1, List.append_assoc]; rfl
        · rw [List.append_assoc] at e2; exact e2
      · rw [if_neg y]
        exact bin_B h12 hd hgl m (i + 1) m0 Q cm (by omega) (by omega) hJ hP hn
    · rw [if_neg z]
      exact bin_B h12 hd hgl m (i + 1) m0 Q cm (by omega) (by omega) hJ hP hn
theorem grd_s {m s : Nat} : grd E ls mk (m + 1) s = fc E ls mk s :: grd E ls mk m (clr s (fc E ls mk s)) := rfl
theorem bfs_ok (h12 : ls.length ≤ 12) (hL : 0 < fw E ls mk (allS ls)) : ∀ (fuel hd : Nat) (Q : List Nat) (cm : Nat → Nat) (j k S : Nat) (rp : List Nat), hd + fuel = 4096 → JB E ls mk rp S j Q cm → hd ≤ k → Q[k]? = some S → rp.length = j → pcn S 12 + j = ls.length → 0 < fw E ls mk S → fw E ls mk S + j = fw E ls mk (allS ls) → rp.reverse ++ grd E ls mk (fw E ls mk S) S = grd E ls mk (fw E ls mk (allS ls)) (allS ls) → (∀ idx, hd ≤ idx → idx < k → ∀ T, Q[idx]? = some T → dpt ls T ≤ j ∧ (goodS E ls mk T → dpt ls T < j)) →
    ∃ set cut cm', bfs E ls mk fuel hd Q cm = some (set, cut, cm') ∧ pcn set 12 + fw E ls mk (allS ls) = ls.length + 1 ∧ kcl cm' (allS ls) (fw E ls mk (allS ls)) cut set = grd E ls mk (fw E ls mk (allS ls)) (allS ls)
  | 0, hd, Q, cm, j, k, S, rp, hf, hJ, hk, hS, _, _, _, _, _, _ => by
    have hp : 2 ^ ls.length ≤ 2 ^ 12 := Nat.pow_le_pow_right (by omega) h12
    have h1 := nodup_len 4096 Q hJ.1.1 (fun x hx => by have := hJ.1.2.2.1 x hx; omega)
    have h2 := (List.getElem?_eq_some_iff.mp hS).1
    omega
  | fuel + 1, hd, Q, cm, j, k, S, rp, hf, hJ, hk, hS, hrp, hpS, hFS, hFj, hgr, hint => by
    have hp : 2 ^ ls.length ≤ 2 ^ 12 := Nat.pow_le_pow_right (by omega) h12
    have hkl := (List.getElem?_eq_some_iff.mp hS).1
    have hSQ : S ∈ Q := List.mem_of_getElem? hS
    have hSl := hJ.1.2.2.1 S hSQ
    have hdS : dpt ls S = j := by unfold dpt; omega
    rw [bfs]
    rcases Nat.lt_or_ge hd k with hlt | hge
    · obtain ⟨P, hPq⟩ : ∃ P, Q[hd]? = some P := ⟨Q[hd], List.getElem?_eq_getElem (by omega)⟩
      have hPQ : P ∈ Q := List.mem_of_getElem? hPq
      have hPl := hJ.1.2.2.1 P hPQ
      obtain ⟨p1, p2⟩ := hint hd (Nat.le_refl _) hlt P hPq
      rw [hPq]
      dsimp only
      have hno : ∀ i', 0 ≤ i' → i' < ls.length → P.testBit i' = true → stS E ls (clr P i') → ¬ (ls.getD i' (0, 0, 0, 0)).2.2.1 = mk := by
        intro i' _ b1 b2x b3 b4
        have e := fwB_m (F := fw E ls mk) b3 b4
        have h3 := fw_le (E := E) (mk := mk) (show P < 4096 by omega) b1 b2x (by omega)
        have h4 := hJ.1.2.2.2.1 P hPQ h3.1
        have h5 := p2 ⟨h3.1, by omega⟩
        omega
      have hgd : ∀ i', 0 ≤ i' → i' < ls.length → P.testBit i' = true → stS E ls (clr P i') → goodS E ls mk (clr P i') → dpt ls (clr P i') ≤ j := by
        intro i' b0 b1 b2x b3 b4
        have hm := hno i' b0 b1 b2x b3
        have e := fwB_s (F := fw E ls mk) b3 hm b4.1
        have h3 := fw_le (E := E) (mk := mk) (show P < 4096 by omega) b1 b2x (by omega)
        have h4 := hJ.1.2.2.2.1 P hPQ h3.1
        obtain ⟨d1, -, -⟩ := dpt_clr h12 hPl b1 b2x
        have h5 := b4.2
        have h6 := p2 ⟨h3.1, by omega⟩
        omega
      obtain ⟨new, cm', e1, e2⟩ := bin_A h12 p1 ls.length 0 Q cm (by omega) hJ hPQ hno hgd
      rw [e1]
      exact bfs_ok h12 hL fuel (hd + 1) (Q ++ new) cm' j k S rp (by omega) e2 (by omega) (by rw [List.getElem?_append_left hkl]; exact hS) hrp hpS hFS hFj hgr (fun idx a1 a2 T hT => hint idx (by omega) a2 T (by rw [List.getElem?_append_left (by omega)] at hT; exact hT))
    · obtain rfl : hd = k := by omega
      rw [hS]
      dsimp only
      have hS12 : S < 4096 := by omega
      obtain ⟨f1, f2, f3, f4⟩ := fc_spec (E := E) (ls := ls) (mk := mk) hS12 hFS
      obtain ⟨d1, d2, d3⟩ := dpt_clr h12 hSl f1 f2
      have hbef : ∀ i', i' < fc E ls mk S → S.testBit i' = true → stS E ls (clr S i') → ¬ (ls.getD i' (0, 0, 0, 0)).2.2.1 = mk ∧ ¬ goodS E ls mk (clr S i') := by
        intro i' b1 b2x b3
        have hne : ¬ fwB E ls mk (fw E ls mk) S i' = fw E ls mk S := fun q => f4 i' b1 ⟨b2x, q⟩
        have hm : ¬ (ls.getD i' (0, 0, 0, 0)).2.2.1 = mk := by
          intro q
          have e := fwB_m (F := fw E ls mk) b3 q
          have h3 := fw_le (E := E) (mk := mk) hS12 (show i' < ls.length by omega) b2x (by omega)
          omega
        refine ⟨hm, fun q => ?_⟩
        have e := fwB_s (F := fw E ls mk) b3 hm q.1
        obtain ⟨x1, -, -⟩ := dpt_clr h12 hSl (show i' < ls.length by omega) b2x
        have h5 := q.2
        omega
      obtain ⟨m0, hm0⟩ : ∃ m0, fc E ls mk S + (m0 + 1) = ls.length := ⟨ls.length - fc E ls mk S - 1, by omega⟩
      obtain ⟨new, cm1, e1, e2⟩ := bin_B h12 (show dpt ls S ≤ j by omega) f1 (fc E ls mk S) 0 m0 Q cm (Nat.zero_add _) (by omega) hJ hSQ hbef
      rw [hm0] at e1
      rw [e1, bin]
      by_cases z : fw E ls mk S = 1
      · have hst : S.testBit (fc E ls mk S) = true ∧ stS E ls (clr S (fc E ls mk S)) := by
          refine ⟨f2, ?_⟩
          rw [z] at f3
          unfold fwB at f3
          by_cases y : stS E ls (clr S (fc E ls mk S))
          · exact y
          · rw [if_neg y] at f3; omega
        have hmk : (ls.getD (fc E ls mk S) (0, 0, 0, 0)).2.2.1 = mk := by
          rw [z] at f3
          unfold fwB at f3
          rw [if_pos hst.2] at f3
          by_cases y : (ls.getD (fc E ls mk S) (0, 0, 0, 0)).2.2.1 = mk
          · exact y
          · rw [if_neg y] at f3
            split at f3 <;> omega
        rw [if_pos hst, if_pos hmk]
        refine ⟨S, fc E ls mk S, cm1, rfl, by omega, ?_⟩
        have eL : fw E ls mk (allS ls) = rp.length + 1 := by omega
        rw [← hgr, z, eL, kcl_chn rp S _ e2.2.1]
        rfl
      · obtain ⟨v1, v2, v3⟩ := fwB_v (E := E) (ls := ls) (mk := mk) (F := fw E ls mk) (s := S) (i := fc E ls mk S) (by omega)
        have hgood : goodS E ls mk (clr S (fc E ls mk S)) := ⟨by omega, by omega⟩
        have hnQ : clr S (fc E ls mk S) ∉ Q ++ new := fun q => by
          have := e2.2.2.1 _ q hgood
          omega
        have hc0 : cm1 (clr S (fc E ls mk S)) = 0 := by
          rcases Nat.eq_zero_or_pos (cm1 (clr S (fc E ls mk S))) with y | y
          · exact y
          · exact absurd (e2.1.2.2.2.2 _ (by omega)) hnQ
        have hlen : (Q ++ new).length < 4096 := by
          have h1 := nodup_len 4096 ((Q ++ new) ++ [clr S (fc E ls mk S)]) (by
            rw [List.nodup_append]
            refine ⟨e2.1.1, by simp, fun a ha b hb q => ?_⟩
            rw [List.mem_singleton.mp hb] at q
            exact hnQ (q ▸ ha)) (fun x hx => by
            rcases List.mem_append.mp hx with hx | hx
            · have := e2.1.2.2.1 x hx; omega
            · rw [List.mem_singleton.mp hx]; omega)
          rw [List.length_append] at h1
          simp only [List.length_singleton] at h1
          omega
        rw [if_pos ⟨f2, v2⟩, if_neg v3, if_pos ⟨hc0, hlen⟩]
        have hJ2 : JB E ls mk rp S (j + 1) (Q ++ new) cm1 := ⟨e2.1, e2.2.1, fun T hT hG => Nat.le_succ_of_le (e2.2.2.1 T hT hG), fun T hT => Nat.le_succ_of_le (e2.2.2.2 T hT)⟩
        have hJ3 := jb_push h12 hJ2 (List.mem_append_left _ hSQ) (by omega) f1 f2 v2 v3 hc0 (fun _ => by omega)
        have hJ4 : JB E ls mk (fc E ls mk S :: rp) (clr S (fc E ls mk S)) (j + 1) (Q ++ new ++ [clr S (fc E ls mk S)]) (cmU cm1 (clr S (fc E ls mk S)) (fc E ls mk S + 1)) := by
          refine ⟨hJ3.1, ⟨d3, ?_, ?_⟩, hJ3.2.2⟩
          · unfold cmU
            rw [if_pos rfl]
          · rw [clr_or hS12 f2]
            exact hJ3.2.1
        have hno2 : ∀ i', fc E ls mk S + 1 ≤ i' → i' < ls.length → S.testBit i' = true → stS E ls (clr S i') → ¬ (ls.getD i' (0, 0, 0, 0)).2.2.1 = mk := by
          intro i' _ b1 b2x b3 q
          have e := fwB_m (F := fw E ls mk) b3 q
          have h3 := fw_le (E := E) (mk := mk) hS12 b1 b2x (by omega)
          omega
        obtain ⟨new2, cm2, g1, g2⟩ := bin_A h12 (show dpt ls S ≤ j + 1 by omega) m0 (fc E ls mk S + 1) _ _ (by omega) hJ4 (List.mem_append_left _ (List.mem_append_left _ hSQ)) hno2 (fun i' _ b1 b2x _ _ => by
          obtain ⟨x1, -, -⟩ := dpt_clr h12 hSl b1 b2x
          omega)
        rw [g1]
        dsimp only
        have hpc := pcn_clr hS12 f2 12
        rw [if_pos (show fc E ls mk S < 12 by omega)] at hpc
        have hmemQ : ∀ idx T, idx < (Q ++ new).length → (Q ++ new ++ [clr S (fc E ls mk S)] ++ new2)[idx]? = some T → T ∈ Q ++ new := by
          intro idx T hidx hT
          rw [List.getElem?_append_left (by rw [List.length_append]; omega), List.getElem?_append_left hidx] at hT
          exact List.mem_of_getElem? hT
        refine bfs_ok h12 hL fuel (hd + 1) _ cm2 (j + 1) (Q ++ new).length (clr S (fc E ls mk S)) (fc E ls mk S :: rp) (by omega) g2 (by rw [List.length_append]; omega) ?_ (by rw [List.length_cons]; omega) (by omega) (by omega) (by omega) ?_ (fun idx a1 a2 T hT => ?_)
        · rw [List.getElem?_append_left (by rw [List.length_append (as := Q ++ new), List.length_singleton]; omega), List.getElem?_append_right (Nat.le_refl _), Nat.sub_self]
          rfl
        · rw [← hgr]
          obtain ⟨f, ef⟩ : ∃ f, fw E ls mk S = f + 1 := ⟨fw E ls mk S - 1, by omega⟩
          have ef2 : fw E ls mk (clr S (fc E ls mk S)) = f := by omega
          rw [ef, grd_s, ef2, List.reverse_cons, List.append_assoc]
          rfl
        · have hm := hmemQ idx T a2 hT
          refine ⟨e2.2.2.2 T hm, fun q => ?_⟩
          have := e2.2.2.1 T hm q
          omega
theorem bin_0 {P : Nat} (h12 : ls.length ≤ 12) (hP : P < 2 ^ ls.length) (hF : fw E ls mk P = 0) : ∀ (m i : Nat) (Q : List Nat) (cm : Nat → Nat), i + m = ls.length → (∀ T ∈ Q, T < 2 ^ ls.length ∧ fw E ls mk T = 0) → ∃ Q' cm', bin E ls mk P m i Q cm = (none, Q', cm') ∧ ∀ T ∈ Q', T < 2 ^ ls.length ∧ fw E ls mk T = 0
  | 0, i, Q, cm, _, hQ => ⟨Q, cm, rfl, hQ⟩
  | m + 1, i, Q, cm, hi, hQ => by
    have hp : 2 ^ ls.length ≤ 2 ^ 12 := Nat.pow_le_pow_right (by omega) h12
    have hil : i < ls.length := by omega
    rw [bin]
    by_cases z : P.testBit i = true ∧ stS E ls (clr P i)
    · rw [if_pos z]
      have hm : ¬ (ls.getD i (0, 0, 0, 0)).2.2.1 = mk := by
        intro q
        have e := fwB_m (F := fw E ls mk) z.2 q
        have h3 := fw_le (E := E) (mk := mk) (show P < 4096 by omega) hil z.1 (by omega)
        omega
      rw [if_neg hm]
      by_cases y : cm (clr P i) = 0 ∧ Q.length < 4096
      · rw [if_pos y]
        refine bin_0 h12 hP hF m (i + 1) _ _ (by omega) (fun T hT => ?_)
        rcases List.mem_append.mp hT with hT | hT
        · exact hQ T hT
        · rw [List.mem_singleton.mp hT]
          refine ⟨(dpt_clr h12 hP hil z.1).2.1, ?_⟩
          rcases Nat.eq_zero_or_pos (fw E ls mk (clr P i)) with x | x
          · exact x
          · have e := fwB_s (F := fw E ls mk) z.2 hm x
            have h3 := fw_le (E := E) (mk := mk) (show P < 4096 by omega) hil z.1 (by omega)
            omega
      · rw [if_neg y]
        exact bin_0 h12 hP hF m (i + 1) Q cm (by omega) hQ
    · rw [if_neg z]
      exact bin_0 h12 hP hF m (i + 1) Q cm (by omega) hQ
theorem bfs_0 (h12 : ls.length ≤ 12) : ∀ (fuel hd : Nat) (Q : List Nat) (cm : Nat → Nat), (∀ T ∈ Q, T < 2 ^ ls.length ∧ fw E ls mk T = 0) → bfs E ls mk fuel hd Q cm = none
  | 0, _, _, _, _ => rfl
  | fuel + 1, hd, Q, cm, hQ => by
    rw [bfs]
    cases hq : Q[hd]? with
    | none => rfl
    | some P =>
      obtain ⟨p1, p2⟩ := hQ P (List.mem_of_getElem? hq)
      obtain ⟨Q', cm', e1, e2⟩ := bin_0 h12 p1 p2 ls.length 0 Q cm (by omega) hQ
      dsimp only
      rw [e1]
      exact bfs_0 h12 fuel (hd + 1) Q' cm' e2
theorem fw_hasM (h12 : ls.length ≤ 12) : ∀ (n s : Nat), s < n → s < 4096 → 0 < fw E ls mk s → hasM mk ls = true
  | 0, _, h, _, _ => absurd h (Nat.not_lt_zero _)
  | n + 1, s, hn, hs, hp => by
    obtain ⟨i, i1, i2, i3⟩ := fw_some hs hp
    by_cases z : (ls.getD i (0, 0, 0, 0)).2.2.1 = mk
    · unfold hasM
      rw [List.any_eq_true]
      refine ⟨ls[i], List.getElem_mem i1, decide_eq_true ?_⟩
      rw [List.getD, List.getElem?_eq_getElem i1] at z
      exact z
    · have h1 : 0 < fw E ls mk (clr s i) := by
        unfold fwB at i3
        by_cases y : stS E ls (clr s i)
        · rw [if_pos y, if_neg z] at i3
          by_cases x : fw E ls mk (clr s i) = 0
          · rw [if_pos x] at i3; omega
          · omega
        · rw [if_neg y] at i3; omega
      have := clr_less hs i2
      exact fw_hasM h12 n (clr s i) (by omega) (clr_lt hs) h1
theorem lres_fw (h12 : ls.length ≤ 12) : (fw E ls mk (allS ls) = 0 ∧ lres E ls mk = none) ∨ (0 < fw E ls mk (allS ls) ∧ ∃ set cut cm, lres E ls mk = some (set, cut, cm) ∧ pcn set 12 + fw E ls mk (allS ls) = ls.length + 1 ∧ kcl cm (allS ls) (fw E ls mk (allS ls)) cut set = grd E ls mk (fw E ls mk (allS ls)) (allS ls)) := by
  have hp : 2 ^ ls.length ≤ 2 ^ 12 := Nat.pow_le_pow_right (by omega) h12
  have hpos := Nat.two_pow_pos ls.length
  have hall : allS ls < 2 ^ ls.length := by unfold allS; omega
  rcases Nat.eq_zero_or_pos (fw E ls mk (allS ls)) with z | z
  · refine Or.inl ⟨z, ?_⟩
    unfold lres
    split
    · exact bfs_0 h12 4096 0 _ _ (fun T hT => by rw [List.mem_singleton.mp hT]; exact ⟨hall, z⟩)
    · rfl
  · refine Or.inr ⟨z, ?_⟩
    have hm := fw_hasM (E := E) (mk := mk) h12 4096 (allS ls) (by omega) (by omega) z
    unfold lres
    rw [if_pos hm]
    have hpa : pcn (allS ls) 12 = ls.length := pcn_fullx _ h12
    refine bfs_ok h12 z 4096 0 [allS ls] (fun _ => 0) 0 0 (allS ls) [] rfl ⟨⟨by simp, fun T hT => Or.inl (List.mem_singleton.mp hT), fun T hT => by rw [List.mem_singleton.mp hT]; exact hall, fun T hT hF => by rw [List.mem_singleton.mp hT]; exact Nat.le_add_left _ _, fun T hT => absurd rfl hT⟩, rfl, fun T hT _ => ?_, fun T hT => ?_⟩ (Nat.le_refl _) rfl rfl (by omega) z (Nat.add_zero _) rfl (fun idx _ a2 => absurd a2 (Nat.not_lt_zero _))
    · rw [List.mem_singleton.mp hT]; unfold dpt; omega
    · rw [List.mem_singleton.mp hT]; unfold dpt; omega
end BFS
theorem aLetOut_m {s : St} {r mk k : Int32} (hv : inv s) : aLetM s r mk k = aLetOut s r mk k := by
  unfold aLetM aLetOut
  by_cases z : (0 ≤ r.toInt ∧ r.toInt < ((sK s).length : Int)) ∧ (1 ≤ mk.toInt ∧ mk.toInt ≤ 7) ∧ -1 ≤ k.toInt
  · rw [if_pos z, if_pos z]
    obtain ⟨i, rfl, ei, hi⟩ := to_nI z.1.1
    obtain ⟨m, rfl, em, hm⟩ := to_nI (x := mk) (by omega)
    have e1 : (nI i).toInt.toNat = i := by rw [ei]; rfl
    have e2 : (nI m).toInt.toNat = m := by rw [em]; rfl
    rw [e1, e2]
    have h12 : ((sK s).getD i []).length ≤ 12 := hv.1.2.1 i
    unfold gAns
    rcases lres_fw (E := envS s) (ls := (sK s).getD i []) (mk := m) h12 with ⟨h1, h2⟩ | ⟨h1, set, cut, cm, h2, h3, h4⟩
    · have h1 : fw (envS s) ((sK s).getD i []) m (2 ^ hgt (sK s) i - 1) = 0 := h1
      rw [h2, if_pos (Or.inl h1)]
    · rw [h2]
      have hL : hgt (sK s) i - pcn set 12 + 1 = fw (envS s) ((sK s).getD i []) m (2 ^ hgt (sK s) i - 1) := by
        have h3 : pcn set 12 + fw (envS s) ((sK s).getD i []) m (2 ^ hgt (sK s) i - 1) = hgt (sK s) i + 1 := h3
        have h1 : 0 < fw (envS s) ((sK s).getD i []) m (2 ^ hgt (sK s) i - 1) := h1
        omega
      dsimp only
      rw [hL]
      have h1 : 0 < fw (envS s) ((sK s).getD i []) m (2 ^ hgt (sK s) i - 1) := h1
      have h4 : kcl cm (2 ^ hgt (sK s) i - 1) (fw (envS s) ((sK s).getD i []) m (2 ^ hgt (sK s) i - 1)) cut set = grd (envS s) ((sK s).getD i []) m (fw (envS s) ((sK s).getD i []) m (2 ^ hgt (sK s) i - 1)) (2 ^ hgt (sK s) i - 1) := h4
      rw [h4]
      by_cases y : (fw (envS s) ((sK s).getD i []) m (2 ^ hgt (sK s) i - 1) : Int) ≤ k.toInt
      · rw [if_pos (Or.inr y), if_pos y]
      · rw [if_neg (by omega), if_neg y]
  · rw [if_neg z, if_neg z]
theorem m_letOut {d : Nat} {M : Mem} {s : St} {r mk k : Int32} (h : RM M s) (hv : inv s) : Call (d + 8) 225 [.ref 55, .int r, .int mk, .int k] M (QP M (.int (aLetOut s r mk k)) s) := by
  rw [← aLetOut_m hv]
  exact m_letOut0 h hv
