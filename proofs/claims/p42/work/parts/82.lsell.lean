/-! the law: cutting, a day, selling -/
/-- a cut -/
theorem cut_ok {E : EnvK} {rk0 : Rk} {de0 : Nat → Int32} {s : St} {r l : Nat} {q : Lyr} (ha : Away E rk0 de0 s) (hr : r < 4) (hl : l < 16) (hq : ((sK s).getD r [])[l]? = some q) :
    (aCut s (nI (16 * r + l))).1 = kp E (sK s) r l q ∧ Away E rk0 de0 (aCut s (nI (16 * r + l))).2 ∧ sK (aCut s (nI (16 * r + l))).2 = cutR (sK s) r l ∧ sDy (aCut s (nI (16 * r + l))).2 = sDy s := by
  have e : aCut s (nI (16 * r + l)) = (kp (envS s) (sK s) r l q, cutS s r l (kp (envS s) (sK s) r l q) q.1) := by
    unfold aCut
    rw [lyA_at hr hl, hq, nI_v (by omega), Int.toNat_natCast, show (16 * r + l) / 16 = r by omega, show (16 * r + l) % 16 = l by omega]
  rw [e, ha.1]
  refine ⟨rfl, ⟨ha.1, ha.2.1, ?_⟩, rfl, rfl⟩
  show (cutR (sK s) r l).length = _
  unfold cutR
  rw [List.length_set]
  exact ha.2.2
theorem cutR_get {rk : Rk} {r l : Nat} (h : r < rk.length) : (cutR rk r l).getD r [] = (rk.getD r []).eraseIdx l := getD_set_same h
/-- a layer k days older -/
def aged (k : Nat) (q : Lyr) : Lyr := (q.1, q.2.1, q.2.2.1, if q.2.2.2 + k < 99 then q.2.2.2 + k else 99)
theorem aged_0 {q : Lyr} (h : okL q) : aged 0 q = q := by
  obtain ⟨a, b, c, d⟩ := q
  have hd : d < 100 := h.2.2.2
  show (a, b, c, if d + 0 < 99 then d + 0 else 99) = _
  congr 3
  split <;> omega
theorem aged_s {k : Nat} {q : Lyr} : old1 (aged k q) = aged (k + 1) q := by
  obtain ⟨a, b, c, d⟩ := q
  show (a, b, c, if (if d + k < 99 then d + k else 99) + 1 < 99 then (if d + k < 99 then d + k else 99) + 1 else 99) = (a, b, c, if d + (k + 1) < 99 then d + (k + 1) else 99)
  congr 3
  split <;> split <;> split <;> omega
theorem day_ok {E : EnvK} {rk0 : Rk} {de0 : Nat → Int32} {s : St} (ha : Away E rk0 de0 s) : Away E rk0 de0 (aDay s) ∧ sK (aDay s) = older (sK s) ∧ sDy (aDay s) = dyN (sDy s) := by
  refine ⟨⟨ha.1, ha.2.1, ?_⟩, rfl, rfl⟩
  show (older (sK s)).length = _
  unfold older
  rw [List.length_map]
  exact ha.2.2
theorem older_get {rk : Rk} {r : Nat} : (older rk).getD r [] = (rk.getD r []).map old1 := by
  unfold older
  rw [List.getD_eq_getElem?_getD, List.getD_eq_getElem?_getD, List.getElem?_map]
  cases rk[r]? <;> rfl
theorem worth_v {s : St} {r t : Nat} (h : r < (sK s).length) (h4 : (sK s).length ≤ 4) (ht : t ≤ 4) (hh : t ≤ hgt (sK s) r) (h0 : 0 < t ∨ True) : aWorth s (nI r) (nI t) (cI (-1)) = (sres (envS s) ((sK s).getD r []) t).1 := by
  unfold aWorth
  rw [nI_v (n := r) (by omega), nI_v (n := t) (by omega), kv_m1, if_pos (by omega), Int.toNat_natCast, Int.toNat_natCast, if_neg (by omega), if_pos (by omega)]
theorem worth_k {s : St} {r t k : Nat} (h : r < (sK s).length) (h4 : (sK s).length ≤ 4) (ht : t ≤ 4) (hh : t ≤ hgt (sK s) r) (hk : k < t) : aWorth s (nI r) (nI t) (nI k) = nI ((sres (envS s) ((sK s).getD r []) t).2.getD k 0) := by
  unfold aWorth
  rw [nI_v (n := r) (by omega), nI_v (n := t) (by omega), nI_v (n := k) (by omega), if_pos (by omega), Int.toNat_natCast, Int.toNat_natCast, Int.toNat_natCast, if_neg (by omega), if_neg (by omega)]
theorem okC_get : ∀ {l : List Nat} {s k c : Nat}, okC s l → l[k]? = some c → (lft s (l.take k)).testBit c = true
  | [], _, _, _, _, h => by rw [List.getElem?_nil] at h; cases h
  | c0 :: l, s, 0, c, ⟨h1, _⟩, h => by
    cases h
    exact h1
  | c0 :: l, s, k + 1, c, ⟨_, h2⟩, h => by
    rw [List.getElem?_cons_succ] at h
    show (lft (clr s c0) (l.take k)).testBit c = true
    exact okC_get h2 h
theorem take_snoc {l : List Nat} {k c : Nat} (h : l[k]? = some c) : l.take (k + 1) = l.take k ++ [c] := by
  rw [List.take_succ, h]
  rfl
theorem lft_snoc {l : List Nat} {s k c : Nat} (h : l[k]? = some c) : lft s (l.take (k + 1)) = clr (lft s (l.take k)) c := by
  rw [take_snoc h, lft_app]
  rfl
theorem pay_snoc {E : EnvK} {ls : List Lyr} {l : List Nat} {s k c : Nat} {a : Int32} (h : l[k]? = some c) : pay E ls s (l.take (k + 1)) a = pay E ls s (l.take k) a + pS E ls (lft s (l.take k)) c := by
  rw [take_snoc h, pay_app]
  rfl
theorem okC_take : ∀ {l : List Nat} {s k : Nat}, okC s l → okC s (l.take k)
  | [], _, _, _ => by rw [List.take_nil]; trivial
  | c :: l, s, 0, _ => trivial
  | c :: l, s, k + 1, ⟨h1, h2⟩ => ⟨h1, okC_take h2⟩
/-- the place now of what lay at c: the law's count -/
theorem place_s {l : List Nat} {n e c0 c : Nat} (hn : n ≤ 12) (hc : okC (2 ^ n - 1) l) (he : l[e]? = some c0) : nI (pcn (lft (2 ^ n - 1) (l.take e)) c) - nI (if c0 < c then 1 else 0) = nI (pcn (lft (2 ^ n - 1) (l.take (e + 1))) c) := by
  have hpos : 0 < 2 ^ n := Nat.two_pow_pos _
  obtain ⟨f1, -⟩ := lft_pcn hn (l.take e) (2 ^ n - 1) (by omega) (okC_take hc)
  have h4 := s4096 f1 hn
  have hb := okC_get hc he
  rw [lft_snoc he, pcn_clr2 h4 hb]
  have h1 : (if c0 < c then 1 else 0) ≤ pcn (lft (2 ^ n - 1) (l.take e)) c := by
    split
    · next h =>
      have := pcn_mono (s := lft (2 ^ n - 1) (l.take e)) (i := c0 + 1) (j := c) (by omega)
      rw [pcn_p hb] at this
      omega
    · omega
  exact nI_sub h1
theorem sel_ge {s n : Nat} {ls : List Lyr} (hs : s < 2 ^ ls.length) (h12 : ls.length ≤ 12) : (sel s ls 0).length = pcn s 12 := by
  have hl := sel_len (s := s) ls 0
  have e0 : pcn s 0 = 0 := rfl
  rw [e0, Nat.zero_add, Nat.add_zero] at hl
  rw [hl, pcn_hi hs h12]
/-- what a cut keeps, of a rick k days older that has lost k of its layers -/
theorem kp_sell {E : EnvK} {rk : Rk} {r s c k : Nat} {ls : List Lyr} {q : Lyr} (h : rk.getD r [] = (sel s ls 0).map (aged k)) (hs : s < 2 ^ ls.length) (h12 : ls.length ≤ 12) (hb : s.testBit c = true) (hq : ls[c]? = some q) (hk : pcn s ls.length + k = ls.length) : kp E rk r (pcn s c) (aged k q) = pS E ls s c := by
  have hp : pcn s 12 = pcn s ls.length := pcn_hi hs h12
  have hh : hgt rk r = pcn s 12 := by
    unfold hgt
    rw [h, List.length_map, sel_ge (n := 0) hs h12]
  have hc := testBit_lt hs hb
  have hlt := pcn_mono (s := s) (i := c + 1) (j := ls.length) (by omega)
  rw [pcn_p hb] at hlt
  unfold kp kpt pS
  rw [hq, hh]
  show amt E.1 E.2.1 (nI q.2.1) (nI (aged k q).2.2.2) (nI q.2.2.1) (nI (pcn s c)) (nI (pcn s 12 - 1 - pcn s c)) = amS E true ls.length q (pcn s c) (pcn s 12 - 1 - pcn s c)
  have e : (aged k q).2.2.2 = agS true ls.length q (pcn s c) (pcn s 12 - 1 - pcn s c) := by
    show (if q.2.2.2 + k < 99 then q.2.2.2 + k else 99) = (if q.2.2.2 + (if true = true then ls.length - 1 - pcn s c - (pcn s 12 - 1 - pcn s c) else 0) < 99 then q.2.2.2 + (if true = true then ls.length - 1 - pcn s c - (pcn s 12 - 1 - pcn s c) else 0) else 99)
    rw [if_pos rfl, show ls.length - 1 - pcn s c - (pcn s 12 - 1 - pcn s c) = k by omega]
  rw [e]
  rfl
/-- the rick while hours are sold, one a day: behind k of them -/
def Sold (E : EnvK) (rk0 : Rk) (de0 : Nat → Int32) (r : Nat) (path : List Nat) (k : Nat) (s : St) : Prop := Away E rk0 de0 s ∧ sDy s = k ∧ (sK s).getD r [] = (sel (lft (2 ^ (rk0.getD r []).length - 1) (path.take k)) (rk0.getD r []) 0).map (aged k)
theorem sold_0 {E : EnvK} {rk0 : Rk} {de0 : Nat → Int32} {r : Nat} {path : List Nat} {s : St} (hB : Base E rk0 de0 s) (hok : ∀ q ∈ rk0.getD r [], okL q) : Sold E rk0 de0 r path 0 s := by
  refine ⟨hB.away, hB.2.2.1, ?_⟩
  rw [hB.1, List.take_zero]
  show _ = (sel (2 ^ (rk0.getD r []).length - 1) (rk0.getD r []) 0).map (aged 0)
  rw [sel_all _ 0 (by omega)]
  have : ∀ l : List Lyr, (∀ q ∈ l, okL q) → l = l.map (aged 0) := by
    intro l
    induction l with
    | nil => intro _; rfl
    | cons q l ih =>
      intro h
      rw [List.map_cons, aged_0 (h q List.mem_cons_self), ← ih (fun x hx => h x (List.mem_cons_of_mem _ hx))]
  exact this _ hok
theorem eraseIdx_map {α β : Type} {f : α → β} : ∀ (l : List α) (i : Nat), (l.map f).eraseIdx i = (l.eraseIdx i).map f
  | [], _ => rfl
  | a :: l, 0 => rfl
  | a :: l, i + 1 => by
    rw [List.map_cons, List.eraseIdx_cons_succ, List.eraseIdx_cons_succ, List.map_cons, eraseIdx_map l i]
theorem sold_s {E : EnvK} {rk0 : Rk} {de0 : Nat → Int32} {r k c : Nat} {path : List Nat} {s : St} (h12 : (rk0.getD r []).length ≤ 12) (hr : r < rk0.length) (h4 : rk0.length ≤ 4) (hS : Sold E rk0 de0 r path k s) (hc : okC (2 ^ (rk0.getD r []).length - 1) path) (hk : path[k]? = some c) (hk9 : k < 20) :
    (aCut s (nI (16 * r + pcn (lft (2 ^ (rk0.getD r []).length - 1) (path.take k)) c))).1 = pS E (rk0.getD r []) (lft (2 ^ (rk0.getD r []).length - 1) (path.take k)) c ∧
    sDy (aCut s (nI (16 * r + pcn (lft (2 ^ (rk0.getD r []).length - 1) (path.take k)) c))).2 = k ∧
    Sold E rk0 de0 r path (k + 1) (aDay (aCut s (nI (16 * r + pcn (lft (2 ^ (rk0.getD r []).length - 1) (path.take k)) c))).2) := by
  obtain ⟨a1, a2, a3⟩ := hS
  have hpos : 0 < 2 ^ (rk0.getD r []).length := Nat.two_pow_pos _
  have hkl : k < path.length := (List.getElem?_eq_some_iff.mp hk).1
  obtain ⟨f1, f2⟩ := lft_pcn h12 (path.take k) (2 ^ (rk0.getD r []).length - 1) (by omega) (okC_take hc)
  rw [pcn_all _ (Nat.le_refl _), List.length_take, Nat.min_eq_left (by omega)] at f2
  have hb := okC_get hc hk
  have hcl := testBit_lt f1 hb
  obtain ⟨q, hq⟩ : ∃ q, (rk0.getD r [])[c]? = some q := ⟨_, List.getElem?_eq_getElem hcl⟩
  have hg := sel_get (s := lft (2 ^ (rk0.getD r []).length - 1) (path.take k)) (rk0.getD r []) 0 c (Nat.zero_le _) hb
  have e0 : ∀ s, pcn s 0 = 0 := fun _ => rfl
  rw [e0, Nat.sub_zero, Nat.sub_zero, hq] at hg
  have hle := pcn_le (lft (2 ^ (rk0.getD r []).length - 1) (path.take k)) c
  have hq2 : ((sK s).getD r [])[pcn (lft (2 ^ (rk0.getD r []).length - 1) (path.take k)) c]? = some (aged k q) := by
    rw [a3, List.getElem?_map, hg]
    rfl
  obtain ⟨c1, c2, c3, c4⟩ := cut_ok a1 (by omega) (by omega) hq2
  obtain ⟨d1, d2, d3⟩ := day_ok c2
  refine ⟨?_, by rw [c4, a2], d1, ?_, ?_⟩
  · rw [c1]
    exact kp_sell a3 f1 h12 hb hq f2
  · rw [d3, c4, a2]
    unfold dyN
    rw [if_pos (by omega)]
  · have hcut := sel_cut (s := lft (2 ^ (rk0.getD r []).length - 1) (path.take k)) (c := c) (s4096 f1 h12) (rk0.getD r []) 0 (Nat.zero_le _) hb (by omega)
    rw [e0, Nat.sub_zero] at hcut
    rw [d2, older_get, c3, cutR_get (by rw [a1.2.2]; exact hr), a3, eraseIdx_map, hcut, ← lft_snoc hk, List.map_map]
    apply List.map_congr_left
    intro x _
    exact aged_s
