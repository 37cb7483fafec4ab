/-! the law: the cuts that let a mark out; how likely -/
theorem Cuts_lft {E : EnvK} {ls : List Lyr} {mk : Nat} : ∀ {l : List Nat} {s t : Nat}, Cuts E ls mk s l t → lft s l = t ∧ okC s l
  | [], s, t, h => ⟨h, trivial⟩
  | c :: l, s, t, ⟨h1, h2, h3, h4⟩ => by
    obtain ⟨a1, a2⟩ := Cuts_lft h4
    exact ⟨a1, h1, a2⟩
theorem Cuts_get {E : EnvK} {ls : List Lyr} {mk : Nat} : ∀ {l : List Nat} {s t k c : Nat}, Cuts E ls mk s l t → l[k]? = some c → ¬ mkA ls c = mk ∧ stS E ls (clr (lft s (l.take k)) c)
  | [], _, _, _, _, _, h => by rw [List.getElem?_nil] at h; cases h
  | c0 :: l, s, t, 0, c, ⟨_, h2, h3, _⟩, h => by
    cases h
    exact ⟨h2, h3⟩
  | c0 :: l, s, t, k + 1, c, ⟨_, _, _, h4⟩, h => by
    rw [List.getElem?_cons_succ] at h
    show _ ∧ stS E ls (clr (lft (clr s c0) (l.take k)) c)
    exact Cuts_get h4 h
/-- the cuts that letOut tells: m of them -/
def OutP (E : EnvK) (ls : List Lyr) (mk m : Nat) (path : List Nat) : Prop := path.length = m ∧ okC (2 ^ ls.length - 1) path ∧ ∀ k c, path[k]? = some c → (mkA ls c = mk ↔ k + 1 = m) ∧ stS E ls (clr (lft (2 ^ ls.length - 1) (path.take k)) c)
theorem out_ok {E : EnvK} {ls : List Lyr} {mk set c : Nat} {cm : Nat → Nat} (h12 : ls.length ≤ 12) (h : lres E ls mk = some (set, c, cm)) : OutP E ls mk (ls.length - pcn set 12 + 1) (kcl cm (2 ^ ls.length - 1) (ls.length - pcn set 12 + 1) c set) ∧ ∃ q ∈ ls, q.2.2.1 = mk := by
  obtain ⟨a1, a2, a3, a4, a5, a6, l, e1, e2, e3⟩ := lres_ok h12 h
  obtain ⟨f1, f2⟩ := Cuts_lft e3
  rw [e1]
  refine ⟨⟨by rw [List.length_append, e2]; rfl, okC_app f2 ⟨by rw [f1]; exact a3, trivial⟩, fun k c' hk => ?_⟩, a6⟩
  rcases Nat.lt_or_ge k l.length with q | q
  · rw [List.getElem?_append_left q] at hk
    obtain ⟨g1, g2⟩ := Cuts_get e3 hk
    rw [List.take_append_of_le_length (by omega)]
    exact ⟨⟨fun z => absurd z g1, fun z => by omega⟩, g2⟩
  · rw [List.getElem?_append_right q] at hk
    have hk0 : k - l.length < 1 := (List.getElem?_eq_some_iff.mp hk).1
    have hkl : k = l.length := by omega
    subst hkl
    rw [Nat.sub_self] at hk
    cases hk
    rw [List.take_append_of_le_length (Nat.le_refl _), List.take_length, f1]
    exact ⟨⟨fun _ => by omega, fun _ => a5⟩, a4⟩
theorem letOut_n {s : St} {r mk : Nat} (h : r < (sK s).length) (h4 : (sK s).length ≤ 4) (hm : 1 ≤ mk ∧ mk ≤ 7) (hn : lres (envS s) ((sK s).getD r []) mk = none) (k : Int32) (hk : -1 ≤ k.toInt) : aLetOut s (nI r) (nI mk) k = cI (-2) := by
  unfold aLetOut
  rw [nI_v (n := r) (by omega), nI_v (n := mk) (by omega), if_pos (by omega), Int.toNat_natCast, Int.toNat_natCast, hn]
theorem letOut_s {s : St} {r mk set c : Nat} {cm : Nat → Nat} (h : r < (sK s).length) (h4 : (sK s).length ≤ 4) (hm : 1 ≤ mk ∧ mk ≤ 7) (hn : lres (envS s) ((sK s).getD r []) mk = some (set, c, cm)) : aLetOut s (nI r) (nI mk) (cI (-1)) = nI (((sK s).getD r []).length - pcn set 12 + 1) := by
  unfold aLetOut
  rw [nI_v (n := r) (by omega), nI_v (n := mk) (by omega), kv_m1, if_pos (by omega), Int.toNat_natCast, Int.toNat_natCast, hn]
  show (if _ then _ else if _ then _ else _) = _
  rw [if_neg (by omega), if_pos (by omega)]
  rfl
theorem letOut_k {s : St} {r mk set c k : Nat} {cm : Nat → Nat} (h : r < (sK s).length) (h4 : (sK s).length ≤ 4) (hm : 1 ≤ mk ∧ mk ≤ 7) (hn : lres (envS s) ((sK s).getD r []) mk = some (set, c, cm)) (hk : k < ((sK s).getD r []).length - pcn set 12 + 1) (hl : ((sK s).getD r []).length ≤ 12) :
    aLetOut s (nI r) (nI mk) (nI k) = nI ((kcl cm (2 ^ ((sK s).getD r []).length - 1) (((sK s).getD r []).length - pcn set 12 + 1) c set).getD k 0) := by
  unfold aLetOut
  have hh : hgt (sK s) r = ((sK s).getD r []).length := rfl
  rw [nI_v (n := r) (by omega), nI_v (n := mk) (by omega), nI_v (n := k) (by omega), if_pos (by omega), Int.toNat_natCast, Int.toNat_natCast, hn]
  show (if _ then _ else if _ then _ else _) = _
  rw [hh, if_neg (by omega), if_neg (by omega), Int.toNat_natCast]
/-- the rick behind k of these cuts -/
def Cutd (E : EnvK) (rk0 : Rk) (de0 : Nat → Int32) (r : Nat) (path : List Nat) (k : Nat) (s : St) : Prop := Away E rk0 de0 s ∧ (sK s).getD r [] = sel (lft (2 ^ (rk0.getD r []).length - 1) (path.take k)) (rk0.getD r []) 0
theorem cutd_0 {E : EnvK} {rk0 : Rk} {de0 : Nat → Int32} {r : Nat} {path : List Nat} {s : St} (hB : Base E rk0 de0 s) : Cutd E rk0 de0 r path 0 s := by
  refine ⟨hB.away, ?_⟩
  rw [hB.1, List.take_zero]
  exact (sel_all _ 0 (by omega)).symm
theorem cutd_s {E : EnvK} {rk0 : Rk} {de0 : Nat → Int32} {r k c m mk : Nat} {path : List Nat} {s : St} (h12 : (rk0.getD r []).length ≤ 12) (hr : r < rk0.length) (h4 : rk0.length ≤ 4) (hC : Cutd E rk0 de0 r path k s) (hp : OutP E (rk0.getD r []) mk m path) (hk : path[k]? = some c) (hok : ∀ q ∈ rk0.getD r [], okL q) :
    aOf s (nI (16 * r + pcn (lft (2 ^ (rk0.getD r []).length - 1) (path.take k)) c)) (cI 2) = nI (mkA (rk0.getD r []) c) ∧ mkA (rk0.getD r []) c < 8 ∧ 0 ≤ (aCut s (nI (16 * r + pcn (lft (2 ^ (rk0.getD r []).length - 1) (path.take k)) c))).1.toInt ∧
    aLean (aCut s (nI (16 * r + pcn (lft (2 ^ (rk0.getD r []).length - 1) (path.take k)) c))).2 (nI r) (cI 2) = cI 1 ∧ Cutd E rk0 de0 r path (k + 1) (aCut s (nI (16 * r + pcn (lft (2 ^ (rk0.getD r []).length - 1) (path.take k)) c))).2 := by
  obtain ⟨a1, a3⟩ := hC
  obtain ⟨p1, hc, p3⟩ := hp
  have hpos : 0 < 2 ^ (rk0.getD r []).length := Nat.two_pow_pos _
  obtain ⟨f1, -⟩ := lft_pcn h12 (path.take k) (2 ^ (rk0.getD r []).length - 1) (by omega) (okC_take hc)
  have hb := okC_get hc hk
  have hcl := testBit_lt f1 hb
  obtain ⟨q, hq⟩ : ∃ q, (rk0.getD r [])[c]? = some q := ⟨_, List.getElem?_eq_getElem hcl⟩
  have hmk : mkA (rk0.getD r []) c = q.2.2.1 := by
    show ((rk0.getD r []).getD c (0, 0, 0, 0)).2.2.1 = _
    rw [List.getD_eq_getElem?_getD, hq]
    rfl
  have hg := sel_get (s := lft (2 ^ (rk0.getD r []).length - 1) (path.take k)) (rk0.getD r []) 0 c (Nat.zero_le _) hb
  have e0 : ∀ s, pcn s 0 = 0 := fun _ => rfl
  rw [e0, Nat.sub_zero, Nat.sub_zero, hq] at hg
  have hle := pcn_le (lft (2 ^ (rk0.getD r []).length - 1) (path.take k)) c
  have hq2 : ((sK s).getD r [])[pcn (lft (2 ^ (rk0.getD r []).length - 1) (path.take k)) c]? = some q := by
    rw [a3, hg]
  obtain ⟨c1, c2, c3, c4⟩ := cut_ok a1 (by omega) (by omega) hq2
  have hcut := sel_cut (s := lft (2 ^ (rk0.getD r []).length - 1) (path.take k)) (c := c) (s4096 f1 h12) (rk0.getD r []) 0 (Nat.zero_le _) hb (by omega)
  rw [e0, Nat.sub_zero] at hcut
  have hK : (sK (aCut s (nI (16 * r + pcn (lft (2 ^ (rk0.getD r []).length - 1) (path.take k)) c))).2).getD r [] = sel (lft (2 ^ (rk0.getD r []).length - 1) (path.take (k + 1))) (rk0.getD r []) 0 := by
    rw [c3, cutR_get (by rw [a1.2.2]; exact hr), a3, hcut, ← lft_snoc hk]
  have hst := (p3 k c hk).2
  rw [← lft_snoc hk] at hst
  have hlt : lft (2 ^ (rk0.getD r []).length - 1) (path.take (k + 1)) < 2 ^ (rk0.getD r []).length := by rw [lft_snoc hk]; exact clr_lt2 f1
  refine ⟨?_, by rw [hmk]; exact (hok q (List.mem_of_getElem? hq)).2.2.1, by rw [c1]; exact kpt_v.1, ?_, c2, hK⟩
  · unfold aOf
    rw [kv_2, if_neg (by omega)]
    unfold oneA
    rw [kv_2, if_pos (by omega), lyA_at (by omega) (by omega), hq2, hmk]
    rfl
  · rw [lean_s (by rw [c2.2.2]; exact hr) (by rw [c2.2.2]; exact h4), c2.1, lM_sel hK hlt h12]
    exact if_pos hst
theorem cM_le2 {mk : Nat} : ∀ ls : List Lyr, cM mk ls ≤ ls.length
  | [] => Nat.le_refl _
  | q :: l => by
    have := cM_le2 (mk := mk) l
    show (if q.2.2.1 = mk then 1 else 0) + cM mk l ≤ l.length + 1
    split <;> omega
theorem cM_pos {mk : Nat} : ∀ {ls : List Lyr} {q : Lyr}, q ∈ ls → q.2.2.1 = mk → 1 ≤ cM mk ls
  | [], q, h, _ => absurd h List.not_mem_nil
  | x :: l, q, h, hm => by
    show 1 ≤ (if x.2.2.1 = mk then 1 else 0) + cM mk l
    rcases List.mem_cons.mp h with h | h
    · subst h
      rw [if_pos hm]
      omega
    · have := cM_pos h hm
      omega
theorem likely_v {s : St} {r mk t p : Nat} (h : r < (sK s).length) (h4 : (sK s).length ≤ 4) (hm : 1 ≤ mk ∧ mk ≤ 7) (ht : t ≤ 12) (hp : p ≤ 1) : aLikely s (nI (10 * r + mk)) (nI t) (nI p) = lN (lkn ((sK s).getD r []).length (cM mk ((sK s).getD r [])) t p) := by
  unfold aLikely
  rw [nI_v (n := 10 * r + mk) (by omega), nI_v (n := t) (by omega), nI_v (n := p) (by omega), Int.toNat_natCast, Int.toNat_natCast, Int.toNat_natCast, show (10 * r + mk) / 10 = r by omega, show (10 * r + mk) % 10 = mk by omega, if_pos (by omega)]
  rfl
theorem lk_at {n c t : Nat} (hn : n ≤ 12) (hc : c ≤ n) (ht : t ≤ 12) : vf_n64 (lkR n c t) ∧ vf_n64 (FP.dadd (lkR n c t) 4427486594234968593) ∧ (¬ Op.cmpValue (FP.dcmp (FP.dadd (lkR n c t) 4427486594234968593) (lkL n c t)) .g < 0) ∧ Op.cmpValue (FP.dcmp (lkR n c t) FP.dconst1) .l ≤ 0 := by
  have h1 := List.all_eq_true.mp (List.all_eq_true.mp (List.all_eq_true.mp okLk_1 n (List.mem_range.mpr (by omega))) c (List.mem_range.mpr (by omega))) t (List.mem_range.mpr (by omega))
  unfold okLk at h1
  simp only [Bool.and_eq_true, decide_eq_true_eq] at h1
  obtain ⟨⟨⟨h1, h2⟩, h3⟩, h4⟩ := h1
  have y1 : lkR n c t &&& 0x7fffffffffffffff ≤ 0x7ff0000000000000 := of_decide_eq_true h1
  have y2 : FP.dadd (lkR n c t) 4427486594234968593 &&& 0x7fffffffffffffff ≤ 0x7ff0000000000000 := of_decide_eq_true h2
  exact ⟨y1, y2, h3, h4⟩
theorem lk_end {n c : Nat} (hn : n ≤ 12) (hc : c ≤ n) (h0 : 1 ≤ c) : Op.cmpValue (FP.dcmp (lkR n c 12) FP.dconst1) .l = 0 := by
  have h1 := List.all_eq_true.mp (List.all_eq_true.mp okLk_2 n (List.mem_range.mpr (by omega))) c (List.mem_range.mpr (by omega))
  simp only [Bool.or_eq_true, decide_eq_true_eq] at h1
  exact h1.resolve_left (by omega)
