/-! the reference: the fewest cuts of every set -/
section FEW
variable (E : EnvK) (ls : List Lyr) (mk : Nat)
def fwB (F : Nat → Nat) (s i : Nat) : Nat := if stS E ls (clr s i) then (if (ls.getD i (0, 0, 0, 0)).2.2.1 = mk then 1 else if F (clr s i) = 0 then 0 else F (clr s i) + 1) else 0
def fwS (F : Nat → Nat) (s b i : Nat) : Nat := if s.testBit i = true then (if 0 < fwB E ls mk F s i ∧ (b = 0 ∨ fwB E ls mk F s i < b) then fwB E ls mk F s i else b) else b
def fwN : Nat → Nat → Nat
  | 0, _ => 0
  | f + 1, s => (List.range ls.length).foldl (fwS E ls mk (fwN f) s) 0
def fw (s : Nat) : Nat := fwN E ls mk 4096 s
end FEW
theorem clr_less {s i : Nat} (hs : s < 4096) (h : s.testBit i = true) : clr s i < s := by
  have h1 : clr s i ≤ s := Nat.and_le_left
  rcases Nat.lt_or_eq_of_le h1 with h2 | h2
  · exact h2
  · have h3 := tb_clr (i := i) (j := i) hs
    rw [h2, h, decide_eq_true rfl] at h3
    cases h3
theorem fwS_cg {E : EnvK} {ls : List Lyr} {mk : Nat} {F F' : Nat → Nat} {s b i : Nat} (h : s.testBit i = true → F (clr s i) = F' (clr s i)) : fwS E ls mk F s b i = fwS E ls mk F' s b i := by
  unfold fwS
  by_cases z : s.testBit i = true
  · rw [if_pos z, if_pos z]
    unfold fwB
    rw [h z]
  · rw [if_neg z, if_neg z]
theorem fwN_eq {E : EnvK} {ls : List Lyr} {mk : Nat} : ∀ (f f' s : Nat), s < 4096 → s < f → s < f' → fwN E ls mk f s = fwN E ls mk f' s
  | 0, _, _, _, h, _ => absurd h (Nat.not_lt_zero _)
  | _ + 1, 0, _, _, _, h => absurd h (Nat.not_lt_zero _)
  | f + 1, f' + 1, s, hs, h1, h2 => by
    rw [fwN, fwN]
    refine foldl_cg _ _ (fun b i _ => fwS_cg (fun hb => ?_))
    have := clr_less hs hb
    exact fwN_eq f f' (clr s i) (clr_lt hs) (by omega) (by omega)
theorem fw_eq {E : EnvK} {ls : List Lyr} {mk s : Nat} (hs : s < 4096) : fw E ls mk s = (List.range ls.length).foldl (fwS E ls mk (fw E ls mk) s) 0 := by
  have h : fw E ls mk s = (List.range ls.length).foldl (fwS E ls mk (fwN E ls mk 4095) s) 0 := rfl
  rw [h]
  refine foldl_cg _ _ (fun b i _ => fwS_cg (fun hb => ?_))
  have := clr_less hs hb
  exact fwN_eq 4095 4096 (clr s i) (clr_lt hs) (by omega) (by omega)
/-- a fold finds the least that is not nothing -/
theorem fw_fold {E : EnvK} {ls : List Lyr} {mk : Nat} {F : Nat → Nat} {s : Nat} : ∀ (L : List Nat) (b : Nat),
    (L.foldl (fwS E ls mk F s) b = b ∨ ∃ i ∈ L, s.testBit i = true ∧ 0 < fwB E ls mk F s i ∧ L.foldl (fwS E ls mk F s) b = fwB E ls mk F s i) ∧ (0 < b → 0 < L.foldl (fwS E ls mk F s) b ∧ L.foldl (fwS E ls mk F s) b ≤ b) ∧ ∀ i ∈ L, s.testBit i = true → 0 < fwB E ls mk F s i → 0 < L.foldl (fwS E ls mk F s) b ∧ L.foldl (fwS E ls mk F s) b ≤ fwB E ls mk F s i
  | [], b => ⟨Or.inl rfl, fun h => ⟨h, Nat.le_refl _⟩, fun i hi => by cases hi⟩
  | a :: L, b => by
    rw [List.foldl_cons]
    obtain ⟨h1, h2, h3⟩ := fw_fold (E := E) (ls := ls) (mk := mk) (F := F) (s := s) L (fwS E ls mk F s b a)
    by_cases z : s.testBit a = true ∧ 0 < fwB E ls mk F s a ∧ (b = 0 ∨ fwB E ls mk F s a < b)
    · have e : fwS E ls mk F s b a = fwB E ls mk F s a := by unfold fwS; rw [if_pos z.1, if_pos z.2]
      rw [e] at h1 h2 h3 ⊢
      refine ⟨Or.inr ?_, fun hb => ?_, fun i hi hib hip => ?_⟩
      · rcases h1 with h1 | ⟨i, i1, i2, i3, i4⟩
        · exact ⟨a, List.mem_cons_self .., z.1, z.2.1, h1⟩
        · exact ⟨i, List.mem_cons_of_mem _ i1, i2, i3, i4⟩
      · have := h2 z.2.1
        have := z.2.2
        omega
      · rcases List.mem_cons.mp hi with rfl | hi
        · exact h2 z.2.1
        · exact h3 i hi hib hip
    · have e : fwS E ls mk F s b a = b := by
        unfold fwS
        by_cases y : s.testBit a = true
        · rw [if_pos y, if_neg (fun x => z ⟨y, x⟩)]
        · rw [if_neg y]
      rw [e] at h1 h2 h3 ⊢
      refine ⟨?_, h2, fun i hi hib hip => ?_⟩
      · rcases h1 with h1 | ⟨i, i1, i2, i3, i4⟩
        · exact Or.inl h1
        · exact Or.inr ⟨i, List.mem_cons_of_mem _ i1, i2, i3, i4⟩
      · rcases List.mem_cons.mp hi with rfl | hi
        · have hb : 0 < b ∧ b ≤ fwB E ls mk F s i := by
            have : ¬ (b = 0 ∨ fwB E ls mk F s i < b) := fun x => z ⟨hib, hip, x⟩
            omega
          have := h2 hb.1
          omega
        · exact h3 i hi hib hip
theorem fw_some {E : EnvK} {ls : List Lyr} {mk s : Nat} (hs : s < 4096) (h : 0 < fw E ls mk s) : ∃ i, i < ls.length ∧ s.testBit i = true ∧ fwB E ls mk (fw E ls mk) s i = fw E ls mk s := by
  have h1 := (fw_fold (E := E) (ls := ls) (mk := mk) (F := fw E ls mk) (s := s) (List.range ls.length) 0).1
  rw [← fw_eq hs] at h1
  rcases h1 with h1 | ⟨i, i1, i2, i3, i4⟩
  · omega
  · exact ⟨i, List.mem_range.mp i1, i2, i4.symm⟩
theorem fw_le {E : EnvK} {ls : List Lyr} {mk s i : Nat} (hs : s < 4096) (hi : i < ls.length) (hb : s.testBit i = true) (hp : 0 < fwB E ls mk (fw E ls mk) s i) : 0 < fw E ls mk s ∧ fw E ls mk s ≤ fwB E ls mk (fw E ls mk) s i := by
  have h1 := (fw_fold (E := E) (ls := ls) (mk := mk) (F := fw E ls mk) (s := s) (List.range ls.length) 0).2.2 i (List.mem_range.mpr hi) hb hp
  rw [← fw_eq hs] at h1
  exact h1
theorem fwB_le {E : EnvK} {ls : List Lyr} {mk : Nat} {F : Nat → Nat} {s i : Nat} : fwB E ls mk F s i ≤ F (clr s i) + 1 := by
  unfold fwB
  split
  · split
    · omega
    · split <;> omega
  · omega
theorem fw_pcn {E : EnvK} {ls : List Lyr} {mk : Nat} (h12 : ls.length ≤ 12) : ∀ (n s : Nat), s < n → s < 4096 → fw E ls mk s ≤ pcn s 12
  | 0, _, h, _ => absurd h (Nat.not_lt_zero _)
  | n + 1, s, hn, hs => by
    by_cases z : 0 < fw E ls mk s
    · obtain ⟨i, i1, i2, i3⟩ := fw_some hs z
      have h1 := clr_less hs i2
      have h2 := fw_pcn (E := E) (mk := mk) h12 n (clr s i) (by omega) (clr_lt hs)
      have h3 := fwB_le (E := E) (ls := ls) (mk := mk) (F := fw E ls mk) (s := s) (i := i)
      have h4 := pcn_clr hs i2 12
      rw [if_pos (show i < 12 by omega)] at h4
      omega
    · omega
theorem fw_12 {E : EnvK} {ls : List Lyr} {mk s : Nat} (h12 : ls.length ≤ 12) (hs : s < 4096) : fw E ls mk s ≤ 12 := Nat.le_trans (fw_pcn h12 (s + 1) s (Nat.lt_succ_self _) hs) (pcn_le s 12)
theorem fwB_12 {E : EnvK} {ls : List Lyr} {mk s i : Nat} (h12 : ls.length ≤ 12) (hs : s < 4096) : fwB E ls mk (fw E ls mk) s i ≤ 13 := by
  have := fw_12 (E := E) (mk := mk) h12 (clr_lt (i := i) hs)
  have h3 := fwB_le (E := E) (ls := ls) (mk := mk) (F := fw E ls mk) (s := s) (i := i)
  omega
/-- what the reference's tables hold of the sets -/
def FMs (M : Mem) (E : EnvK) (ls : List Lyr) (mk n m : Nat) : Prop := (∀ x, x < n → M.1 82 x = nI (fw E ls mk x)) ∧ ∀ x, x < m → M.1 83 x = b2 (stS E ls x)
theorem FMs_f {A J : List Nat} {M M' : Mem} {E : EnvK} {ls : List Lyr} {mk n m : Nat} (h : FMs M E ls mk n m) (hf : FrM A J M M') (ha : (A.contains 82 || A.contains 83) = false) : FMs M' E ls mk n m := by
  rw [Bool.or_eq_false_iff] at ha
  exact ⟨fun x hx => by rw [FrM_c hf (by decide) ha.1]; exact h.1 x hx, fun x hx => by rw [FrM_c hf (by decide) ha.2]; exact h.2 x hx⟩
theorem m_fewBy {d r st k mk n : Nat} {M : Mem} {s : St} (h : RM M s) (hv : inv s) (hm : mk < 8) (hk : k < hgt (sK s) r) (hs : st < 4096) (hc : clr st k < n) (hF : FMs M (envS s) ((sK s).getD r []) mk n n) : Call (d + 1) 223 [.ref 55, .int (nI r), .int (nI st), .int (nI k), .int (nI mk)] M (RV (some (.int (nI (fwB (envS s) ((sK s).getD r []) mk (fw (envS s) ((sK s).getD r []) mk) st k)))) M) := by
  have hr := hgt_lt hk
  have b1 := hv.1.1
  have b2x := hv.1.2.1 r
  obtain ⟨q, hq⟩ := ly_at hk
  have hok := hv.1.2.2 r k q hq
  obtain ⟨y0, y1, y2, y3, y4⟩ := YM_at h.1.2 hq
  have eP : cI 12 * nI r + nI k = nI (12 * r + k) := by rw [show cI 12 = nI 12 from rfl, nI_mul, nI_add]
  have vP : vp_in (cI 12 * nI r + nI k) 48 := by rw [eP]; exact nI_vp (by omega) (by decide)
  have cP : (cI 12 * nI r + nI k).toNatClampNeg = 12 * r + k := by rw [eP]; exact nI_c (by omega)
  have hcl := clr_lt (i := k) hs
  have eC : nI st &&& ((cI 1 <<< (nI k &&& 31)) ^^^ cI (-1)) = nI (clr st k) := clr_i hs (by omega)
  have vC : vp_in (nI st &&& ((cI 1 <<< (nI k &&& 31)) ^^^ cI (-1))) 4096 := by rw [eC]; exact nI_vp hcl (by decide)
  have cC : (nI st &&& ((cI 1 <<< (nI k &&& 31)) ^^^ cI (-1))).toNatClampNeg = clr st k := by rw [eC]; exact nI_c (by omega)
  have f82 := hF.1 _ hc
  have f83 := hF.2 _ hc
  have e12 := fw_12 (E := envS s) (mk := mk) (show ((sK s).getD r []).length ≤ 12 from b2x) hcl
  have hmq : (((sK s).getD r []).getD k (0, 0, 0, 0)).2.2.1 = q.2.2.1 := by rw [List.getD, hq]; rfl
  have emk := nI_v (n := mk) (by omega)
  have eqm := nI_v (n := q.2.2.1) (by have := hok.2.2.1; omega)
  have ef := nI_v (n := fw (envS s) ((sK s).getD r []) mk (clr st k)) (by omega)
  have eB : fwB (envS s) ((sK s).getD r []) mk (fw (envS s) ((sK s).getD r []) mk) st k = if stS (envS s) ((sK s).getD r []) (clr st k) then (if q.2.2.1 = mk then 1 else if fw (envS s) ((sK s).getD r []) mk (clr st k) = 0 then 0 else fw (envS s) ((sK s).getD r []) mk (clr st k) + 1) else 0 := by
    unfold fwB
    rw [hmq]
  rw [eB]
  generalize fw (envS s) ((sK s).getD r []) mk (clr st k) = F at f82 ef e12 ⊢
  refine call_run 400 rfl rfl (fun B Cl Z hZ hB hC => ?_)
  (conv => whnf)
  refine ⟨vC, ?_⟩
  (conv => whnf); refine ⟨fun a => ?_, fun a => ?_⟩
  case' refine_2 =>
    replace a : ¬ cnd .ne (M.1 83 (nI st &&& ((cI 1 <<< (nI k &&& 31)) ^^^ cI (-1))).toNatClampNeg) 0 := a
    rw [cC, f83, b2_nz] at a
    rw [if_neg a] at hZ
    conv => whnf
    exact hZ _ _ ⟨rfl, rfl⟩
  replace a : cnd .ne (M.1 83 (nI st &&& ((cI 1 <<< (nI k &&& 31)) ^^^ cI (-1))).toNatClampNeg) 0 := a
  rw [cC, f83, b2_nz] at a
  rw [if_pos a] at hZ
  (conv => whnf)
  refine ⟨vP, ?_⟩
  (conv => whnf); refine ⟨fun b => ?_, fun b => ?_⟩
  case' refine_2 =>
    replace b : ¬ cnd .ne (M.1 59 (cI 12 * nI r + nI k).toNatClampNeg) (nI mk) := b
    rw [cP, show M.1 59 (12 * r + k) = nI q.2.2.1 from y3, c_ne, emk, eqm] at b
    rw [if_pos (by omega)] at hZ
    conv => whnf
    exact hZ _ _ ⟨rfl, rfl⟩
  replace b : cnd .ne (M.1 59 (cI 12 * nI r + nI k).toNatClampNeg) (nI mk) := b
  rw [cP, show M.1 59 (12 * r + k) = nI q.2.2.1 from y3, c_ne, emk, eqm] at b
  rw [if_neg (by omega)] at hZ
  (conv => whnf)
  refine ⟨vC, ?_⟩
  (conv => whnf); refine ⟨fun c => ?_, fun c => ?_⟩
  · replace c : cnd .ne (M.1 82 (nI st &&& ((cI 1 <<< (nI k &&& 31)) ^^^ cI (-1))).toNatClampNeg) 0 := c
    rw [cC, f82, c_ne, ef, t0] at c
    rw [if_neg (by omega)] at hZ
    (conv => whnf)
    refine ⟨vC, ?_⟩
    conv => whnf
    rw [cC, f82]
    exact hZ _ _ ⟨v_eq (nI_i1 F), rfl⟩
  · replace c : ¬ cnd .ne (M.1 82 (nI st &&& ((cI 1 <<< (nI k &&& 31)) ^^^ cI (-1))).toNatClampNeg) 0 := c
    rw [cC, f82, c_ne, ef, t0] at c
    rw [if_pos (by omega)] at hZ
    conv => whnf
    exact hZ _ _ ⟨rfl, rfl⟩
def FMA : List Nat := [73, 74, 82, 83]
theorem FMAx {M M' : Mem} (h : FrM FMA [] M M') : FrM XM XJ M M' := FrM_sub h (by decide) (by decide)
theorem bt8 : ∀ n, n < 14 → vp_nar .byte (nI n).toInt8.toInt32 = nI n := by decide +kernel
theorem ff_in {d r st mk : Nat} {M0 : Mem} {s : St} {Q : Po} (hv : inv s) (hr : r < (sK s).length) (hm : mk < 8) (hs : st < 4096) (tl : ∀ M', RM M' s → FrM FMA [] M0 M' → FMs M' (envS s) ((sK s).getD r []) mk (st + 1) (st + 1) → BodyK (d + 7) 224 2 [(0, .ref 55), (1, .int (nI r)), (2, .int (nI mk)), (3, .int (nI (st + 1)))] [] M' Q) : ∀ (m k b : Nat) (M : Mem), k + m = hgt (sK s) r → b ≤ 13 → RM M s → FrM FMA [] M0 M → FMs M (envS s) ((sK s).getD r []) mk st (st + 1) → ((List.range ((sK s).getD r []).length).drop k).foldl (fwS (envS s) ((sK s).getD r []) mk (fw (envS s) ((sK s).getD r []) mk) st) b = fw (envS s) ((sK s).getD r []) mk st →
    BodyK (d + 7) 224 41 [(0, .ref 55), (1, .int (nI r)), (2, .int (nI mk)), (3, .int (nI st)), (4, .int (nI b)), (5, .int (nI k))] [] M Q := by
  have h4 := hv.1.1
  have h12 := hv.1.2.1 r
  have hl12 : ((sK s).getD r []).length ≤ 12 := h12
  have en := nI_v (n := hgt (sK s) r) (by omega)
  have cr := nI_c (n := r) (by omega)
  have vr : vp_in (nI r) 4 := nI_vp (by omega) (by decide)
  intro m
  induction m with
  | zero =>
    intro k b M hk hb h hF hM hE
    have ek := nI_v (n := k) (by omega)
    have hd : (List.range ((sK s).getD r []).length).drop k = [] := List.drop_eq_nil_of_le (by simp; show hgt (sK s) r ≤ k; omega)
    rw [hd] at hE
    replace hE : b = fw (envS s) ((sK s).getD r []) mk st := hE
    refine body_run 400 rfl (fun B Cl Z hZ hB hC => ?_)
    (conv => whnf)
    refine ⟨vr, ?_⟩
    (conv => whnf); refine ⟨fun a => ?_, fun a => ?_⟩
    case' refine_2 =>
      replace a : ¬ cnd .ge (nI k) (M.1 56 (nI r).toNatClampNeg) := a
      rw [cr, (h.1.2 r hr).1, c_ge, en, ek] at a
      omega
    (conv => whnf)
    refine ⟨nI_vp hs (by decide), ?_⟩
    (conv => whnf)
    rw [nI_c (n := st) (by omega), bt8 b (by omega)]
    have hF2 : FrM FMA [] M0 (mI M 82 st (nI b)) := FrM_a hF (by decide) (by decide)
    refine hB _ _ _ _ (Body_lv (tl (mI M 82 st (nI b)) (RM_x h (FrM_a FrM_refl (by decide) (by decide))) hF2 ⟨fun x hx => ?_, fun x hx => ?_⟩) ⟨rfl, rfl, rfl, v_eq (nI_i1 st), trivial⟩)
    · rw [mI_at]
      by_cases z : x = st
      · rw [if_pos ⟨rfl, z⟩, z, hE]
      · rw [if_neg (fun y => z y.2)]; exact hM.1 x (by omega)
    · rw [mI_ne _ _ _ (by decide)]
      exact hM.2 x hx
  | succ m ih =>
    intro k b M hk hb h hF hM hE
    have ek := nI_v (n := k) (by omega)
    rw [range_drop ((sK s).getD r []).length k (by show k < hgt (sK s) r; omega), List.foldl_cons] at hE
    refine body_run 400 rfl (fun B Cl Z hZ hB hC => ?_)
    (conv => whnf)
    refine ⟨vr, ?_⟩
    (conv => whnf); refine ⟨fun a => ?_, fun a => ?_⟩
    · replace a : cnd .ge (nI k) (M.1 56 (nI r).toNatClampNeg) := a
      rw [cr, (h.1.2 r hr).1, c_ge, en, ek] at a
      omega
    (conv => whnf); refine ret_k hC (m_has hs (show k < 31 by omega)) ?_
    (conv => whnf); refine ⟨fun c => ?_, fun c => ?_⟩
    case' refine_2 =>
      rw [b2_nz] at c
      have e : fwS (envS s) ((sK s).getD r []) mk (fw (envS s) ((sK s).getD r []) mk) st b k = b := if_neg c
      rw [e] at hE
      (conv => whnf)
      exact hB _ _ _ _ (Body_lv (ih (k + 1) b M (by omega) hb h hF hM hE) ⟨rfl, rfl, rfl, rfl, rfl, v_eq (nI_i1 k), trivial⟩)
    rw [b2_nz] at c
    have hcl := clr_less hs c
    have e : fwS (envS s) ((sK s).getD r []) mk (fw (envS s) ((sK s).getD r []) mk) st b k = if 0 < fwB (envS s) ((sK s).getD r []) mk (fw (envS s) ((sK s).getD r []) mk) st k ∧ (b = 0 ∨ fwB (envS s) ((sK s).getD r []) mk (fw (envS s) ((sK s).getD r []) mk) st k < b) then fwB (envS s) ((sK s).getD r []) mk (fw (envS s) ((sK s).getD r []) mk) st k else b := if_pos c
    rw [e] at hE
    have hv13 := fwB_12 (E := envS s) (mk := mk) (i := k) hl12 hs
    (conv => whnf)
    refine ret_k hC (m_fewBy h hv hm (by omega) hs hcl ⟨hM.1, fun x hx => hM.2 x (by omega)⟩) ?_
    generalize fwB (envS s) ((sK s).getD r []) mk (fw (envS s) ((sK s).getD r []) mk) st k = v at hE hv13 ⊢
    have evv := nI_v (n := v) (by omega)
    have evb := nI_v (n := b) (by omega)
    (conv => whnf); refine ⟨fun g => ?_, fun g => ?_⟩
    · replace g : cnd .le (nI v) 0 := g
      rw [c_le, evv, t0] at g
      rw [if_neg (by omega)] at hE
      (conv => whnf)
      exact hB _ _ _ _ (Body_lv (ih (k + 1) b M (by omega) hb h hF hM hE) ⟨rfl, rfl, rfl, rfl, rfl, v_eq (nI_i1 k), trivial⟩)
    replace g : ¬ cnd .le (nI v) 0 := g
    rw [c_le, evv, t0] at g
    (conv => whnf); refine ⟨fun u => ?_, fun u => ?_⟩
    · replace u : cnd .eq (nI b) 0 := u
      rw [c_eq, evb, t0] at u
      rw [if_pos ⟨by omega, Or.inl (by omega)⟩] at hE
      (conv => whnf)
      exact hB _ _ _ _ (Body_lv (ih (k + 1) v M (by omega) hv13 h hF hM hE) ⟨rfl, rfl, rfl, rfl, rfl, v_eq (nI_i1 k), trivial⟩)
    replace u : ¬ cnd .eq (nI b) 0 := u
    rw [c_eq, evb, t0] at u
    (conv => whnf); refine ⟨fun y => ?_, fun y => ?_⟩
    · replace y : cnd .ge (nI v) (nI b) := y
      rw [c_ge, evv, evb] at y
      rw [if_neg (by omega)] at hE
      (conv => whnf)
      exact hB _ _ _ _ (Body_lv (ih (k + 1) b M (by omega) hb h hF hM hE) ⟨rfl, rfl, rfl, rfl, rfl, v_eq (nI_i1 k), trivial⟩)
    · replace y : ¬ cnd .ge (nI v) (nI b) := y
      rw [c_ge, evv, evb] at y
      rw [if_pos ⟨by omega, Or.inr (by omega)⟩] at hE
      (conv => whnf)
      exact hB _ _ _ _ (Body_lv (ih (k + 1) v M (by omega) hv13 h hF hM hE) ⟨rfl, rfl, rfl, rfl, rfl, v_eq (nI_i1 k), trivial⟩)
theorem ff_out {d r mk : Nat} {M0 : Mem} {s : St} (hv : inv s) (hr : r < (sK s).length) (hm : mk < 8) : ∀ (m st : Nat) (M : Mem), st + m = 2 ^ hgt (sK s) r → RM M s → FrM FMA [] M0 M → FMs M (envS s) ((sK s).getD r []) mk st st →
    BodyK (d + 7) 224 2 [(0, .ref 55), (1, .int (nI r)), (2, .int (nI mk)), (3, .int (nI st))] [] M (fun v M' => v = none ∧ FrM FMA [] M0 M' ∧ FMs M' (envS s) ((sK s).getD r []) mk (2 ^ hgt (sK s) r) (2 ^ hgt (sK s) r)) := by
  have h4 := hv.1.1
  have h12 := hv.1.2.1 r
  have hp : 2 ^ hgt (sK s) r ≤ 2 ^ 12 := Nat.pow_le_pow_right (by omega) h12
  have en := nI_v (n := 2 ^ hgt (sK s) r) (by omega)
  have cr := nI_c (n := r) (by omega)
  have vr : vp_in (nI r) 4 := nI_vp (by omega) (by decide)
  intro m
  induction m with
  | zero =>
    intro st M hk h hF hM
    have ek := nI_v (n := st) (by omega)
    refine body_run 400 rfl (fun B Cl Z hZ hB hC => ?_)
    (conv => whnf)
    refine ⟨vr, ?_⟩
    (conv => whnf); refine ⟨fun a => ?_, fun a => ?_⟩
    · conv => whnf
      obtain rfl : st = 2 ^ hgt (sK s) r := by omega
      exact hZ _ _ ⟨rfl, hF, hM⟩
    · replace a : ¬ cnd .ge (nI st) (cI 1 <<< (M.1 56 (nI r).toNatClampNeg &&& 31)) := a
      rw [cr, (h.1.2 r hr).1, pow_i _ h12, c_ge, en, ek] at a
      omega
  | succ m ih =>
    intro st M hk h hF hM
    have ek := nI_v (n := st) (by omega)
    have hs : st < 4096 := by omega
    have vs : vp_in (nI st) 4096 := nI_vp hs (by decide)
    refine body_run 400 rfl (fun B Cl Z hZ hB hC => ?_)
    (conv => whnf)
    refine ⟨vr, ?_⟩
    (conv => whnf); refine ⟨fun a => ?_, fun a => ?_⟩
    · replace a : cnd .ge (nI st) (cI 1 <<< (M.1 56 (nI r).toNatClampNeg &&& 31)) := a
      rw [cr, (h.1.2 r hr).1, pow_i _ h12, c_ge, en, ek] at a
      omega
    (conv => whnf)
    refine hC _ _ _ _ _ (m_standsIn h hv hr hs) (fun v M1 p => ?_)
    obtain ⟨rfl, p2⟩ := p
    have h1 := RM_KJ h p2
    have hF1 : FrM FMA [] M0 M1 := FrM_trans hF (FrM_sub p2 (by decide) (by decide))
    have hM1 := FMs_f hM p2 (by decide)
    have fold0 := fw_eq (E := envS s) (ls := (sK s).getD r []) (mk := mk) hs
    have go : ∀ (x : Int32) (lv : Lv), x = b2 (stS (envS s) ((sK s).getD r []) st) → lkp lv 0 = some (.ref 55) → lkp lv 1 = some (.int (nI r)) → lkp lv 2 = some (.int (nI mk)) → lkp lv 3 = some (.int (nI st)) → lkp lv 4 = some (.int (nI 0)) → lkp lv 5 = some (.int (nI 0)) → B 41 lv [] (mI M1 83 st x) := by
      intro x lv hx l0 l1 l2 l3 l4 l5
      refine hB _ _ _ _ (Body_lv (ff_in (d := d) (M0 := M0) hv hr hm hs (fun M' a1 a2 a3 => ih (st + 1) M' (by omega) a1 a2 a3) (hgt (sK s) r) 0 0 (mI M1 83 st x) (by omega) (by omega) (RM_x h1 (FrM_a FrM_refl (by decide) (by decide))) (FrM_a hF1 (by decide) (by decide)) ⟨fun y hy => ?_, fun y hy => ?_⟩ fold0.symm) ⟨l0, l1, l2, l3, l4, l5, trivial⟩)
      · rw [mI_ne _ _ _ (by decide)]; exact hM1.1 y hy
      · rw [mI_at]
        by_cases z : y = st
        · rw [if_pos ⟨rfl, z⟩, z, hx]
        · rw [if_neg (fun q => z q.2)]; exact hM1.2 y (by omega)
    (conv => whnf); refine ⟨fun c => ?_, fun c => ?_⟩
    · rw [b2_z] at c
      (conv => whnf)
      refine ⟨vs, ?_⟩
      (conv => whnf)
      rw [nI_c (n := st) (by omega)]
      exact go _ _ (by rw [b2_f c]; rfl) rfl rfl rfl rfl rfl rfl
    · rw [b2_z] at c
      (conv => whnf)
      refine ⟨vs, ?_⟩
      (conv => whnf)
      rw [nI_c (n := st) (by omega)]
      exact go _ _ (by rw [b2_t (Classical.not_not.mp c)]; rfl) rfl rfl rfl rfl rfl rfl
theorem m_findFewest {d r mk : Nat} {M : Mem} {s : St} (h : RM M s) (hv : inv s) (hr : r < (sK s).length) (hm : mk < 8) : Call (d + 7) 224 [.ref 55, .int (nI r), .int (nI mk)] M (fun v M' => v = none ∧ FrM FMA [] M M' ∧ FMs M' (envS s) ((sK s).getD r []) mk (2 ^ hgt (sK s) r) (2 ^ hgt (sK s) r)) := by
  refine call_run 400 rfl rfl (fun B Cl Z hZ hB hC => ?_)
  conv => whnf
  exact hB _ _ _ _ (Body_lv (ff_out (d := d) (M0 := M) hv hr hm (2 ^ hgt (sK s) r) 0 M (by omega) h FrM_refl ⟨fun x hx => absurd hx (Nat.not_lt_zero x), fun x hx => absurd hx (Nat.not_lt_zero x)⟩) ⟨rfl, rfl, rfl, rfl, trivial⟩)
