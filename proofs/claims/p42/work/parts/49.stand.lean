/-! whether a set of layers stands -/
def sXl (E : EnvK) (s : Nat) (w : Nat → Int32) : List Lyr → Nat → Int32 → Int32
  | [], _, a => a
  | q :: l, i, a => sXl E s w l (i + 1) (if s.testBit i = true then a + kq E (pcn s 12) (pcn s i) q * w q.1 else a)
def sM (E : EnvK) (ls : List Lyr) (s : Nat) : Int32 := maxI (absI (sXl E s rgt ls 0 0)) (absI (sXl E s dwn ls 0 0))
abbrev stS (E : EnvK) (ls : List Lyr) (s : Nat) : Prop := sM E ls s ≤ E.2.2.1
/-- what the search knows of the sets: 0, or the layer whose cut led there, and 1 -/
def RCm (M : Mem) (E : EnvK) (ls : List Lyr) (cm : Nat → Nat) : Prop := ∀ s, s < 4096 → (0 < cm s → cm s ≤ 12 ∧ M.1 52 s = nI (cm s) ∧ stS E ls s) ∧ (cm s = 0 → M.1 52 s = 0 ∨ (M.1 52 s = cI (-1) ∧ ¬ stS E ls s))
def AI : List Nat := [9, 37, 38, 45, 52]
theorem sRd {i n : Nat} {s : Nat} (hs : s < 4096) (hi : i < 31) : (((nI s >>> (nI i &&& 31)) &&& cI 1) = 0) = ¬ s.testBit i = true := by
  rw [has_z hs hi]
  cases s.testBit i with
  | true => simp; decide
  | false => simp; rfl
theorem stand_loop {d s : Nat} {E : EnvK} {ls : List Lyr} {cm : Nat → Nat} (hs : s < 2 ^ ls.length) (hc0 : cm s = 0) : ∀ (m i : Nat) (x y : Int32) (M : Mem), i + m = ls.length → RLn M 9 x y → RSr M E ls false → RE M E → RCm M E ls cm → M.1 52 s = 0 → sXl E s rgt (ls.drop i) i x = sXl E s rgt ls 0 0 → sXl E s dwn (ls.drop i) i y = sXl E s dwn ls 0 0 →
    BodyK (d + 5) 47 43 [(0, .ref 5), (1, .int (nI s)), (2, .int (nI (pcn s 12))), (3, .int (nI (pcn s i))), (4, .int (nI i))] [] M (fun v M' => v = some (.int (b2 (stS E ls s))) ∧ RSr M' E ls false ∧ RCm M' E ls cm ∧ Fr AI M M') := by
  intro m
  induction m with
  | zero =>
    intro i x y M hi hl h he hcm h0 hx hy
    have h12 := h.1.2.1
    have hs12 : s < 4096 := Nat.lt_of_lt_of_le hs (Nat.pow_le_pow_right (n := 2) (by omega) h12)
    have e := nI_v (n := i) (by omega)
    have en := nI_v (n := ls.length) (by omega)
    have hd : ls.drop i = [] := List.drop_eq_nil_of_le (by omega)
    rw [hd] at hx hy
    replace hx : x = sXl E s rgt ls 0 0 := hx
    replace hy : y = sXl E s dwn ls 0 0 := hy
    have ec : (nI s).toNatClampNeg = s := nI_c (by omega)
    refine body_run 400 rfl (fun B Cl Z hZ hB hC => ?_)
    (conv => whnf); refine ⟨fun b => ?_, fun b => ?_⟩
    rotate_left
    · simp only [c_lt, c_gt, c_le, c_ge, c_eq, c_ne, b2_z, b2_nz, b2_i, Classical.not_not, t0, t1, Nat.reduceMod, Nat.reduceDiv, Int.reduceAdd, Int.reduceNeg, Nat.reduceAdd, kv_m1, kv_0, kv_1, kc_0, kc_1, h.1.1, e, en] at b
      omega
    (conv => whnf)
    refine ret_k hC (sp_holds (d := d + 2) (by simp [isLn]) hl) ?_
    have hst : (maxI (absI x) (absI y) ≤ M.1 1 1) = stS E ls s := by rw [hx, hy, he.2.2.1]; rfl
    (conv => whnf); refine ⟨fun g => ?_, fun g => ?_⟩
    · rw [b2_nz, hst] at g
      (conv => whnf)
      refine ⟨nI_vp (by omega) (by omega), ?_⟩
      (conv => whnf); refine ⟨fun k => ?_, fun k => ?_⟩
      · rw [ec, h0] at k
        exact absurd (show (0 : Int32) < 0 from k) (by decide)
      · (conv => whnf)
        exact ⟨Or.inr rfl, hZ _ _ ⟨v_eq (b2_1 g), h, hcm, Fr_refl⟩⟩
    · rw [b2_nz, hst] at g
      (conv => whnf)
      refine ⟨nI_vp (by omega) (by omega), ?_⟩
      (conv => whnf)
      refine ⟨nI_vp (by omega) (by omega), ?_⟩
      (conv => whnf); refine ⟨fun k => ?_, fun k => ?_⟩
      · (conv => whnf)
        rw [ec]
        have hF : Fr [52] M (mI M 52 s (cI (-1))) := Fr_mI Fr_refl (by decide)
        refine ⟨Or.inl rfl, hZ _ _ ⟨v_eq (b2_0 g), RSr_fr h hF (by decide), fun s' hs' => ?_, Fr_sub hF (by decide)⟩⟩
        by_cases z : s' = s
        · subst z
          exact ⟨fun q => by omega, fun _ => Or.inr ⟨mI_1 _ _ _ _, g⟩⟩
        · rw [mI_2 _ _ z]
          exact hcm s' hs'
      · replace k : ¬ (mI M 52 (nI s).toNatClampNeg (cI (-1))).1 52 (nI s).toNatClampNeg < 0 := k
        rw [mI_1] at k
        exact absurd (by decide) k
  | succ m ih =>
    intro i x y M hi hl h he hcm h0 hx hy
    have h12 := h.1.2.1
    have hs12 : s < 4096 := Nat.lt_of_lt_of_le hs (Nat.pow_le_pow_right (n := 2) (by omega) h12)
    have e := nI_v (n := i) (by omega)
    have en := nI_v (n := ls.length) (by omega)
    have hil : i < ls.length := by omega
    have hq := List.getElem?_eq_getElem hil
    have hd : ls.drop i = ls[i] :: ls.drop (i + 1) := List.drop_eq_getElem_cons hil
    generalize ls[i] = q at hq hd
    have hok := (h.1.2.2 i q hq).1
    rw [hd] at hx hy
    refine body_run 400 rfl (fun B Cl Z hZ hB hC => ?_)
    (conv => whnf); refine ⟨fun b => ?_, fun b => ?_⟩
    · simp only [c_lt, c_gt, c_le, c_ge, c_eq, c_ne, b2_z, b2_nz, b2_i, Classical.not_not, t0, t1, Nat.reduceMod, Nat.reduceDiv, Int.reduceAdd, Int.reduceNeg, Nat.reduceAdd, kv_m1, kv_0, kv_1, kc_0, kc_1, h.1.1, e, en] at b
      omega
    (conv => whnf); refine ⟨fun g => ?_, fun g => ?_⟩
    · replace g : ((nI s >>> (nI i &&& 31)) &&& cI 1) = 0 := g
      rw [sRd (n := 0) hs12 (by omega)] at g
      have hp1 : pcn s (i + 1) = pcn s i := by rw [pcn, if_neg g]; rfl
      (conv => whnf)
      refine hB _ _ _ _ (Body_lv (ih (i + 1) x y M (by omega) hl h he hcm h0 ?_ ?_) ⟨rfl, rfl, rfl, v_eq (by rw [hp1]), v_eq (nI_i1 i), trivial⟩)
      · rw [← hx, sXl, if_neg g]
      · rw [← hy, sXl, if_neg g]
    · replace g : ¬ ((nI s >>> (nI i &&& 31)) &&& cI 1) = 0 := g
      rw [sRd (n := 0) hs12 (by omega)] at g
      have g := Classical.not_not.mp g
      have hp1 : pcn s (i + 1) = pcn s i + 1 := by rw [pcn, if_pos g]
      have hpl := pcn_lt g ls.length (by omega)
      have hpb : pcn s 12 = pcn s ls.length := by
        have := pcn_big hs (12 - ls.length)
        rw [show ls.length + (12 - ls.length) = 12 by omega] at this
        exact this
      have hple := pcn_le s ls.length
      have x1 : nI (pcn s 12) - cI 1 - nI (pcn s i) = nI (pcn s 12 - 1 - pcn s i) := by
        rw [show nI (pcn s 12) - cI 1 = nI (pcn s 12 - 1) from nI_sub (b := 1) (by omega), nI_sub (by omega)]
      (conv => whnf); refine ret_k hC (sp_snumber h.1 hq (show 0 < 4 by omega)) ?_
      (conv => whnf)
      rw [x1]
      refine hC _ _ _ _ _ (sp_samount h he hq (by omega) (by omega) (fun z => by cases z)) (fun v M1 p => ?_)
      obtain ⟨rfl, p2, p3⟩ := p
      rw [amS_f hok, show pcn s i + (pcn s 12 - 1 - pcn s i) + 1 = pcn s 12 by omega]
      (conv => whnf)
      refine hC _ _ _ _ _ (sp_add (d := d + 2) (by simp [isLn]) (RLn_fr hl p3 (by decide)) hok.1) (fun v M2 u => ?_)
      obtain ⟨rfl, u2, u3⟩ := u
      (conv => whnf)
      have hF : Fr [9, 37, 38, 45] M M2 := Fr_trans (Fr_sub p3 (by decide)) (Fr_sub u3 (by decide))
      have hc2 : RCm M2 E ls cm := fun s' hs' => by rw [Fr_1 hF 52 (by decide)]; exact hcm s' hs'
      refine hB _ _ _ _ (Body_lv (Body_mono (ih (i + 1) _ _ M2 (by omega) u2 (RSr_fr p2 u3 (by decide)) (RE_fr he hF (by decide)) hc2 (by rw [Fr_1 hF 52 (by decide)]; exact h0) ?_ ?_) (fun v M' z => ⟨z.1, z.2.1, z.2.2.1, Fr_trans (Fr_sub hF (by decide)) z.2.2.2⟩)) ⟨rfl, rfl, rfl, v_eq (by rw [hp1]; exact nI_i1 _), v_eq (nI_i1 i), trivial⟩)
      · rw [← hx, sXl, if_pos g]; rfl
      · rw [← hy, sXl, if_pos g]; rfl
theorem sp_isStanding {d s : Nat} {M : Mem} {E : EnvK} {ls : List Lyr} {cm : Nat → Nat} (hs : s < 2 ^ ls.length) (h : RSr M E ls false) (he : RE M E) (hcm : RCm M E ls cm) :
    Call (d + 5) 47 [.ref 5, .int (nI s)] M (fun v M' => v = some (.int (b2 (stS E ls s))) ∧ RSr M' E ls false ∧ RCm M' E ls cm ∧ Fr AI M M') := by
  have h12 := h.1.2.1
  have hs12 : s < 4096 := Nat.lt_of_lt_of_le hs (Nat.pow_le_pow_right (n := 2) (by omega) h12)
  have e := nI_v (n := s) (by omega)
  have ec : (nI s).toNatClampNeg = s := nI_c (by omega)
  obtain ⟨c1, c2⟩ := hcm s hs12
  refine call_run 400 rfl rfl (fun B Cl Z hZ hB hC => ?_)
  (conv => whnf); refine ⟨fun b => ?_, fun b => ?_⟩
  · simp only [c_lt, c_gt, c_le, c_ge, c_eq, c_ne, b2_z, b2_nz, b2_i, Classical.not_not, t0, t1, Nat.reduceMod, Nat.reduceDiv, Int.reduceAdd, Int.reduceNeg, Nat.reduceAdd, kv_m1, kv_0, kv_1, kc_0, kc_1, e] at b
    omega
  (conv => whnf); refine ⟨fun b => ?_, fun b => ?_⟩
  rotate_left
  · simp only [c_lt, c_gt, c_le, c_ge, c_eq, c_ne, b2_z, b2_nz, b2_i, Classical.not_not, t0, t1, Nat.reduceMod, Nat.reduceDiv, Int.reduceAdd, Int.reduceNeg, Nat.reduceAdd, kv_m1, kv_0, kv_1, kc_0, kc_1, e] at b
    replace b : ¬ (s : Int) < 4096 := b
    omega
  (conv => whnf)
  refine ⟨nI_vp (by omega) (by omega), ?_⟩
  (conv => whnf); refine ⟨fun g => ?_, fun g => ?_⟩
  · rw [ec] at g
    replace g : ¬ M.1 52 s = 0 := g
    (conv => whnf)
    refine ⟨nI_vp (by omega) (by omega), ?_⟩
    (conv => whnf); refine ⟨fun k => ?_, fun k => ?_⟩
    · rw [ec] at k
      replace k : M.1 52 s < 0 := k
      (conv => whnf)
      refine ⟨Or.inl rfl, hZ _ _ ⟨v_eq (b2_0 ?_), h, hcm, Fr_refl⟩⟩
      rcases Nat.eq_zero_or_pos (cm s) with z | z
      · rcases c2 z with w | w
        · exact absurd w g
        · exact w.2
      · obtain ⟨w1, w2, w3⟩ := c1 z
        rw [w2, Int32.lt_iff_toInt_lt, nI_v (by omega)] at k
        have : (0 : Int32).toInt = 0 := rfl
        omega
    · rw [ec] at k
      replace k : ¬ M.1 52 s < 0 := k
      (conv => whnf)
      refine ⟨Or.inr rfl, hZ _ _ ⟨v_eq (b2_1 ?_), h, hcm, Fr_refl⟩⟩
      rcases Nat.eq_zero_or_pos (cm s) with z | z
      · rcases c2 z with w | w
        · exact absurd w g
        · rw [w.1] at k; exact absurd (by decide) k
      · exact (c1 z).2.2
  · rw [ec] at g
    replace g : ¬ ¬ M.1 52 s = 0 := g
    have g := Classical.not_not.mp g
    have hc0 : cm s = 0 := by
      rcases Nat.eq_zero_or_pos (cm s) with z | z
      · exact z
      · obtain ⟨w1, w2, w3⟩ := c1 z
        rw [w2, x_eq, nI_v (by omega)] at g
        have : (0 : Int32).toInt = 0 := rfl
        omega
    (conv => whnf)
    refine hC _ _ _ _ _ (sp_begin (d := d + 3) (by simp [isLn])) (fun v M1 q => ?_)
    obtain ⟨rfl, q2, q3⟩ := q
    (conv => whnf); refine ret_k hC (sp_bitCount hs12) ?_
    (conv => whnf)
    have hc1 : RCm M1 E ls cm := fun s' hs' => by rw [Fr_1 q3 52 (by decide)]; exact hcm s' hs'
    exact hB _ _ _ _ (Body_lv (Body_mono (stand_loop (d := d) hs hc0 ls.length 0 _ _ M1 (by omega) q2 (RSr_fr h q3 (by decide)) (RE_fr he q3 (by decide)) hc1 (by rw [Fr_1 q3 52 (by decide)]; exact g) rfl rfl) (fun v M' z => ⟨z.1, z.2.1, z.2.2.1, Fr_trans (Fr_sub q3 (by decide)) z.2.2.2⟩)) ⟨rfl, rfl, rfl, rfl, rfl, trivial⟩)
