/-! the reference: letOut -/
section GRD
variable (E : EnvK) (ls : List Lyr) (mk : Nat)
def fc (s : Nat) : Nat := ((List.range ls.length).find? (fun c => s.testBit c && decide (fwB E ls mk (fw E ls mk) s c = fw E ls mk s))).getD 0
def grd : Nat → Nat → List Nat
  | 0, _ => []
  | m + 1, s => fc E ls mk s :: grd m (clr s (fc E ls mk s))
end GRD
theorem find_first {p : Nat → Bool} : ∀ (n i : Nat), i < n → p i = true → ∃ c, (List.range n).find? p = some c ∧ c < n ∧ p c = true ∧ ∀ j, j < c → p j = false
  | 0, _, h, _ => absurd h (Nat.not_lt_zero _)
  | n + 1, i, h, hp => by
    rw [List.range_succ, List.find?_append]
    by_cases z : ∃ j, j < n ∧ p j = true
    · obtain ⟨j, j1, j2⟩ := z
      obtain ⟨c, c1, c2, c3, c4⟩ := find_first n j j1 j2
      rw [c1]
      exact ⟨c, rfl, by omega, c3, c4⟩
    · have hn : (List.range n).find? p = none := by
        rw [List.find?_eq_none]
        intro x hx
        exact fun q => z ⟨x, List.mem_range.mp hx, q⟩
      have hi : i = n := by
        rcases Nat.lt_or_ge i n with y | y
        · exact absurd ⟨i, y, hp⟩ z
        · omega
      rw [hn]
      subst hi
      refine ⟨i, ?_, Nat.lt_succ_self _, hp, fun j hj => ?_⟩
      · show [i].find? p = some i
        rw [List.find?_cons, hp]
      · cases q : p j with
        | false => rfl
        | true => exact absurd ⟨j, hj, q⟩ z
theorem fc_spec {E : EnvK} {ls : List Lyr} {mk s : Nat} (hs : s < 4096) (h : 0 < fw E ls mk s) : fc E ls mk s < ls.length ∧ s.testBit (fc E ls mk s) = true ∧ fwB E ls mk (fw E ls mk) s (fc E ls mk s) = fw E ls mk s ∧ ∀ j, j < fc E ls mk s → ¬ (s.testBit j = true ∧ fwB E ls mk (fw E ls mk) s j = fw E ls mk s) := by
  obtain ⟨i, i1, i2, i3⟩ := fw_some hs h
  obtain ⟨c, c1, c2, c3, c4⟩ := find_first (p := fun c => s.testBit c && decide (fwB E ls mk (fw E ls mk) s c = fw E ls mk s)) ls.length i i1 (by rw [i2, decide_eq_true i3]; rfl)
  have e : fc E ls mk s = c := by unfold fc; rw [c1]; rfl
  rw [e]
  rw [Bool.and_eq_true] at c3
  refine ⟨c2, c3.1, of_decide_eq_true c3.2, fun j hj q => ?_⟩
  have := c4 j hj
  rw [q.1, decide_eq_true q.2] at this
  cases this
theorem fwB_v {E : EnvK} {ls : List Lyr} {mk : Nat} {F : Nat → Nat} {s i : Nat} (h : 2 ≤ fwB E ls mk F s i) : F (clr s i) + 1 = fwB E ls mk F s i ∧ stS E ls (clr s i) ∧ ¬ (ls.getD i (0, 0, 0, 0)).2.2.1 = mk := by
  unfold fwB at h ⊢
  by_cases a : stS E ls (clr s i)
  · rw [if_pos a] at h ⊢
    by_cases b : (ls.getD i (0, 0, 0, 0)).2.2.1 = mk
    · rw [if_pos b] at h; omega
    · rw [if_neg b] at h ⊢
      by_cases c : F (clr s i) = 0
      · rw [if_pos c] at h; omega
      · rw [if_neg c]; exact ⟨rfl, a, b⟩
  · rw [if_neg a] at h; omega
/-- the answer by the tables -/
def gAns (s : St) (r mk : Nat) (k : Int32) : Int32 :=
  if fw (envS s) ((sK s).getD r []) mk (2 ^ hgt (sK s) r - 1) = 0 ∨ (fw (envS s) ((sK s).getD r []) mk (2 ^ hgt (sK s) r - 1) : Int) ≤ k.toInt then cI (-2)
  else if k.toInt < 0 then nI (fw (envS s) ((sK s).getD r []) mk (2 ^ hgt (sK s) r - 1))
  else nI ((grd (envS s) ((sK s).getD r []) mk (fw (envS s) ((sK s).getD r []) mk (2 ^ hgt (sK s) r - 1)) (2 ^ hgt (sK s) r - 1)).getD k.toInt.toNat 0)
section MLET
variable {d r mk k L : Nat} {M0 M : Mem} {s : St} {Q : Po}
theorem let_in {st a : Nat} (h : RM M s) (hv : inv s) (hr : r < (sK s).length) (hm : mk < 8) (hs : st < 2 ^ hgt (sK s) r) (hF : FMs M (envS s) ((sK s).getD r []) mk (2 ^ hgt (sK s) r) (2 ^ hgt (sK s) r)) (hp : 0 < fw (envS s) ((sK s).getD r []) mk st) (hk : k < 100) (ha : a ≤ k)
    (fin : a = k → Q (some (.int (nI (fc (envS s) ((sK s).getD r []) mk st)))) M) (tl : a < k → BodyK (d + 2) 225 76 [(0, .ref 55), (1, .int (nI r)), (2, .int (nI mk)), (3, .int (nI k)), (4, .int (nI (clr st (fc (envS s) ((sK s).getD r []) mk st)))), (5, .int (nI L)), (6, .int (nI (a + 1)))] [] M Q) :
    ∀ (m c : Nat), c + m = fc (envS s) ((sK s).getD r []) mk st → BodyK (d + 2) 225 85 [(0, .ref 55), (1, .int (nI r)), (2, .int (nI mk)), (3, .int (nI k)), (4, .int (nI st)), (5, .int (nI L)), (6, .int (nI a)), (7, .int (nI c))] [] M Q := by
  have h12 := hv.1.2.1 r
  have hl12 : ((sK s).getD r []).length ≤ 12 := h12
  have hp12 : 2 ^ hgt (sK s) r ≤ 2 ^ 12 := Nat.pow_le_pow_right (by omega) h12
  have hs12 : st < 4096 := by omega
  obtain ⟨c1, c2, c3, c4⟩ := fc_spec (E := envS s) (ls := (sK s).getD r []) (mk := mk) hs12 hp
  have hcl : ∀ c, clr st c < 2 ^ hgt (sK s) r := fun c => Nat.lt_of_le_of_lt Nat.and_le_left hs
  have vs : vp_in (nI st) 4096 := nI_vp hs12 (by decide)
  have e82 : M.1 82 (nI st).toNatClampNeg = nI (fw (envS s) ((sK s).getD r []) mk st) := by rw [nI_c (by omega)]; exact hF.1 st hs
  have ef := nI_v (n := fw (envS s) ((sK s).getD r []) mk st) (by have := fw_12 (E := envS s) (mk := mk) hl12 hs12; omega)
  have eka := nI_v (n := a) (by omega)
  have ekk := nI_v (n := k) (by omega)
  replace c1 : fc (envS s) ((sK s).getD r []) mk st < hgt (sK s) r := c1
  intro m
  induction m with
  | zero =>
    intro c hc
    obtain rfl : c = fc (envS s) ((sK s).getD r []) mk st := by omega
    have hfew := m_fewBy (d := d) (k := fc (envS s) ((sK s).getD r []) mk st) h hv hm c1 hs12 (hcl _) hF
    rw [c3] at hfew
    refine body_run 400 rfl (fun B Cl Z hZ hB hC => ?_)
    (conv => whnf); refine ret_k hC (m_has hs12 (show fc (envS s) ((sK s).getD r []) mk st < 31 by omega)) ?_
    (conv => whnf); refine ⟨fun b => ?_, fun b => ?_⟩
    · rw [b2_z] at b; exact absurd c2 b
    (conv => whnf)
    refine ret_k hC hfew ?_
    (conv => whnf)
    refine ⟨vs, ?_⟩
    (conv => whnf); refine ⟨fun g => ?_, fun g => ?_⟩
    case' refine_2 =>
      exact absurd e82.symm g
    (conv => whnf); refine ⟨fun u => ?_, fun u => ?_⟩
    · replace u : cnd .ne (nI a) (nI k) := u
      rw [c_ne, eka, ekk] at u
      (conv => whnf)
      refine hB _ _ _ _ (Body_lv (tl (by omega)) ⟨rfl, rfl, rfl, rfl, v_eq ?_, rfl, v_eq (nI_i1 a), trivial⟩)
      exact clr_i hs12 (show fc (envS s) ((sK s).getD r []) mk st < 31 by omega)
    · replace u : ¬ cnd .ne (nI a) (nI k) := u
      rw [c_ne, eka, ekk] at u
      conv => whnf
      exact hZ _ _ (fin (by omega))
  | succ m ih =>
    intro c hc
    have hno := c4 c (by omega)
    refine body_run 400 rfl (fun B Cl Z hZ hB hC => ?_)
    (conv => whnf); refine ret_k hC (m_has hs12 (show c < 31 by omega)) ?_
    (conv => whnf); refine ⟨fun b => ?_, fun b => ?_⟩
    · (conv => whnf)
      exact hB _ _ _ _ (Body_lv (ih (c + 1) (by omega)) ⟨rfl, rfl, rfl, rfl, rfl, rfl, rfl, v_eq (nI_i1 c), trivial⟩)
    rw [b2_z] at b
    have b := Classical.not_not.mp b
    have hne : ¬ fwB (envS s) ((sK s).getD r []) mk (fw (envS s) ((sK s).getD r []) mk) st c = fw (envS s) ((sK s).getD r []) mk st := fun q => hno ⟨b, q⟩
    have e13 := fwB_12 (E := envS s) (mk := mk) (i := c) hl12 hs12
    (conv => whnf)
    refine ret_k hC (m_fewBy h hv hm (by omega) hs12 (hcl c) hF) ?_
    (conv => whnf)
    refine ⟨vs, ?_⟩
    (conv => whnf); refine ⟨fun g => ?_, fun g => ?_⟩
    · replace g : cnd .eq (nI (fwB (envS s) ((sK s).getD r []) mk (fw (envS s) ((sK s).getD r []) mk) st c)) (M.1 82 (nI st).toNatClampNeg) := g
      rw [e82, c_eq, ef, nI_v (by omega)] at g
      omega
    (conv => whnf)
    exact hB _ _ _ _ (Body_lv (ih (c + 1) (by omega)) ⟨rfl, rfl, rfl, rfl, rfl, rfl, rfl, v_eq (nI_i1 c), trivial⟩)
theorem let_out (h : RM M s) (hv : inv s) (hr : r < (sK s).length) (hm : mk < 8) (hF : FMs M (envS s) ((sK s).getD r []) mk (2 ^ hgt (sK s) r) (2 ^ hgt (sK s) r)) (hk : k < 100) {ans : Nat} : ∀ (m a st : Nat), a + m = k → st < 2 ^ hgt (sK s) r → m < fw (envS s) ((sK s).getD r []) mk st → ans = (grd (envS s) ((sK s).getD r []) mk (fw (envS s) ((sK s).getD r []) mk st) st).getD m 0 → (Q (some (.int (nI ans))) M) →
    BodyK (d + 2) 225 76 [(0, .ref 55), (1, .int (nI r)), (2, .int (nI mk)), (3, .int (nI k)), (4, .int (nI st)), (5, .int (nI L)), (6, .int (nI a))] [] M Q := by
  have h12 := hv.1.2.1 r
  have hp12 : 2 ^ hgt (sK s) r ≤ 2 ^ 12 := Nat.pow_le_pow_right (by omega) h12
  have ekk := nI_v (n := k) (by omega)
  intro m
  induction m with
  | zero =>
    intro a st ha hs hf hans hq
    have eka := nI_v (n := a) (by omega)
    obtain ⟨f, ef⟩ : ∃ f, fw (envS s) ((sK s).getD r []) mk st = f + 1 := ⟨fw (envS s) ((sK s).getD r []) mk st - 1, by omega⟩
    have e0 : ans = fc (envS s) ((sK s).getD r []) mk st := by
      rw [hans, ef]
      rfl
    refine body_run 400 rfl (fun B Cl Z hZ hB hC => ?_)
    (conv => whnf); refine ⟨fun b => ?_, fun b => ?_⟩
    · simp only [c_lt, c_gt, c_le, c_ge, c_eq, c_ne, b2_z, b2_nz, b2_i, Classical.not_not, t0, t1, Nat.reduceMod, Nat.reduceDiv, Int.reduceAdd, Int.reduceNeg, Nat.reduceAdd, kv_m2, kv_m1, kv_0, kv_1, kv_7, kc_0, kc_1, kc_7, eka, ekk] at b
      omega
    (conv => whnf)
    exact hB _ _ _ _ (Body_lv (let_in (d := d) (L := L) h hv hr hm hs hF hf hk (show a ≤ k by omega) (fun _ => by rw [← e0]; exact hq) (fun y => by omega) _ 0 (Nat.zero_add _)) ⟨rfl, rfl, rfl, rfl, rfl, rfl, rfl, rfl, trivial⟩)
  | succ m ih =>
    intro a st ha hs hf hans hq
    have eka := nI_v (n := a) (by omega)
    have hs12 : st < 4096 := by omega
    obtain ⟨f, ef⟩ : ∃ f, fw (envS s) ((sK s).getD r []) mk st = f + 1 := ⟨fw (envS s) ((sK s).getD r []) mk st - 1, by omega⟩
    obtain ⟨c1, c2, c3, c4⟩ := fc_spec (E := envS s) (ls := (sK s).getD r []) (mk := mk) hs12 (by omega)
    obtain ⟨d1, -, -⟩ := fwB_v (E := envS s) (ls := (sK s).getD r []) (mk := mk) (F := fw (envS s) ((sK s).getD r []) mk) (s := st) (i := fc (envS s) ((sK s).getD r []) mk st) (by omega)
    have e0 : ans = (grd (envS s) ((sK s).getD r []) mk (fw (envS s) ((sK s).getD r []) mk (clr st (fc (envS s) ((sK s).getD r []) mk st))) (clr st (fc (envS s) ((sK s).getD r []) mk st))).getD m 0 := by
      have : fw (envS s) ((sK s).getD r []) mk (clr st (fc (envS s) ((sK s).getD r []) mk st)) = f := by omega
      rw [hans, ef, this]
      rfl
    refine body_run 400 rfl (fun B Cl Z hZ hB hC => ?_)
    (conv => whnf); refine ⟨fun b => ?_, fun b => ?_⟩
    · simp only [c_lt, c_gt, c_le, c_ge, c_eq, c_ne, b2_z, b2_nz, b2_i, Classical.not_not, t0, t1, Nat.reduceMod, Nat.reduceDiv, Int.reduceAdd, Int.reduceNeg, Nat.reduceAdd, kv_m2, kv_m1, kv_0, kv_1, kv_7, kc_0, kc_1, kc_7, eka, ekk] at b
      omega
    (conv => whnf)
    exact hB _ _ _ _ (Body_lv (let_in (d := d) (L := L) h hv hr hm hs hF (by omega) hk (show a ≤ k by omega) (fun y => by omega) (fun _ => ih (a + 1) _ (by omega) (Nat.lt_of_le_of_lt Nat.and_le_left hs) (by omega) e0 hq) _ 0 (Nat.zero_add _)) ⟨rfl, rfl, rfl, rfl, rfl, rfl, rfl, rfl, trivial⟩)
end MLET
def aLetM (s : St) (r mk k : Int32) : Int32 :=
  if (0 ≤ r.toInt ∧ r.toInt < ((sK s).length : Int)) ∧ (1 ≤ mk.toInt ∧ mk.toInt ≤ 7) ∧ -1 ≤ k.toInt then gAns s r.toInt.toNat mk.toInt.toNat k else cI (-1)
theorem m_letOut0 {d : Nat} {M : Mem} {s : St} {r mk k : Int32} (h : RM M s) (hv : inv s) : Call (d + 8) 225 [.ref 55, .int r, .int mk, .int k] M (QP M (.int (aLetM s r mk k)) s) := by
  have h4 := hv.1.1
  refine call_run 400 rfl rfl (fun B Cl Z hZ hB hC => ?_)
  (conv => whnf); refine ret_k hC (m_isRick h.1.1 h4) ?_
  (conv => whnf); refine ⟨fun a => ?_, fun a => ?_⟩
  · rw [b2_z] at a
    have e9 : aLetM s r mk k = cI (-1) := if_neg (fun z => a z.1)
    rw [e9] at hZ
    conv => whnf
    exact hZ _ _ (QP_same h FrM_refl)
  rw [b2_z] at a
  have a := Classical.not_not.mp a
  have out : ¬ ((1 ≤ mk.toInt ∧ mk.toInt ≤ 7) ∧ -1 ≤ k.toInt) → aLetM s r mk k = cI (-1) := fun z => if_neg (fun y => z y.2)
  (conv => whnf); refine ret_k hC (m_in) ?_
  rw [kv_1, kv_7]
  (conv => whnf); refine ⟨fun b => ?_, fun b => ?_⟩
  · rw [b2_z] at b
    rw [out (fun z => b z.1)] at hZ
    conv => whnf
    exact hZ _ _ (QP_same h FrM_refl)
  rw [b2_z] at b
  have b := Classical.not_not.mp b
  (conv => whnf); refine ⟨fun c => ?_, fun c => ?_⟩
  case' refine_2 =>
    simp only [c_lt, c_gt, c_le, c_ge, c_eq, c_ne, b2_z, b2_nz, b2_i, Classical.not_not, t0, t1, Nat.reduceMod, Nat.reduceDiv, Int.reduceAdd, Int.reduceNeg, Nat.reduceAdd, kv_m2, kv_m1, kv_0, kv_1, kv_7, kc_0, kc_1, kc_7] at c
    rw [out (by omega)] at hZ
    conv => whnf
    exact hZ _ _ (QP_same h FrM_refl)
  simp only [c_lt, c_gt, c_le, c_ge, c_eq, c_ne, b2_z, b2_nz, b2_i, Classical.not_not, t0, t1, Nat.reduceMod, Nat.reduceDiv, Int.reduceAdd, Int.reduceNeg, Nat.reduceAdd, kv_m2, kv_m1, kv_0, kv_1, kv_7, kc_0, kc_1, kc_7] at c
  obtain ⟨i, rfl, ei, hi⟩ := to_nI a.1
  obtain ⟨m, rfl, em, hm⟩ := to_nI (x := mk) (by omega)
  have hil : i < (sK s).length := by omega
  have h12 : hgt (sK s) i ≤ 12 := hv.1.2.1 i
  have e8 : aLetM s (nI i) (nI m) k = gAns s i m k := by
    unfold aLetM
    rw [if_pos (by omega), ei, em]
    rfl
  rw [e8] at hZ hB
  have vr : vp_in (nI i) 4 := nI_vp (by omega) (by decide)
  have cr := nI_c (n := i) (by omega)
  have hp12 : 2 ^ hgt (sK s) i ≤ 2 ^ 12 := Nat.pow_le_pow_right (by omega) h12
  have hpos := Nat.two_pow_pos (hgt (sK s) i)
  (conv => whnf)
  refine hC _ _ _ _ _ (m_findFewest h hv hil (show m < 8 by omega)) (fun v M1 p => ?_)
  obtain ⟨rfl, p2, p3⟩ := p
  have h1 := RM_x h (FMAx p2)
  have eA : (cI 1 <<< (M1.1 56 (nI i).toNatClampNeg &&& 31)) - cI 1 = nI (2 ^ hgt (sK s) i - 1) := by
    rw [cr, (h1.1.2 i hil).1]; exact full_i _ h12
  have e82 : M1.1 82 ((cI 1 <<< (M1.1 56 (nI i).toNatClampNeg &&& 31)) - cI 1).toNatClampNeg = nI (fw (envS s) ((sK s).getD i []) m (2 ^ hgt (sK s) i - 1)) := by
    rw [eA, nI_c (by omega)]
    exact p3.1 _ (by omega)
  have f12 := fw_12 (E := envS s) (ls := (sK s).getD i []) (mk := m) h12 (show 2 ^ hgt (sK s) i - 1 < 4096 by omega)
  have fe := nI_v (n := fw (envS s) ((sK s).getD i []) m (2 ^ hgt (sK s) i - 1)) (by omega)
  (conv => whnf)
  refine ⟨vr, ?_⟩
  (conv => whnf)
  refine ⟨by show vp_in ((cI 1 <<< (M1.1 56 (nI i).toNatClampNeg &&& 31)) - cI 1) 4096; rw [eA]; exact nI_vp (by omega) (by decide), ?_⟩
  (conv => whnf); refine ⟨fun u => ?_, fun u => ?_⟩
  · replace u : cnd .eq (M1.1 82 ((cI 1 <<< (M1.1 56 (nI i).toNatClampNeg &&& 31)) - cI 1).toNatClampNeg) 0 := u
    rw [e82, c_eq, fe, t0] at u
    have e9 : gAns s i m k = cI (-2) := if_pos (Or.inl (by omega))
    rw [e9] at hZ
    conv => whnf
    exact hZ _ _ (QP_same h (FMAx p2))
  replace u : ¬ cnd .eq (M1.1 82 ((cI 1 <<< (M1.1 56 (nI i).toNatClampNeg &&& 31)) - cI 1).toNatClampNeg) 0 := u
  rw [e82, c_eq, fe, t0] at u
  (conv => whnf); refine ⟨fun y => ?_, fun y => ?_⟩
  case' refine_2 =>
    replace y : ¬ cnd .lt k (M1.1 82 ((cI 1 <<< (M1.1 56 (nI i).toNatClampNeg &&& 31)) - cI 1).toNatClampNeg) := y
    rw [e82, c_lt, fe] at y
    have e9 : gAns s i m k = cI (-2) := if_pos (Or.inr (by omega))
    rw [e9] at hZ
    conv => whnf
    exact hZ _ _ (QP_same h (FMAx p2))
  replace y : cnd .lt k (M1.1 82 ((cI 1 <<< (M1.1 56 (nI i).toNatClampNeg &&& 31)) - cI 1).toNatClampNeg) := y
  rw [e82, c_lt, fe] at y
  (conv => whnf); refine ⟨fun g => ?_, fun g => ?_⟩
  · simp only [c_lt, c_gt, c_le, c_ge, c_eq, c_ne, b2_z, b2_nz, b2_i, Classical.not_not, t0, t1, Nat.reduceMod, Nat.reduceDiv, Int.reduceAdd, Int.reduceNeg, Nat.reduceAdd, kv_m2, kv_m1, kv_0, kv_1, kv_7, kc_0, kc_1, kc_7] at g
    obtain ⟨j, rfl, ej, hj⟩ := to_nI (x := k) (by omega)
    have e9 : gAns s i m (nI j) = nI ((grd (envS s) ((sK s).getD i []) m (fw (envS s) ((sK s).getD i []) m (2 ^ hgt (sK s) i - 1)) (2 ^ hgt (sK s) i - 1)).getD j 0) := by
      unfold gAns
      rw [if_neg (by omega), if_neg (by omega), ej]
      rfl
    rw [e9] at hB
    (conv => whnf)
    exact hB _ _ _ _ (Body_lv (let_out (d := d + 6) (L := fw (envS s) ((sK s).getD i []) m (2 ^ hgt (sK s) i - 1)) h1 hv hil (show m < 8 by omega) p3 (show j < 100 by omega) j 0 (2 ^ hgt (sK s) i - 1) (Nat.zero_add _) (by omega) (by omega) rfl (QP_same h (FMAx p2))) ⟨rfl, rfl, rfl, rfl, v_eq eA, v_eq e82, rfl, trivial⟩)
  · simp only [c_lt, c_gt, c_le, c_ge, c_eq, c_ne, b2_z, b2_nz, b2_i, Classical.not_not, t0, t1, Nat.reduceMod, Nat.reduceDiv, Int.reduceAdd, Int.reduceNeg, Nat.reduceAdd, kv_m2, kv_m1, kv_0, kv_1, kv_7, kc_0, kc_1, kc_7] at g
    have e9 : gAns s i m k = nI (fw (envS s) ((sK s).getD i []) m (2 ^ hgt (sK s) i - 1)) := by
      unfold gAns
      rw [if_neg (by omega), if_pos (by omega)]
    rw [e9] at hZ
    conv => whnf
    rw [e82]
    exact hZ _ _ (QP_same h (FMAx p2))
