/-! the reference: a line's parts worked out on the pile -/
def stkM (M : Mem) (st : List Int32) : Prop := ∀ j x, st[j]? = some x → M.1 74 (st.length - 1 - j) = x
theorem stkM_hd {M : Mem} {a : Int32} {st : List Int32} (h : stkM M (a :: st)) : M.1 74 st.length = a := by
  have := h 0 a rfl
  simpa using this
theorem stkM_tl {M : Mem} {a : Int32} {st : List Int32} (h : stkM M (a :: st)) : stkM M st := by
  intro j x hx
  have := h (j + 1) x hx
  rw [List.length_cons, show st.length + 1 - 1 - (j + 1) = st.length - 1 - j by omega] at this
  exact this
theorem stkM_push {M : Mem} {v : Int32} {st : List Int32} (h : stkM M st) : stkM (mI M 74 st.length v) (v :: st) := by
  intro j x hx
  match j, hx with
  | 0, hx => cases hx; simp [mI_at]
  | j + 1, hx =>
    have hlt : j < st.length := by
      rcases Nat.lt_or_ge j st.length with q | q
      · exact q
      · rw [List.getElem?_cons_succ, List.getElem?_eq_none q] at hx; cases hx
    have := h j x hx
    rw [List.length_cons, show st.length + 1 - 1 - (j + 1) = st.length - 1 - j by omega, mI_at, if_neg (by omega)]
    exact this
theorem StpR_tl {M : Mem} {b c : Nat} {cs : List Nat} (h : StpR M b (c :: cs)) : StpR M (b + 1) cs := fun i x hx => by
  have := h (i + 1) x hx
  rw [show b + 1 + i = b + (i + 1) by omega]
  exact this
theorem actN_lt {c : Nat} (h : c < 10140) : actN c < 130 := by
  unfold actN
  repeat' split
  all_goals omega
theorem actN_v {c : Nat} (h : sgC c) : (actN c = 1 ↔ c < 10000) ∧ (actN c = 2 ↔ (10000 ≤ c ∧ c < 10010)) ∧ (actN c = 3 ↔ c = 10043) ∧ (actN c = 4 ↔ c = 10136) ∧ (10047 ≤ c → ¬ c = 10136 → actN c = c - 10010) := by
  unfold sgC at h
  unfold actN
  by_cases a : c < 10000
  · rw [if_pos a]; omega
  · rw [if_neg a]
    by_cases b : c < 10010
    · rw [if_pos b]; omega
    · rw [if_neg b]
      by_cases e : c = 10043
      · rw [if_pos e]; omega
      · rw [if_neg e]
        by_cases f : c = 10136
        · rw [if_pos f]; omega
        · rw [if_neg f]; omega
theorem len1 {st : List Int32} (h : 1 ≤ st.length) : ∃ a t, st = a :: t := by
  match st, h with
  | a :: t, _ => exact ⟨a, t, rfl⟩
theorem len2 {st : List Int32} (h : 2 ≤ st.length) : ∃ y a t, st = y :: a :: t := by
  match st, h with
  | y :: a :: t, _ => exact ⟨y, a, t, rfl⟩
section MW
variable {d : Nat} {fc : Nat → Int32} {first E : Nat} {M0 : Mem} {x : Int32}
set_option maxHeartbeats 1000000 in
theorem mw_loop (hE : E ≤ 130) : ∀ (l : List Nat) (i : Nat) (st : List Int32) (M : Mem), i + l.length = E → StpR M i l → (∀ j, j < 6 → M.1 73 j = fc j) → (∀ c ∈ l, sgC c) → stkM M st → st.length ≤ 64 → sfc (l ++ [10069]) st.length false = true → evs fc l st = [x] →
    BodyK (d + 2) 194 12 [(0, .ref 55), (1, .int (nI 0)), (2, .int (nI first)), (3, .int (nI E)), (4, .int (nI st.length)), (5, .int (nI i))] [] M (fun r M' => r = some (.int x) ∧ FrM [74] [] M M') := by
  have eE : cI 130 * nI 0 + nI E = nI E := by rw [show cI 130 = nI 130 from rfl, nI_mul, nI_add, Nat.mul_zero, Nat.zero_add]
  have vE := nI_v (n := E) (by omega)
  intro l
  induction l with
  | nil =>
    intro i st M hi hs hf hb hk hk2 hsf hx
    obtain rfl : i = E := by simpa using hi
    replace hx : st = [x] := hx
    subst hx
    have h0 := stkM_hd hk
    refine body_run 400 rfl (fun B Cl Z hZ hB hC => ?_)
    (conv => whnf); refine ⟨fun a => ?_, fun a => ?_⟩
    · (conv => whnf)
      refine ⟨nI_vp (c := 0) (by decide) (by decide), ?_⟩
      (conv => whnf)
      exact hZ _ _ ⟨v_eq h0, FrM_refl⟩
    · replace a : ¬ cnd .ge (nI i) (cI 130 * nI 0 + nI i) := a
      rw [eE, c_ge] at a
      omega
  | cons c l ih =>
    intro i st M hi hs hf hb hk hk2 hsf hx
    have hi' : i + 1 + l.length = E := by simp at hi; omega
    have e := nI_v (n := i) (by omega)
    have hop := hs 0 c rfl
    rw [Nat.add_zero] at hop
    have hsg := hb c List.mem_cons_self
    have hlt : c < 10140 := by unfold sgC at hsg; omega
    obtain ⟨a1, a2, a3, a4, a5⟩ := actN_v hsg
    have hb' : ∀ c ∈ l, sgC c := fun x hx => hb x (List.mem_cons_of_mem _ hx)
    have hs' := StpR_tl hs
    have vi : vp_in (nI i) 260 := nI_vp (by omega) (by decide)
    have ci := nI_c (n := i) (by omega)
    have hx' : evs fc l (stp fc c st) = [x] := hx
    have al := actN_lt hlt
    have ea := nI_v (n := actN c) (by omega)
    have es := nI_c (n := st.length) (by omega)
    have es1 := nI_v (n := st.length) (by omega)
    have vn : vp_in (nI st.length) 130 := nI_vp (by omega) (by decide)
    rw [List.cons_append] at hsf
    unfold sfc at hsf
    refine body_run 400 rfl (fun B Cl Z hZ hB hC => ?_)
    (conv => whnf); refine ⟨fun a => ?_, fun a => ?_⟩
    · replace a : cnd .ge (nI i) (cI 130 * nI 0 + nI E) := a
      rw [eE, c_ge, vE, e] at a
      omega
    clear a
    -- the next state
    have go : ∀ (st2 : List Int32) (M2 : Mem) (n2 : Int32) (op : Int32), stp fc c st = st2 → FrM [74] [] M M2 → stkM M2 st2 → n2 = nI st2.length → st2.length ≤ 64 → sfc (l ++ [10069]) st2.length false = true → ∀ (lv : Lv), lkp lv 0 = some (.ref 55) → lkp lv 1 = some (.int (nI 0)) → lkp lv 2 = some (.int (nI first)) → lkp lv 3 = some (.int (nI E)) → lkp lv 4 = some (.int n2) → lkp lv 5 = some (.int (nI i + cI 1)) → B 12 lv [] M2 := by
      intro st2 M2 n2 op h1 h2 h3 h4 h5 h6 lv l0 l1 l2 l3 l4 l5
      rw [h1] at hx'
      refine hB _ _ _ _ (Body_lv (Body_mono (ih (i + 1) st2 M2 hi' (StpR_fr hs' (FrM_c h2 (by decide) (by decide)) (FrM_c h2 (by decide) (by decide))) (fun j hj => by rw [FrM_c h2 (by decide) (by decide)]; exact hf j hj) hb' h3 h5 h6 hx') (fun r M' q => ⟨q.1, FrM_trans h2 q.2⟩)) ⟨l0, l1, l2, l3, ?_, ?_, trivial⟩)
      · rw [← h4]; exact l4
      · rw [← nI_i1 i]; exact l5
    (conv => whnf)
    refine ⟨vi, ?_⟩
    have rd : M.1 68 (nI i).toNatClampNeg = nI (actN c) := by rw [ci]; exact hop.1
    have rw1 : M.1 69 (nI i).toNatClampNeg = nI (withN c) := by rw [ci]; exact hop.2
    (conv => whnf); refine ⟨fun b => ?_, fun b => ?_⟩
    · replace b : cnd .eq (M.1 68 (nI i).toNatClampNeg) (cI 1) := b
      rw [rd, c_eq, ea, kv_1] at b
      have hc : c < 10000 := a1.mp (by omega)
      rw [if_pos (by omega)] at hsf
      simp only [Bool.and_eq_true, decide_eq_true_eq] at hsf
      (conv => whnf); refine ⟨fun g => ?_, fun g => ?_⟩
      · replace g : cnd .ne (M.1 68 (nI i).toNatClampNeg) (cI 1) := g
        rw [rd, c_ne, ea, kv_1] at g
        omega
      (conv => whnf)
      refine ⟨vi, ?_⟩
      (conv => whnf)
      refine ⟨vn, ?_⟩
      (conv => whnf)
      rw [rw1, es]
      refine go (nI (withN c) :: st) _ _ 0 ?_ (FrM_a FrM_refl (by decide) (by decide)) (stkM_push hk) (nI_i1 _) (by simp; omega) (by simpa using hsf.2.2) _ rfl rfl rfl rfl rfl rfl
      unfold stp withN
      rw [if_pos hc, if_pos hc]
    replace b : ¬ cnd .eq (M.1 68 (nI i).toNatClampNeg) (cI 1) := b
    rw [rd, c_eq, ea, kv_1] at b
    (conv => whnf); refine ⟨fun q2 => ?_, fun q2 => ?_⟩
    case' refine_2 =>
      replace q2 : ¬ cnd .ne (M.1 68 (nI i).toNatClampNeg) (cI 2) := q2
      rw [rd, c_ne, ea, kv_2] at q2
      have hc : 10000 ≤ c ∧ c < 10010 := a2.mp (by omega)
      rw [if_pos hc.2] at hsf
      simp only [Bool.and_eq_true, decide_eq_true_eq] at hsf
      have ew : withN c = c - 10000 := by unfold withN; rw [if_neg (by omega), if_pos hc.2]
      have h6 : c - 10000 < 6 := by omega
      (conv => whnf); refine ⟨fun g => ?_, fun g => ?_⟩
      case' refine_2 =>
        replace g : ¬ cnd .ne (M.1 68 (nI i).toNatClampNeg) (cI 1) := g
        rw [rd, c_ne, ea, kv_1] at g
        omega
      (conv => whnf)
      refine ⟨vi, ?_⟩
      (conv => whnf)
      rw [rw1, ew]
      refine ⟨nI_vp h6 (by decide), ?_⟩
      (conv => whnf)
      refine ⟨vn, ?_⟩
      (conv => whnf)
      rw [nI_c (n := c - 10000) (by omega), hf _ h6, es]
      refine go (fc (c - 10000) :: st) _ _ 0 ?_ (FrM_a FrM_refl (by decide) (by decide)) (stkM_push hk) (nI_i1 _) (by simp; omega) (by simpa using hsf.2.2) _ rfl rfl rfl rfl rfl rfl
      unfold stp
      rw [if_neg (by omega), if_pos hc.2]
    replace q2 : cnd .ne (M.1 68 (nI i).toNatClampNeg) (cI 2) := q2
    rw [rd, c_ne, ea, kv_2] at q2
    have hbig : ¬ c < 10010 := by
      intro z
      by_cases q : c < 10000
      · have := a1.mpr q; omega
      · have := a2.mpr ⟨by omega, z⟩; omega
    have hbig2 : 10043 ≤ c ∧ ¬ c = 10069 ∧ ¬ c = 10073 := by unfold sgC at hsg; omega
    rw [if_neg hbig, if_neg hbig2.2.1, if_neg hbig2.2.2] at hsf
    (conv => whnf); refine ⟨fun b3 => ?_, fun b3 => ?_⟩
    case' refine_2 =>
      replace b3 : ¬ cnd .ne (M.1 68 (nI i).toNatClampNeg) (cI 3) := b3
      rw [rd, c_ne, ea, kv_3] at b3
      have hc : c = 10043 := a3.mp (by omega)
      rw [if_pos (Or.inr hc)] at hsf
      simp only [Bool.and_eq_true, decide_eq_true_eq] at hsf
      obtain ⟨a, st, rfl⟩ := len1 hsf.1
      · skip
        have e1 : nI (a :: st).length - cI 1 = nI st.length := by rw [List.length_cons]; exact nI_sub (b := 1) (by omega)
        have v1 : vp_in (nI (a :: st).length - cI 1) 130 := by rw [e1]; exact nI_vp (by simp at hk2; omega) (by decide)
        have cc : (nI (a :: st).length - cI 1).toNatClampNeg = st.length := by rw [e1]; exact nI_c (by simp at hk2; omega)
        have hh := stkM_hd hk
        have ht := stkM_tl hk
        have e9 : stp fc c (a :: st) = b2 (a = 0) :: st := by
          unfold stp
          rw [if_neg (by omega), if_neg (by omega), if_neg (by omega), if_pos hc]
          rfl
        (conv => whnf)
        refine ⟨v1, ?_⟩
        (conv => whnf); refine ⟨fun g => ?_, fun g => ?_⟩
        · replace g : cnd .ne (M.1 74 (nI (a :: st).length - cI 1).toNatClampNeg) 0 := g
          rw [cc, hh] at g
          (conv => whnf)
          refine ⟨v1, ?_⟩
          (conv => whnf)
          rw [cc]
          exact go (b2 (a = 0) :: st) _ _ 0 e9 (FrM_a FrM_refl (by decide) (by decide)) (by rw [b2_f g]; exact stkM_push ht) rfl (by simpa using hk2) (by simpa using hsf.2) _ rfl rfl rfl rfl rfl rfl
        · replace g : ¬ cnd .ne (M.1 74 (nI (a :: st).length - cI 1).toNatClampNeg) 0 := g
          rw [cc, hh] at g
          (conv => whnf)
          refine ⟨v1, ?_⟩
          (conv => whnf)
          rw [cc]
          exact go (b2 (a = 0) :: st) _ _ 0 e9 (FrM_a FrM_refl (by decide) (by decide)) (by rw [b2_t (Classical.not_not.mp g)]; exact stkM_push ht) rfl (by simpa using hk2) (by simpa using hsf.2) _ rfl rfl rfl rfl rfl rfl
    replace b3 : cnd .ne (M.1 68 (nI i).toNatClampNeg) (cI 3) := b3
    rw [rd, c_ne, ea, kv_3] at b3
    have hn3 : ¬ c = 10043 := fun z => by have := a3.mpr z; omega
    (conv => whnf); refine ⟨fun b4 => ?_, fun b4 => ?_⟩
    case' refine_2 =>
      replace b4 : ¬ cnd .ne (M.1 68 (nI i).toNatClampNeg) (cI 4) := b4
      rw [rd, c_ne, ea, kv_4] at b4
      have hc : c = 10136 := a4.mp (by omega)
      rw [if_pos (Or.inl hc)] at hsf
      simp only [Bool.and_eq_true, decide_eq_true_eq] at hsf
      obtain ⟨a, st, rfl⟩ := len1 hsf.1
      · skip
        have e1 : nI (a :: st).length - cI 1 = nI st.length := by rw [List.length_cons]; exact nI_sub (b := 1) (by omega)
        have v1 : vp_in (nI (a :: st).length - cI 1) 130 := by rw [e1]; exact nI_vp (by simp at hk2; omega) (by decide)
        have cc : (nI (a :: st).length - cI 1).toNatClampNeg = st.length := by rw [e1]; exact nI_c (by simp at hk2; omega)
        have hh := stkM_hd hk
        have ht := stkM_tl hk
        have e9 : stp fc c (a :: st) = -a :: st := by
          unfold stp
          rw [if_neg (by omega), if_neg (by omega), if_pos hc]
          rfl
        (conv => whnf)
        refine ⟨v1, ?_⟩
        (conv => whnf)
        refine ⟨v1, ?_⟩
        (conv => whnf)
        rw [cc, hh]
        exact go (-a :: st) _ _ 0 e9 (FrM_a FrM_refl (by decide) (by decide)) (stkM_push ht) rfl (by simpa using hk2) (by simpa using hsf.2) _ rfl rfl rfl rfl rfl rfl
    replace b4 : cnd .ne (M.1 68 (nI i).toNatClampNeg) (cI 4) := b4
    rw [rd, c_ne, ea, kv_4] at b4
    have hn4 : ¬ c = 10136 := fun z => by have := a4.mpr z; omega
    have h47 : 10047 ≤ c := by unfold sgC at hsg; omega
    have hval := a5 h47 hn4
    rw [if_neg (by omega)] at hsf
    simp only [Bool.and_eq_true, decide_eq_true_eq] at hsf
    obtain ⟨y, a, st, rfl⟩ := len2 hsf.1
    · skip
      have hk3 : st.length + 2 ≤ 64 := by simpa using hk2
      have e1 : nI (y :: a :: st).length + cI (-1) = nI (st.length + 1) := by
        rw [show (y :: a :: st).length = st.length + 1 + 1 from rfl]
        exact nI_d1 (by omega)
      have e2 : nI (y :: a :: st).length + cI (-1) - cI 1 = nI st.length := by rw [e1]; exact nI_sub (b := 1) (by omega)
      have v1 : vp_in (nI (y :: a :: st).length + cI (-1)) 130 := by rw [e1]; exact nI_vp (by omega) (by decide)
      have v2 : vp_in (nI (y :: a :: st).length + cI (-1) - cI 1) 130 := by rw [e2]; exact nI_vp (by omega) (by decide)
      have c1 : (nI (y :: a :: st).length + cI (-1)).toNatClampNeg = st.length + 1 := by rw [e1]; exact nI_c (by omega)
      have c2 : (nI (y :: a :: st).length + cI (-1) - cI 1).toNatClampNeg = st.length := by rw [e2]; exact nI_c (by omega)
      have hh := stkM_hd hk
      replace hh : M.1 74 (st.length + 1) = y := hh
      have ht := stkM_tl hk
      have hh2 := stkM_hd ht
      have ht2 := stkM_tl ht
      have e9 : stp fc c (y :: a :: st) = two (c - 10010) a y :: st := by
        unfold stp
        rw [if_neg (by omega), if_neg (by omega), if_neg (by omega), if_neg (by omega)]
        rfl
      (conv => whnf)
      refine ⟨v2, ?_⟩
      (conv => whnf)
      refine ⟨v1, ?_⟩
      (conv => whnf)
      rw [c1, c2, hh, hh2, rd, hval]
      refine ret_k hC (m_twoOf (show c - 10010 < 130 by omega)) ?_
      (conv => whnf)
      refine ⟨v2, ?_⟩
      (conv => whnf)
      rw [c2]
      exact go (two (c - 10010) a y :: st) _ _ 0 e9 (FrM_a FrM_refl (by decide) (by decide)) (stkM_push ht2) e1 (by simp; omega) (by simpa using hsf.2.2) _ rfl rfl rfl rfl rfl rfl
theorem m_worked (hE : E ≤ 130) {cs : List Nat} {M : Mem} (hf0 : first + cs.length = E) (hs : StpR M first cs) (hf : ∀ j, j < 6 → M.1 73 j = fc j) (hsg : ∀ c ∈ cs, sgC c) (hx : exC cs 42) : Call (d + 2) 194 [.ref 55, .int (nI 0), .int (nI first), .int (nI E)] M (fun r M' => r = some (.int ((evs fc cs []).headD 0)) ∧ FrM [74] [] M M') := by
  obtain ⟨h1, h2, h3⟩ := hx
  obtain ⟨x, hx⟩ := h3 fc []
  have hsf := h2 0 [10069] (by decide) (by simp [sfc])
  have eF : cI 130 * nI 0 + nI first = nI first := by rw [show cI 130 = nI 130 from rfl, nI_mul, nI_add, Nat.mul_zero, Nat.zero_add]
  rw [hx]
  refine call_run 400 rfl rfl (fun B Cl Z hZ hB hC => ?_)
  conv => whnf
  exact hB _ _ _ _ (Body_lv (mw_loop (d := d) (first := first) (x := x) hE cs first [] M hf0 hs hf hsg (fun j y q => by cases q) (by simp) hsf hx) ⟨rfl, rfl, rfl, rfl, rfl, v_eq eF, trivial⟩)
end MW
