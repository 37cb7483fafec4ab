/-! the reference: what a layer keeps in a set; whether a set stands -/
theorem pcn_cg {s s' : Nat} : ∀ n, (∀ i, i < n → s.testBit i = s'.testBit i) → pcn s n = pcn s' n
  | 0, _ => rfl
  | n + 1, h => by rw [pcn, pcn, pcn_cg n (fun i hi => h i (by omega)), h n (by omega)]
theorem pcn_z {s k : Nat} (h : ∀ i, k ≤ i → s.testBit i = false) : ∀ m, pcn s (k + m) = pcn s k
  | 0 => rfl
  | m + 1 => by rw [← Nat.add_assoc, pcn, h (k + m) (by omega), pcn_z h m]; rfl
theorem pcn_low {s k : Nat} (hk : k ≤ 12) : pcn (s &&& (2 ^ k - 1)) 12 = pcn s k := by
  have h1 : ∀ i, k ≤ i → (s &&& (2 ^ k - 1)).testBit i = false := fun i hi => by
    rw [Nat.testBit_and, Nat.testBit_two_pow_sub_one, decide_eq_false (by omega), Bool.and_false]
  have h2 := pcn_z h1 (12 - k)
  rw [show k + (12 - k) = 12 by omega] at h2
  rw [h2]
  exact pcn_cg k (fun i hi => by rw [Nat.testBit_and, Nat.testBit_two_pow_sub_one, decide_eq_true hi, Bool.and_true])
/-- a layer's amount in a set, so many days on -/
def kI (E : EnvK) (s i days : Nat) (q : Lyr) : Int32 := amt E.1 E.2.1 (nI q.2.1) (nI (if 99 < q.2.2.2 + days then 99 else q.2.2.2 + days)) (nI q.2.2.1) (nI (pcn s i)) (nI (pcn s 12 - 1 - pcn s i))
theorem m_keptIn {d r st k days : Nat} {M : Mem} {s : St} {q : Lyr} (h : RM M s) (hv : inv s) (hq : ((sK s).getD r [])[k]? = some q) (hs : st < 4096) (hb : st.testBit k = true) (hd : days < 100) : Call (d + 5) 221 [.ref 55, .int (nI r), .int (nI st), .int (nI k), .int (nI days)] M (fun v M' => v = some (.int (kI (envS s) st k days q)) ∧ FrM KJ [] M M') := by
  have hl := ly_lt hq
  have hr := hgt_lt hl
  have b1 := hv.1.1
  have b2x := hv.1.2.1 r
  have hok := hv.1.2.2 r k q hq
  have h99 := hok.2.2.2
  obtain ⟨y0, y1, y2, y3, y4⟩ := YM_at h.1.2 hq
  have eP : cI 12 * nI r + nI k = nI (12 * r + k) := by rw [show cI 12 = nI 12 from rfl, nI_mul, nI_add]
  have vP : vp_in (cI 12 * nI r + nI k) 48 := by rw [eP]; exact nI_vp (by omega) (by decide)
  have cP : (cI 12 * nI r + nI k).toNatClampNeg = 12 * r + k := by rw [eP]; exact nI_c (by omega)
  have hpl := pcn_lt hb 12 (by omega)
  have hp12 := pcn_le st 12
  have eA : nI (pcn st 12) - cI 1 - nI (pcn st k) = nI (pcn st 12 - 1 - pcn st k) := by
    rw [show nI (pcn st 12) - cI 1 = nI (pcn st 12 - 1) from nI_sub (b := 1) (by omega), nI_sub (by omega)]
  have eg : M.1 60 (cI 12 * nI r + nI k).toNatClampNeg + nI days = nI (q.2.2.2 + days) := by
    rw [cP, show M.1 60 (12 * r + k) = nI q.2.2.2 from y4, nI_add]
  have evg := nI_v (n := q.2.2.2 + days) (by omega)
  have eM : nI st &&& ((cI 1 <<< (nI k &&& 31)) - cI 1) = nI (st &&& (2 ^ k - 1)) := by rw [full_i k (by omega), nx_and]
  have hlt : st &&& (2 ^ k - 1) < 4096 := Nat.lt_of_le_of_lt Nat.and_le_left hs
  have hbel : ∀ {dd : Nat}, Call (dd + 2) 220 [.int (nI st), .int (nI k)] M (RV (some (.int (nI (pcn st k)))) M) := by
    intro dd
    refine call_run 400 rfl rfl (fun B Cl Z hZ hB hC => ?_)
    (conv => whnf)
    have hcall : Call (dd + 1) 158 [.int (nI st &&& ((cI 1 <<< (nI k &&& 31)) - cI 1))] M (RV (some (.int (nI (pcn st k)))) M) := by
      rw [eM, ← pcn_low (s := st) (k := k) (by omega)]
      exact m_bits hlt
    refine ret_k hC hcall ?_
    conv => whnf
    exact hZ _ _ ⟨rfl, rfl⟩
  refine call_run 400 rfl rfl (fun B Cl Z hZ hB hC => ?_)
  (conv => whnf); refine ret_k hC (hbel) ?_
  (conv => whnf)
  refine ⟨vP, ?_⟩
  (conv => whnf)
  refine ⟨vP, ?_⟩
  have fin : ∀ a, a = nI (if 99 < q.2.2.2 + days then 99 else q.2.2.2 + days) → Call (d + 4) 197 [.ref 55, .int (M.1 58 (cI 12 * nI r + nI k).toNatClampNeg), .int a, .int (nI (pcn st 12) - cI 1 - nI (pcn st k)), .int (M.1 59 (cI 12 * nI r + nI k).toNatClampNeg), .int (nI (pcn st k))] M (fun v M' => v = some (.int (kI (envS s) st k days q)) ∧ FrM KJ [] M M') := by
    rintro a rfl
    rw [cP, eA, show M.1 58 (12 * r + k) = nI q.2.1 from y2, show M.1 59 (12 * r + k) = nI q.2.2.1 from y3]
    exact m_keptBy h hv
  (conv => whnf); refine ⟨fun a => ?_, fun a => ?_⟩
  · replace a : cnd .le (M.1 60 (cI 12 * nI r + nI k).toNatClampNeg + nI days) (cI 99) := a
    rw [eg, c_le, evg, kv_99] at a
    (conv => whnf); refine ret_k hC (m_bits hs) ?_
    (conv => whnf)
    refine ⟨vP, ?_⟩
    (conv => whnf)
    refine hC _ _ _ _ _ (fin _ (by rw [eg, if_neg (by omega)])) (fun v M1 p => ?_)
    obtain ⟨rfl, p2⟩ := p
    conv => whnf
    exact hZ _ _ ⟨rfl, p2⟩
  · replace a : ¬ cnd .le (M.1 60 (cI 12 * nI r + nI k).toNatClampNeg + nI days) (cI 99) := a
    rw [eg, c_le, evg, kv_99] at a
    (conv => whnf); refine ret_k hC (m_bits hs) ?_
    (conv => whnf)
    refine ⟨vP, ?_⟩
    (conv => whnf)
    refine hC _ _ _ _ _ (fin (cI 99) (by rw [if_pos (by omega)]; rfl)) (fun v M1 p => ?_)
    obtain ⟨rfl, p2⟩ := p
    conv => whnf
    exact hZ _ _ ⟨rfl, p2⟩
theorem kI_0 {E : EnvK} {s i : Nat} {q : Lyr} (h : q.2.2.2 < 100) : kI E s i 0 q = kq E (pcn s 12) (pcn s i) q := by
  unfold kI kq kpt
  rw [if_neg (by omega), Nat.add_zero]
theorem stand2 {d r st : Nat} {M0 : Mem} {s : St} (h0 : RM M0 s) (hv : inv s) (hr : r < (sK s).length) (hs : st < 4096) : ∀ (m k : Nat) (x y : Int32) (M : Mem), k + m = hgt (sK s) r → FrM KJ [] M0 M → sXl (envS s) st rgt (((sK s).getD r []).drop k) k x = sXl (envS s) st rgt ((sK s).getD r []) 0 0 → sXl (envS s) st dwn (((sK s).getD r []).drop k) k y = sXl (envS s) st dwn ((sK s).getD r []) 0 0 →
    BodyK (d + 6) 222 8 [(0, .ref 55), (1, .int (nI r)), (2, .int (nI st)), (3, .int x), (4, .int y), (5, .int (nI k))] [] M (fun v M' => v = some (.int (b2 (stS (envS s) ((sK s).getD r []) st))) ∧ FrM KJ [] M0 M') := by
  have b1 := hv.1.1
  have b2x := hv.1.2.1 r
  have eh := nI_v (n := hgt (sK s) r) (by omega)
  have cr := nI_c (n := r) (by omega)
  have vr : vp_in (nI r) 4 := nI_vp (by omega) (by decide)
  intro m
  induction m with
  | zero =>
    intro k x y M hk hF hx hy
    obtain rfl : k = hgt (sK s) r := by omega
    have hd : ((sK s).getD r []).drop (hgt (sK s) r) = [] := List.drop_eq_nil_of_le (Nat.le_refl _)
    rw [hd] at hx hy
    replace hx : x = sXl (envS s) st rgt ((sK s).getD r []) 0 0 := hx
    replace hy : y = sXl (envS s) st dwn ((sK s).getD r []) 0 0 := hy
    have h := RM_KJ h0 hF
    have hlim : M.1 61 1 = (envS s).2.2.1 := h.2.1.2.1
    have hst : stS (envS s) ((sK s).getD r []) st ↔ (absI x).toInt ≤ (envS s).2.2.1.toInt ∧ (absI y).toInt ≤ (envS s).2.2.1.toInt := by
      show maxI (absI (sXl (envS s) st rgt ((sK s).getD r []) 0 0)) (absI (sXl (envS s) st dwn ((sK s).getD r []) 0 0)) ≤ (envS s).2.2.1 ↔ _
      rw [← hx, ← hy, le_i, maxI_v]
      split <;> omega
    refine body_run 400 rfl (fun B Cl Z hZ hB hC => ?_)
    (conv => whnf)
    refine ⟨vr, ?_⟩
    (conv => whnf); refine ⟨fun a => ?_, fun a => ?_⟩
    case' refine_2 =>
      replace a : ¬ cnd .ge (nI (hgt (sK s) r)) (M.1 56 (nI r).toNatClampNeg) := a
      rw [cr, (h.1.2 r hr).1, c_ge] at a
      omega
    (conv => whnf); refine ret_k hC (m_plain) ?_
    (conv => whnf)
    refine ⟨nI_vp (c := 1) (by decide) (by decide), ?_⟩
    (conv => whnf); refine ⟨fun b => ?_, fun b => ?_⟩
    · replace b : cnd .gt (absI x) (M.1 61 1) := b
      rw [hlim, c_gt] at b
      conv => whnf
      exact ⟨Or.inl rfl, hZ _ _ ⟨v_eq (b2_f (fun z => by have := (hst.mp z).1; omega)).symm, hF⟩⟩
    replace b : ¬ cnd .gt (absI x) (M.1 61 1) := b
    rw [hlim, c_gt] at b
    (conv => whnf); refine ret_k hC (m_plain) ?_
    (conv => whnf)
    refine ⟨nI_vp (c := 1) (by decide) (by decide), ?_⟩
    (conv => whnf); refine ⟨fun c => ?_, fun c => ?_⟩
    · replace c : cnd .gt (absI y) (M.1 61 1) := c
      rw [hlim, c_gt] at c
      conv => whnf
      exact ⟨Or.inl rfl, hZ _ _ ⟨v_eq (b2_f (fun z => by have := (hst.mp z).2; omega)).symm, hF⟩⟩
    · replace c : ¬ cnd .gt (absI y) (M.1 61 1) := c
      rw [hlim, c_gt] at c
      conv => whnf
      exact ⟨Or.inr rfl, hZ _ _ ⟨v_eq (b2_t (hst.mpr ⟨by omega, by omega⟩)).symm, hF⟩⟩
  | succ m ih =>
    intro k x y M hk hF hx hy
    have ek := nI_v (n := k) (by omega)
    obtain ⟨q, hq⟩ := ly_at (rk := sK s) (r := r) (l := k) (by omega)
    rw [drop_at hq] at hx hy
    have hok := hv.1.2.2 r k q hq
    have h := RM_KJ h0 hF
    obtain ⟨y0, y1, -⟩ := YM_at h.1.2 hq
    have eP : cI 12 * nI r + nI k = nI (12 * r + k) := by rw [show cI 12 = nI 12 from rfl, nI_mul, nI_add]
    have vP : vp_in (cI 12 * nI r + nI k) 48 := by rw [eP]; exact nI_vp (by omega) (by decide)
    have cP : (cI 12 * nI r + nI k).toNatClampNeg = 12 * r + k := by rw [eP]; exact nI_c (by omega)
    replace hx : sXl (envS s) st rgt (((sK s).getD r []).drop (k + 1)) (k + 1) (if st.testBit k = true then x + kq (envS s) (pcn st 12) (pcn st k) q * rgt q.1 else x) = _ := hx
    replace hy : sXl (envS s) st dwn (((sK s).getD r []).drop (k + 1)) (k + 1) (if st.testBit k = true then y + kq (envS s) (pcn st 12) (pcn st k) q * dwn q.1 else y) = _ := hy
    refine body_run 400 rfl (fun B Cl Z hZ hB hC => ?_)
    (conv => whnf)
    refine ⟨vr, ?_⟩
    (conv => whnf); refine ⟨fun a => ?_, fun a => ?_⟩
    · replace a : cnd .ge (nI k) (M.1 56 (nI r).toNatClampNeg) := a
      rw [cr, (h.1.2 r hr).1, c_ge, eh, ek] at a
      omega
    (conv => whnf); refine ret_k hC (m_has hs (show k < 31 by omega)) ?_
    (conv => whnf); refine ⟨fun b => ?_, fun b => ?_⟩
    case' refine_2 =>
      rw [b2_nz] at b
      rw [if_neg b] at hx hy
      (conv => whnf)
      exact hB _ _ _ _ (Body_lv (ih (k + 1) x y M (by omega) hF hx hy) ⟨rfl, rfl, rfl, rfl, rfl, v_eq (nI_i1 k), trivial⟩)
    rw [b2_nz] at b
    rw [if_pos b] at hx hy
    (conv => whnf)
    refine hC _ _ _ _ _ (m_keptIn (days := 0) h hv hq hs b (by decide)) (fun v M1 p => ?_)
    obtain ⟨rfl, p2⟩ := p
    rw [kI_0 hok.2.2.2]
    have eW : M1.1 57 (12 * r + k) = nI q.1 := by rw [FrM_c p2 (by decide) (by decide)]; exact y1
    (conv => whnf)
    refine ⟨vP, ?_⟩
    (conv => whnf)
    rw [cP, eW]
    refine ret_k hC (m_alongX hok.1) ?_
    (conv => whnf)
    refine ⟨vP, ?_⟩
    (conv => whnf)
    rw [cP, eW]
    refine ret_k hC (m_alongY hok.1) ?_
    (conv => whnf)
    rw [Int32.mul_comm] at hx
    rw [Int32.mul_comm] at hy
    exact hB _ _ _ _ (Body_lv (ih (k + 1) (x + rgt q.1 * kq (envS s) (pcn st 12) (pcn st k) q) (y + dwn q.1 * kq (envS s) (pcn st 12) (pcn st k) q) M1 (by omega) (FrM_trans hF p2) hx hy) ⟨rfl, rfl, rfl, rfl, rfl, v_eq (nI_i1 k), trivial⟩)
theorem m_standsIn {d r st : Nat} {M : Mem} {s : St} (h : RM M s) (hv : inv s) (hr : r < (sK s).length) (hs : st < 4096) : Call (d + 6) 222 [.ref 55, .int (nI r), .int (nI st)] M (fun v M' => v = some (.int (b2 (stS (envS s) ((sK s).getD r []) st))) ∧ FrM KJ [] M M') := by
  refine call_run 400 rfl rfl (fun B Cl Z hZ hB hC => ?_)
  conv => whnf
  exact hB _ _ _ _ (Body_lv (stand2 (d := d) (M0 := M) h hv hr hs (hgt (sK s) r) 0 (cI 0) (cI 0) M (by omega) FrM_refl rfl rfl) ⟨rfl, rfl, rfl, rfl, rfl, rfl, trivial⟩)
