/-! the reference's reader: its leaves -/
def MT (M : Mem) (t : List Nat) : Prop := RMt M t ∧ t.length ≤ 120 ∧ ∀ (i c : Nat), t[i]? = some c → c < 256
def MR (M : Mem) (t : List Nat) (a o : Nat) (code : List Nat) : Prop := MT M t ∧ M.1 55 17 = nI a ∧ a ≤ t.length ∧ M.1 55 18 = cI (-1) ∧ M.1 55 19 = nI o ∧ M.1 55 20 = nI code.length ∧ StpR M 130 code
def MFlt (M : Mem) (t : List Nat) (p n : Nat) : Prop := MT M t ∧ M.1 55 17 = nI p ∧ p ≤ t.length ∧ M.1 55 18 = nI p ∧ M.1 55 20 = nI n
def FrE (M M' : Mem) : Prop := FrM [68, 69] [17, 18, 19, 20] M M' ∧ ∀ j, j < 130 → M'.1 68 j = M.1 68 j ∧ M'.1 69 j = M.1 69 j
theorem FrE_refl {M : Mem} : FrE M M := ⟨FrM_refl, fun _ _ => ⟨rfl, rfl⟩⟩
theorem FrE_trans {M M1 M2 : Mem} (h1 : FrE M M1) (h2 : FrE M1 M2) : FrE M M2 := ⟨FrM_trans h1.1 h2.1, fun j hj => ⟨(h2.2 j hj).1.trans (h1.2 j hj).1, (h2.2 j hj).2.trans (h1.2 j hj).2⟩⟩
theorem FrE_s {M M1 : Mem} {j : Nat} {v : Int32} (h : FrE M M1) (hj : ([17, 18, 19, 20] : List Nat).contains j = true) : FrE M (mI M1 55 j v) :=
  ⟨FrM_s h.1 hj, fun i hi => ⟨by rw [mI_ne _ _ _ (by decide)]; exact (h.2 i hi).1, by rw [mI_ne _ _ _ (by decide)]; exact (h.2 i hi).2⟩⟩
theorem FrE_1 {j : Nat} {M : Mem} {v : Int32} (hj : ([17, 18, 19, 20] : List Nat).contains j = true) : FrE M (mI M 55 j v) := FrE_s FrE_refl hj
theorem MT_e {M M' : Mem} {t : List Nat} (h : MT M t) (h1 : M'.1 55 16 = M.1 55 16) (h2 : M'.1 67 = M.1 67) : MT M' t := ⟨⟨by rw [h1]; exact h.1.1, fun i c q => by rw [h2]; exact h.1.2 i c q⟩, h.2⟩
theorem MT_s {M : Mem} {t : List Nat} {j : Nat} {v : Int32} (h : MT M t) (hj : ¬ 16 = j) : MT (mI M 55 j v) t := MT_e h (mI_2 _ _ hj) (mI_ne _ _ _ (by decide))
theorem StpR_s {M : Mem} {b j : Nat} {cs : List Nat} {v : Int32} (h : StpR M b cs) : StpR (mI M 55 j v) b cs := StpR_fr h (mI_ne _ _ _ (by decide)) (mI_ne _ _ _ (by decide))
/-- a byte of the tape, as it is looked at -/
def z8 (c : Nat) : Int := if c < 128 then (c : Int) else if c < 256 then (c : Int) - 256 else -1
theorem z8_k {c k : Nat} (hk : k < 128) : z8 c = (k : Int) ↔ c = k := by
  unfold z8
  repeat' split
  all_goals omega
theorem z8_d {c : Nat} : (48 ≤ z8 c ∧ z8 c ≤ 57) ↔ (48 ≤ c ∧ c ≤ 57) := by
  unfold z8
  repeat' split
  all_goals omega
def lkI (t : List Nat) (a : Nat) : Int32 := match t[a]? with
  | some c => (nI c).toInt8.toInt32
  | none => cI (-1)
def lkZ (t : List Nat) (a : Nat) : Int := match t[a]? with
  | some c => z8 c
  | none => -1
theorem b8_0 : (List.range 256).all (fun c => decide ((nI c).toInt8.toInt32.toInt = z8 c)) = true := by decide +kernel
theorem b8 {c : Nat} (h : c < 256) : (nI c).toInt8.toInt32.toInt = z8 c := of_decide_eq_true (List.all_eq_true.mp b8_0 c (List.mem_range.mpr h))
theorem lk_v {t : List Nat} {a : Nat} (h : ∀ (i c : Nat), t[i]? = some c → c < 256) : (lkI t a).toInt = lkZ t a := by
  unfold lkI lkZ
  cases hx : t[a]? with
  | none => exact kv_m1
  | some c => exact b8 (h a c hx)
theorem lk_k {t : List Nat} {a k : Nat} (hk : k < 128) : lkZ t a = (k : Int) ↔ t[a]? = some k := by
  unfold lkZ
  cases hx : t[a]? with
  | none => constructor
            · intro q; replace q : (-1 : Int) = (k : Int) := q; omega
            · intro q; cases q
  | some c =>
    show z8 c = (k : Int) ↔ some c = some k
    rw [z8_k hk]
    exact ⟨fun q => by rw [q], fun q => by cases q; rfl⟩
theorem lk_s {t : List Nat} {a c : Nat} (h : t[a]? = some c) : lkZ t a = z8 c := by unfold lkZ; rw [h]
theorem lk_n {t : List Nat} {a : Nat} (h : t[a]? = none) : lkZ t a = -1 := by unfold lkZ; rw [h]
def dgt (t : List Nat) (p : Nat) : Prop := ∃ c, t[p]? = some c ∧ 48 ≤ c ∧ c ≤ 57
theorem dgt_z {t : List Nat} {a : Nat} : dgt t a ↔ 48 ≤ lkZ t a ∧ lkZ t a ≤ 57 := by
  unfold dgt lkZ
  cases hx : t[a]? with
  | none => constructor
            · rintro ⟨c, q, -⟩; cases q
            · rintro ⟨q, -⟩; replace q : (48 : Int) ≤ -1 := q; omega
  | some c =>
    show (∃ d, some c = some d ∧ 48 ≤ d ∧ d ≤ 57) ↔ 48 ≤ z8 c ∧ z8 c ≤ 57
    rw [z8_d]
    exact ⟨fun ⟨d, q, h1⟩ => by cases q; exact h1, fun h1 => ⟨c, rfl, h1⟩⟩
theorem m_look {d a : Nat} {M : Mem} {t : List Nat} (h : MT M t) (ha : M.1 55 17 = nI a) (h2 : a ≤ t.length) : Call (d + 1) 179 [.ref 55] M (RV (some (.int (lkI t a))) M) := by
  have h120 := h.2.1
  have e := nI_v (n := a) (by omega)
  have e2 := nI_v (n := t.length) (by omega)
  refine call_run 400 rfl rfl (fun B Cl Z hZ hB hC => ?_)
  (conv => whnf); refine ⟨fun b => ?_, fun b => ?_⟩
  · replace b : cnd .ge (M.1 55 17) (M.1 55 16) := b
    rw [ha, h.1.1, c_ge, e, e2] at b
    conv => whnf
    refine hZ _ _ ⟨v_eq ?_, rfl⟩
    unfold lkI
    rw [List.getElem?_eq_none (by omega)]
  · replace b : ¬ cnd .ge (M.1 55 17) (M.1 55 16) := b
    rw [ha, h.1.1, c_ge, e, e2] at b
    have hx := List.getElem?_eq_getElem (show a < t.length by omega)
    have vp : vp_in (M.1 55 17) 120 := by rw [ha]; exact nI_vp (by omega) (by decide)
    (conv => whnf)
    refine ⟨vp, ?_⟩
    conv => whnf
    refine hZ _ _ ⟨v_eq ?_, rfl⟩
    show M.1 67 (M.1 55 17).toNatClampNeg = _
    rw [ha, nI_c (by omega), h.1.2 a _ hx]
    unfold lkI
    rw [hx]
theorem m_wrong {d a o : Nat} {code : List Nat} {M : Mem} {t : List Nat} (h : MR M t a o code) : Call (d + 1) 180 [.ref 55] M (fun v M' => v = none ∧ MFlt M' t a code.length ∧ FrE M M') := by
  obtain ⟨h1, h2, h3, h4, h5, h6, h7⟩ := h
  refine call_run 400 rfl rfl (fun B Cl Z hZ hB hC => ?_)
  (conv => whnf); refine ⟨fun b => ?_, fun b => ?_⟩
  · replace b : cnd .ge (M.1 55 18) 0 := b
    rw [h4, c_ge, kv_m1, t0] at b
    omega
  · conv => whnf
    show Z none (mI M 55 18 (M.1 55 17))
    refine hZ _ _ ⟨rfl, ⟨MT_s h1 (by decide), ?_, h3, ?_, ?_⟩, FrE_1 (by decide)⟩
    · rw [mI_2 _ _ (by decide)]; exact h2
    · rw [mI_1]; exact h2
    · rw [mI_2 _ _ (by decide)]; exact h6
theorem m_addR {d n w : Nat} {v : Int32} {M : Mem} (hn : n < 130) (h : M.1 55 20 = nI n) (hw : w < 128) : Call (d + 1) 181 [.ref 55, .int (nI w), .int v] M (fun r M' => r = none ∧ M' = mI (mI (mI M 68 (130 + n) (nI w)) 69 (130 + n) v) 55 20 (nI (n + 1))) := by
  have ei : cI 130 + M.1 55 20 = nI (130 + n) := by rw [h]; exact nI_add 130 n
  have vp : vp_in (cI 130 + M.1 55 20) 260 := by rw [ei]; exact nI_vp (by omega) (by decide)
  have en : vp_nar .byte (nI w).toInt8.toInt32 = nI w := by
    show (nI w).toInt8.toInt32.toInt8.toInt32 = _
    rw [Int8.toInt8_toInt32, nI_b hw]
  refine call_run 400 rfl rfl (fun B Cl Z hZ hB hC => ?_)
  (conv => whnf)
  refine ⟨vp, ?_⟩
  (conv => whnf)
  refine ⟨vp, ?_⟩
  conv => whnf
  show Z none (mI (mI (mI M 68 (cI 130 + M.1 55 20).toNatClampNeg (vp_nar .byte (nI w).toInt8.toInt32)) 69 (cI 130 + M.1 55 20).toNatClampNeg v) 55 20 (M.1 55 20 + cI 1))
  rw [ei, en, nI_c (by omega), h, nI_i1]
  exact hZ _ _ ⟨rfl, rfl⟩
theorem FrE_add {M : Mem} {n : Nat} {w v x : Int32} : FrE M (mI (mI (mI M 68 (130 + n) w) 69 (130 + n) v) 55 20 x) := by
  refine ⟨FrM_s (FrM_a (FrM_a FrM_refl (by decide) (by decide)) (by decide) (by decide)) (by decide), fun j hj => ⟨?_, ?_⟩⟩
  · rw [mI_ne _ _ _ (by decide), mI_ne _ _ _ (by decide), mI_2 _ _ (by omega)]
  · rw [mI_ne _ _ _ (by decide), mI_2 _ _ (by omega), mI_ne _ _ _ (by decide)]
theorem m_addS {d a o c : Nat} {code : List Nat} {w v : Int32} {M : Mem} {t : List Nat} (h : MR M t a o code) (hl : code.length < 130) (hc : actN c < 128) (hw : w = nI (actN c)) (hv : v = nI (withN c)) : Call (d + 1) 181 [.ref 55, .int w, .int v] M (fun r M' => r = none ∧ MR M' t a o (code ++ [c]) ∧ FrE M M') := by
  subst hw hv
  obtain ⟨h1, h2, h3, h4, h5, h6, h7⟩ := h
  refine Call_mono (m_addR hl h6 hc) (fun r M' q => ?_)
  obtain ⟨q1, rfl⟩ := q
  refine ⟨q1, ⟨MT_e h1 ?_ ?_, ?_, h3, ?_, ?_, ?_, fun i x hx => ?_⟩, FrE_add⟩
  · rw [mI_2 _ _ (by decide), mI_ne _ _ _ (by decide), mI_ne _ _ _ (by decide)]
  · rw [mI_ne _ _ _ (by decide), mI_ne _ _ _ (by decide), mI_ne _ _ _ (by decide)]
  · rw [mI_2 _ _ (by decide), mI_ne _ _ _ (by decide), mI_ne _ _ _ (by decide)]; exact h2
  · rw [mI_2 _ _ (by decide), mI_ne _ _ _ (by decide), mI_ne _ _ _ (by decide)]; exact h4
  · rw [mI_2 _ _ (by decide), mI_ne _ _ _ (by decide), mI_ne _ _ _ (by decide)]; exact h5
  · rw [mI_1, List.length_append]; rfl
  · have e68 : ∀ (n : Nat) (w v x : Int32), (mI (mI (mI M 68 n w) 69 n v) 55 20 x).1 68 = (mI M 68 n w).1 68 := fun n w v x => by rw [mI_ne _ _ _ (by decide), mI_ne _ _ _ (by decide)]
    have e69 : ∀ (n : Nat) (w v x : Int32), (mI (mI (mI M 68 n w) 69 n v) 55 20 x).1 69 = (mI (mI M 68 n w) 69 n v).1 69 := fun n w v x => by rw [mI_ne _ _ _ (by decide)]
    rw [e68, e69]
    rcases Nat.lt_or_ge i code.length with z | z
    · rw [List.getElem?_append_left z] at hx
      exact ⟨by rw [mI_2 _ _ (by omega)]; exact (h7 i x hx).1, by rw [mI_2 _ _ (by omega), mI_ne _ _ _ (by decide)]; exact (h7 i x hx).2⟩
    · have := (List.getElem?_eq_some_iff.mp hx).1
      rw [List.length_append, List.length_singleton] at this
      obtain rfl : i = code.length := by omega
      rw [List.getElem?_append_right (Nat.le_refl _), Nat.sub_self] at hx
      cases hx
      exact ⟨mI_1 _ _ _ _, mI_1 _ _ _ _⟩
theorem m_addF {d p n w : Nat} {v : Int32} {M : Mem} {t : List Nat} (h : MFlt M t p n) (hn : n < 130) (hw : w < 128) : Call (d + 1) 181 [.ref 55, .int (nI w), .int v] M (fun r M' => r = none ∧ MFlt M' t p (n + 1) ∧ FrE M M') := by
  obtain ⟨h1, h2, h3, h4, h5⟩ := h
  refine Call_mono (m_addR hn h5 hw) (fun r M' q => ?_)
  obtain ⟨q1, rfl⟩ := q
  refine ⟨q1, ⟨MT_e h1 ?_ ?_, ?_, h3, ?_, ?_⟩, FrE_add⟩
  · rw [mI_2 _ _ (by decide), mI_ne _ _ _ (by decide), mI_ne _ _ _ (by decide)]
  · rw [mI_ne _ _ _ (by decide), mI_ne _ _ _ (by decide), mI_ne _ _ _ (by decide)]
  · rw [mI_2 _ _ (by decide), mI_ne _ _ _ (by decide), mI_ne _ _ _ (by decide)]; exact h2
  · rw [mI_2 _ _ (by decide), mI_ne _ _ _ (by decide), mI_ne _ _ _ (by decide)]; exact h4
  · rw [mI_1]
def nmZ (z : Int) : Int := if z = 97 then 1 else if z = 99 then 4 else if z = 102 then 0 else if z = 107 then 5 else if z = 108 then 2 else if z = 109 then 3 else -1
theorem nm_0 : (List.range 256).all (fun c => decide (nmZ (z8 c) = fnd c 6 0)) = true := by decide +kernel
theorem nm_fnd {c : Nat} (h : c < 256) : nmZ (z8 c) = fnd c 6 0 := of_decide_eq_true (List.all_eq_true.mp nm_0 c (List.mem_range.mpr h))
theorem m_nameOf {d : Nat} {x : Int32} {M : Mem} : Call (d + 1) 182 [.int x] M (RV (some (.int (cI (nmZ x.toInt)))) M) := by
  refine call_run 400 rfl rfl (fun B Cl Z hZ hB hC => ?_)
  repeat' (first | ((conv => whnf); refine ⟨fun _ => ?_, fun _ => ?_⟩) | ((conv => whnf); refine ⟨?_, ?_⟩) | fail)
  all_goals (try simp only [c_lt, c_gt, c_le, c_ge, c_eq, c_ne, b2_z, b2_nz, b2_i, Classical.not_not, t0, t1, Nat.reduceMod, Nat.reduceDiv, Int.reduceAdd, Int.reduceNeg, Nat.reduceAdd, kv_m1, kv_0, kv_1, kv_2, kv_3, kv_4, kv_5, kv_97, kv_98, kv_99, kv_100, kv_101, kv_102, kv_103, kv_104, kv_105, kv_106, kv_107, kv_108, kv_109, kc_0, kc_1, kc_2, kc_3, kc_4, kc_5, kc_97, kc_98, kc_99, kc_100, kc_101, kc_102, kc_103, kc_104, kc_105, kc_106, kc_107, kc_108, kc_109, x_eq] at *)
  all_goals
    conv => whnf
    refine hZ _ _ ⟨v_eq (congrArg cI ?_), rfl⟩
    unfold nmZ
    (repeat' split) <;> omega
theorem MR_at {M : Mem} {t code : List Nat} {a o b : Nat} (h : MR M t a o code) (hb : b ≤ t.length) : MR (mI M 55 17 (nI b)) t b o code := by
  obtain ⟨h1, h2, h3, h4, h5, h6, h7⟩ := h
  exact ⟨MT_s h1 (by decide), mI_1 _ _ _ _, hb, by rw [mI_2 _ _ (by decide)]; exact h4, by rw [mI_2 _ _ (by decide)]; exact h5, by rw [mI_2 _ _ (by decide)]; exact h6, StpR_s h7⟩
theorem MR_op {M : Mem} {t code : List Nat} {a o b : Nat} (h : MR M t a o code) : MR (mI M 55 19 (nI b)) t a b code := by
  obtain ⟨h1, h2, h3, h4, h5, h6, h7⟩ := h
  exact ⟨MT_s h1 (by decide), by rw [mI_2 _ _ (by decide)]; exact h2, h3, by rw [mI_2 _ _ (by decide)]; exact h4, mI_1 _ _ _ _, by rw [mI_2 _ _ (by decide)]; exact h6, StpR_s h7⟩
theorem MF_op {M : Mem} {t : List Nat} {p n : Nat} {x : Int32} (h : MFlt M t p n) : MFlt (mI M 55 19 x) t p n := by
  obtain ⟨h1, h2, h3, h4, h5⟩ := h
  exact ⟨MT_s h1 (by decide), by rw [mI_2 _ _ (by decide)]; exact h2, h3, by rw [mI_2 _ _ (by decide)]; exact h4, by rw [mI_2 _ _ (by decide)]; exact h5⟩
theorem m_opens {d a o : Nat} {code : List Nat} {M : Mem} {t : List Nat} (h : MR M t a o code) (ho : o ≤ 6) (ha : a < t.length) : Call (d + 2) 183 [.ref 55] M (fun v M' => FrE M M' ∧ ((o = 6 ∧ v = some (.int (cI 0)) ∧ MFlt M' t a code.length) ∨ (o < 6 ∧ v = some (.int (cI 1)) ∧ MR M' t (a + 1) (o + 1) code))) := by
  have h17 := h.2.1
  have h19 := h.2.2.2.2.1
  have e := nI_v (n := o) (by omega)
  refine call_run 400 rfl rfl (fun B Cl Z hZ hB hC => ?_)
  (conv => whnf); refine ⟨fun b => ?_, fun b => ?_⟩
  · replace b : cnd .ne (M.1 55 19) (cI 6) := b
    rw [h19, c_ne, e, kv_6] at b
    conv => whnf
    refine ⟨Or.inr rfl, ?_⟩
    show Z (some (.int (cI 1))) (mI (mI M 55 19 (M.1 55 19 + cI 1)) 55 17 (M.1 55 17 + cI 1))
    rw [h19, h17, nI_i1, nI_i1]
    exact hZ _ _ ⟨FrE_s (FrE_1 (by decide)) (by decide), Or.inr ⟨by omega, rfl, MR_at (MR_op h) (by omega)⟩⟩
  · replace b : ¬ cnd .ne (M.1 55 19) (cI 6) := b
    rw [h19, c_ne, e, kv_6] at b
    (conv => whnf)
    refine hC _ _ _ _ _ (m_wrong h) (fun v M1 q => ?_)
    obtain ⟨rfl, q2, q3⟩ := q
    conv => whnf
    exact ⟨Or.inl rfl, hZ _ _ ⟨q3, Or.inl ⟨by omega, rfl, q2⟩⟩⟩
theorem dg_stop {t : List Nat} {k a w : Nat} (h : ¬ dgt t a) : dg t k a w = (a, w) := by
  cases k with
  | zero => rfl
  | succ k =>
    unfold dg
    split
    · next c hc => rw [if_neg (fun q => h ⟨c, hc, q⟩)]
    · rfl
theorem dg_go {t : List Nat} {k a w c : Nat} (hc : t[a]? = some c) (h : 48 ≤ c ∧ c ≤ 57) : dg t (k + 1) a w = dg t k (a + 1) (w * 10 + c - 48) := by
  rw [dg, hc]
  exact if_pos h
def figP (M : Mem) (t : List Nat) (o : Nat) (code : List Nat) (b : Prop) (r : Nat × Nat) : Po := fun v M' => v = none ∧ FrE M M' ∧ ((¬ b ∧ MR M' t r.1 o (code ++ [r.2])) ∨ ((b ∨ dgt t r.1) ∧ MFlt M' t r.1 (code.length + 1)))
theorem fig_loop {d o : Nat} {code t : List Nat} (hcl : code.length < 129) : ∀ (k n a w : Nat) (M : Mem), n + k = 4 → w < 10 ^ n → MR M t a o code →
    BodyK (d + 2) 184 4 [(0, .ref 55), (1, .int (nI w)), (2, .int (nI n))] [] M (figP M t o code (n = 0 ∧ ¬ dgt t a) (dg t k a w)) := by
  intro k
  have hp1 : (10 : Nat) ^ 0 = 1 := rfl
  have tail : ∀ (k n a w : Nat) (M : Mem), n ≤ 4 → w < 10000 → MR M t a o code → dg t k a w = (a, w) → ∀ (B : Nat → Lv → List Value → Mem → Prop) (Cl : Nat → List Value → Mem → Po → Prop) (Z : Po), (∀ r M', figP M t o code (n = 0 ∧ ¬ dgt t a) (dg t k a w) r M' → Z r M') → (∀ k' as M (Q1 Q2 : Po), Call (d + 1) k' as M Q1 → (∀ r M', Q1 r M' → Q2 r M') → Cl k' as M Q2) → (n = 0 → ¬ dgt t a) → ∀ m2,
      wpN 184 B Cl Z (m2 + 60) (seekK (cdo 184) 52) [(0, .ref 55), (1, .int (nI w)), (2, .int (nI n))] [] M := by
    intro k n a w M hn hw h hdg B Cl Z hZ hC h0 m2
    rw [hdg] at hZ
    have ht := h.1.2.2
    have e := nI_v (n := n) (by omega)
    have ea : actN w = 1 := by unfold actN; rw [if_pos hw]
    have ew : withN w = w := by unfold withN; rw [if_pos hw]
    have fin : ∀ (m3 : Nat) (M1 : Mem), FrE M M1 → MFlt M1 t a code.length → ((n = 0 ∧ ¬ dgt t a) ∨ dgt t a) → wpN 184 B Cl Z (m3 + 20) (seekK (cdo 184) 74) [(0, .ref 55), (1, .int (nI w)), (2, .int (nI n))] [] M1 := by
      intro m3 M1 f1 g1 hb
      (conv => whnf)
      refine hC _ _ _ _ _ (m_addF (w := 1) g1 (by omega) (by decide)) (fun v M2 q => ?_)
      obtain ⟨rfl, q2, q3⟩ := q
      conv => whnf
      exact hZ _ _ ⟨rfl, FrE_trans f1 q3, Or.inr ⟨hb, q2⟩⟩
    (conv => whnf); refine ⟨fun b => ?_, fun b => ?_⟩
    · simp only [c_lt, c_gt, c_le, c_ge, c_eq, c_ne, b2_z, b2_nz, b2_i, Classical.not_not, t0, t1, Nat.reduceMod, Nat.reduceDiv, Int.reduceAdd, Int.reduceNeg, Nat.reduceAdd, kv_0, kv_1, kv_4, kv_10, kv_48, kv_57, kc_0, kc_1, kc_4, kc_10, kc_48, kc_57, e] at b
      (conv => whnf)
      refine hC _ _ _ _ _ (m_wrong h) (fun v M1 q => ?_)
      obtain ⟨rfl, q2, q3⟩ := q
      exact fin _ M1 q3 q2 (Or.inl ⟨by omega, h0 (by omega)⟩)
    · simp only [c_lt, c_gt, c_le, c_ge, c_eq, c_ne, b2_z, b2_nz, b2_i, Classical.not_not, t0, t1, Nat.reduceMod, Nat.reduceDiv, Int.reduceAdd, Int.reduceNeg, Nat.reduceAdd, kv_0, kv_1, kv_4, kv_10, kv_48, kv_57, kc_0, kc_1, kc_4, kc_10, kc_48, kc_57, e] at b
      (conv => whnf); refine ret_k hC (m_look h.1 h.2.1 h.2.2.1) ?_
      (conv => whnf); refine ret_k hC (m_in) ?_
      (conv => whnf); refine ⟨fun g => ?_, fun g => ?_⟩
      · rw [b2_z, kv_48, kv_57, lk_v ht] at g
        (conv => whnf)
        refine hC _ _ _ _ _ (m_addS (c := w) h (by omega) (by omega) (by rw [ea]; rfl) (by rw [ew])) (fun v M2 q => ?_)
        obtain ⟨rfl, q2, q3⟩ := q
        conv => whnf
        exact hZ _ _ ⟨rfl, q3, Or.inl ⟨fun z => by omega, q2⟩⟩
      · rw [b2_z, kv_48, kv_57, lk_v ht] at g
        (conv => whnf)
        refine hC _ _ _ _ _ (m_wrong h) (fun v M1 q => ?_)
        obtain ⟨rfl, q2, q3⟩ := q
        exact fin _ M1 q3 q2 (Or.inr (dgt_z.mpr (Classical.not_not.mp g)))
  induction k with
  | zero =>
    intro n a w M hn hw h
    obtain rfl : n = 4 := by omega
    refine body_run 400 rfl (fun B Cl Z hZ hB hC => ?_)
    (conv => whnf); refine ⟨fun b => ?_, fun b => ?_⟩
    · exact tail 0 4 a w M (by omega) (by omega) h rfl B Cl Z hZ hC (fun z => by omega) _
    · exact absurd (show cnd .ge (nI 4) (cI 4) by rw [c_ge]; decide) b
  | succ k ih =>
    intro n a w M hn hw h
    have ht := h.1.2.2
    have h120 := h.1.2.1
    have e := nI_v (n := n) (by omega)
    have hw4 : w < 10000 := by
      match n, hw with
      | 0, hw => omega
      | 1, hw => omega
      | 2, hw => omega
      | 3, hw => omega
      | n + 4, _ => omega
    refine body_run 400 rfl (fun B Cl Z hZ hB hC => ?_)
    (conv => whnf); refine ⟨fun b => ?_, fun b => ?_⟩
    · simp only [c_lt, c_gt, c_le, c_ge, c_eq, c_ne, b2_z, b2_nz, b2_i, Classical.not_not, t0, t1, Nat.reduceMod, Nat.reduceDiv, Int.reduceAdd, Int.reduceNeg, Nat.reduceAdd, kv_0, kv_1, kv_4, kv_10, kv_48, kv_57, kc_0, kc_1, kc_4, kc_10, kc_48, kc_57, e] at b
      omega
    (conv => whnf); refine ret_k hC (m_look h.1 h.2.1 h.2.2.1) ?_
    (conv => whnf); refine ret_k hC (m_in) ?_
    (conv => whnf); refine ⟨fun g => ?_, fun g => ?_⟩
    · rw [b2_z, kv_48, kv_57, lk_v ht, ← dgt_z] at g
      exact tail (k + 1) n a w M (by omega) hw4 h (dg_stop g) B Cl Z hZ hC (fun _ => g) _
    · rw [b2_z, kv_48, kv_57, lk_v ht, ← dgt_z] at g
      have g := Classical.not_not.mp g
      obtain ⟨c, hc, c1, c2⟩ := id g
      have hal := (List.getElem?_eq_some_iff.mp hc).1
      (conv => whnf); refine ret_k hC (m_look h.1 h.2.1 h.2.2.1) ?_
      have el : lkI t a = nI c := by unfold lkI; rw [hc]; exact nI_b (by omega)
      have ev : cI 10 * nI w + nI c - cI 48 = nI (w * 10 + c - 48) := by
        rw [show cI 10 = nI 10 from rfl, show cI 48 = nI 48 from rfl, nI_mul, nI_add, nI_sub (by omega), Nat.mul_comm]
      have h17 := h.2.1
      (conv => whnf)
      simp only [Nat.reduceMod, h17, nI_i1, el, ev]
      refine hB _ _ _ _ (Body_lv (Body_mono (ih (n + 1) (a + 1) (w * 10 + c - 48) _ (by omega) ?_ (MR_at h (by omega))) (fun v M' z => ?_)) ⟨rfl, rfl, rfl, trivial⟩)
      · rw [Nat.pow_succ]; omega
      · rw [dg_go hc ⟨c1, c2⟩]
        obtain ⟨z1, z2, z3⟩ := z
        refine ⟨z1, FrE_trans (FrE_1 (by decide)) z2, ?_⟩
        rcases z3 with ⟨-, z4⟩ | ⟨z4, z5⟩
        · exact Or.inl ⟨fun q => q.2 g, z4⟩
        · exact Or.inr ⟨Or.inr (z4.resolve_left (fun q => absurd q.1 (by omega))), z5⟩
theorem m_figure {d a o : Nat} {code : List Nat} {M : Mem} {t : List Nat} (h : MR M t a o code) (hl : code.length < 129) : Call (d + 2) 184 [.ref 55] M (figP M t o code (¬ dgt t a) (dg t 4 a 0)) := by
  refine call_run 400 rfl rfl (fun B Cl Z hZ hB hC => ?_)
  conv => whnf
  refine hB _ _ _ _ (Body_lv (Body_mono (fig_loop hl 4 0 a 0 M rfl (by decide) h) (fun v M' z => ?_)) ⟨rfl, rfl, rfl, trivial⟩)
  exact ⟨z.1, z.2.1, z.2.2.imp (fun q => ⟨fun y => q.1 ⟨rfl, y⟩, q.2⟩) (fun q => ⟨q.1.imp_left (fun y => y.2), q.2⟩)⟩
