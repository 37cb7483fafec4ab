/-! the reference: builders and their acts -/
def AcM (b own d k : Nat) (x : Int32) (a : AR) : Prop := ∀ (D : Nat) (tr : List Nat) (M : Mem), d ≤ D → RMr M tr → M.1 93 b = nI own → tr.length + a.2.length ≤ 24 → Call D k [.ref 55, .int (nI b), .int x] M (fun v M' => v = some (.int a.1) ∧ RMr M' (tr ++ a.2) ∧ FrM [94] [60] M M')
theorem m_ran {d n : Nat} {M : Mem} {tr : List Nat} (h : RMr M tr) (hl : tr.length < 24) : Call (d + 1) 246 [.ref 55, .int (nI n)] M (fun v M' => v = none ∧ RMr M' (tr ++ [n]) ∧ FrM [94] [60] M M') := by
  have e := nI_v (n := tr.length) (by omega)
  have h60 : M.1 55 60 = nI tr.length := h.1
  refine call_run 400 rfl rfl (fun B Cl Z hZ hB hC => ?_)
  (conv => whnf); refine ⟨fun a => ?_, fun a => ?_⟩
  · replace a : cnd .ge (M.1 55 60) (cI 24) := a
    rw [h60, c_ge, e, kv_24] at a
    omega
  (conv => whnf)
  refine ⟨by show vp_in (M.1 55 60) 24; rw [h60]; exact nI_vp hl (by decide), ?_⟩
  conv => whnf
  show Z none (mI (mI M 94 (M.1 55 60).toNatClampNeg (nI n)) 55 60 (M.1 55 60 + cI 1))
  rw [h60, nI_c (by omega)]
  refine hZ _ _ ⟨rfl, ⟨?_, fun i c q => ?_⟩, FrM_s (FrM_a FrM_refl (by decide) (by decide)) (by decide)⟩
  · rw [mI_at, if_pos ⟨rfl, rfl⟩, List.length_append]
    exact nI_i1 _
  · rw [mI_ne _ _ _ (by decide), mI_at]
    by_cases z : i = tr.length
    · rw [if_pos ⟨rfl, z⟩]
      rw [z, List.getElem?_append_right (Nat.le_refl _), Nat.sub_self] at q
      cases q
      rfl
    · rw [if_neg (fun y => z y.2)]
      have hlt : i < tr.length := by
        have := (List.getElem?_eq_some_iff.mp q).1
        rw [List.length_append, List.length_singleton] at this
        omega
      rw [List.getElem?_append_left hlt] at q
      exact h.2 i c q
theorem Trf {A J : List Nat} {M M' : Mem} {b own : Nat} (h : M.1 93 b = nI own) (hf : FrM A J M M') (ha : A.contains 93 = false) : M'.1 93 b = nI own := by rw [FrM_c hf (by decide) ha]; exact h
section ACT
variable {b own : Nat} {x : Int32}
theorem ac_249 : AcM b own 2 250 x (x + nI b, [1]) := by
  intro D tr M hD hT hk hl
  obtain ⟨d, rfl⟩ : ∃ d, D = d + 2 := ⟨D - 2, by omega⟩
  refine call_run 400 rfl rfl (fun B Cl Z hZ hB hC => ?_)
  (conv => whnf)
  refine hC _ _ _ _ _ (m_ran (n := 1) hT (by (try simp only [List.length_append, List.length_cons, List.length_nil] at *); omega)) (fun v M1 p => ?_)
  obtain ⟨rfl, u1, f1⟩ := p
  conv => whnf
  refine hZ _ _ ⟨rfl, ?_, f1⟩
  have q := u1
  simp only [List.append_assoc, List.cons_append, List.nil_append] at q ⊢
  exact q
theorem ac_250 : AcM b own 3 251 x ((x + nI b) * cI 2, [70, 1]) := by
  intro D tr M hD hT hk hl
  obtain ⟨d, rfl⟩ : ∃ d, D = d + 3 := ⟨D - 3, by omega⟩
  replace hl : tr.length + 2 ≤ 24 := hl
  refine call_run 400 rfl rfl (fun B Cl Z hZ hB hC => ?_)
  (conv => whnf)
  refine hC _ _ _ _ _ (m_ran (n := 70) hT (by (try simp only [List.length_append, List.length_cons, List.length_nil] at *); omega)) (fun v M1 p => ?_)
  obtain ⟨rfl, u1, f1⟩ := p
  (conv => whnf)
  refine hC _ _ _ _ _ (ac_249 _ _ _ (by omega) u1 (Trf hk f1 (by decide)) (by (try simp only [List.length_append, List.length_cons, List.length_nil] at *); omega)) (fun v M2 p => ?_)
  obtain ⟨rfl, u2, f2⟩ := p
  conv => whnf
  refine hZ _ _ ⟨rfl, ?_, FrM_trans f1 f2⟩
  have q := u2
  simp only [List.append_assoc, List.cons_append, List.nil_append] at q ⊢
  exact q
theorem ac_251 (hb : b < 50) (ho : own < 8) : AcM b own 4 252 x (lys own x b) := by
  intro D tr M hD hT hk hl
  obtain ⟨d, rfl⟩ : ∃ d, D = d + 4 := ⟨D - 4, by omega⟩
  have vb : vp_in (nI b) 50 := nI_vp hb (by decide)
  have cb := nI_c (n := b) (by omega)
  have eo := nI_v (n := own) (by omega)
  refine call_run 400 rfl rfl (fun B Cl Z hZ hB hC => ?_)
  (conv => whnf)
  refine ⟨vb, ?_⟩
  (conv => whnf)
  refine hC _ _ _ _ _ m_isUnder (fun v M0 p => ?_)
  obtain ⟨rfl, ⟨hu, rfl⟩ | ⟨hu, rfl⟩⟩ := p
  · replace hu : unM (M0.1 93 (nI b).toNatClampNeg) (cI 1) := hu
    rw [cb, hk] at hu
    unfold unM at hu
    rw [eo, kv_1] at hu
    have e : lys own x b = (x + nI b + cI 3, [20, 1]) := by unfold lys; rw [if_pos (by omega)]
    rw [e] at hZ hl
    replace hl : tr.length + 2 ≤ 24 := hl
    (conv => whnf); refine ⟨fun a => ?_, fun a => ?_⟩
    · exact absurd (show cI 1 = 0 from a) (by decide)
    (conv => whnf)
    refine hC _ _ _ _ _ (m_ran (n := 20) hT (by (try simp only [List.length_append, List.length_cons, List.length_nil] at *); omega)) (fun v M1 p => ?_)
    obtain ⟨rfl, u1, f1⟩ := p
    (conv => whnf)
    refine hC _ _ _ _ _ (ac_249 _ _ _ (by omega) u1 (Trf hk f1 (by decide)) (by (try simp only [List.length_append, List.length_cons, List.length_nil] at *); omega)) (fun v M2 p => ?_)
    obtain ⟨rfl, u2, f2⟩ := p
    conv => whnf
    refine hZ _ _ ⟨rfl, ?_, FrM_trans f1 f2⟩
    have q := u2
    simp only [List.append_assoc, List.cons_append, List.nil_append] at q ⊢
    exact q
  replace hu : ¬ unM (M0.1 93 (nI b).toNatClampNeg) (cI 1) := hu
  rw [cb, hk] at hu
  unfold unM at hu
  rw [eo, kv_1] at hu
  (conv => whnf); refine ⟨fun a => ?_, fun a => ?_⟩
  case' refine_2 => exact absurd (show cnd .eq (cI 0) 0 from rfl) a
  (conv => whnf)
  refine ⟨vb, ?_⟩
  (conv => whnf); refine ⟨fun c => ?_, fun c => ?_⟩
  case' refine_2 =>
    replace c : ¬ cnd .ne (M0.1 93 (nI b).toNatClampNeg) (cI 7) := c
    rw [cb, hk, c_ne, eo, kv_7] at c
    have e : lys own x b = ((x + nI b) * cI 2 - cI 1, [81, 70, 1]) := by unfold lys; rw [if_neg (by omega), if_neg (by omega), if_pos (by omega)]
    rw [e] at hZ hl
    replace hl : tr.length + 3 ≤ 24 := hl
    (conv => whnf)
    refine hC _ _ _ _ _ (m_ran (n := 81) hT (by (try simp only [List.length_append, List.length_cons, List.length_nil] at *); omega)) (fun v M1 p => ?_)
    obtain ⟨rfl, u1, f1⟩ := p
    (conv => whnf)
    refine hC _ _ _ _ _ (ac_250 _ _ _ (by omega) u1 (Trf hk f1 (by decide)) (by (try simp only [List.length_append, List.length_cons, List.length_nil] at *); omega)) (fun v M2 p => ?_)
    obtain ⟨rfl, u2, f2⟩ := p
    conv => whnf
    refine hZ _ _ ⟨rfl, ?_, FrM_trans f1 f2⟩
    have q := u2
    simp only [List.append_assoc, List.cons_append, List.nil_append] at q ⊢
    exact q
  replace c : cnd .ne (M0.1 93 (nI b).toNatClampNeg) (cI 7) := c
  rw [cb, hk, c_ne, eo, kv_7] at c
  (conv => whnf)
  refine ⟨vb, ?_⟩
  (conv => whnf); refine ⟨fun g => ?_, fun g => ?_⟩
  · replace g : cnd .ne (M0.1 93 (nI b).toNatClampNeg) (cI 6) := g
    rw [cb, hk, c_ne, eo, kv_6] at g
    have e : lys own x b = (x + nI b, [1]) := by unfold lys; rw [if_neg (by omega), if_neg (by omega), if_neg (by omega)]
    rw [e] at hZ hl
    (conv => whnf)
    refine hC _ _ _ _ _ (ac_249 _ _ _ (by omega) hT hk (by (try simp only [List.length_append, List.length_cons, List.length_nil] at *); omega)) (fun v M1 p => ?_)
    obtain ⟨rfl, u1, f1⟩ := p
    conv => whnf
    refine hZ _ _ ⟨rfl, ?_, f1⟩
    have q := u1
    simp only [List.append_assoc, List.cons_append, List.nil_append] at q ⊢
    exact q
  · replace g : ¬ cnd .ne (M0.1 93 (nI b).toNatClampNeg) (cI 6) := g
    rw [cb, hk, c_ne, eo, kv_6] at g
    have e : lys own x b = ((x + nI b) * cI 2, [70, 1]) := by unfold lys; rw [if_neg (by omega), if_pos (by omega)]
    rw [e] at hZ hl
    (conv => whnf)
    refine hC _ _ _ _ _ (ac_250 _ _ _ (by omega) hT hk (by (try simp only [List.length_append, List.length_cons, List.length_nil] at *); omega)) (fun v M1 p => ?_)
    obtain ⟨rfl, u1, f1⟩ := p
    conv => whnf
    refine hZ _ _ ⟨rfl, ?_, f1⟩
    have q := u1
    simp only [List.append_assoc, List.cons_append, List.nil_append] at q ⊢
    exact q
theorem ac_252 (hb : b < 50) (ho : own < 8) : AcM b own 5 253 x (lns0 x b own) := by
  intro D tr M hD hT hk hl
  obtain ⟨d, rfl⟩ : ∃ d, D = d + 5 := ⟨D - 5, by omega⟩
  have e : (lns0 x b own).2.length = (lys own x b).2.length + 1 := rfl
  rw [e] at hl
  refine call_run 400 rfl rfl (fun B Cl Z hZ hB hC => ?_)
  (conv => whnf)
  refine hC _ _ _ _ _ (m_ran (n := 10) hT (by (try simp only [List.length_append, List.length_cons, List.length_nil] at *); omega)) (fun v M1 p => ?_)
  obtain ⟨rfl, u1, f1⟩ := p
  (conv => whnf)
  refine hC _ _ _ _ _ (ac_251 hb ho _ _ _ (by omega) u1 (Trf hk f1 (by decide)) (by (try simp only [List.length_append, List.length_cons, List.length_nil] at *); omega)) (fun v M2 p => ?_)
  obtain ⟨rfl, u2, f2⟩ := p
  conv => whnf
  refine hZ _ _ ⟨rfl, ?_, FrM_trans f1 f2⟩
  have q := u2
  rw [List.append_assoc] at q
  exact q
theorem ac_253 (hb : b < 50) (ho : own < 8) : AcM b own 6 254 x (lns2 x b own) := by
  intro D tr M hD hT hk hl
  obtain ⟨d, rfl⟩ : ∃ d, D = d + 6 := ⟨D - 6, by omega⟩
  have e : (lns2 x b own).2.length = (lns0 x b own).2.length + 1 := rfl
  rw [e] at hl
  refine call_run 400 rfl rfl (fun B Cl Z hZ hB hC => ?_)
  (conv => whnf)
  refine hC _ _ _ _ _ (m_ran (n := 30) hT (by (try simp only [List.length_append, List.length_cons, List.length_nil] at *); omega)) (fun v M1 p => ?_)
  obtain ⟨rfl, u1, f1⟩ := p
  (conv => whnf)
  refine hC _ _ _ _ _ (ac_252 hb ho _ _ _ (by omega) u1 (Trf hk f1 (by decide)) (by (try simp only [List.length_append, List.length_cons, List.length_nil] at *); omega)) (fun v M2 p => ?_)
  obtain ⟨rfl, u2, f2⟩ := p
  conv => whnf
  refine hZ _ _ ⟨rfl, ?_, FrM_trans f1 f2⟩
  have q := u2
  rw [List.append_assoc] at q
  exact q
theorem ac_255 : AcM b own 2 256 x (x ^^^ nI b, [11]) := by
  intro D tr M hD hT hk hl
  obtain ⟨d, rfl⟩ : ∃ d, D = d + 2 := ⟨D - 2, by omega⟩
  refine call_run 400 rfl rfl (fun B Cl Z hZ hB hC => ?_)
  (conv => whnf)
  refine hC _ _ _ _ _ (m_ran (n := 11) hT (by (try simp only [List.length_append, List.length_cons, List.length_nil] at *); omega)) (fun v M1 p => ?_)
  obtain ⟨rfl, u1, f1⟩ := p
  conv => whnf
  refine hZ _ _ ⟨rfl, ?_, f1⟩
  have q := u1
  simp only [List.append_assoc, List.cons_append, List.nil_append] at q ⊢
  exact q
theorem ac_256 : AcM b own 3 257 x ((x ^^^ nI b) * cI 3, [40, 11]) := by
  intro D tr M hD hT hk hl
  obtain ⟨d, rfl⟩ : ∃ d, D = d + 3 := ⟨D - 3, by omega⟩
  replace hl : tr.length + 2 ≤ 24 := hl
  refine call_run 400 rfl rfl (fun B Cl Z hZ hB hC => ?_)
  (conv => whnf)
  refine hC _ _ _ _ _ (m_ran (n := 40) hT (by (try simp only [List.length_append, List.length_cons, List.length_nil] at *); omega)) (fun v M1 p => ?_)
  obtain ⟨rfl, u1, f1⟩ := p
  (conv => whnf)
  refine hC _ _ _ _ _ (ac_255 _ _ _ (by omega) u1 (Trf hk f1 (by decide)) (by (try simp only [List.length_append, List.length_cons, List.length_nil] at *); omega)) (fun v M2 p => ?_)
  obtain ⟨rfl, u2, f2⟩ := p
  conv => whnf
  refine hZ _ _ ⟨rfl, ?_, FrM_trans f1 f2⟩
  have q := u2
  simp only [List.append_assoc, List.cons_append, List.nil_append] at q ⊢
  exact q
theorem ac_257 (hb : b < 50) (ho : own < 8) : AcM b own 5 258 x (cts own x b own) := by
  intro D tr M hD hT hk hl
  obtain ⟨d, rfl⟩ : ∃ d, D = d + 5 := ⟨D - 5, by omega⟩
  have vb : vp_in (nI b) 50 := nI_vp hb (by decide)
  have cb := nI_c (n := b) (by omega)
  have eo := nI_v (n := own) (by omega)
  refine call_run 400 rfl rfl (fun B Cl Z hZ hB hC => ?_)
  (conv => whnf)
  refine ⟨vb, ?_⟩
  (conv => whnf); refine ⟨fun a => ?_, fun a => ?_⟩
  case' refine_2 =>
    replace a : ¬ cnd .ne (M.1 93 (nI b).toNatClampNeg) (cI 5) := a
    rw [cb, hk, c_ne, eo, kv_5] at a
    have e : cts own x b own = ((x ^^^ nI b) * cI 3 - (lys own (cI 2) b).1, [60, 40, 11] ++ (lys own (cI 2) b).2) := by unfold cts; rw [if_neg (by omega), if_pos (by omega)]
    rw [e] at hZ hl
    replace hl : tr.length + ((lys own (cI 2) b).2.length + 1 + 1 + 1) ≤ 24 := hl
    (conv => whnf)
    refine hC _ _ _ _ _ (m_ran (n := 60) hT (by (try simp only [List.length_append, List.length_cons, List.length_nil] at *); omega)) (fun v M1 p => ?_)
    obtain ⟨rfl, u1, f1⟩ := p
    (conv => whnf)
    refine hC _ _ _ _ _ (ac_256 _ _ _ (by omega) u1 (Trf hk f1 (by decide)) (by (try simp only [List.length_append, List.length_cons, List.length_nil] at *); omega)) (fun v M2 p => ?_)
    obtain ⟨rfl, u2, f2⟩ := p
    (conv => whnf)
    refine hC _ _ _ _ _ (ac_251 hb ho _ _ _ (by omega) u2 (Trf (Trf hk f1 (by decide)) f2 (by decide)) (by (try simp only [List.length_append, List.length_cons, List.length_nil] at *); omega)) (fun v M3 p => ?_)
    obtain ⟨rfl, u3, f3⟩ := p
    conv => whnf
    refine hZ _ _ ⟨rfl, ?_, FrM_trans f1 (FrM_trans f2 f3)⟩
    have q := u3
    simp only [List.append_assoc, List.cons_append, List.nil_append] at q ⊢
    exact q
  replace a : cnd .ne (M.1 93 (nI b).toNatClampNeg) (cI 5) := a
  rw [cb, hk, c_ne, eo, kv_5] at a
  (conv => whnf)
  refine ⟨vb, ?_⟩
  (conv => whnf); refine ⟨fun g => ?_, fun g => ?_⟩
  · replace g : cnd .ne (M.1 93 (nI b).toNatClampNeg) (cI 3) := g
    rw [cb, hk, c_ne, eo, kv_3] at g
    have e : cts own x b own = (x ^^^ nI b, [11]) := by unfold cts; rw [if_neg (by omega), if_neg (by omega)]
    rw [e] at hZ hl
    (conv => whnf)
    refine hC _ _ _ _ _ (ac_255 _ _ _ (by omega) hT hk (by (try simp only [List.length_append, List.length_cons, List.length_nil] at *); omega)) (fun v M1 p => ?_)
    obtain ⟨rfl, u1, f1⟩ := p
    conv => whnf
    refine hZ _ _ ⟨rfl, ?_, f1⟩
    have q := u1
    simp only [List.append_assoc, List.cons_append, List.nil_append] at q ⊢
    exact q
  · replace g : ¬ cnd .ne (M.1 93 (nI b).toNatClampNeg) (cI 3) := g
    rw [cb, hk, c_ne, eo, kv_3] at g
    have e : cts own x b own = ((x ^^^ nI b) * cI 3, [40, 11]) := by unfold cts; rw [if_pos (by omega)]
    rw [e] at hZ hl
    (conv => whnf)
    refine hC _ _ _ _ _ (ac_256 _ _ _ (by omega) hT hk (by (try simp only [List.length_append, List.length_cons, List.length_nil] at *); omega)) (fun v M1 p => ?_)
    obtain ⟨rfl, u1, f1⟩ := p
    conv => whnf
    refine hZ _ _ ⟨rfl, ?_, f1⟩
    have q := u1
    simp only [List.append_assoc, List.cons_append, List.nil_append] at q ⊢
    exact q
theorem ac_254 (hb : b < 50) (ho : own < 8) : AcM b own 7 255 x (lns own x b own) := by
  intro D tr M hD hT hk hl
  obtain ⟨d, rfl⟩ : ∃ d, D = d + 7 := ⟨D - 7, by omega⟩
  have vb : vp_in (nI b) 50 := nI_vp hb (by decide)
  have cb := nI_c (n := b) (by omega)
  have eo := nI_v (n := own) (by omega)
  refine call_run 400 rfl rfl (fun B Cl Z hZ hB hC => ?_)
  (conv => whnf)
  refine ⟨vb, ?_⟩
  (conv => whnf)
  refine hC _ _ _ _ _ m_isUnder (fun v M0 p => ?_)
  obtain ⟨rfl, ⟨hu, rfl⟩ | ⟨hu, rfl⟩⟩ := p
  · replace hu : unM (M0.1 93 (nI b).toNatClampNeg) (cI 3) := hu
    rw [cb, hk] at hu
    unfold unM at hu
    rw [eo, kv_3] at hu
    have e : lns own x b own = ((lns2 (x + cI 1) b own).1, 41 :: (lns2 (x + cI 1) b own).2) := by unfold lns; rw [if_neg (by omega), if_pos (by omega)]
    rw [e] at hZ hl
    replace hl : tr.length + ((lns2 (x + cI 1) b own).2.length + 1) ≤ 24 := hl
    (conv => whnf); refine ⟨fun a => ?_, fun a => ?_⟩
    · exact absurd (show cI 1 = 0 from a) (by decide)
    (conv => whnf)
    refine hC _ _ _ _ _ (m_ran (n := 41) hT (by (try simp only [List.length_append, List.length_cons, List.length_nil] at *); omega)) (fun v M1 p => ?_)
    obtain ⟨rfl, u1, f1⟩ := p
    (conv => whnf)
    refine hC _ _ _ _ _ (ac_253 hb ho _ _ _ (by omega) u1 (Trf hk f1 (by decide)) (by (try simp only [List.length_append, List.length_cons, List.length_nil] at *); omega)) (fun v M2 p => ?_)
    obtain ⟨rfl, u2, f2⟩ := p
    conv => whnf
    refine hZ _ _ ⟨rfl, ?_, FrM_trans f1 f2⟩
    have q := u2
    simp only [List.append_assoc, List.cons_append, List.nil_append] at q ⊢
    exact q
  replace hu : ¬ unM (M0.1 93 (nI b).toNatClampNeg) (cI 3) := hu
  rw [cb, hk] at hu
  unfold unM at hu
  rw [eo, kv_3] at hu
  (conv => whnf); refine ⟨fun a => ?_, fun a => ?_⟩
  case' refine_2 => exact absurd (show cnd .eq (cI 0) 0 from rfl) a
  (conv => whnf)
  refine ⟨vb, ?_⟩
  (conv => whnf); refine ⟨fun c => ?_, fun c => ?_⟩
  case' refine_2 =>
    replace c : ¬ cnd .ne (M0.1 93 (nI b).toNatClampNeg) (cI 7) := c
    rw [cb, hk, c_ne, eo, kv_7] at c
    have e : lns own x b own = ((lns0 x b own).1 + (cts own (cI 2) b own).1, 80 :: ((lns0 x b own).2 ++ (cts own (cI 2) b own).2)) := by unfold lns; rw [if_neg (by omega), if_neg (by omega), if_pos (by omega)]
    rw [e] at hZ hl
    replace hl : tr.length + (((lns0 x b own).2 ++ (cts own (cI 2) b own).2).length + 1) ≤ 24 := hl
    rw [List.length_append] at hl
    (conv => whnf)
    refine hC _ _ _ _ _ (m_ran (n := 80) hT (by (try simp only [List.length_append, List.length_cons, List.length_nil] at *); omega)) (fun v M1 p => ?_)
    obtain ⟨rfl, u1, f1⟩ := p
    (conv => whnf)
    refine hC _ _ _ _ _ (ac_252 hb ho _ _ _ (by omega) u1 (Trf hk f1 (by decide)) (by (try simp only [List.length_append, List.length_cons, List.length_nil] at *); omega)) (fun v M2 p => ?_)
    obtain ⟨rfl, u2, f2⟩ := p
    (conv => whnf)
    refine hC _ _ _ _ _ (ac_257 hb ho _ _ _ (by omega) u2 (Trf (Trf hk f1 (by decide)) f2 (by decide)) (by (try simp only [List.length_append, List.length_cons, List.length_nil] at *); omega)) (fun v M3 p => ?_)
    obtain ⟨rfl, u3, f3⟩ := p
    conv => whnf
    refine hZ _ _ ⟨rfl, ?_, FrM_trans f1 (FrM_trans f2 f3)⟩
    have q := u3
    simp only [List.append_assoc, List.cons_append, List.nil_append] at q ⊢
    exact q
  replace c : cnd .ne (M0.1 93 (nI b).toNatClampNeg) (cI 7) := c
  rw [cb, hk, c_ne, eo, kv_7] at c
  (conv => whnf)
  refine ⟨vb, ?_⟩
  (conv => whnf); refine ⟨fun g => ?_, fun g => ?_⟩
  · replace g : cnd .ne (M0.1 93 (nI b).toNatClampNeg) (cI 2) := g
    rw [cb, hk, c_ne, eo, kv_2] at g
    have e : lns own x b own = lns0 x b own := by unfold lns; rw [if_neg (by omega), if_neg (by omega), if_neg (by omega)]
    rw [e] at hZ hl
    (conv => whnf)
    refine hC _ _ _ _ _ (ac_252 hb ho _ _ _ (by omega) hT hk (by (try simp only [List.length_append, List.length_cons, List.length_nil] at *); omega)) (fun v M1 p => ?_)
    obtain ⟨rfl, u1, f1⟩ := p
    conv => whnf
    exact hZ _ _ ⟨rfl, u1, f1⟩
  · replace g : ¬ cnd .ne (M0.1 93 (nI b).toNatClampNeg) (cI 2) := g
    rw [cb, hk, c_ne, eo, kv_2] at g
    have e : lns own x b own = lns2 x b own := by unfold lns; rw [if_pos (by omega)]
    rw [e] at hZ hl
    (conv => whnf)
    refine hC _ _ _ _ _ (ac_253 hb ho _ _ _ (by omega) hT hk (by (try simp only [List.length_append, List.length_cons, List.length_nil] at *); omega)) (fun v M1 p => ?_)
    obtain ⟨rfl, u1, f1⟩ := p
    conv => whnf
    exact hZ _ _ ⟨rfl, u1, f1⟩
theorem ac_258 (hb : b < 50) (ho : own < 8) : AcM b own 8 259 x (tls0 x b own) := by
  intro D tr M hD hT hk hl
  obtain ⟨d, rfl⟩ : ∃ d, D = d + 8 := ⟨D - 8, by omega⟩
  have e : (tls0 x b own).2.length = ((lns own x b own).2 ++ (cts own (cI 1) b own).2).length + 1 := rfl
  rw [e, List.length_append] at hl
  refine call_run 400 rfl rfl (fun B Cl Z hZ hB hC => ?_)
  (conv => whnf)
  refine hC _ _ _ _ _ (m_ran (n := 2) hT (by (try simp only [List.length_append, List.length_cons, List.length_nil] at *); omega)) (fun v M1 p => ?_)
  obtain ⟨rfl, u1, f1⟩ := p
  (conv => whnf)
  refine hC _ _ _ _ _ (ac_254 hb ho _ _ _ (by omega) u1 (Trf hk f1 (by decide)) (by (try simp only [List.length_append, List.length_cons, List.length_nil] at *); omega)) (fun v M2 p => ?_)
  obtain ⟨rfl, u2, f2⟩ := p
  (conv => whnf)
  refine hC _ _ _ _ _ (ac_257 hb ho _ _ _ (by omega) u2 (Trf (Trf hk f1 (by decide)) f2 (by decide)) (by (try simp only [List.length_append, List.length_cons, List.length_nil] at *); omega)) (fun v M3 p => ?_)
  obtain ⟨rfl, u3, f3⟩ := p
  conv => whnf
  refine hZ _ _ ⟨rfl, ?_, FrM_trans f1 (FrM_trans f2 f3)⟩
  have q := u3
  rw [List.append_assoc, List.append_assoc] at q
  exact q
theorem ac_259 (hb : b < 50) (ho : own < 8) : AcM b own 9 260 x (tls own x b own) := by
  intro D tr M hD hT hk hl
  obtain ⟨d, rfl⟩ : ∃ d, D = d + 9 := ⟨D - 9, by omega⟩
  have vb : vp_in (nI b) 50 := nI_vp hb (by decide)
  have cb := nI_c (n := b) (by omega)
  have eo := nI_v (n := own) (by omega)
  refine call_run 400 rfl rfl (fun B Cl Z hZ hB hC => ?_)
  (conv => whnf)
  refine ⟨vb, ?_⟩
  (conv => whnf); refine ⟨fun a => ?_, fun a => ?_⟩
  case' refine_2 =>
    replace a : ¬ cnd .ne (M.1 93 (nI b).toNatClampNeg) (cI 4) := a
    rw [cb, hk, c_ne, eo, kv_4] at a
    have e : tls own x b own = ((tls0 x b own).1 ^^^ cI 5, 50 :: (tls0 x b own).2) := by unfold tls; rw [if_pos (by omega)]
    rw [e] at hZ hl
    replace hl : tr.length + ((tls0 x b own).2.length + 1) ≤ 24 := hl
    (conv => whnf)
    refine hC _ _ _ _ _ (m_ran (n := 50) hT (by (try simp only [List.length_append, List.length_cons, List.length_nil] at *); omega)) (fun v M1 p => ?_)
    obtain ⟨rfl, u1, f1⟩ := p
    (conv => whnf)
    refine hC _ _ _ _ _ (ac_258 hb ho _ _ _ (by omega) u1 (Trf hk f1 (by decide)) (by (try simp only [List.length_append, List.length_cons, List.length_nil] at *); omega)) (fun v M2 p => ?_)
    obtain ⟨rfl, u2, f2⟩ := p
    conv => whnf
    refine hZ _ _ ⟨rfl, ?_, FrM_trans f1 f2⟩
    have q := u2
    simp only [List.append_assoc, List.cons_append, List.nil_append] at q ⊢
    exact q
  replace a : cnd .ne (M.1 93 (nI b).toNatClampNeg) (cI 4) := a
  rw [cb, hk, c_ne, eo, kv_4] at a
  (conv => whnf)
  refine ⟨vb, ?_⟩
  (conv => whnf); refine ⟨fun g => ?_, fun g => ?_⟩
  · replace g : cnd .ne (M.1 93 (nI b).toNatClampNeg) (cI 5) := g
    rw [cb, hk, c_ne, eo, kv_5] at g
    have e : tls own x b own = tls0 x b own := by unfold tls; rw [if_neg (by omega), if_neg (by omega)]
    rw [e] at hZ hl
    (conv => whnf)
    refine hC _ _ _ _ _ (ac_258 hb ho _ _ _ (by omega) hT hk (by (try simp only [List.length_append, List.length_cons, List.length_nil] at *); omega)) (fun v M1 p => ?_)
    obtain ⟨rfl, u1, f1⟩ := p
    conv => whnf
    exact hZ _ _ ⟨rfl, u1, f1⟩
  · replace g : ¬ cnd .ne (M.1 93 (nI b).toNatClampNeg) (cI 5) := g
    rw [cb, hk, c_ne, eo, kv_5] at g
    have e : tls own x b own = ((tls0 x b own).1 + cI 1, 61 :: (tls0 x b own).2) := by unfold tls; rw [if_neg (by omega), if_pos (by omega)]
    rw [e] at hZ hl
    replace hl : tr.length + ((tls0 x b own).2.length + 1) ≤ 24 := hl
    (conv => whnf)
    refine hC _ _ _ _ _ (m_ran (n := 61) hT (by (try simp only [List.length_append, List.length_cons, List.length_nil] at *); omega)) (fun v M1 p => ?_)
    obtain ⟨rfl, u1, f1⟩ := p
    (conv => whnf)
    refine hC _ _ _ _ _ (ac_258 hb ho _ _ _ (by omega) u1 (Trf hk f1 (by decide)) (by (try simp only [List.length_append, List.length_cons, List.length_nil] at *); omega)) (fun v M2 p => ?_)
    obtain ⟨rfl, u2, f2⟩ := p
    conv => whnf
    refine hZ _ _ ⟨rfl, ?_, FrM_trans f1 f2⟩
    have q := u2
    simp only [List.append_assoc, List.cons_append, List.nil_append] at q ⊢
    exact q
end ACT
theorem m_act {d : Nat} {M : Mem} {s : St} {b w x : Int32} (h : RM M s) (hv : inv s) : Call (d + 10) 261 [.ref 55, .int b, .int w, .int x] M (QP M (.int (aAct s b w x).1) (aAct s b w x).2) := by
  obtain ⟨h1, h2, h3, h4, h5, h6, h7, h8, h9, h10⟩ := id h
  have h50 := hv.2.2.2.2.1.1
  have hf0 : FrM [] [60] M (mI M 55 60 (cI 0)) := FrM_s FrM_refl (by decide)
  have fin : ∀ (a : AR) (M' : Mem), actF (sKs s) b w x = a → RMr M' a.2 → FrM [94] [60] M M' → QP M (.int (aAct s b w x).1) (aAct s b w x).2 (some (.int a.1)) M' := by
    intro a M' e hr hf
    unfold aAct
    rw [e]
    exact ⟨rfl, RM_st h hf (RMk_fr h1 hf (by decide) (by decide)) (RMn_f h2 hf (by decide)) (RMd_f h4 hf (by decide)) (RMi_f h5 hf (by decide) (by decide)) (RMt_f h6 hf (by decide) (by decide)) (RMb_f h7 hf (by decide) (by decide)) hr (RMs_f h9 hf (by decide)) (RMc_f h10 hf (by decide) (by decide)) (RMl_f h3 hf (by decide) (by decide)), Fr_sub hf.1 (by decide)⟩
  refine call_run 400 rfl rfl (fun B Cl Z hZ hB hC => ?_)
  (conv => whnf)
  have hb58 : (mI M 55 60 (cI 0)).1 55 58 = nI (sKs s).length := by rw [FrM_j hf0 58 (by decide)]; exact h7.1
  have hr0 : RMr (mI M 55 60 (cI 0)) [] := ⟨rfl, fun i c q => by cases q⟩
  have hk0 : ∀ i k, (sKs s)[i]? = some k → (mI M 55 60 (cI 0)).1 93 i = nI k := fun i k q => by rw [mI_ne _ _ _ (by decide)]; exact h7.2 i k q
  generalize mI M 55 60 (cI 0) = M1 at hf0 hb58 hr0 hk0 ⊢
  have hf1 : FrM [94] [60] M M1 := FrM_sub hf0 (by decide) (by decide)
  refine ret_k hC (m_isBody hb58 h50) ?_
  (conv => whnf); refine ⟨fun a => ?_, fun a => ?_⟩
  · rw [b2_z] at a
    have e : actF (sKs s) b w x = (cI 0, []) := if_neg a
    conv => whnf
    exact hZ _ _ (fin _ M1 e hr0 hf1)
  rw [b2_z] at a
  have a := Classical.not_not.mp a
  obtain ⟨i, rfl, ei, hi⟩ := to_nI a.1
  have hil : i < (sKs s).length := by omega
  have hg := at_get (l := sKs s) hil
  have hk8 := hv.2.2.2.2.1.2 i _ hg
  have hk := hk0 i _ hg
  have e0 : (nI i).toInt.toNat = i := by rw [ei]; rfl
  have eA : actF (sKs s) (nI i) w x = (if w.toInt = 0 then lys ((sKs s).getD i 0) x i else if w.toInt = 1 then lns ((sKs s).getD i 0) x i ((sKs s).getD i 0)
      else if w.toInt = 2 then cts ((sKs s).getD i 0) x i ((sKs s).getD i 0) else if w.toInt = 3 then tls ((sKs s).getD i 0) x i ((sKs s).getD i 0) else (cI 0, [])) := by
    unfold actF
    rw [if_pos a, e0]
  generalize (sKs s).getD i 0 = own at hk8 hk eA
  (conv => whnf); refine ret_k hC (m_in) ?_
  rw [kv_0, kv_3]
  (conv => whnf); refine ⟨fun c => ?_, fun c => ?_⟩
  case' refine_2 =>
    rw [b2_nz] at c
    rw [if_neg (by omega), if_neg (by omega), if_neg (by omega), if_neg (by omega)] at eA
    conv => whnf
    exact hZ _ _ (fin _ M1 eA hr0 hf1)
  rw [b2_nz] at c
  (conv => whnf); refine ⟨fun g0 => ?_, fun g0 => ?_⟩
  case' refine_2 =>
    simp only [c_lt, c_gt, c_le, c_ge, c_eq, c_ne, b2_z, b2_nz, b2_i, Classical.not_not, t0, t1, Nat.reduceMod, Nat.reduceDiv, Int.reduceAdd, Int.reduceNeg, Nat.reduceAdd, kv_0, kv_1, kv_2, kv_3, kc_0, kc_1, kc_2, kc_3] at g0
    rw [if_pos g0] at eA
    (conv => whnf)
    refine hC _ _ _ _ _ (ac_251 (show i < 50 by omega) hk8 _ _ _ (by omega) hr0 hk (by have := lys_l own x i; simp only [List.length_nil]; omega)) (fun v M2 p => ?_)
    obtain ⟨rfl, u2, f2⟩ := p
    conv => whnf
    exact hZ _ _ (fin _ M2 eA u2 (FrM_trans hf1 f2))
  simp only [c_lt, c_gt, c_le, c_ge, c_eq, c_ne, b2_z, b2_nz, b2_i, Classical.not_not, t0, t1, Nat.reduceMod, Nat.reduceDiv, Int.reduceAdd, Int.reduceNeg, Nat.reduceAdd, kv_0, kv_1, kv_2, kv_3, kc_0, kc_1, kc_2, kc_3] at g0
  rw [if_neg g0] at eA
  (conv => whnf); refine ⟨fun g1 => ?_, fun g1 => ?_⟩
  case' refine_2 =>
    simp only [c_lt, c_gt, c_le, c_ge, c_eq, c_ne, b2_z, b2_nz, b2_i, Classical.not_not, t0, t1, Nat.reduceMod, Nat.reduceDiv, Int.reduceAdd, Int.reduceNeg, Nat.reduceAdd, kv_0, kv_1, kv_2, kv_3, kc_0, kc_1, kc_2, kc_3] at g1
    rw [if_pos (by omega)] at eA
    (conv => whnf)
    refine hC _ _ _ _ _ (ac_254 (show i < 50 by omega) hk8 _ _ _ (by omega) hr0 hk (by have := lns_l own x i own; simp only [List.length_nil]; omega)) (fun v M2 p => ?_)
    obtain ⟨rfl, u2, f2⟩ := p
    conv => whnf
    exact hZ _ _ (fin _ M2 eA u2 (FrM_trans hf1 f2))
  simp only [c_lt, c_gt, c_le, c_ge, c_eq, c_ne, b2_z, b2_nz, b2_i, Classical.not_not, t0, t1, Nat.reduceMod, Nat.reduceDiv, Int.reduceAdd, Int.reduceNeg, Nat.reduceAdd, kv_0, kv_1, kv_2, kv_3, kc_0, kc_1, kc_2, kc_3] at g1
  rw [if_neg (by omega)] at eA
  (conv => whnf); refine ⟨fun g2 => ?_, fun g2 => ?_⟩
  case' refine_2 =>
    simp only [c_lt, c_gt, c_le, c_ge, c_eq, c_ne, b2_z, b2_nz, b2_i, Classical.not_not, t0, t1, Nat.reduceMod, Nat.reduceDiv, Int.reduceAdd, Int.reduceNeg, Nat.reduceAdd, kv_0, kv_1, kv_2, kv_3, kc_0, kc_1, kc_2, kc_3] at g2
    rw [if_pos (by omega)] at eA
    (conv => whnf)
    refine hC _ _ _ _ _ (ac_257 (show i < 50 by omega) hk8 _ _ _ (by omega) hr0 hk (by have := cts_l own x i own; simp only [List.length_nil]; omega)) (fun v M2 p => ?_)
    obtain ⟨rfl, u2, f2⟩ := p
    conv => whnf
    exact hZ _ _ (fin _ M2 eA u2 (FrM_trans hf1 f2))
  simp only [c_lt, c_gt, c_le, c_ge, c_eq, c_ne, b2_z, b2_nz, b2_i, Classical.not_not, t0, t1, Nat.reduceMod, Nat.reduceDiv, Int.reduceAdd, Int.reduceNeg, Nat.reduceAdd, kv_0, kv_1, kv_2, kv_3, kc_0, kc_1, kc_2, kc_3] at g2
  rw [if_neg (by omega), if_pos (by omega)] at eA
  (conv => whnf)
  refine hC _ _ _ _ _ (ac_259 (show i < 50 by omega) hk8 _ _ _ (by omega) hr0 hk (by have := tls_l own x i own; simp only [List.length_nil]; omega)) (fun v M2 p => ?_)
  obtain ⟨rfl, u2, f2⟩ := p
  conv => whnf
  exact hZ _ _ (fin _ M2 eA u2 (FrM_trans hf1 f2))
