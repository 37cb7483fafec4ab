/-! the reference: of, changes, mend -/
theorem m_of {d : Nat} {M : Mem} {s : St} {x w : Int32} (h : RM M s) (hv : inv s) : Call (d + 5) 177 [.ref 55, .int x, .int w] M (QP M (.int (aOf s x w)) s) := by
  refine call_run 400 rfl rfl (fun B Cl Z hZ hB hC => ?_)
  (conv => whnf); refine ⟨fun a => ?_, fun a => ?_⟩
  · simp only [c_lt, c_gt, c_le, c_ge, c_eq, c_ne, b2_z, b2_nz, b2_i, Classical.not_not, t0, t1, Nat.reduceMod, Nat.reduceDiv, Int.reduceAdd, Int.reduceNeg, Nat.reduceAdd, kv_m1, kv_8, kc_8] at a
    have e8 : aOf s x w = oI (oneA s x w) := if_neg a
    rw [e8] at hZ
    (conv => whnf)
    refine hC _ _ _ _ _ (m_isOne h hv) (fun v M1 p => ?_)
    obtain ⟨rfl, ⟨p1, rfl⟩ | ⟨u, p1, rfl⟩⟩ := p
    · rw [p1] at hZ
      (conv => whnf); refine ⟨fun _ => ?_, fun z => absurd rfl z⟩
      conv => whnf
      exact hZ _ _ (QP_same h FrM_refl)
    · rw [p1] at hZ
      (conv => whnf); refine ⟨fun z => absurd z (by rw [c_eq]; decide), fun _ => ?_⟩
      (conv => whnf); refine ret_k hC (m_valueAt h hv p1) ?_
      conv => whnf
      exact hZ _ _ (QP_same h FrM_refl)
  · simp only [c_lt, c_gt, c_le, c_ge, c_eq, c_ne, b2_z, b2_nz, b2_i, Classical.not_not, t0, t1, Nat.reduceMod, Nat.reduceDiv, Int.reduceAdd, Int.reduceNeg, Nat.reduceAdd, kv_m1, kv_8, kc_8] at a
    have e8 : aOf s x w = (if 0 ≤ x.toInt ∧ x.toInt < ((sK s).length : Int) then nI (hgt (sK s) x.toInt.toNat) else cI (-1)) := if_pos (by omega)
    rw [e8] at hZ
    (conv => whnf); refine ret_k hC (m_isRick h.1.1 hv.1.1) ?_
    (conv => whnf); refine ⟨fun b => ?_, fun b => ?_⟩
    · rw [b2_z] at b
      rw [if_neg b] at hZ
      conv => whnf
      exact hZ _ _ (QP_same h FrM_refl)
    · rw [b2_z] at b
      have b := Classical.not_not.mp b
      rw [if_pos b] at hZ
      obtain ⟨i, rfl, ei, hi⟩ := to_nI b.1
      have h4 := hv.1.1
      (conv => whnf)
      refine ⟨nI_vp (by omega) (by decide), ?_⟩
      conv => whnf
      rw [nI_c hi]
      refine hZ _ _ (QP_v h FrM_refl (congrArg Value.int ?_))
      rw [ei]
      exact (h.1.2 i (by omega)).1
theorem RMc_add {M M' : Mem} {g : List AChg} {n1 : Nat} {a : AChg} (hl : g.length = n1) (hg : ∀ i x, g[i]? = some x → M.1 63 i = nI x.1 ∧ M.1 64 i = cgA x ∧ M.1 65 i = nI x.2.2.1 ∧ M.1 66 i = nI x.2.2.2)
    (h9 : M'.1 55 9 = nI (n1 + 1)) (h10 : M'.1 55 10 = nI 0) (e63 : M'.1 63 = upd (M.1 63) n1 (nI a.1)) (e64 : M'.1 64 = upd (M.1 64) n1 (cgA a)) (e65 : M'.1 65 = upd (M.1 65) n1 (nI a.2.2.1)) (e66 : M'.1 66 = upd (M.1 66) n1 (nI a.2.2.2)) : RMc M' (g ++ [a]) (g ++ [a]).length := by
  refine ⟨by rw [h9, List.length_append, hl]; rfl, by rw [h10, Nat.sub_self], fun i x hx => ?_⟩
  rw [e63, e64, e65, e66]
  unfold upd
  rcases Nat.lt_or_ge i g.length with z | z
  · rw [List.getElem?_append_left z] at hx
    have : ¬ i = n1 := by omega
    rw [if_neg this, if_neg this, if_neg this, if_neg this]
    exact hg i x hx
  · rw [List.getElem?_append_right z] at hx
    rcases Nat.eq_zero_or_pos (i - g.length) with w | w
    · rw [w] at hx
      cases hx
      have : i = n1 := by omega
      rw [if_pos this, if_pos this, if_pos this, if_pos this]
      exact ⟨rfl, rfl, rfl, rfl⟩
    · rw [List.getElem?_eq_none (by show 1 ≤ _; omega)] at hx
      cases hx
section CH
variable {d what p was v : Nat} {M0 : Mem} {s : St}
theorem ch_tail (h : RM M0 s) (hv : inv s) (hw : what < 8) (hp : whOk (sK s) what (some p)) (hp64 : p < 64) {g1 : List AChg} {n1 : Nat} {M : Mem} (hl : g1.length = n1) (hn1 : n1 < 40) (hg1 : g1 ++ [(what, some p, was, v)] = addG (sCg s) (sN s) (what, some p, was, v)) (hf : FrM [63, 64, 65, 66] [9, 10] M0 M) (h9 : M.1 55 9 = nI n1) (h10 : M.1 55 10 = nI 0)
    (hg : ∀ i x, g1[i]? = some x → M.1 63 i = nI x.1 ∧ M.1 64 i = cgA x ∧ M.1 65 i = nI x.2.2.1 ∧ M.1 66 i = nI x.2.2.2) : ∀ (Cl : Nat → List Value → Mem → Po → Prop), (∀ k' as M (Q1 Q2 : Po), Call (d + 2) k' as M Q1 → (∀ r M', Q1 r M' → Q2 r M') → Cl k' as M Q2) → ∀ (P : Po), (∀ M', RM M' (mendS s what p was v) → Fr MA M0 M' → P none M') →
    Cl 168 [.ref 55, .int (nI what), .int (nI p), .int (nI v)] (mI (mI (mI (mI (mI M 63 n1 (nI what)) 64 n1 (nI p)) 65 n1 (nI was)) 66 n1 (nI v)) 55 9 (nI (n1 + 1))) P := by
  intro Cl hC P hP
  have hf2 : FrM [63, 64, 65, 66] [9, 10] M0 (mI (mI (mI (mI (mI M 63 n1 (nI what)) 64 n1 (nI p)) 65 n1 (nI was)) 66 n1 (nI v)) 55 9 (nI (n1 + 1))) := FrM_s (FrM_a (FrM_a (FrM_a (FrM_a hf (by decide) (by decide)) (by decide) (by decide)) (by decide) (by decide)) (by decide) (by decide)) (by decide)
  have hc := RMc_add (M := M) (M' := (mI (mI (mI (mI (mI M 63 n1 (nI what)) 64 n1 (nI p)) 65 n1 (nI was)) 66 n1 (nI v)) 55 9 (nI (n1 + 1)))) (a := (what, some p, was, v)) hl hg rfl h10 rfl rfl rfl rfl
  generalize (mI (mI (mI (mI (mI M 63 n1 (nI what)) 64 n1 (nI p)) 65 n1 (nI was)) 66 n1 (nI v)) 55 9 (nI (n1 + 1))) = M1 at hf2 hc ⊢
  rw [hg1] at hc
  refine hC _ _ _ _ _ (m_lays (s := wC s (addG (sCg s) (sN s) (what, some p, was, v)) (addG (sCg s) (sN s) (what, some p, was, v)).length) (p := some p) (v := v) (RMk_fr h.1 hf2 (by decide) (by decide)) (RMn_f h.2.1 hf2 (by decide)) hv.1 hw hp) (fun r M2 q => ?_)
  obtain ⟨rfl, f2, f3, f4⟩ := q
  have := RM_tell h hf2 (by decide) (by decide) hc f2 f3 f4
  exact hP M2 this.1 this.2
theorem ch_loop (h : RM M0 s) (hv : inv s) (hw : what < 8) (hp : whOk (sK s) what (some p)) (hp64 : p < 64) (h40 : sN s = 40) {M1 : Mem} (hf1 : FrM [] [10] M0 M1) (h10 : M1.1 55 10 = nI 0) : ∀ (n k : Nat) (M : Mem), k + n = 40 → 1 ≤ k → FrM [63, 64, 65, 66] [] M1 M → (∀ j, j < 4 → ∀ i, M.1 (63 + j) i = if i + 1 < k then M1.1 (63 + j) (i + 1) else M1.1 (63 + j) i) →
    BodyK (d + 3) 169 34 [(0, .ref 55), (1, .int (nI what)), (2, .int (nI p)), (3, .int (nI v)), (4, .int (nI was)), (5, .int (nI k))] [] M (QP M0 (.int (nI was)) (mendS s what p was v)) := by
  obtain ⟨hn1, hn2, -⟩ := hv.2.2.2.2.2.2.2.1
  have hr := h.2.2.2.2.2.2.2.2.2
  intro n
  induction n with
  | zero =>
    intro k M hk hk1 hf h4
    obtain rfl : k = 40 := by omega
    have m9 : M.1 55 9 = nI 40 := by rw [FrM_j hf 9 (by decide), FrM_j hf1 9 (by decide), hr.1, h40]
    have m39 : M.1 55 9 - cI 1 = nI 39 := by rw [m9]; exact nI_sub (b := 1) (by decide)
    have vp : vp_in (M.1 55 9 - cI 1) 40 := by rw [m39]; exact nI_vp (by decide) (by decide)
    have c39 : (M.1 55 9 - cI 1).toNatClampNeg = 39 := by rw [m39]; exact nI_c (by decide)
    have hf9 : FrM [63, 64, 65, 66] [9, 10] M0 (mI M 55 9 (nI 39)) := FrM_s (FrM_trans (FrM_sub hf1 (by decide) (by decide)) (FrM_sub hf (by decide) (by decide))) (by decide)
    have ct := ch_tail (d := d) (was := was) (v := v) (g1 := (sCg s).tail) (n1 := 39) (M := mI M 55 9 (nI 39)) h hv hw hp hp64 (by rw [List.length_tail]; omega) (by decide) (by unfold addG; rw [if_pos h40]) hf9 rfl (by show M.1 55 10 = nI 0; rw [FrM_j hf 10 (by decide)]; exact h10) (fun i x hx => by
      rw [List.getElem?_tail] at hx
      have hlt : i + 1 < (sCg s).length := by
        rcases Nat.lt_or_ge (i + 1) (sCg s).length with z | z
        · exact z
        · rw [List.getElem?_eq_none z] at hx; cases hx
      have q := hr.2.2 (i + 1) x hx
      have a0 := h4 0 (by decide) i
      have a1 := h4 1 (by decide) i
      have a2 := h4 2 (by decide) i
      have a3 := h4 3 (by decide) i
      rw [if_pos (by omega)] at a0 a1 a2 a3
      rw [mI_ne _ _ _ (by decide), mI_ne _ _ _ (by decide), mI_ne _ _ _ (by decide), mI_ne _ _ _ (by decide)]
      rw [show 63 = 63 + 0 from rfl, a0, show 64 = 63 + 1 from rfl, a1, show 65 = 63 + 2 from rfl, a2, show 66 = 63 + 3 from rfl, a3]
      rw [FrM_c hf1 (by decide) (by decide), FrM_c hf1 (by decide) (by decide), FrM_c hf1 (by decide) (by decide), FrM_c hf1 (by decide) (by decide)]
      exact q)
    refine body_run 400 rfl (fun B Cl Z hZ hB hC => ?_)
    (conv => whnf); refine ⟨fun b => ?_, fun b => absurd (show cnd .ge (nI 40) (cI 40) by rw [c_ge]; decide) b⟩
    (conv => whnf)
    refine ⟨vp, ?_⟩
    (conv => whnf)
    refine ⟨vp, ?_⟩
    (conv => whnf)
    refine ⟨vp, ?_⟩
    (conv => whnf)
    refine ⟨vp, ?_⟩
    (conv => whnf)
    show Cl 168 [.ref 55, .int (nI what), .int (nI p), .int (nI v)] (mI (mI (mI (mI (mI (mI M 55 9 (M.1 55 9 - cI 1)) 63 (M.1 55 9 - cI 1).toNatClampNeg (nI what)) 64 (M.1 55 9 - cI 1).toNatClampNeg (nI p)) 65 (M.1 55 9 - cI 1).toNatClampNeg (nI was)) 66 (M.1 55 9 - cI 1).toNatClampNeg (nI v)) 55 9 (M.1 55 9 - cI 1 + cI 1)) _
    rw [c39, m39, nI_i1]
    refine ct Cl hC _ (fun M' r1 r2 => ?_)
    conv => whnf
    exact hZ _ _ ⟨rfl, r1, r2⟩
  | succ n ih =>
    intro k M hk hk1 hf h4
    have ek := nI_v (n := k) (by omega)
    have ck := nI_c (n := k) (by omega)
    have em : nI k - cI 1 = nI (k - 1) := nI_sub (b := 1) hk1
    have cm := nI_c (n := k - 1) (by omega)
    have vk : vp_in (nI k) 40 := nI_vp (by omega) (by decide)
    have vm : vp_in (nI k - cI 1) 40 := by rw [em]; exact nI_vp (by omega) (by decide)
    refine body_run 400 rfl (fun B Cl Z hZ hB hC => ?_)
    (conv => whnf); refine ⟨fun b => ?_, fun b => ?_⟩
    · simp only [c_lt, c_gt, c_le, c_ge, c_eq, c_ne, b2_z, b2_nz, b2_i, Classical.not_not, t0, t1, Nat.reduceMod, Nat.reduceDiv, Int.reduceAdd, Int.reduceNeg, Nat.reduceAdd, kv_0, kv_1, kv_40, kc_0, kc_1, kc_40, ek] at b
      omega
    (conv => whnf)
    refine ⟨vk, ?_⟩
    (conv => whnf)
    refine ⟨vm, ?_⟩
    (conv => whnf)
    refine ⟨vk, ?_⟩
    (conv => whnf)
    refine ⟨vm, ?_⟩
    (conv => whnf)
    refine ⟨vk, ?_⟩
    (conv => whnf)
    refine ⟨vm, ?_⟩
    (conv => whnf)
    refine ⟨vk, ?_⟩
    (conv => whnf)
    refine ⟨vm, ?_⟩
    (conv => whnf)
    rw [em, ck, cm]
    show B 34 _ _ (mI (mI (mI (mI M 63 (k - 1) (M.1 63 k)) 64 (k - 1) (M.1 64 k)) 65 (k - 1) (M.1 65 k)) 66 (k - 1) (M.1 66 k))
    have hf2 : FrM [63, 64, 65, 66] [] M1 (mI (mI (mI (mI M 63 (k - 1) (M.1 63 k)) 64 (k - 1) (M.1 64 k)) 65 (k - 1) (M.1 65 k)) 66 (k - 1) (M.1 66 k)) := FrM_a (FrM_a (FrM_a (FrM_a hf (by decide) (by decide)) (by decide) (by decide)) (by decide) (by decide)) (by decide) (by decide)
    have h42 : ∀ j, j < 4 → (mI (mI (mI (mI M 63 (k - 1) (M.1 63 k)) 64 (k - 1) (M.1 64 k)) 65 (k - 1) (M.1 65 k)) 66 (k - 1) (M.1 66 k)).1 (63 + j) = upd (M.1 (63 + j)) (k - 1) (M.1 (63 + j) k) := fun j hj => by
      match j, hj with
      | 0, _ => rfl
      | 1, _ => rfl
      | 2, _ => rfl
      | 3, _ => rfl
    generalize (mI (mI (mI (mI M 63 (k - 1) (M.1 63 k)) 64 (k - 1) (M.1 64 k)) 65 (k - 1) (M.1 65 k)) 66 (k - 1) (M.1 66 k)) = M2 at hf2 h42 ⊢
    refine hB _ _ _ _ (Body_lv (ih (k + 1) M2 (by omega) (by omega) hf2 (fun j hj i => ?_)) ⟨rfl, rfl, rfl, rfl, rfl, v_eq (nI_i1 k), trivial⟩)
    rw [h42 j hj]
    unfold upd
    by_cases z : i = k - 1
    · rw [if_pos z, if_pos (by omega), h4 j hj k, if_neg (by omega), show i + 1 = k by omega]
    · rw [if_neg z, h4 j hj i]
      by_cases y : i + 1 < k
      · rw [if_pos y, if_pos (by omega)]
      · rw [if_neg y, if_neg (by omega)]
theorem m_changes {x w : Int32} (h : RM M0 s) (hv : inv s) (ho : oneA s x w = some was) (hvb : v < 2147483648) (hwb : was < 2147483648) : Call (d + 3) 169 [.ref 55, .int w, .int x, .int (nI v)] M0 (QP M0 (.int (nI was)) (if v = was then s else mendS s w.toInt.toNat x.toInt.toNat was v)) := by
  obtain ⟨⟨w1, w2⟩, n1, hcase⟩ := oneA_w ho
  obtain ⟨wn, rfl, ew, hwn⟩ := to_nI w1
  obtain ⟨n, rfl, en, hn⟩ := to_nI n1
  rw [ew, en] at hcase
  rw [ew] at w2
  rw [show ((wn : Int)).toNat = wn from rfl, show ((n : Int)).toNat = n from rfl, lyA_x hn] at hcase
  rw [ew, en]
  rw [show ((wn : Int)).toNat = wn from rfl, show ((n : Int)).toNat = n from rfl]
  obtain ⟨hn1, hn2, -⟩ := hv.2.2.2.2.2.2.2.1
  have hr := h.2.2.2.2.2.2.2.2.2
  have e40 := nI_v (n := sN s) (by omega)
  have hp : whOk (sK s) wn (some n) ∧ n < 64 := by
    unfold whOk
    rcases hcase with ⟨z, q, hq, hw⟩ | ⟨z, z2, -⟩ | ⟨z, z2, -⟩
    · rw [if_pos (by omega)]
      exact ⟨fun p hp => by cases hp; exact ly_lt hq, (pos_b hv.1 (ly_lt hq)).1⟩
    · rw [if_neg (by omega)]
      exact ⟨⟨n, rfl, by rw [if_pos (by omega)]; omega⟩, by omega⟩
    · rw [if_neg (by omega)]
      exact ⟨⟨n, rfl, by rw [if_neg (by omega)]; omega⟩, by omega⟩
  have ev := nI_v hvb
  have ewas := nI_v hwb
  refine call_run 400 rfl rfl (fun B Cl Z hZ hB hC => ?_)
  (conv => whnf); refine ret_k hC (m_valueAt h hv ho) ?_
  (conv => whnf); refine ⟨fun b => ?_, fun b => ?_⟩
  case' refine_2 =>
    replace b : ¬ cnd .ne (nI was) (nI v) := b
    rw [c_ne, ewas, ev] at b
    rw [if_pos (by omega)] at hZ
    conv => whnf
    exact hZ _ _ (QP_same h FrM_refl)
  replace b : cnd .ne (nI was) (nI v) := b
  rw [c_ne, ewas, ev] at b
  rw [if_neg (by omega)] at hZ hB
  have hf1 : FrM [] [10] M0 (mI M0 55 10 (cI 0)) := FrM_s FrM_refl (by decide)
  have z10 : (mI M0 55 10 (cI 0)).1 55 10 = nI 0 := rfl
  have z9 : (mI M0 55 10 (cI 0)).1 55 9 = nI (sN s) := hr.1
  (conv => whnf); refine ⟨fun g => ?_, fun g => ?_⟩
  case' refine_2 =>
    replace g : ¬ cnd .ne (M0.1 55 9) (cI 40) := g
    rw [hr.1, c_ne, e40, kv_40] at g
    (conv => whnf)
    exact hB _ _ _ _ (Body_lv (ch_loop (d := d) (M1 := mI M0 55 10 (cI 0)) h hv (by omega) hp.1 hp.2 (by omega) hf1 z10 39 1 _ rfl (by decide) FrM_refl (fun j hj i => by rw [if_neg (by omega)]; rfl)) ⟨rfl, rfl, rfl, rfl, rfl, rfl, trivial⟩)
  replace g : cnd .ne (M0.1 55 9) (cI 40) := g
  rw [hr.1, c_ne, e40, kv_40] at g
  have vp : vp_in (M0.1 55 9) 40 := by rw [hr.1]; exact nI_vp (by omega) (by decide)
  have c9 : (M0.1 55 9).toNatClampNeg = sN s := by rw [hr.1]; exact nI_c (by omega)
  have ct := ch_tail (d := d) (was := was) (v := v) (g1 := (sCg s).take (sN s)) (n1 := sN s) (M := mI M0 55 10 (cI 0)) h hv (by omega) hp.1 hp.2 (by rw [List.length_take]; omega) (by omega) (by unfold addG; rw [if_neg (by omega)]) (FrM_sub hf1 (by decide) (by decide)) z9 z10 (fun i x hx => by
      rw [List.getElem?_take] at hx
      split at hx
      · exact hr.2.2 i x hx
      · cases hx)
  (conv => whnf)
  refine ⟨vp, ?_⟩
  (conv => whnf)
  refine ⟨vp, ?_⟩
  (conv => whnf)
  refine ⟨vp, ?_⟩
  (conv => whnf)
  refine ⟨vp, ?_⟩
  (conv => whnf)
  show Cl 168 [.ref 55, .int (nI wn), .int (nI n), .int (nI v)] (mI (mI (mI (mI (mI (mI M0 55 10 (cI 0)) 63 (M0.1 55 9).toNatClampNeg (nI wn)) 64 (M0.1 55 9).toNatClampNeg (nI n)) 65 (M0.1 55 9).toNatClampNeg (nI was)) 66 (M0.1 55 9).toNatClampNeg (nI v)) 55 9 (M0.1 55 9 + cI 1)) _
  rw [c9, hr.1, nI_i1]
  refine ct Cl hC _ (fun M' r1 r2 => ?_)
  conv => whnf
  exact hZ _ _ ⟨rfl, r1, r2⟩
theorem m_mend {x w y : Int32} (h : RM M0 s) (hv : inv s) : Call (d + 5) 176 [.ref 55, .int x, .int w, .int y] M0 (QP M0 (.int (aMend s x w y).1) (aMend s x w y).2) := by
  refine call_run 400 rfl rfl (fun B Cl Z hZ hB hC => ?_)
  (conv => whnf)
  refine hC _ _ _ _ _ (m_isOne h hv) (fun r M1 p => ?_)
  obtain ⟨rfl, ⟨p1, rfl⟩ | ⟨u, p1, rfl⟩⟩ := p
  · have e9 : aMend s x w y = (cI (-1), s) := by unfold aMend; rw [p1]
    rw [e9] at hZ
    (conv => whnf); refine ⟨fun _ => ?_, fun z => absurd rfl z⟩
    conv => whnf
    exact hZ _ _ (QP_same h FrM_refl)
  · (conv => whnf); refine ⟨fun z => absurd z (by rw [c_eq]; decide), fun _ => ?_⟩
    obtain ⟨⟨w1, w2⟩, n1, hcase⟩ := oneA_w p1
    obtain ⟨wn, rfl, ew, hwn⟩ := to_nI w1
    have e8 : aMend s x (nI wn) y = (haveI := Classical.propDecidable (mayV (nI wn) y); if mayV (nI wn) y then (nI u, if y.toInt.toNat = u then s else mendS s (nI wn).toInt.toNat x.toInt.toNat u y.toInt.toNat) else (cI (-1), s)) := by unfold aMend; rw [p1]
    rw [e8] at hZ
    (conv => whnf)
    refine hC _ _ _ _ _ (m_mayHave (show wn < 8 by omega)) (fun r M2 q => ?_)
    obtain ⟨rfl, ⟨q1, rfl⟩ | ⟨q1, rfl⟩⟩ := q
    · rw [if_pos q1] at hZ
      (conv => whnf); refine ⟨fun z => absurd z (by rw [c_eq]; decide), fun _ => ?_⟩
      obtain ⟨yn, rfl, ey, hy⟩ := to_nI q1.1
      have hu : u < 2147483648 := by
        rcases hcase with ⟨z, q, hq, rfl⟩ | ⟨z, z2, rfl⟩ | ⟨z, z2, rfl⟩
        · have := lyF_lt (q := q) (by
            rw [lyA, if_pos n1] at hq
            exact hv.1.2.2 _ _ _ hq) (nI wn).toInt.toNat
          omega
        · have := hv.2.2.1.2.2.1 x.toInt.toNat (by omega)
          omega
        · obtain ⟨h1, h2, -, h4⟩ := hv.2.2.1
          split <;> (try split) <;> omega
      (conv => whnf)
      refine hC _ _ _ _ _ (m_changes (d := d + 1) h hv p1 hy hu) (fun r M2 q => ?_)
      obtain ⟨rfl, f2, f3⟩ := q
      rw [ey] at hZ
      conv => whnf
      exact hZ _ _ ⟨rfl, f2, f3⟩
    · rw [if_neg q1] at hZ
      (conv => whnf); refine ⟨fun _ => ?_, fun z => absurd rfl z⟩
      conv => whnf
      exact hZ _ _ (QP_same h FrM_refl)
end CH
