/-! the reference: winters by draws -/
def DA : List Nat := [73, 74, 75, 76, 77, 78, 79]
theorem DAx {M M' : Mem} (h : FrM DA [] M M') : FrM XM XJ M M' := FrM_sub h (by decide) (by decide)
theorem wdraw_nil {E : EnvK} : ∀ (n : Nat) (z : Int32) (w : Wst), w.1 = [] → (wdraw E n z w).2 = w
  | 0, _, _, _ => rfl
  | n + 1, z, w, h => by
    have e : (w.1.getD (wpick (lcg z) w.1) [])[usn (lcg z) 16 % hgt w.1 (wpick (lcg z) w.1)]? = none := by rw [h]; rfl
    unfold wdraw
    rw [e]
    exact wdraw_nil n _ w h
theorem drw_nil {E : EnvK} {r : Int32} {m : Nat} : ∀ (n : Nat) (z b st : Int32), (drw E [] r m n z b st).1 = b
  | 0, _, _, _ => rfl
  | n + 1, z, b, st => by
    unfold drw
    rw [drw_nil n, wdraw_nil m z (w0 []) rfl]
    show b + cI 0 = b
    rw [show cI 0 = 0 from rfl, Int32.add_zero]
section MDRAW
variable {d N m : Nat} {M0 : Mem} {s : St} {r z0 b st : Int32} {Q : Po} {i : Nat}
theorem drawI (hv : inv s) (hN : N < 2147483648) (hNm : N % 100 = m) (hr : -1 ≤ r.toInt ∧ r.toInt < ((sK s).length : Int)) (hL : 0 < (sK s).length) : ∀ (k j : Nat) (z : Int32) (w : Wst) (M : Mem), j + k = m → RM M s → YM M 75 w.1 → okR w.1 → w.1.length = (sK s).length → FrM DA [] M0 M →
    (∀ M', RM M' s → FrM DA [] M0 M' → BodyK (d + 9) 239 58 [(0, .ref 55), (1, .int z0), (2, .int (nI N)), (3, .int r), (4, .int (wdraw (envS s) k z w).1), (5, .int (b + (wdraw (envS s) k z w).2.2.2.1)), (6, .int (if 0 ≤ r.toInt then st + b2 (lM (envS s) (wdraw (envS s) k z w).2.1 r.toInt.toNat ≤ (envS s).2.2.1) else st)), (7, .int (nI i + cI 1))] [] M' Q) →
    BodyK (d + 9) 239 81 [(0, .ref 55), (1, .int z0), (2, .int (nI N)), (3, .int r), (4, .int z), (5, .int (b + w.2.2.1)), (6, .int st), (7, .int (nI i)), (8, .int (nI j))] [] M Q := by
  have y1 : nI N / cI 100 = nI (N / 100) := nI_div (b := 100) hN (by decide)
  have y2 : nI N - nI N / cI 100 * cI 100 = nI m := by rw [← hNm]; exact nI_rem (b := 100) hN (by decide)
  have em := nI_v (n := m) (by omega)
  have h4 := hv.1.1
  intro k
  induction k with
  | zero =>
    intro j z w M hj h hw ho hlen hF tl
    have ej := nI_v (n := j) (by omega)
    refine body_run 400 rfl (fun B Cl Z hZ hB hC => ?_)
    (conv => whnf)
    refine ⟨by decide, ?_⟩
    (conv => whnf); refine ⟨fun a => ?_, fun a => ?_⟩
    case' refine_2 =>
      replace a : ¬ cnd .ge (nI j) (nI N - nI N / cI 100 * cI 100) := a
      rw [y2, c_ge, em, ej] at a
      omega
    (conv => whnf); refine ⟨fun c => ?_, fun c => ?_⟩
    · simp only [c_lt, c_gt, c_le, c_ge, c_eq, c_ne, b2_z, b2_nz, b2_i, Classical.not_not, t0, t1, Nat.reduceMod, Nat.reduceDiv, Int.reduceAdd, Int.reduceNeg, Nat.reduceAdd, kv_m1, kv_0, kv_1, kv_8, kv_12, kv_16, kv_30, kv_100, kv_12345, kc_0, kc_1, kc_8, kc_12, kc_16, kc_30, kc_100, kc_12345] at c
      rw [if_neg (by omega)] at tl
      (conv => whnf)
      exact hB _ _ _ _ (Body_lv (tl M h hF) ⟨rfl, rfl, rfl, rfl, rfl, rfl, rfl, rfl, trivial⟩)
    simp only [c_lt, c_gt, c_le, c_ge, c_eq, c_ne, b2_z, b2_nz, b2_i, Classical.not_not, t0, t1, Nat.reduceMod, Nat.reduceDiv, Int.reduceAdd, Int.reduceNeg, Nat.reduceAdd, kv_m1, kv_0, kv_1, kv_8, kv_12, kv_16, kv_30, kv_100, kv_12345, kc_0, kc_1, kc_8, kc_12, kc_16, kc_30, kc_100, kc_12345] at c
    obtain ⟨r0, rfl, er, hr0⟩ := to_nI (x := r) (by omega)
    rw [if_pos (by omega), show (nI r0).toInt.toNat = r0 by rw [er]; rfl] at tl
    (conv => whnf)
    refine hC _ _ _ _ _ (m_standsNow h hv hw ho (show r0 < w.1.length by omega)) (fun v M1 p => ?_)
    obtain ⟨rfl, p2⟩ := p
    have hF1 : FrM DA [] M0 M1 := FrM_trans hF (FrM_sub p2 (by decide) (by decide))
    have h1 := RM_KJ h p2
    (conv => whnf); refine ⟨fun g => ?_, fun g => ?_⟩
    · rw [b2_z] at g
      replace g : ¬ lM (envS s) (wdraw (envS s) 0 z w).2.1 r0 ≤ (envS s).2.2.1 := g
      rw [b2_f g, show (0 : Int32) = 0 from rfl, Int32.add_zero] at tl
      (conv => whnf)
      exact hB _ _ _ _ (Body_lv (tl M1 h1 hF1) ⟨rfl, rfl, rfl, rfl, rfl, rfl, rfl, rfl, trivial⟩)
    · rw [b2_z] at g
      replace g : lM (envS s) (wdraw (envS s) 0 z w).2.1 r0 ≤ (envS s).2.2.1 := Classical.not_not.mp g
      rw [b2_t g] at tl
      (conv => whnf)
      exact hB _ _ _ _ (Body_lv (tl M1 h1 hF1) ⟨rfl, rfl, rfl, rfl, rfl, rfl, rfl, rfl, trivial⟩)
  | succ k ih =>
    intro j z w M hj h hw ho hlen hF tl
    have ej := nI_v (n := j) (by omega)
    have eR := nI_v (n := w.1.length) (by omega)
    have h1 : M.1 55 1 = nI w.1.length := by rw [hlen]; exact h.1.1
    have u1 := usn_lt (lcg z) 8 (by omega)
    have u2 := usn_lt (lcg z) 16 (by omega)
    have hp : wpick (lcg z) w.1 = usn (lcg z) 8 % w.1.length := if_pos (by omega)
    have hpk : wpick (lcg z) w.1 < w.1.length := by rw [hp]; exact Nat.mod_lt _ (by omega)
    have ex : ush (lcg z) 8 - ush (lcg z) 8 / M.1 55 1 * M.1 55 1 = nI (wpick (lcg z) w.1) := by
      rw [h1, ush_8, hp]
      exact nI_rem u1 (by omega)
    have hh := ho.2.1 (wpick (lcg z) w.1)
    have eh := nI_v (n := hgt w.1 (wpick (lcg z) w.1)) (by omega)
    have m75 := (hw _ hpk).1
    have c75 := nI_c (n := wpick (lcg z) w.1) (by omega)
    have v75 : vp_in (ush (lcg z) 8 - ush (lcg z) 8 / M.1 55 1 * M.1 55 1) 4 := by rw [ex]; exact nI_vp (by omega) (by decide)
    have r75 : M.1 75 (ush (lcg z) 8 - ush (lcg z) 8 / M.1 55 1 * M.1 55 1).toNatClampNeg = nI (hgt w.1 (wpick (lcg z) w.1)) := by rw [ex, c75, m75]
    refine body_run 400 rfl (fun B Cl Z hZ hB hC => ?_)
    (conv => whnf)
    refine ⟨by decide, ?_⟩
    (conv => whnf); refine ⟨fun a => ?_, fun a => ?_⟩
    · replace a : cnd .ge (nI j) (nI N - nI N / cI 100 * cI 100) := a
      rw [y2, c_ge, em, ej] at a
      omega
    (conv => whnf)
    refine ⟨by show ¬ M.1 55 1 = 0; rw [h1, x_eq, eR]; have : (0 : Int32).toInt = 0 := rfl; omega, ?_⟩
    (conv => whnf)
    refine ⟨v75, ?_⟩
    (conv => whnf); refine ⟨fun g => ?_, fun g => ?_⟩
    case' refine_2 =>
      replace g : ¬ cnd .ne (M.1 75 (ush (lcg z) 8 - ush (lcg z) 8 / M.1 55 1 * M.1 55 1).toNatClampNeg) 0 := g
      rw [r75, c_ne, eh] at g
      have g : hgt w.1 (wpick (lcg z) w.1) = 0 := by have : (0 : Int32).toInt = 0 := rfl; omega
      have e : wdraw (envS s) (k + 1) z w = wdraw (envS s) k (lcg z) w := by
        have : (w.1.getD (wpick (lcg z) w.1) [])[usn (lcg z) 16 % hgt w.1 (wpick (lcg z) w.1)]? = none := List.getElem?_eq_none (show (w.1.getD (wpick (lcg z) w.1) []).length ≤ _ by show hgt w.1 (wpick (lcg z) w.1) ≤ _; omega)
        rw [wdraw, this]
      rw [e] at tl
      (conv => whnf)
      exact hB _ _ _ _ (Body_lv (ih (j + 1) (lcg z) w M (by omega) h hw ho hlen hF tl) ⟨rfl, rfl, rfl, rfl, rfl, rfl, rfl, rfl, v_eq (nI_i1 j), trivial⟩)
    replace g : cnd .ne (M.1 75 (ush (lcg z) 8 - ush (lcg z) 8 / M.1 55 1 * M.1 55 1).toNatClampNeg) 0 := g
    rw [r75, c_ne, eh] at g
    have g : 0 < hgt w.1 (wpick (lcg z) w.1) := by have : (0 : Int32).toInt = 0 := rfl; omega
    have hlt := Nat.mod_lt (usn (lcg z) 16) g
    obtain ⟨q, hq⟩ := ly_at hlt
    have e : wdraw (envS s) (k + 1) z w = wdraw (envS s) k (lcg z) (wlet (envS s) w (wpick (lcg z) w.1) (usn (lcg z) 16 % hgt w.1 (wpick (lcg z) w.1)) q) := by
      rw [wdraw, hq]
    rw [e] at tl
    have ey : ush (lcg z) 16 - ush (lcg z) 16 / M.1 75 (ush (lcg z) 8 - ush (lcg z) 8 / M.1 55 1 * M.1 55 1).toNatClampNeg * M.1 75 (ush (lcg z) 8 - ush (lcg z) 8 / M.1 55 1 * M.1 55 1).toNatClampNeg = nI (usn (lcg z) 16 % hgt w.1 (wpick (lcg z) w.1)) := by
      rw [r75, ush_16]
      exact nI_rem u2 (by omega)
    (conv => whnf)
    refine ⟨v75, ?_⟩
    (conv => whnf)
    refine ⟨by show ¬ M.1 75 (ush (lcg z) 8 - ush (lcg z) 8 / M.1 55 1 * M.1 55 1).toNatClampNeg = 0; rw [r75, x_eq, eh]; have : (0 : Int32).toInt = 0 := rfl; omega, ?_⟩
    (conv => whnf)
    have hcall : Call (d + 8) 199 [.ref 55, .int (ush (lcg z) 8 - ush (lcg z) 8 / M.1 55 1 * M.1 55 1), .int (ush (lcg z) 16 - ush (lcg z) 16 / M.1 75 (ush (lcg z) 8 - ush (lcg z) 8 / M.1 55 1 * M.1 55 1).toNatClampNeg * M.1 75 (ush (lcg z) 8 - ush (lcg z) 8 / M.1 55 1 * M.1 55 1).toNatClampNeg)] M (fun v M' => v = some (.int (kp (envS s) w.1 (wpick (lcg z) w.1) (usn (lcg z) 16 % hgt w.1 (wpick (lcg z) w.1)) q)) ∧ FrM KJ [] M M') := by
      rw [ey, ex]
      exact m_keptAt h hv hw ho hq
    refine hC _ _ _ _ _ hcall (fun v M1 p => ?_)
    obtain ⟨rfl, p2⟩ := p
    (conv => whnf)
    have hcall2 : Call (d + 8) 207 [.ref 55, .int (ush (lcg z) 8 - ush (lcg z) 8 / M.1 55 1 * M.1 55 1), .int (ush (lcg z) 16 - ush (lcg z) 16 / M.1 75 (ush (lcg z) 8 - ush (lcg z) 8 / M.1 55 1 * M.1 55 1).toNatClampNeg * M.1 75 (ush (lcg z) 8 - ush (lcg z) 8 / M.1 55 1 * M.1 55 1).toNatClampNeg)] M1 (fun v M' => v = none ∧ FrM [75, 76, 77, 78, 79] [] M1 M' ∧ YM M' 75 (cutR w.1 (wpick (lcg z) w.1) (usn (lcg z) 16 % hgt w.1 (wpick (lcg z) w.1)))) := by
      rw [ey, ex]
      exact m_cutNow (YM_f hw p2 (by decide)) ho hlt
    refine hC _ _ _ _ _ hcall2 (fun v M2 p => ?_)
    obtain ⟨rfl, p3, p4⟩ := p
    (conv => whnf)
    have hF2 : FrM DA [] M M2 := FrM_trans (FrM_sub p2 (by decide) (by decide)) (FrM_sub p3 (by decide) (by decide))
    refine hB _ _ _ _ (Body_lv (ih (j + 1) (lcg z) _ M2 (by omega) (RM_x h (DAx hF2)) p4 (okR_cut ho hlt) (by show (cutR _ _ _).length = _; unfold cutR; rw [List.length_set]; exact hlen) (FrM_trans hF hF2) tl) ⟨rfl, rfl, rfl, rfl, rfl, v_eq ?_, rfl, rfl, v_eq (nI_i1 j), trivial⟩)
    exact Int32.add_assoc _ _ _
theorem drawO (h0 : RM M0 s) (hv : inv s) (hN : N < 2147483648) (hNm : N % 100 = m) (hr : -1 ≤ r.toInt ∧ r.toInt < ((sK s).length : Int)) : ∀ (k i : Nat) (z b st : Int32) (M : Mem), i + k = N / 100 → RM M s → FrM DA [] M0 M →
    BodyK (d + 9) 239 58 [(0, .ref 55), (1, .int z0), (2, .int (nI N)), (3, .int r), (4, .int z), (5, .int b), (6, .int st), (7, .int (nI i))] [] M (QP M0 (.int (if r.toInt < 0 then (drw (envS s) (sK s) r m k z b st).1 else (drw (envS s) (sK s) r m k z b st).2)) s) := by
  have y1 : nI N / cI 100 = nI (N / 100) := nI_div (b := 100) hN (by decide)
  have en := nI_v (n := N / 100) (by omega)
  have h4 := hv.1.1
  have eR := nI_v (n := (sK s).length) (by omega)
  intro k
  induction k with
  | zero =>
    intro i z b st M hi h hF
    have ei := nI_v (n := i) (by omega)
    refine body_run 400 rfl (fun B Cl Z hZ hB hC => ?_)
    (conv => whnf)
    refine ⟨by decide, ?_⟩
    (conv => whnf); refine ⟨fun a => ?_, fun a => ?_⟩
    case' refine_2 =>
      replace a : ¬ cnd .ge (nI i) (nI N / cI 100) := a
      rw [y1, c_ge, en, ei] at a
      omega
    (conv => whnf); refine ⟨fun c => ?_, fun c => ?_⟩
    · simp only [c_lt, c_gt, c_le, c_ge, c_eq, c_ne, b2_z, b2_nz, b2_i, Classical.not_not, t0, t1, Nat.reduceMod, Nat.reduceDiv, Int.reduceAdd, Int.reduceNeg, Nat.reduceAdd, kv_m1, kv_0, kv_1, kv_8, kv_12, kv_16, kv_30, kv_100, kv_12345, kc_0, kc_1, kc_8, kc_12, kc_16, kc_30, kc_100, kc_12345] at c
      rw [if_neg (by omega)] at hZ
      conv => whnf
      exact hZ _ _ (QP_same h0 (DAx hF))
    · simp only [c_lt, c_gt, c_le, c_ge, c_eq, c_ne, b2_z, b2_nz, b2_i, Classical.not_not, t0, t1, Nat.reduceMod, Nat.reduceDiv, Int.reduceAdd, Int.reduceNeg, Nat.reduceAdd, kv_m1, kv_0, kv_1, kv_8, kv_12, kv_16, kv_30, kv_100, kv_12345, kc_0, kc_1, kc_8, kc_12, kc_16, kc_30, kc_100, kc_12345] at c
      rw [if_pos (by omega)] at hZ
      conv => whnf
      exact hZ _ _ (QP_same h0 (DAx hF))
  | succ k ih =>
    intro i z b st M hi h hF
    have ei := nI_v (n := i) (by omega)
    have h1 : M.1 55 1 = nI (sK s).length := h.1.1
    refine body_run 400 rfl (fun B Cl Z hZ hB hC => ?_)
    (conv => whnf)
    refine ⟨by decide, ?_⟩
    (conv => whnf); refine ⟨fun a => ?_, fun a => ?_⟩
    · replace a : cnd .ge (nI i) (nI N / cI 100) := a
      rw [y1, c_ge, en, ei] at a
      omega
    (conv => whnf); refine ⟨fun g => ?_, fun g => ?_⟩
    · replace g : cnd .le (M.1 55 1) 0 := g
      rw [h1, c_le, eR] at g
      have g : (sK s).length = 0 := by have : (0 : Int32).toInt = 0 := rfl; omega
      have gn : sK s = [] := List.eq_nil_of_length_eq_zero g
      rw [g] at hr
      have e9 : (if r.toInt < 0 then (drw (envS s) (sK s) r m (k + 1) z b st).1 else (drw (envS s) (sK s) r m (k + 1) z b st).2) = b := by
        rw [if_pos (by omega), gn, drw_nil]
      rw [e9] at hZ
      (conv => whnf); refine ⟨fun c => ?_, fun c => ?_⟩
      · simp only [c_lt, c_gt, c_le, c_ge, c_eq, c_ne, b2_z, b2_nz, b2_i, Classical.not_not, t0, t1, Nat.reduceMod, Nat.reduceDiv, Int.reduceAdd, Int.reduceNeg, Nat.reduceAdd, kv_m1, kv_0, kv_1, kv_8, kv_12, kv_16, kv_30, kv_100, kv_12345, kc_0, kc_1, kc_8, kc_12, kc_16, kc_30, kc_100, kc_12345] at c
        omega
      · conv => whnf
        exact hZ _ _ (QP_same h0 (DAx hF))
    replace g : ¬ cnd .le (M.1 55 1) 0 := g
    rw [h1, c_le, eR] at g
    have g : 0 < (sK s).length := by have : (0 : Int32).toInt = 0 := rfl; omega
    (conv => whnf)
    refine hC _ _ _ _ _ (m_layNow h.1 hv.1) (fun v M1 p => ?_)
    obtain ⟨rfl, p2, p3⟩ := p
    have hF1 : FrM DA [] M0 M1 := FrM_trans hF (FrM_sub p2 (by decide) (by decide))
    (conv => whnf)
    refine hB _ _ _ _ (Body_lv (drawI (d := d) (N := N) (m := m) (M0 := M0) (s := s) (r := r) (z0 := z0) (b := b) (st := st) (i := i) hv hN hNm hr g m 0 z (w0 (sK s)) M1 (by omega) (RM_x h (DAx (FrM_sub p2 (by decide) (by decide)))) p3 hv.1 rfl hF1 (fun M' a1 a2 => ?_)) ⟨rfl, rfl, rfl, rfl, rfl, v_eq ?_, rfl, rfl, rfl, trivial⟩)
    · rw [nI_i1]
      exact ih (i + 1) _ _ _ M' (by omega) a1 a2
    · show b = b + cI 0
      rw [show cI 0 = 0 from rfl, Int32.add_zero]
end MDRAW
theorem m_drawn {d : Nat} {M : Mem} {s : St} {z x r : Int32} (h : RM M s) (hv : inv s) : Call (d + 9) 239 [.ref 55, .int z, .int x, .int r] M (QP M (.int (aDrawn s z x r)) s) := by
  have h4 := hv.1.1
  have eR := nI_v (n := (sK s).length) (by omega)
  have h1 : M.1 55 1 = nI (sK s).length := h.1.1
  refine call_run 400 rfl rfl (fun B Cl Z hZ hB hC => ?_)
  (conv => whnf); refine ⟨fun a => ?_, fun a => ?_⟩
  · simp only [c_lt, c_gt, c_le, c_ge, c_eq, c_ne, b2_z, b2_nz, b2_i, Classical.not_not, t0, t1, Nat.reduceMod, Nat.reduceDiv, Int.reduceAdd, Int.reduceNeg, Nat.reduceAdd, kv_m1, kv_0, kv_1, kv_8, kv_12, kv_16, kv_30, kv_100, kv_12345, kc_0, kc_1, kc_8, kc_12, kc_16, kc_30, kc_100, kc_12345] at a
    have e9 : aDrawn s z x r = cI (-1) := if_neg (by omega)
    rw [e9] at hZ
    conv => whnf
    exact hZ _ _ (QP_same h FrM_refl)
  simp only [c_lt, c_gt, c_le, c_ge, c_eq, c_ne, b2_z, b2_nz, b2_i, Classical.not_not, t0, t1, Nat.reduceMod, Nat.reduceDiv, Int.reduceAdd, Int.reduceNeg, Nat.reduceAdd, kv_m1, kv_0, kv_1, kv_8, kv_12, kv_16, kv_30, kv_100, kv_12345, kc_0, kc_1, kc_8, kc_12, kc_16, kc_30, kc_100, kc_12345] at a
  obtain ⟨n, rfl, en, hn⟩ := to_nI (x := x) (by omega)
  have y1 : nI n / cI 100 = nI (n / 100) := nI_div (b := 100) hn (by decide)
  have y2 : nI n - nI n / cI 100 * cI 100 = nI (n % 100) := nI_rem (b := 100) hn (by decide)
  have e1 := nI_v (n := n / 100) (by omega)
  have e2 := nI_v (n := n % 100) (by omega)
  have e0 : (nI n).toInt.toNat = n := by rw [en]; rfl
  have out : ¬ (((1 ≤ n / 100 ∧ n / 100 ≤ 30) ∧ 1 ≤ n % 100 ∧ n % 100 ≤ 12) ∧ -1 ≤ r.toInt ∧ r.toInt < ((sK s).length : Int)) → aDrawn s z (nI n) r = cI (-1) := fun q => if_neg (fun y => q (by rw [e0] at y; exact ⟨y.1.2, y.2⟩))
  (conv => whnf)
  refine ⟨by decide, ?_⟩
  (conv => whnf)
  refine ret_k hC m_in ?_
  (conv => whnf); refine ⟨fun b => ?_, fun b => ?_⟩
  · rw [b2_z, y1, e1, kv_1, kv_30] at b
    rw [out (by omega)] at hZ
    conv => whnf
    exact hZ _ _ (QP_same h FrM_refl)
  rw [b2_z, y1, e1, kv_1, kv_30] at b
  have b := Classical.not_not.mp b
  (conv => whnf)
  refine ⟨by decide, ?_⟩
  (conv => whnf)
  refine ret_k hC m_in ?_
  (conv => whnf); refine ⟨fun c => ?_, fun c => ?_⟩
  · rw [b2_z, y2, e2, kv_1, kv_12] at c
    rw [out (by omega)] at hZ
    conv => whnf
    exact hZ _ _ (QP_same h FrM_refl)
  rw [b2_z, y2, e2, kv_1, kv_12] at c
  have c := Classical.not_not.mp c
  have eS : (M.1 55 1 - cI 1).toInt = ((sK s).length : Int) - 1 := by
    rw [h1, sb_v (by rw [eR, kv_1]; omega) (by rw [eR, kv_1]; omega), eR, kv_1]
  (conv => whnf)
  refine ret_k hC m_in ?_
  (conv => whnf); refine ⟨fun g => ?_, fun g => ?_⟩
  case' refine_2 =>
    rw [b2_nz] at g
    replace g : ¬ ((cI (-1)).toInt ≤ r.toInt ∧ r.toInt ≤ (M.1 55 1 - cI 1).toInt) := g
    rw [eS, kv_m1] at g
    rw [out (by omega)] at hZ
    conv => whnf
    exact hZ _ _ (QP_same h FrM_refl)
  rw [b2_nz] at g
  replace g : (cI (-1)).toInt ≤ r.toInt ∧ r.toInt ≤ (M.1 55 1 - cI 1).toInt := g
  rw [eS, kv_m1] at g
  have yes : aDrawn s z (nI n) r = (if r.toInt < 0 then (drw (envS s) (sK s) r (n % 100) (n / 100) z (cI 0) (cI 0)).1 else (drw (envS s) (sK s) r (n % 100) (n / 100) z (cI 0) (cI 0)).2) := by
    unfold aDrawn
    rw [e0, if_pos (by omega)]
  rw [yes] at hB
  (conv => whnf)
  exact hB _ _ _ _ (Body_lv (drawO (d := d) (N := n) (m := n % 100) (M0 := M) h hv hn rfl ⟨by omega, by omega⟩ (n / 100) 0 z (cI 0) (cI 0) M (by omega) h FrM_refl) ⟨rfl, rfl, rfl, rfl, rfl, rfl, rfl, rfl, trivial⟩)
