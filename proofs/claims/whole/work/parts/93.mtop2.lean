/-! the reference: top -/
section TOP
variable {d r : Nat} {M0 : Mem} {s : St} {q : Lyr}
/-- the copy with its top layer changed -/
def topW (s : St) (r j v : Nat) : Rk := setL (sK s) r (hgt (sK s) r - 1) j v
theorem top_stand (hq : ((sK s).getD r [])[hgt (sK s) r - 1]? = some q) {f : Nat} : lM (envS s) (topW s r 1 f) r = maxI (absI (tX (envS s) (sK s) r q + amt (envS s).1 (envS s).2.1 (nI f) (nI q.2.2.2) (nI q.2.2.1) (nI (hgt (sK s) r - 1)) (cI 0) * rgt q.1)) (absI (tY (envS s) (sK s) r q + amt (envS s).1 (envS s).2.1 (nI f) (nI q.2.2.2) (nI q.2.2.1) (nI (hgt (sK s) r - 1)) (cI 0) * dwn q.1)) := by
  have hr := hgt_lt (ly_lt hq)
  obtain ⟨t1', t2'⟩ := setL_top (j := 1) (v := f) hq
  obtain ⟨a1, a2, -, -⟩ := lX_top (E := envS s) t1'
  obtain ⟨-, -, a3, a4⟩ := lX_top (E := envS s) hq
  have ek : kp (envS s) (setL (sK s) r (hgt (sK s) r - 1) 1 f) r (hgt (setL (sK s) r (hgt (sK s) r - 1) 1 f) r - 1) (lySet q 1 f) = amt (envS s).1 (envS s).2.1 (nI f) (nI q.2.2.2) (nI q.2.2.1) (nI (hgt (sK s) r - 1)) (cI 0) := by
    unfold kp kpt
    rw [setL_hgt hr, Nat.sub_self]
    rfl
  unfold lM topW
  rw [a1, a2, ek, t2', t2', a3, a4]
  rfl
theorem top_standW (hq : ((sK s).getD r [])[hgt (sK s) r - 1]? = some q) {w : Nat} : lM (envS s) (topW s r 0 w) r = maxI (absI (tX (envS s) (sK s) r q + kp (envS s) (sK s) r (hgt (sK s) r - 1) q * rgt w)) (absI (tY (envS s) (sK s) r q + kp (envS s) (sK s) r (hgt (sK s) r - 1) q * dwn w)) := by
  have hr := hgt_lt (ly_lt hq)
  obtain ⟨t1', t2'⟩ := setL_top (j := 0) (v := w) hq
  obtain ⟨a1, a2, -, -⟩ := lX_top (E := envS s) t1'
  obtain ⟨-, -, a3, a4⟩ := lX_top (E := envS s) hq
  have ek : kp (envS s) (setL (sK s) r (hgt (sK s) r - 1) 0 w) r (hgt (setL (sK s) r (hgt (sK s) r - 1) 0 w) r - 1) (lySet q 0 w) = kp (envS s) (sK s) r (hgt (sK s) r - 1) q := by
    unfold kp kpt
    rw [setL_hgt hr]
    rfl
  unfold lM topW
  rw [a1, a2, ek, t2', t2', a3, a4]
  rfl
/-- the copy is the ricks but for what is at one place of a row -/
def tpR (M : Mem) (s : St) (r j : Nat) : Prop := M.1 75 r = nI (hgt (sK s) r) ∧ YM M 75 (sK s) ∨ ∃ v, YM M 75 (topW s r j v)
theorem tp_set {M : Mem} {j v : Nat} (ho : okR (sK s)) (hh : 1 ≤ hgt (sK s) r) (hj : j < 4) (M1 : Mem) (hM : YM M1 75 (sK s)) (h0 : M.1 75 = M1.1 75) (hc : ∀ i, i < 4 → ¬ i = j → M.1 (76 + i) = M1.1 (76 + i)) (hcj : ∀ p, ¬ p = 12 * r + (hgt (sK s) r - 1) → M.1 (76 + j) p = M1.1 (76 + j) p) : YM (mI M (76 + j) (12 * r + (hgt (sK s) r - 1)) (nI v)) 75 (topW s r j v) := by
  refine YM_set hM ho (by omega) hj ?_ (fun i hi => ?_)
  · have : (75 : Nat) ≠ 76 + j := by omega
    rw [mI_ne _ _ _ this, h0]
  · by_cases z : i = j
    · subst z
      rw [if_pos rfl, mI_same]
      funext p
      unfold upd
      split
      · rfl
      · next y => exact hcj p y
    · rw [if_neg z]
      have : 76 + i ≠ 76 + j := by omega
      rw [mI_ne _ _ _ this]
      exact hc i hi z
theorem mway_loop (h : RM M0 s) (hv : inv s) (hq : ((sK s).getD r [])[hgt (sK s) r - 1]? = some q) {M1 : Mem} (hw1 : YM M1 75 (sK s)) {x y z : Int32} : ∀ (m w b : Nat) (M : Mem), w + m = 8 → b < 4096 → FrM XM XJ M0 M → M.1 75 = M1.1 75 → (∀ i, i < 4 → ¬ i = 0 → M.1 (76 + i) = M1.1 (76 + i)) → (∀ p, ¬ p = 12 * r + (hgt (sK s) r - 1) → M.1 76 p = M1.1 76 p) →
    BodyK (d + 9) 233 142 [(0, .ref 55), (1, .int (nI r)), (2, .int x), (3, .int (nI (12 * r + (hgt (sK s) r - 1)))), (4, .int y), (5, .int z), (6, .int (nI b)), (7, .int (nI w))] [] M (QP M0 (.int (nI (tbl (stW (envS s) (sK s) r q) m w b))) s) := by
  have hl := ly_lt hq
  have hr := hgt_lt hl
  have h4 := hv.1.1
  have h12 := hv.1.2.1 r
  have vI : vp_in (nI (12 * r + (hgt (sK s) r - 1))) 48 := nI_vp (by omega) (by decide)
  have cI' := nI_c (n := 12 * r + (hgt (sK s) r - 1)) (by omega)
  intro m
  induction m with
  | zero =>
    intro w b M hw hb hF e75 e4 e76
    have ew := nI_v (n := w) (by omega)
    refine body_run 400 rfl (fun B Cl Z hZ hB hC => ?_)
    (conv => whnf); refine ⟨fun a => ?_, fun a => ?_⟩
    · conv => whnf
      exact hZ _ _ (QP_same h hF)
    · simp only [c_lt, c_gt, c_le, c_ge, c_eq, c_ne, b2_z, b2_nz, b2_i, Classical.not_not, t0, t1, Nat.reduceMod, Nat.reduceDiv, Int.reduceAdd, Int.reduceNeg, Nat.reduceAdd, kv_m2, kv_m1, kv_0, kv_1, kv_2, kv_8, kv_9, kv_12, kc_0, kc_1, kc_2, kc_8, kc_9, kc_12, ew] at a
      omega
  | succ m ih =>
    intro w b M hw hb hF e75 e4 e76
    have ew := nI_v (n := w) (by omega)
    have eT : tbl (stW (envS s) (sK s) r q) (m + 1) w b = tbl (stW (envS s) (sK s) r q) m (w + 1) (if stW (envS s) (sK s) r q w = true then b ||| 2 ^ w else b) := rfl
    rw [eT]
    have hst : stW (envS s) (sK s) r q w = decide (lM (envS s) (topW s r 0 w) r ≤ (envS s).2.2.1) := by rw [top_standW hq]; rfl
    rw [hst]
    have hF2 : FrM XM XJ M0 (mI M 76 (12 * r + (hgt (sK s) r - 1)) (nI w)) := FrM_a hF (by decide) (by decide)
    have hY := tp_set (j := 0) (v := w) (M := M) hv.1 (show 1 ≤ hgt (sK s) r by omega) (by decide) M1 hw1 e75 e4 e76
    replace hY : YM (mI M 76 (12 * r + (hgt (sK s) r - 1)) (nI w)) 75 (topW s r 0 w) := hY
    have f75 : (mI M 76 (12 * r + (hgt (sK s) r - 1)) (nI w)).1 75 = M1.1 75 := by rw [mI_ne _ _ _ (by decide)]; exact e75
    have f4 : ∀ i, i < 4 → ¬ i = 0 → (mI M 76 (12 * r + (hgt (sK s) r - 1)) (nI w)).1 (76 + i) = M1.1 (76 + i) := fun i hi hi0 => by
      have hne : 76 + i ≠ 76 := by omega
      rw [mI_ne _ _ _ hne]; exact e4 i hi hi0
    have f76 : ∀ p, ¬ p = 12 * r + (hgt (sK s) r - 1) → (mI M 76 (12 * r + (hgt (sK s) r - 1)) (nI w)).1 76 p = M1.1 76 p := fun p hp => by rw [mI_2 _ _ hp]; exact e76 p hp
    have ob := or_b (b := b) (i := w) (P := lM (envS s) (topW s r 0 w) r ≤ (envS s).2.2.1) hb (by omega)
    have hb2 : (if decide (lM (envS s) (topW s r 0 w) r ≤ (envS s).2.2.1) = true then b ||| 2 ^ w else b) < 4096 := by
      split
      · exact Nat.or_lt_two_pow (n := 12) hb (Nat.pow_lt_pow_right (by omega) (by omega : w < 12))
      · exact hb
    refine body_run 400 rfl (fun B Cl Z hZ hB hC => ?_)
    (conv => whnf); refine ⟨fun a => ?_, fun a => ?_⟩
    · simp only [c_lt, c_gt, c_le, c_ge, c_eq, c_ne, b2_z, b2_nz, b2_i, Classical.not_not, t0, t1, Nat.reduceMod, Nat.reduceDiv, Int.reduceAdd, Int.reduceNeg, Nat.reduceAdd, kv_m2, kv_m1, kv_0, kv_1, kv_2, kv_8, kv_9, kv_12, kc_0, kc_1, kc_2, kc_8, kc_9, kc_12, ew] at a
      omega
    (conv => whnf)
    refine ⟨vI, ?_⟩
    (conv => whnf)
    rw [cI']
    generalize (mI M 76 (12 * r + (hgt (sK s) r - 1)) (nI w)) = M2 at hF2 hY f75 f4 f76 ⊢
    refine hC _ _ _ _ _ (m_standsNow (RM_x h hF2) hv hY (okR_set hv.1 (by omega) (by decide) (show okV 0 w by unfold okV; rw [if_pos (Or.inl rfl)]; omega)) (by unfold topW; rw [setL_len]; exact hr)) (fun v M3 p => ?_)
    obtain ⟨rfl, p2⟩ := p
    have k : ∀ a, Nat.ble 75 a = true → M3.1 a = M2.1 a := fun a ha => FrM_c p2 (by have := Nat.le_of_ble_eq_true ha; omega) (by have := Nat.le_of_ble_eq_true ha; simp [KJ]; omega)
    have nxt := ih (w + 1) (if decide (lM (envS s) (topW s r 0 w) r ≤ (envS s).2.2.1) = true then b ||| 2 ^ w else b) M3 (by omega) hb2 (FrM_trans hF2 (KJx p2)) (by rw [k 75 rfl]; exact f75) (fun i hi hi0 => by rw [k (76 + i) (Nat.ble_eq_true_of_le (by omega))]; exact f4 i hi hi0) (fun p hp => by rw [k 76 rfl]; exact f76 p hp)
    (conv => whnf); refine ⟨fun g => ?_, fun g => ?_⟩
    · rw [b2_z] at g
      rw [if_neg g] at ob
      (conv => whnf)
      refine hB _ _ _ _ (Body_lv nxt ⟨rfl, rfl, rfl, rfl, rfl, rfl, v_eq ?_, v_eq (nI_i1 w), trivial⟩)
      rw [← ob]
      exact Int32.or_zero.symm
    · rw [b2_z] at g
      rw [if_pos (Classical.not_not.mp g)] at ob
      (conv => whnf)
      exact hB _ _ _ _ (Body_lv nxt ⟨rfl, rfl, rfl, rfl, rfl, rfl, v_eq ob, v_eq (nI_i1 w), trivial⟩)
theorem mforce_loop (h : RM M0 s) (hv : inv s) (hq : ((sK s).getD r [])[hgt (sK s) r - 1]? = some q) {M1 : Mem} (hw1 : YM M1 75 (sK s)) {x : Int32} (hx : 0 ≤ x.toInt ∧ x.toInt ≤ 2) : ∀ (m f : Nat) (M : Mem), f + 1 + m = 10 → FrM XM XJ M0 M → M.1 75 = M1.1 75 → (∀ i, i < 4 → ¬ i = 1 → M.1 (76 + i) = M1.1 (76 + i)) → (∀ p, ¬ p = 12 * r + (hgt (sK s) r - 1) → M.1 77 p = M1.1 77 p) →
    BodyK (d + 9) 233 68 [(0, .ref 55), (1, .int (nI r)), (2, .int x), (3, .int (nI (12 * r + (hgt (sK s) r - 1)))), (4, .int (nI (cntP (stF (envS s) (sK s) r q) f))), (5, .int (lstP (stF (envS s) (sK s) r q) f)), (6, .int (nI (f + 1)))] [] M (QP M0 (.int (if x.toInt = 2 then nI (tbl (stW (envS s) (sK s) r q) 8 0 0) else if x.toInt = 0 then nI (cntP (stF (envS s) (sK s) r q) 9) else lstP (stF (envS s) (sK s) r q) 9)) s) := by
  have hl := ly_lt hq
  have hr := hgt_lt hl
  have h4 := hv.1.1
  have h12 := hv.1.2.1 r
  have vI : vp_in (nI (12 * r + (hgt (sK s) r - 1))) 48 := nI_vp (by omega) (by decide)
  have cI' := nI_c (n := 12 * r + (hgt (sK s) r - 1)) (by omega)
  intro m
  induction m with
  | zero =>
    intro f M hf hF e75 e4 e77
    obtain rfl : f = 9 := by omega
    refine body_run 400 rfl (fun B Cl Z hZ hB hC => ?_)
    (conv => whnf); refine ⟨fun _ => ?_, fun z => absurd (show cnd .gt (nI (9 + 1)) (cI 9) by rw [c_gt]; decide) z⟩
    (conv => whnf); refine ⟨fun a => ?_, fun a => ?_⟩
    · simp only [c_lt, c_gt, c_le, c_ge, c_eq, c_ne, b2_z, b2_nz, b2_i, Classical.not_not, t0, t1, Nat.reduceMod, Nat.reduceDiv, Int.reduceAdd, Int.reduceNeg, Nat.reduceAdd, kv_m2, kv_m1, kv_0, kv_1, kv_2, kv_8, kv_9, kv_12, kc_0, kc_1, kc_2, kc_8, kc_9, kc_12] at a
      rw [if_pos (by omega)] at hB
      have r58 : M.1 58 (nI (12 * r + (hgt (sK s) r - 1))).toNatClampNeg = nI q.2.1 := by
        rw [cI']
        exact ((RM_x h hF).1.2 r hr).2 _ q hq 1 (by decide)
      (conv => whnf)
      refine ⟨vI, ?_⟩
      (conv => whnf)
      refine ⟨vI, ?_⟩
      (conv => whnf)
      rw [r58, cI']
      refine hB _ _ _ _ (Body_lv (mway_loop (d := d) h hv hq hw1 8 0 0 (mI M 77 (12 * r + (hgt (sK s) r - 1)) (nI q.2.1)) rfl (by decide) (FrM_a hF (by decide) (by decide)) (by rw [mI_ne _ _ _ (by decide)]; exact e75) (fun i hi hi0 => ?_) (fun p hp => ?_)) ⟨rfl, rfl, rfl, rfl, rfl, rfl, rfl, rfl, trivial⟩)
      · by_cases z : i = 1
        · subst z
          funext p
          show (mI M 77 (12 * r + (hgt (sK s) r - 1)) (nI q.2.1)).1 77 p = M1.1 77 p
          rw [mI_at]
          by_cases y : p = 12 * r + (hgt (sK s) r - 1)
          · rw [if_pos ⟨rfl, y⟩, y]
            exact ((hw1 r hr).2 _ q hq 1 (by decide)).symm
          · rw [if_neg (fun w => y w.2)]
            exact e77 p y
        · have hne : 76 + i ≠ 77 := by omega
          rw [mI_ne _ _ _ hne]
          exact e4 i hi z
      · rw [mI_ne _ _ _ (by decide)]
        exact congrFun (e4 0 (by decide) (by decide)) p
    · simp only [c_lt, c_gt, c_le, c_ge, c_eq, c_ne, b2_z, b2_nz, b2_i, Classical.not_not, t0, t1, Nat.reduceMod, Nat.reduceDiv, Int.reduceAdd, Int.reduceNeg, Nat.reduceAdd, kv_m2, kv_m1, kv_0, kv_1, kv_2, kv_8, kv_9, kv_12, kc_0, kc_1, kc_2, kc_8, kc_9, kc_12] at a
      rw [if_neg (by omega)] at hZ
      (conv => whnf); refine ⟨fun b => ?_, fun b => ?_⟩
      · simp only [c_lt, c_gt, c_le, c_ge, c_eq, c_ne, b2_z, b2_nz, b2_i, Classical.not_not, t0, t1, Nat.reduceMod, Nat.reduceDiv, Int.reduceAdd, Int.reduceNeg, Nat.reduceAdd, kv_m2, kv_m1, kv_0, kv_1, kv_2, kv_8, kv_9, kv_12, kc_0, kc_1, kc_2, kc_8, kc_9, kc_12] at b
        rw [if_neg b] at hZ
        conv => whnf
        exact hZ _ _ (QP_same h hF)
      · simp only [c_lt, c_gt, c_le, c_ge, c_eq, c_ne, b2_z, b2_nz, b2_i, Classical.not_not, t0, t1, Nat.reduceMod, Nat.reduceDiv, Int.reduceAdd, Int.reduceNeg, Nat.reduceAdd, kv_m2, kv_m1, kv_0, kv_1, kv_2, kv_8, kv_9, kv_12, kc_0, kc_1, kc_2, kc_8, kc_9, kc_12] at b
        rw [if_pos b] at hZ
        conv => whnf
        exact hZ _ _ (QP_same h hF)
  | succ m ih =>
    intro f M hf hF e75 e4 e77
    have ef := nI_v (n := f + 1) (by omega)
    have hst : stF (envS s) (sK s) r q (f + 1) = decide (lM (envS s) (topW s r 1 (f + 1)) r ≤ (envS s).2.2.1) := by rw [top_stand hq]; rfl
    have hF2 : FrM XM XJ M0 (mI M 77 (12 * r + (hgt (sK s) r - 1)) (nI (f + 1))) := FrM_a hF (by decide) (by decide)
    have hY := tp_set (j := 1) (v := f + 1) (M := M) hv.1 (show 1 ≤ hgt (sK s) r by omega) (by decide) M1 hw1 e75 e4 e77
    replace hY : YM (mI M 77 (12 * r + (hgt (sK s) r - 1)) (nI (f + 1))) 75 (topW s r 1 (f + 1)) := hY
    have f75 : (mI M 77 (12 * r + (hgt (sK s) r - 1)) (nI (f + 1))).1 75 = M1.1 75 := by rw [mI_ne _ _ _ (by decide)]; exact e75
    have f4 : ∀ i, i < 4 → ¬ i = 1 → (mI M 77 (12 * r + (hgt (sK s) r - 1)) (nI (f + 1))).1 (76 + i) = M1.1 (76 + i) := fun i hi hi0 => by
      have hne : 76 + i ≠ 77 := by omega
      rw [mI_ne _ _ _ hne]; exact e4 i hi hi0
    have f77 : ∀ p, ¬ p = 12 * r + (hgt (sK s) r - 1) → (mI M 77 (12 * r + (hgt (sK s) r - 1)) (nI (f + 1))).1 77 p = M1.1 77 p := fun p hp => by rw [mI_2 _ _ hp]; exact e77 p hp
    refine body_run 400 rfl (fun B Cl Z hZ hB hC => ?_)
    (conv => whnf); refine ⟨fun a => ?_, fun a => ?_⟩
    · simp only [c_lt, c_gt, c_le, c_ge, c_eq, c_ne, b2_z, b2_nz, b2_i, Classical.not_not, t0, t1, Nat.reduceMod, Nat.reduceDiv, Int.reduceAdd, Int.reduceNeg, Nat.reduceAdd, kv_m2, kv_m1, kv_0, kv_1, kv_2, kv_8, kv_9, kv_12, kc_0, kc_1, kc_2, kc_8, kc_9, kc_12, ef] at a
      omega
    (conv => whnf)
    refine ⟨vI, ?_⟩
    (conv => whnf)
    rw [cI']
    generalize (mI M 77 (12 * r + (hgt (sK s) r - 1)) (nI (f + 1))) = M2 at hF2 hY f75 f4 f77 ⊢
    refine hC _ _ _ _ _ (m_standsNow (RM_x h hF2) hv hY (okR_set hv.1 (by omega) (by decide) (show okV 1 (f + 1) by unfold okV; rw [if_neg (by decide), if_pos (Or.inl rfl)]; omega)) (by unfold topW; rw [setL_len]; exact hr)) (fun v M3 p => ?_)
    obtain ⟨rfl, p2⟩ := p
    have k : ∀ a, Nat.ble 75 a = true → M3.1 a = M2.1 a := fun a ha => FrM_c p2 (by have := Nat.le_of_ble_eq_true ha; omega) (by have := Nat.le_of_ble_eq_true ha; simp [KJ]; omega)
    have nxt := ih (f + 1) M3 (by omega) (FrM_trans hF2 (KJx p2)) (by rw [k 75 rfl]; exact f75) (fun i hi hi0 => by rw [k (76 + i) (Nat.ble_eq_true_of_le (by omega))]; exact f4 i hi hi0) (fun p hp => by rw [k 77 rfl]; exact f77 p hp)
    have c1 : cntP (stF (envS s) (sK s) r q) (f + 1) = cntP (stF (envS s) (sK s) r q) f + (if stF (envS s) (sK s) r q (f + 1) = true then 1 else 0) := rfl
    have c2 : lstP (stF (envS s) (sK s) r q) (f + 1) = if stF (envS s) (sK s) r q (f + 1) = true then nI (f + 1) else lstP (stF (envS s) (sK s) r q) f := rfl
    rw [c1, c2, hst] at nxt
    (conv => whnf); refine ⟨fun g => ?_, fun g => ?_⟩
    · rw [b2_nz] at g
      rw [if_pos (decide_eq_true g), if_pos (decide_eq_true g)] at nxt
      (conv => whnf)
      exact hB _ _ _ _ (Body_lv nxt ⟨rfl, rfl, rfl, rfl, v_eq (nI_i1 _), rfl, v_eq (nI_i1 _), trivial⟩)
    · rw [b2_nz] at g
      rw [if_neg (by simp [g]), if_neg (by simp [g])] at nxt
      (conv => whnf)
      exact hB _ _ _ _ (Body_lv nxt ⟨rfl, rfl, rfl, rfl, rfl, rfl, v_eq (nI_i1 _), trivial⟩)
end TOP
theorem m_top {d : Nat} {M : Mem} {s : St} {r w : Int32} (h : RM M s) (hv : inv s) : Call (d + 9) 233 [.ref 55, .int r, .int w] M (QP M (.int (aTop s r w)) s) := by
  have out : ¬ ((0 ≤ r.toInt ∧ r.toInt < ((sK s).length : Int)) ∧ 0 ≤ w.toInt ∧ w.toInt ≤ 2) → aTop s r w = cI (-1) := fun z => if_neg z
  have h4 := hv.1.1
  refine call_run 400 rfl rfl (fun B Cl Z hZ hB hC => ?_)
  (conv => whnf); refine ret_k hC (m_isRick h.1.1 h4) ?_
  (conv => whnf); refine ⟨fun a => ?_, fun a => ?_⟩
  · rw [b2_z] at a
    rw [out (fun z => a z.1)] at hZ
    conv => whnf
    exact hZ _ _ (QP_same h FrM_refl)
  rw [b2_z] at a
  have a := Classical.not_not.mp a
  (conv => whnf); refine ret_k hC (m_in) ?_
  rw [kv_0, kv_2]
  (conv => whnf); refine ⟨fun b => ?_, fun b => ?_⟩
  case' refine_2 =>
    rw [b2_nz] at b
    rw [out (fun z => b z.2)] at hZ
    conv => whnf
    exact hZ _ _ (QP_same h FrM_refl)
  rw [b2_nz] at b
  obtain ⟨i, rfl, ei, hi⟩ := to_nI a.1
  have hir : i < (sK s).length := by omega
  have h12 := hv.1.2.1 i
  have eh := nI_v (n := hgt (sK s) i) (by omega)
  have e8 : aTop s (nI i) w = (match ((sK s).getD i [])[hgt (sK s) i - 1]? with
    | none => if w.toInt = 1 then cI (-2) else cI 0
    | some q => if w.toInt = 2 then nI (tbl (stW (envS s) (sK s) i q) 8 0 0) else if w.toInt = 0 then nI (pcn (tbl (stF (envS s) (sK s) i q) 9 1 0) 12) else gtr (tbl (stF (envS s) (sK s) i q) 9 1 0) 9) := by
    unfold aTop
    rw [if_pos ⟨a, b⟩, ei]
    rfl
  rw [e8] at hZ hB
  have vr : vp_in (nI i) 4 := nI_vp (by omega) (by decide)
  have cr := nI_c (n := i) (by omega)
  have m56 : M.1 56 (nI i).toNatClampNeg = nI (hgt (sK s) i) := by rw [cr]; exact (h.1.2 i hir).1
  (conv => whnf)
  refine ⟨vr, ?_⟩
  (conv => whnf); refine ⟨fun k => ?_, fun k => ?_⟩
  · replace k : cnd .ne (M.1 56 (nI i).toNatClampNeg) 0 := k
    rw [m56, c_ne, eh, t0] at k
    obtain ⟨q, hq⟩ := ly_at (rk := sK s) (r := i) (l := hgt (sK s) i - 1) (by omega)
    rw [hq] at hB
    dsimp only at hB
    rw [cnt_9, lst_e 9 (Nat.le_refl _)] at hB
    (conv => whnf)
    refine hC _ _ _ _ _ (m_layNow h.1 hv.1) (fun v M1 y => ?_)
    obtain ⟨rfl, p2, p3⟩ := y
    have r56 : M1.1 56 (nI i).toNatClampNeg = nI (hgt (sK s) i) := by rw [FrM_c p2 (by decide) (by decide)]; exact m56
    have eI : cI 12 * nI i + nI (hgt (sK s) i) - cI 1 = nI (12 * i + (hgt (sK s) i - 1)) := by
      rw [show cI 12 = nI 12 from rfl, nI_mul, nI_add, show nI (12 * i + hgt (sK s) i) - cI 1 = nI (12 * i + hgt (sK s) i - 1) from nI_sub (b := 1) (by omega)]
      congr 1
      omega
    (conv => whnf)
    refine ⟨vr, ?_⟩
    (conv => whnf)
    rw [r56]
    exact hB _ _ _ _ (Body_lv (mforce_loop (d := d) h hv hq p3 b 9 0 M1 rfl (NOWx p2) rfl (fun _ _ _ => rfl) (fun _ _ => rfl)) ⟨rfl, rfl, rfl, v_eq eI, rfl, rfl, rfl, trivial⟩)
  · replace k : ¬ cnd .ne (M.1 56 (nI i).toNatClampNeg) 0 := k
    rw [m56, c_ne, eh, t0] at k
    have hn : ((sK s).getD i [])[hgt (sK s) i - 1]? = none := List.getElem?_eq_none (by show hgt (sK s) i ≤ _; omega)
    rw [hn] at hZ
    dsimp only at hZ
    (conv => whnf); refine ⟨fun t => ?_, fun t => ?_⟩
    · simp only [c_lt, c_gt, c_le, c_ge, c_eq, c_ne, b2_z, b2_nz, b2_i, Classical.not_not, t0, t1, Nat.reduceMod, Nat.reduceDiv, Int.reduceAdd, Int.reduceNeg, Nat.reduceAdd, kv_m2, kv_m1, kv_0, kv_1, kv_2, kv_8, kv_9, kv_12, kc_0, kc_1, kc_2, kc_8, kc_9, kc_12] at t
      rw [if_neg t] at hZ
      conv => whnf
      exact hZ _ _ (QP_same h FrM_refl)
    · simp only [c_lt, c_gt, c_le, c_ge, c_eq, c_ne, b2_z, b2_nz, b2_i, Classical.not_not, t0, t1, Nat.reduceMod, Nat.reduceDiv, Int.reduceAdd, Int.reduceNeg, Nat.reduceAdd, kv_m2, kv_m1, kv_0, kv_1, kv_2, kv_8, kv_9, kv_12, kc_0, kc_1, kc_2, kc_8, kc_9, kc_12] at t
      rw [if_pos t] at hZ
      conv => whnf
      exact hZ _ _ (QP_same h FrM_refl)
