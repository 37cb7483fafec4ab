/-! cuts as they are drawn -/
def ush (z : Int32) (k : Int) : Int32 := (z.toUInt32 >>> ((cI k).toUInt32 &&& Int32.toUInt32 31)).toInt32
theorem u_nI (u : UInt32) : u.toInt32 = nI u.toNat := by
  show u.toInt32 = Int32.ofNat u.toNat
  have : Int32.ofNat u.toNat = (UInt32.ofNat u.toNat).toInt32 := rfl
  rw [this, UInt32.ofNat_toNat]
def usn (z : Int32) (k : Nat) : Nat := z.toUInt32.toNat / 2 ^ k
theorem usn_lt (z : Int32) (k : Nat) (h : 1 ≤ k) : usn z k < 2147483648 := by
  have h1 := z.toUInt32.toNat_lt
  unfold usn
  have h2 : 2 ≤ 2 ^ k := by
    calc 2 = 2 ^ 1 := rfl
    _ ≤ 2 ^ k := Nat.pow_le_pow_right (by omega) h
  have h3 : z.toUInt32.toNat / 2 ^ k ≤ z.toUInt32.toNat / 2 := Nat.div_le_div_left h2 (by omega)
  omega
theorem ush_8 (z : Int32) : ush z 8 = nI (usn z 8) := by
  unfold ush
  rw [u_nI, UInt32.toNat_shiftRight]
  have : (((cI 8).toUInt32 &&& Int32.toUInt32 31).toNat % 32) = 8 := by decide
  rw [this, Nat.shiftRight_eq_div_pow]
  rfl
theorem ush_16 (z : Int32) : ush z 16 = nI (usn z 16) := by
  unfold ush
  rw [u_nI, UInt32.toNat_shiftRight]
  have : (((cI 16).toUInt32 &&& Int32.toUInt32 31).toNat % 32) = 16 := by decide
  rw [this, Nat.shiftRight_eq_div_pow]
  rfl
def lcg (z : Int32) : Int32 := z * 1103515245 + cI 12345
def wlet (E : EnvK) (w : Wst) (r l : Nat) (q : Lyr) : Wst := (cutR w.1 r l, w.2.1 + cI 1, w.2.2.1 + kp E w.1 r l q, w.2.2.2)
def wpick (z : Int32) (rk : Rk) : Nat := if 0 < rk.length then usn z 8 % rk.length else 0
def wdraw (E : EnvK) : Nat → Int32 → Wst → Int32 × Wst
  | 0, z, w => (z, w)
  | n + 1, z, w => match (w.1.getD (wpick (lcg z) w.1) [])[usn (lcg z) 16 % hgt w.1 (wpick (lcg z) w.1)]? with
    | some q => wdraw E n (lcg z) (wlet E w (wpick (lcg z) w.1) (usn (lcg z) 16 % hgt w.1 (wpick (lcg z) w.1)) q)
    | none => wdraw E n (lcg z) w
theorem draw_loop {d m : Nat} {E : EnvK} (hm : m < 2147483648) : ∀ (k i : Nat) (z : Int32) (M : Mem) (w : Wst), i + k = m → RWs M w → RE M E →
    BodyK (d + 6) 85 11 [(0, .ref 4), (3, .int (nI m)), (4, .int z), (5, .int (nI i))] [] M (fun v M' => v = some (.int (wdraw E k z w).1) ∧ RWs M' (wdraw E k z w).2 ∧ Fr AW M M') := by
  have em := nI_v (n := m) (by omega)
  intro k
  induction k with
  | zero =>
    intro i z M w hi h he
    have e := nI_v (n := i) (by omega)
    refine body_run 400 rfl (fun B Cl Z hZ hB hC => ?_)
    (conv => whnf); refine ⟨fun b => ?_, fun b => ?_⟩
    · conv => whnf
      exact hZ _ _ ⟨rfl, h, Fr_refl⟩
    · simp only [c_lt, c_gt, c_le, c_ge, c_eq, c_ne, b2_z, b2_nz, b2_i, Classical.not_not, t0, t1, Nat.reduceMod, Nat.reduceDiv, Int.reduceAdd, Int.reduceNeg, Nat.reduceAdd, kv_0, kv_1, kv_8, kv_16, kv_12345, kc_0, kc_1, kc_8, kc_16, kc_12345, e, em] at b
      omega
  | succ k ih =>
    intro i z M w hi h he
    have e := nI_v (n := i) (by omega)
    have hR := h.1.1
    have hRl := h.1.2.1
    have eR := nI_v (n := w.1.length) (by omega)
    have hpk : wpick (lcg z) w.1 < 4 := by
      unfold wpick
      split
      · have := Nat.mod_lt (usn (lcg z) 8) (show 0 < w.1.length by omega)
        omega
      · omega
    have hh := h.1.2.2.2.1 (wpick (lcg z) w.1)
    have eh := nI_v (n := hgt w.1 (wpick (lcg z) w.1)) (by omega)
    have u1 := usn_lt (lcg z) 8 (by omega)
    have u2 := usn_lt (lcg z) 16 (by omega)
    refine body_run 400 rfl (fun B Cl Z hZ hB hC => ?_)
    (conv => whnf); refine ⟨fun b => ?_, fun b => ?_⟩
    · simp only [c_lt, c_gt, c_le, c_ge, c_eq, c_ne, b2_z, b2_nz, b2_i, Classical.not_not, t0, t1, Nat.reduceMod, Nat.reduceDiv, Int.reduceAdd, Int.reduceNeg, Nat.reduceAdd, kv_0, kv_1, kv_8, kv_16, kv_12345, kc_0, kc_1, kc_8, kc_16, kc_12345, e, em] at b
      omega
    have hst : ∀ (v : Option Value) (M' : Mem), (match (w.1.getD (wpick (lcg z) w.1) [])[usn (lcg z) 16 % hgt w.1 (wpick (lcg z) w.1)]? with
        | some q => (v = some (.int (wdraw E k (lcg z) (wlet E w (wpick (lcg z) w.1) (usn (lcg z) 16 % hgt w.1 (wpick (lcg z) w.1)) q)).1) ∧ RWs M' (wdraw E k (lcg z) (wlet E w (wpick (lcg z) w.1) (usn (lcg z) 16 % hgt w.1 (wpick (lcg z) w.1)) q)).2 ∧ Fr AW M M')
        | none => (v = some (.int (wdraw E k (lcg z) w).1) ∧ RWs M' (wdraw E k (lcg z) w).2 ∧ Fr AW M M')) → (v = some (.int (wdraw E (k + 1) z w).1) ∧ RWs M' (wdraw E (k + 1) z w).2 ∧ Fr AW M M') := by
      intro v M' q
      unfold wdraw
      split at q
      · next q0 hq0 => exact q
      · next hq0 => exact q
    (conv => whnf); refine ⟨fun c => ?_, fun c => ?_⟩
    · replace c : M.1 18 0 ≤ 0 := c
      rw [hR, Int32.le_iff_toInt_le, eR] at c
      have c : w.1.length = 0 := by have : (0 : Int32).toInt = 0 := rfl; omega
      have hp : wpick (lcg z) w.1 = 0 := if_neg (by omega)
      have hg0 : hgt w.1 0 = 0 := hgt_ge (by omega)
      (conv => whnf)
      refine ret_k hC (sp_height (r := 0) (by simp [isYd]) h.1 (by omega)) ?_
      rw [hg0]
      (conv => whnf); refine ⟨fun g => ?_, fun g => ?_⟩
      · (conv => whnf)
        refine hB _ _ _ _ (Body_lv (Body_mono (ih (i + 1) (lcg z) M w (by omega) h he) (fun v M' q => hst v M' ?_)) ⟨rfl, rfl, rfl, v_eq (nI_i1 i), trivial⟩)
        rw [hp, List.getElem?_eq_none (show (w.1.getD 0 []).length ≤ _ by show hgt w.1 0 ≤ _; omega)]
        exact q
      · exact absurd (show nI 0 ≤ 0 by decide) g
    · replace c : ¬ M.1 18 0 ≤ 0 := c
      rw [hR, Int32.le_iff_toInt_le, eR] at c
      have c : 0 < w.1.length := by have : (0 : Int32).toInt = 0 := rfl; omega
      have hp : wpick (lcg z) w.1 = usn (lcg z) 8 % w.1.length := if_pos c
      have ex : ush (lcg z) 8 - ush (lcg z) 8 / M.1 18 0 * M.1 18 0 = nI (wpick (lcg z) w.1) := by
        rw [hR, ush_8, hp]
        exact nI_rem u1 (by omega)
      (conv => whnf)
      refine ⟨by show ¬ M.1 18 0 = 0; rw [hR, x_eq, eR]; have : (0 : Int32).toInt = 0 := rfl; omega, ?_⟩
      (conv => whnf)
      have hcall : Call (d + 5) 88 [.ref 18, .int (ush (lcg z) 8 - ush (lcg z) 8 / M.1 18 0 * M.1 18 0)] M (RV (some (.int (nI (hgt w.1 (wpick (lcg z) w.1))))) M) := by
        rw [ex]
        exact sp_height (by simp [isYd]) h.1 hpk
      refine ret_k hC hcall ?_
      (conv => whnf); refine ⟨fun g => ?_, fun g => ?_⟩
      · replace g : nI (hgt w.1 (wpick (lcg z) w.1)) ≤ 0 := g
        rw [Int32.le_iff_toInt_le, eh] at g
        have g : hgt w.1 (wpick (lcg z) w.1) = 0 := by have : (0 : Int32).toInt = 0 := rfl; omega
        (conv => whnf)
        refine hB _ _ _ _ (Body_lv (Body_mono (ih (i + 1) (lcg z) M w (by omega) h he) (fun v M' q => hst v M' ?_)) ⟨rfl, rfl, rfl, v_eq (nI_i1 i), trivial⟩)
        rw [List.getElem?_eq_none (show (w.1.getD (wpick (lcg z) w.1) []).length ≤ _ by show hgt w.1 (wpick (lcg z) w.1) ≤ _; omega)]
        exact q
      · replace g : ¬ nI (hgt w.1 (wpick (lcg z) w.1)) ≤ 0 := g
        rw [Int32.le_iff_toInt_le, eh] at g
        have g : 0 < hgt w.1 (wpick (lcg z) w.1) := by have : (0 : Int32).toInt = 0 := rfl; omega
        have hlt := Nat.mod_lt (usn (lcg z) 16) g
        obtain ⟨q, hq⟩ := ly_at hlt
        (conv => whnf)
        refine ⟨by rw [x_eq, eh]; have : (0 : Int32).toInt = 0 := rfl; omega, ?_⟩
        (conv => whnf)
        have hcall2 : Call (d + 5) 84 [.ref 4, .int (ush (lcg z) 8 - ush (lcg z) 8 / M.1 18 0 * M.1 18 0), .int (ush (lcg z) 16 - ush (lcg z) 16 / nI (hgt w.1 (wpick (lcg z) w.1)) * nI (hgt w.1 (wpick (lcg z) w.1)))] M (fun v M' => v = some (.int (kp E w.1 (wpick (lcg z) w.1) (usn (lcg z) 16 % hgt w.1 (wpick (lcg z) w.1)) q)) ∧ RWs M' (wlet E w (wpick (lcg z) w.1) (usn (lcg z) 16 % hgt w.1 (wpick (lcg z) w.1)) q) ∧ Fr AW M M') := by
          rw [ex, ush_16, nI_rem u2 (by omega)]
          exact sp_letGo h he hq
        refine hC _ _ _ _ _ hcall2 (fun v M1 p => ?_)
        obtain ⟨rfl, p2, p3⟩ := p
        (conv => whnf)
        refine hB _ _ _ _ (Body_lv (Body_mono (ih (i + 1) (lcg z) M1 _ (by omega) p2 (RE_fr he p3 (by decide))) (fun v M' u => hst v M' ?_)) ⟨rfl, rfl, rfl, v_eq (nI_i1 i), trivial⟩)
        rw [hq]
        exact ⟨u.1, u.2.1, Fr_trans p3 u.2.2⟩
theorem sp_drawOne {d m : Nat} {M : Mem} {E : EnvK} {rk : Rk} {z : Int32} (hm : m < 2147483648) (h : RY M 10 rk) (he : RE M E) :
    Call (d + 6) 85 [.ref 4, .ref 10, .int z, .int (nI m)] M (fun v M' => v = some (.int (wdraw E m z (w0 rk)).1) ∧ RWs M' (wdraw E m z (w0 rk)).2 ∧ Fr AW M M') := by
  refine call_run 400 rfl rfl (fun B Cl Z hZ hB hC => ?_)
  (conv => whnf)
  refine hC _ _ _ _ _ (sp_wbegin (d := d + 3) h) (fun v M1 q => ?_)
  obtain ⟨rfl, q2, q3⟩ := q
  (conv => whnf)
  have := draw_loop (d := d) hm m 0 z M1 (w0 rk) (by omega) q2 (RE_fr he q3 (by decide))
  exact hB _ _ _ _ (Body_lv (Body_mono this (fun v M' q => ⟨q.1, q.2.1, Fr_trans q3 q.2.2⟩)) ⟨rfl, rfl, rfl, rfl, trivial⟩)
