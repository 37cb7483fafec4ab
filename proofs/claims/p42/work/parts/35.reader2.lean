/-! the class's reader: operands and levels -/
def pst (M' : Mem) (t code : List Nat) (r : PR) : Prop := match r.2 with
  | some cs => RRd M' t r.1 (code ++ cs)
  | none => RFd M' t r.1
def PQ (M : Mem) (t code : List Nat) (r : PR) : Po := fun v M' => v = none ∧ Fr AD M M' ∧ pst M' t code r
def need (m o : Nat) : Nat := (6 - o) * 7 + (6 - m)
theorem fnd_rng (c : Nat) : ∀ k i, i + k ≤ 6 → -1 ≤ fnd c k i ∧ fnd c k i < 6
  | 0, i, _ => by simp [fnd]
  | k + 1, i, h => by
    unfold fnd
    split
    · omega
    · exact fnd_rng c k (i + 1) (by omega)
theorem fnd_ge {c : Nat} (h : 128 ≤ c) : ∀ k i, fnd c k i = -1
  | 0, i => rfl
  | k + 1, i => by
    have := nmL_lt (i := i)
    unfold fnd
    rw [if_neg (by omega)]
    exact fnd_ge h k (i + 1)
theorem nI_ch {c : Nat} (h : c < 65536) : ((nI c).toUInt32 % 65536).toInt32 = nI c := by
  rw [u_nI]
  congr 1
  have e1 : (nI c).toUInt32.toNat = c := by
    show (UInt32.ofNat c).toNat = c
    rw [UInt32.toNat_ofNat']
    omega
  rw [UInt32.toNat_mod, e1]
  show c % 65536 = c
  omega
/-- a fault told -/
theorem RFd_of {M : Mem} {t code : List Nat} {a : Nat} (h : RRd M t a code) (hl : code.length ≤ 121) : RFd (mI M 2 5 (nI a)) t a := by
  obtain ⟨h1, h2, h3, h4, h5, h6⟩ := h
  have := h1.2.1
  exact ⟨RT0_fr (A := []) h1 (by simp [mI_at]) (by simp [mI_ne]), by simp [mI_at], by omega, code.length, hl, by simp [mI_at]; exact h5⟩
theorem RFd_at {M : Mem} {t : List Nat} {p : Nat} {x : Int32} (h : RFd M t p) : RFd (mI M 2 4 x) t p := by
  obtain ⟨h1, h2, h3, k, h4, h5⟩ := h
  exact ⟨RT0_fr (A := []) h1 (by simp [mI_at]) (by simp [mI_ne]), by simp [mI_at]; exact h2, h3, k, h4, by simp [mI_at]; exact h5⟩
section Rec
variable {t : List Nat}
/-- operands, with n steps of depth left -/
def SO (t : List Nat) (n : Nat) : Prop := ∀ (D o a : Nat) (code : List Nat) (M : Mem), 3 * n + 5 ≤ D → o ≤ 6 → need 5 o ≤ n → RRd M t a code → code.length ≤ a → Call D 24 [.ref 2, .int (nI o)] M (PQ M t code (pz t n 5 o a))
def SL (t : List Nat) (n : Nat) : Prop := ∀ (D m o a : Nat) (code : List Nat) (M : Mem), 3 * n + 6 ≤ D → m ≤ 5 → o ≤ 6 → need m o ≤ n → RRd M t a code → code.length ≤ a → Call D 23 [.ref 2, .int (nI m), .int (nI o)] M (PQ M t code (pz t n m o a))
def opn (t : List Nat) (n c o a : Nat) : PR :=
  if c = 40 then (match pz t n 0 o a with
    | (p, some cs) => if t[p]? = some 41 then (p + 1, some cs) else (p, none)
    | (p, none) => (p, none))
  else (match pz t n 5 o a with
    | (p, some cs) => (p, some (cs ++ [if c = 33 then 10043 else 10136]))
    | (p, none) => (p, none))
theorem sp_opened {D n c o a : Nat} {code : List Nat} {M : Mem} (hO : SO t n) (hL : SL t n) (hD : 3 * n + 7 ≤ D) (ho : o ≤ 6) (hn : need 0 o ≤ n) (hc : c = 33 ∨ c = 45 ∨ c = 40) (h : RRd M t a code) (hl : code.length + 1 ≤ a) : Call D 25 [.ref 2, .int (nI c), .int (nI o)] M (PQ M t code (opn t n c o a)) := by
  obtain ⟨d, rfl⟩ : ∃ d, D = d + 3 := ⟨D - 3, by omega⟩
  have e := nI_v (n := c) (by omega)
  have hn5 : need 5 o ≤ n := by unfold need at hn ⊢; omega
  have hle := h.2.2.1
  have h120 := h.1.2.1
  refine call_run 400 rfl rfl (fun B Cl Z hZ hB hC => ?_)
  (conv => whnf); refine ⟨fun b => ?_, fun b => ?_⟩
  · simp only [c_lt, c_gt, c_le, c_ge, c_eq, c_ne, b2_z, b2_nz, b2_i, Classical.not_not, t0, t1, Nat.reduceMod, Nat.reduceDiv, Int.reduceAdd, Int.reduceNeg, Nat.reduceAdd, kv_0, kv_1, kv_33, kv_40, kv_41, kv_10043, kv_10136, kc_0, kc_1, kc_33, kc_40, kc_41, kc_10043, kc_10136, e] at b
    have b : c = 40 := by omega
    (conv => whnf)
    refine hC _ _ _ _ _ (hL _ 0 o a code M (by omega) (by omega) ho hn h (by omega)) (fun v M1 q => ?_)
    obtain ⟨rfl, q2, q3⟩ := q
    have hf := pz_fine (t := t) n 0 o a hle
    have hop : opn t n c o a = (match pz t n 0 o a with
      | (p, some cs) => if t[p]? = some 41 then (p + 1, some cs) else (p, none)
      | (p, none) => (p, none)) := if_pos b
    cases hr : pz t n 0 o a with
    | mk p oc =>
      rw [hr] at q3 hf hop
      cases oc with
      | none =>
        have q4 : RFd M1 t p := q3
        have e5 := nI_v (n := p) (by have := q4.2.2.1; omega)
        (conv => whnf); refine ⟨fun g => ?_, fun g => ?_⟩
        · (conv => whnf)
          refine hZ _ _ ⟨rfl, Fr_trans q2 (Fr_mI Fr_refl (by decide)), ?_⟩
          rw [hop]
          exact RFd_at q4
        · simp only [c_lt, c_gt, c_le, c_ge, c_eq, c_ne, b2_z, b2_nz, b2_i, Classical.not_not, t0, t1, Nat.reduceMod, Nat.reduceDiv, Int.reduceAdd, Int.reduceNeg, Nat.reduceAdd, kv_0, kv_1, kv_33, kv_40, kv_41, kv_10043, kv_10136, kc_0, kc_1, kc_33, kc_40, kc_41, kc_10043, kc_10136, q4.2.1, e5] at g
          omega
      | some cs =>
        have q4 : RRd M1 t p (code ++ cs) := q3
        obtain ⟨g1, g2, g3⟩ := hf
        have g3 := (g3 cs rfl).1
        simp at g1 g2 g3
        (conv => whnf); refine ⟨fun g => ?_, fun g => ?_⟩
        · simp only [c_lt, c_gt, c_le, c_ge, c_eq, c_ne, b2_z, b2_nz, b2_i, Classical.not_not, t0, t1, Nat.reduceMod, Nat.reduceDiv, Int.reduceAdd, Int.reduceNeg, Nat.reduceAdd, kv_0, kv_1, kv_33, kv_40, kv_41, kv_10043, kv_10136, kc_0, kc_1, kc_33, kc_40, kc_41, kc_10043, kc_10136, q4.2.2.2.1, kv_m1] at g
          omega
        · (conv => whnf); refine ret_k hC (sp_next q4.1 q4.2.1 (by omega)) ?_
          (conv => whnf); refine ⟨fun f => ?_, fun f => ?_⟩
          · replace f : nxI t p = cI 41 := f
            have hx : t[p]? = some 41 := by
              cases hx : t[p]? with
              | none => rw [nxI_n hx] at f; exact absurd f (by decide)
              | some c2 =>
                rw [nxI_s hx, x_eq, nI_v (by have := (q4.1.2.2 p c2 hx).2; omega), kv_41] at f
                have : c2 = 41 := by omega
                rw [this]
            have hpl := (List.getElem?_eq_some_iff.mp hx).1
            (conv => whnf)
            simp only [Nat.reduceMod, q4.2.1, nI_i1]
            refine hZ _ _ ⟨rfl, Fr_trans q2 (Fr_mI Fr_refl (by decide)), ?_⟩
            rw [hop]
            show pst _ t code (if t[p]? = some 41 then (p + 1, some cs) else (p, none))
            rw [if_pos hx]
            exact RRd_at q4 hpl
          · replace f : ¬ nxI t p = cI 41 := f
            have hx : ¬ t[p]? = some 41 := fun q => f (by rw [nxI_s q]; rfl)
            (conv => whnf)
            simp only [Nat.reduceMod, q4.2.1]
            refine hZ _ _ ⟨rfl, Fr_trans q2 (Fr_mI (Fr_mI Fr_refl (by decide)) (by decide)), ?_⟩
            rw [hop]
            show pst _ t code (if t[p]? = some 41 then (p + 1, some cs) else (p, none))
            rw [if_neg hx]
            exact RFd_at (RFd_of q4 (by simp; omega))
  · simp only [c_lt, c_gt, c_le, c_ge, c_eq, c_ne, b2_z, b2_nz, b2_i, Classical.not_not, t0, t1, Nat.reduceMod, Nat.reduceDiv, Int.reduceAdd, Int.reduceNeg, Nat.reduceAdd, kv_0, kv_1, kv_33, kv_40, kv_41, kv_10043, kv_10136, kc_0, kc_1, kc_33, kc_40, kc_41, kc_10043, kc_10136, e] at b
    have b : ¬ c = 40 := by omega
    (conv => whnf)
    refine hC _ _ _ _ _ (hO _ o a code M (by omega) ho hn5 h (by omega)) (fun v M1 q => ?_)
    obtain ⟨rfl, q2, q3⟩ := q
    have hf := pz_fine (t := t) n 5 o a hle
    have hop : opn t n c o a = (match pz t n 5 o a with
      | (p, some cs) => (p, some (cs ++ [if c = 33 then 10043 else 10136]))
      | (p, none) => (p, none)) := if_neg b
    cases hr : pz t n 5 o a with
    | mk p oc =>
      rw [hr] at q3 hf hop
      cases oc with
      | none =>
        have q4 : RFd M1 t p := q3
        (conv => whnf); refine ⟨fun g => ?_, fun g => ?_⟩
        · (conv => whnf)
          refine hC _ _ _ _ _ (sp_stepF q4) (fun v M2 r => ?_)
          obtain ⟨rfl, r2, r3⟩ := r
          (conv => whnf)
          refine hZ _ _ ⟨rfl, Fr_trans q2 r3, ?_⟩
          rw [hop]
          exact r2
        · (conv => whnf)
          refine hC _ _ _ _ _ (sp_stepF q4) (fun v M2 r => ?_)
          obtain ⟨rfl, r2, r3⟩ := r
          (conv => whnf)
          refine hZ _ _ ⟨rfl, Fr_trans q2 r3, ?_⟩
          rw [hop]
          exact r2
      | some cs =>
        have q4 : RRd M1 t p (code ++ cs) := q3
        obtain ⟨g1, g2, g3⟩ := hf
        have g3 := (g3 cs rfl).1
        simp at g1 g2 g3
        (conv => whnf); refine ⟨fun g => ?_, fun g => ?_⟩
        · simp only [c_lt, c_gt, c_le, c_ge, c_eq, c_ne, b2_z, b2_nz, b2_i, Classical.not_not, t0, t1, Nat.reduceMod, Nat.reduceDiv, Int.reduceAdd, Int.reduceNeg, Nat.reduceAdd, kv_0, kv_1, kv_33, kv_40, kv_41, kv_10043, kv_10136, kc_0, kc_1, kc_33, kc_40, kc_41, kc_10043, kc_10136, e] at g
          have g : ¬ c = 33 := by omega
          (conv => whnf)
          refine hC _ _ _ _ _ (sp_step (c := 10136) q4 (by simp; omega)) (fun v M2 r => ?_)
          obtain ⟨rfl, r2, r3⟩ := r
          (conv => whnf)
          refine hZ _ _ ⟨rfl, Fr_trans q2 r3, ?_⟩
          rw [hop]
          show RRd M2 t p (code ++ (cs ++ [if c = 33 then 10043 else 10136]))
          rw [if_neg g, ← List.append_assoc]
          exact r2
        · simp only [c_lt, c_gt, c_le, c_ge, c_eq, c_ne, b2_z, b2_nz, b2_i, Classical.not_not, t0, t1, Nat.reduceMod, Nat.reduceDiv, Int.reduceAdd, Int.reduceNeg, Nat.reduceAdd, kv_0, kv_1, kv_33, kv_40, kv_41, kv_10043, kv_10136, kc_0, kc_1, kc_33, kc_40, kc_41, kc_10043, kc_10136, e] at g
          have g : c = 33 := by omega
          (conv => whnf)
          refine hC _ _ _ _ _ (sp_step (c := 10043) q4 (by simp; omega)) (fun v M2 r => ?_)
          obtain ⟨rfl, r2, r3⟩ := r
          (conv => whnf)
          refine hZ _ _ ⟨rfl, Fr_trans q2 r3, ?_⟩
          rw [hop]
          show RRd M2 t p (code ++ (cs ++ [if c = 33 then 10043 else 10136]))
          rw [if_pos g, ← List.append_assoc]
          exact r2
theorem fnd_c (c : Nat) : ∀ k i, i + k ≤ 6 → 0 ≤ fnd c k i → 97 ≤ c ∧ c ≤ 109
  | 0, i, _, h => by simp [fnd] at h
  | k + 1, i, hi, h => by
    unfold fnd at h
    split at h
    · next q =>
      match i, q, hi with
      | 0, q, _ => subst q; decide
      | 1, q, _ => subst q; decide
      | 2, q, _ => subst q; decide
      | 3, q, _ => subst q; decide
      | 4, q, _ => subst q; decide
      | 5, q, _ => subst q; decide
      | i + 6, _, hi => omega
    · exact fnd_c c k (i + 1) (by omega) h
theorem so_step {n : Nat} (hO : SO t n) (hL : SL t n) : SO t (n + 1) := by
  intro D o a code M hD ho hn h hl
  obtain ⟨d, rfl⟩ : ∃ d, D = d + 8 := ⟨D - 8, by omega⟩
  have hle := h.2.2.1
  have h120 := h.1.2.1
  have eo := nI_v (n := o) (by omega)
  -- a fault here
  have flt : pz t (n + 1) 5 o a = (a, none) → ∀ v M', v = none → M' = mI M 2 5 (nI a) → PQ M t code (pz t (n + 1) 5 o a) v M' := by
    intro hp v M' hv hM
    rw [hp, hM]
    exact ⟨hv, Fr_mI Fr_refl (by decide), RFd_of h (by omega)⟩
  have hunf : pz t (n + 1) 5 o a = (match t[a]? with
      | none => (a, none)
      | some c =>
        if 48 ≤ c ∧ c ≤ 57 then ((dg t 4 a 0).1, some [(dg t 4 a 0).2])
        else if 0 ≤ fnd c 6 0 then (a + 1, some [10000 + (fnd c 6 0).toNat])
        else if c = 33 ∨ c = 45 then (if o < 6 then (match pz t n 5 (o + 1) (a + 1) with
          | (p, some cs) => (p, some (cs ++ [if c = 33 then 10043 else 10136]))
          | (p, none) => (p, none)) else (a, none))
        else if c = 40 then (if o < 6 then (match pz t n 0 (o + 1) (a + 1) with
          | (p, some cs) => if t[p]? = some 41 then (p + 1, some cs) else (p, none)
          | (p, none) => (p, none)) else (a, none))
        else (a, none)) := rfl
  refine call_run 400 rfl rfl (fun B Cl Z hZ hB hC => ?_)
  (conv => whnf); refine ret_k hC (sp_next h.1 h.2.1 (by omega)) ?_
  cases hx : t[a]? with
  | none =>
    have hp : pz t (n + 1) 5 o a = (a, none) := by rw [hunf, hx]
    have ex : (nxI t a).toInt = -1 := by rw [nxI_n hx]; rfl
    repeat' (first | ((conv => whnf); refine ⟨fun _ => ?_, fun _ => ?_⟩) | ((conv => whnf); refine ⟨?_, ?_⟩) | fail)
    all_goals (try simp only [c_lt, c_gt, c_le, c_ge, c_eq, c_ne, b2_z, b2_nz, b2_i, Classical.not_not, t0, t1, Nat.reduceMod, Nat.reduceDiv, Int.reduceAdd, Int.reduceNeg, Nat.reduceAdd, kv_1, kv_6, kv_33, kv_40, kv_45, kv_48, kv_57, kv_128, kv_10000, kc_1, kc_6, kc_33, kc_40, kc_45, kc_48, kc_57, kc_128, kc_10000, ex] at *)
    all_goals first
      | omega
      | skip
    all_goals
      (conv => whnf)
      simp only [Nat.reduceMod, h.2.1]
      exact hZ _ _ (flt hp _ _ rfl rfl)
  | some c =>
    have hal := (List.getElem?_eq_some_iff.mp hx).1
    have hc256 := (h.1.2.2 a c hx).2
    have ex : (nxI t a).toInt = c := by rw [nxI_s hx]; exact nI_v (by omega)
    rw [hx] at hunf
    replace hunf : pz t (n + 1) 5 o a = (if 48 ≤ c ∧ c ≤ 57 then ((dg t 4 a 0).1, some [(dg t 4 a 0).2])
        else if 0 ≤ fnd c 6 0 then (a + 1, some [10000 + (fnd c 6 0).toNat])
        else if c = 33 ∨ c = 45 then (if o < 6 then (match pz t n 5 (o + 1) (a + 1) with
          | (p, some cs) => (p, some (cs ++ [if c = 33 then 10043 else 10136]))
          | (p, none) => (p, none)) else (a, none))
        else if c = 40 then (if o < 6 then (match pz t n 0 (o + 1) (a + 1) with
          | (p, some cs) => if t[p]? = some 41 then (p + 1, some cs) else (p, none)
          | (p, none) => (p, none)) else (a, none))
        else (a, none)) := hunf
    have ec : (nI c).toInt = c := nI_v (by omega)
    have t73 : ¬ (48 ≤ c ∧ c ≤ 57) → ¬ 0 ≤ fnd c 6 0 → ∀ m2, wpN 24 B Cl Z (m2 + 80) (seekK (cdo 24) 73) (put1 2 (.int (nxI t a)) (lv_args 0 [.ref 2, .int (nI o)])) [] M := by
      intro z1 z2 m2
      rw [if_neg z1, if_neg z2] at hunf
      have bad : ¬ (c = 33 ∨ c = 45) → ¬ c = 40 → Z none (mI M 2 5 (nI a)) := fun y1 y2 => hZ _ _ (flt (by rw [hunf, if_neg y1, if_neg y2]) _ _ rfl rfl)
      have ok : (c = 33 ∨ c = 45 ∨ c = 40) → ∀ m3, wpN 24 B Cl Z (m3 + 50) (seekK (cdo 24) 91) (put1 2 (.int (nxI t a)) (lv_args 0 [.ref 2, .int (nI o)])) [] M := by
        intro y m3
        (conv => whnf); refine ⟨fun b => ?_, fun b => ?_⟩
        · simp only [c_lt, c_gt, c_le, c_ge, c_eq, c_ne, b2_z, b2_nz, b2_i, Classical.not_not, t0, t1, Nat.reduceMod, Nat.reduceDiv, Int.reduceAdd, Int.reduceNeg, Nat.reduceAdd, kv_1, kv_6, kv_33, kv_40, kv_45, kv_48, kv_57, kv_128, kv_10000, kc_1, kc_6, kc_33, kc_40, kc_45, kc_48, kc_57, kc_128, kc_10000, eo] at b
          (conv => whnf)
          simp only [Nat.reduceMod, h.2.1]
          refine hZ _ _ (flt ?_ _ _ rfl rfl)
          rw [hunf]
          by_cases y1 : c = 33 ∨ c = 45
          · rw [if_pos y1, if_neg (by omega)]
          · rw [if_neg y1, if_pos (by omega), if_neg (by omega)]
        · simp only [c_lt, c_gt, c_le, c_ge, c_eq, c_ne, b2_z, b2_nz, b2_i, Classical.not_not, t0, t1, Nat.reduceMod, Nat.reduceDiv, Int.reduceAdd, Int.reduceNeg, Nat.reduceAdd, kv_1, kv_6, kv_33, kv_40, kv_45, kv_48, kv_57, kv_128, kv_10000, kc_1, kc_6, kc_33, kc_40, kc_45, kc_48, kc_57, kc_128, kc_10000, eo] at b
          (conv => whnf)
          simp only [Nat.reduceMod, h.2.1, nI_i1, nxI_s hx]
          have hop : pz t (n + 1) 5 o a = opn t n c (o + 1) (a + 1) := by
            rw [hunf]
            unfold opn
            by_cases y1 : c = 33 ∨ c = 45
            · rw [if_pos y1, if_pos (show o < 6 by omega), if_neg (show ¬ c = 40 by omega)]
            · rw [if_neg y1, if_pos (show c = 40 by omega), if_pos (show o < 6 by omega), if_pos (show c = 40 by omega)]
          refine hC _ _ _ _ _ (sp_opened hO hL (by omega) (by omega) (by unfold need at hn ⊢; omega) y (RRd_at h hal) (by omega)) (fun v M1 q => ?_)
          obtain ⟨rfl, q2, q3⟩ := q
          rw [← hop] at q3
          (conv => whnf)
          exact hZ _ _ ⟨rfl, Fr_trans (Fr_mI Fr_refl (by decide)) q2, q3⟩
      (conv => whnf); refine ⟨fun b => ?_, fun b => ?_⟩
      · simp only [c_lt, c_gt, c_le, c_ge, c_eq, c_ne, b2_z, b2_nz, b2_i, Classical.not_not, t0, t1, Nat.reduceMod, Nat.reduceDiv, Int.reduceAdd, Int.reduceNeg, Nat.reduceAdd, kv_1, kv_6, kv_33, kv_40, kv_45, kv_48, kv_57, kv_128, kv_10000, kc_1, kc_6, kc_33, kc_40, kc_45, kc_48, kc_57, kc_128, kc_10000, x_eq, ex] at b
        exact ok (by omega) _
      · simp only [c_lt, c_gt, c_le, c_ge, c_eq, c_ne, b2_z, b2_nz, b2_i, Classical.not_not, t0, t1, Nat.reduceMod, Nat.reduceDiv, Int.reduceAdd, Int.reduceNeg, Nat.reduceAdd, kv_1, kv_6, kv_33, kv_40, kv_45, kv_48, kv_57, kv_128, kv_10000, kc_1, kc_6, kc_33, kc_40, kc_45, kc_48, kc_57, kc_128, kc_10000, x_eq, ex] at b
        (conv => whnf); refine ⟨fun g => ?_, fun g => ?_⟩
        · simp only [c_lt, c_gt, c_le, c_ge, c_eq, c_ne, b2_z, b2_nz, b2_i, Classical.not_not, t0, t1, Nat.reduceMod, Nat.reduceDiv, Int.reduceAdd, Int.reduceNeg, Nat.reduceAdd, kv_1, kv_6, kv_33, kv_40, kv_45, kv_48, kv_57, kv_128, kv_10000, kc_1, kc_6, kc_33, kc_40, kc_45, kc_48, kc_57, kc_128, kc_10000, x_eq, ex] at g
          exact ok (by omega) _
        · simp only [c_lt, c_gt, c_le, c_ge, c_eq, c_ne, b2_z, b2_nz, b2_i, Classical.not_not, t0, t1, Nat.reduceMod, Nat.reduceDiv, Int.reduceAdd, Int.reduceNeg, Nat.reduceAdd, kv_1, kv_6, kv_33, kv_40, kv_45, kv_48, kv_57, kv_128, kv_10000, kc_1, kc_6, kc_33, kc_40, kc_45, kc_48, kc_57, kc_128, kc_10000, x_eq, ex] at g
          (conv => whnf); refine ⟨fun f => ?_, fun f => ?_⟩
          · simp only [c_lt, c_gt, c_le, c_ge, c_eq, c_ne, b2_z, b2_nz, b2_i, Classical.not_not, t0, t1, Nat.reduceMod, Nat.reduceDiv, Int.reduceAdd, Int.reduceNeg, Nat.reduceAdd, kv_1, kv_6, kv_33, kv_40, kv_45, kv_48, kv_57, kv_128, kv_10000, kc_1, kc_6, kc_33, kc_40, kc_45, kc_48, kc_57, kc_128, kc_10000, x_eq, ex] at f
            (conv => whnf)
            simp only [Nat.reduceMod, h.2.1]
            exact bad (by omega) (by omega)
          · simp only [c_lt, c_gt, c_le, c_ge, c_eq, c_ne, b2_z, b2_nz, b2_i, Classical.not_not, t0, t1, Nat.reduceMod, Nat.reduceDiv, Int.reduceAdd, Int.reduceNeg, Nat.reduceAdd, kv_1, kv_6, kv_33, kv_40, kv_45, kv_48, kv_57, kv_128, kv_10000, kc_1, kc_6, kc_33, kc_40, kc_45, kc_48, kc_57, kc_128, kc_10000, x_eq, ex] at f
            exact ok (by omega) _
    have t24 : ¬ (48 ≤ c ∧ c ≤ 57) → ∀ m2, wpN 24 B Cl Z (m2 + 120) (seekK (cdo 24) 24) (put1 2 (.int (nxI t a)) (lv_args 0 [.ref 2, .int (nI o)])) [] M := by
      intro z1 m2
      (conv => whnf); refine ⟨fun b => ?_, fun b => ?_⟩
      · simp only [c_lt, c_gt, c_le, c_ge, c_eq, c_ne, b2_z, b2_nz, b2_i, Classical.not_not, t0, t1, Nat.reduceMod, Nat.reduceDiv, Int.reduceAdd, Int.reduceNeg, Nat.reduceAdd, kv_1, kv_6, kv_33, kv_40, kv_45, kv_48, kv_57, kv_128, kv_10000, kc_1, kc_6, kc_33, kc_40, kc_45, kc_48, kc_57, kc_128, kc_10000, ex] at b
        exact t73 z1 (fun q => by have := fnd_c c 6 0 (by omega) q; omega) _
      · simp only [c_lt, c_gt, c_le, c_ge, c_eq, c_ne, b2_z, b2_nz, b2_i, Classical.not_not, t0, t1, Nat.reduceMod, Nat.reduceDiv, Int.reduceAdd, Int.reduceNeg, Nat.reduceAdd, kv_1, kv_6, kv_33, kv_40, kv_45, kv_48, kv_57, kv_128, kv_10000, kc_1, kc_6, kc_33, kc_40, kc_45, kc_48, kc_57, kc_128, kc_10000, ex] at b
        (conv => whnf); refine ⟨fun g => ?_, fun g => ?_⟩
        · simp only [c_lt, c_gt, c_le, c_ge, c_eq, c_ne, b2_z, b2_nz, b2_i, Classical.not_not, t0, t1, Nat.reduceMod, Nat.reduceDiv, Int.reduceAdd, Int.reduceNeg, Nat.reduceAdd, kv_1, kv_6, kv_33, kv_40, kv_45, kv_48, kv_57, kv_128, kv_10000, kc_1, kc_6, kc_33, kc_40, kc_45, kc_48, kc_57, kc_128, kc_10000, ex] at g
          exact t73 z1 (fun q => by have := fnd_c c 6 0 (by omega) q; omega) _
        · simp only [c_lt, c_gt, c_le, c_ge, c_eq, c_ne, b2_z, b2_nz, b2_i, Classical.not_not, t0, t1, Nat.reduceMod, Nat.reduceDiv, Int.reduceAdd, Int.reduceNeg, Nat.reduceAdd, kv_1, kv_6, kv_33, kv_40, kv_45, kv_48, kv_57, kv_128, kv_10000, kc_1, kc_6, kc_33, kc_40, kc_45, kc_48, kc_57, kc_128, kc_10000, ex] at g
          have hr := fnd_rng c 6 0 (by omega)
          have ef : (cI (fnd c 6 0)).toInt = fnd c 6 0 := cI_v (by omega) (by omega)
          (conv => whnf)
          rw [nxI_s hx, nI_ch (by omega)]
          refine ret_k hC (sp_indexOf (d := d + 3) (by omega)) ?_
          (conv => whnf); refine ⟨fun f => ?_, fun f => ?_⟩
          · simp only [c_lt, c_gt, c_le, c_ge, c_eq, c_ne, b2_z, b2_nz, b2_i, Classical.not_not, t0, t1, Nat.reduceMod, Nat.reduceDiv, Int.reduceAdd, Int.reduceNeg, Nat.reduceAdd, kv_1, kv_6, kv_33, kv_40, kv_45, kv_48, kv_57, kv_128, kv_10000, kc_1, kc_6, kc_33, kc_40, kc_45, kc_48, kc_57, kc_128, kc_10000, ef] at f
            rw [← nxI_s hx]
            exact t73 z1 (by omega) _
          · simp only [c_lt, c_gt, c_le, c_ge, c_eq, c_ne, b2_z, b2_nz, b2_i, Classical.not_not, t0, t1, Nat.reduceMod, Nat.reduceDiv, Int.reduceAdd, Int.reduceNeg, Nat.reduceAdd, kv_1, kv_6, kv_33, kv_40, kv_45, kv_48, kv_57, kv_128, kv_10000, kc_1, kc_6, kc_33, kc_40, kc_45, kc_48, kc_57, kc_128, kc_10000, ef] at f
            rw [if_neg z1, if_pos (by omega)] at hunf
            (conv => whnf)
            rw [nI_ch (by omega)]
            refine ret_k hC (sp_indexOf (d := d + 3) (by omega)) ?_
            (conv => whnf)
            have x9 : cI 10000 + cI (fnd c 6 0) = nI (10000 + (fnd c 6 0).toNat) := by
              have : cI (fnd c 6 0) = nI (fnd c 6 0).toNat := by
                obtain ⟨w, hw⟩ := Int.eq_ofNat_of_zero_le (show 0 ≤ fnd c 6 0 by omega)
                rw [hw]; rfl
              rw [this]; exact nI_add 10000 _
            simp only [Nat.reduceMod, h.2.1, nI_i1, x9]
            refine hC _ _ _ _ _ (sp_step (RRd_at h hal) (by omega)) (fun v M1 q => ?_)
            obtain ⟨rfl, q2, q3⟩ := q
            (conv => whnf)
            refine hZ _ _ ⟨rfl, Fr_trans (Fr_mI Fr_refl (by decide)) q3, ?_⟩
            rw [hunf]
            exact q2
    (conv => whnf); refine ⟨fun b => ?_, fun b => ?_⟩
    · simp only [c_lt, c_gt, c_le, c_ge, c_eq, c_ne, b2_z, b2_nz, b2_i, Classical.not_not, t0, t1, Nat.reduceMod, Nat.reduceDiv, Int.reduceAdd, Int.reduceNeg, Nat.reduceAdd, kv_1, kv_6, kv_33, kv_40, kv_45, kv_48, kv_57, kv_128, kv_10000, kc_1, kc_6, kc_33, kc_40, kc_45, kc_48, kc_57, kc_128, kc_10000, ex] at b
      exact t24 (by omega) _
    · simp only [c_lt, c_gt, c_le, c_ge, c_eq, c_ne, b2_z, b2_nz, b2_i, Classical.not_not, t0, t1, Nat.reduceMod, Nat.reduceDiv, Int.reduceAdd, Int.reduceNeg, Nat.reduceAdd, kv_1, kv_6, kv_33, kv_40, kv_45, kv_48, kv_57, kv_128, kv_10000, kc_1, kc_6, kc_33, kc_40, kc_45, kc_48, kc_57, kc_128, kc_10000, ex] at b
      (conv => whnf); refine ⟨fun g => ?_, fun g => ?_⟩
      · simp only [c_lt, c_gt, c_le, c_ge, c_eq, c_ne, b2_z, b2_nz, b2_i, Classical.not_not, t0, t1, Nat.reduceMod, Nat.reduceDiv, Int.reduceAdd, Int.reduceNeg, Nat.reduceAdd, kv_1, kv_6, kv_33, kv_40, kv_45, kv_48, kv_57, kv_128, kv_10000, kc_1, kc_6, kc_33, kc_40, kc_45, kc_48, kc_57, kc_128, kc_10000, ex] at g
        exact t24 (by omega) _
      · simp only [c_lt, c_gt, c_le, c_ge, c_eq, c_ne, b2_z, b2_nz, b2_i, Classical.not_not, t0, t1, Nat.reduceMod, Nat.reduceDiv, Int.reduceAdd, Int.reduceNeg, Nat.reduceAdd, kv_1, kv_6, kv_33, kv_40, kv_45, kv_48, kv_57, kv_128, kv_10000, kc_1, kc_6, kc_33, kc_40, kc_45, kc_48, kc_57, kc_128, kc_10000, ex] at g
        rw [if_pos (by omega)] at hunf
        (conv => whnf)
        refine hC _ _ _ _ _ (sp_readNumber (d := d + 5) (by omega) h) (fun v M1 q => ?_)
        obtain ⟨rfl, q2, q3⟩ := q
        (conv => whnf)
        refine hZ _ _ ⟨rfl, q3, ?_⟩
        rw [hunf]
        exact q2
theorem lvI_v {p : Nat} : (lvI t p).toInt = match t[p]? with | some c => if lvO c < 9 then (lvO c : Int) else -1 | none => -1 := by
  unfold lvI
  cases t[p]? with
  | none => rfl
  | some c =>
    show (if lvO c < 9 then nI (lvO c) else cI (-1)).toInt = if lvO c < 9 then (lvO c : Int) else -1
    by_cases h : lvO c < 9
    · rw [if_pos h, if_pos h]; exact nI_v (by omega)
    · rw [if_neg h, if_neg h]; rfl
theorem lv_fault {d p most : Nat} {x y : Int32} {M : Mem} (h : RFd M t p) : BodyK (d + 1) 23 34 [(0, .ref 2), (3, .int x), (4, .int y)] [] M (fun v M' => v = none ∧ Fr AD M M' ∧ RFd M' t p) := by
  have e := nI_v (n := p) (by have := h.2.2.1; omega)
  refine body_run 400 rfl (fun B Cl Z hZ hB hC => ?_)
  (conv => whnf); refine ⟨fun b => ?_, fun b => ?_⟩
  · conv => whnf
    exact hZ _ _ ⟨rfl, Fr_refl, h⟩
  · (conv => whnf); refine ⟨fun b => ?_, fun b => ?_⟩
    · conv => whnf
      exact hZ _ _ ⟨rfl, Fr_refl, h⟩
    · simp only [c_lt, c_gt, c_le, c_ge, c_eq, c_ne, b2_z, b2_nz, b2_i, Classical.not_not, t0, t1, Nat.reduceMod, Nat.reduceDiv, Int.reduceAdd, Int.reduceNeg, Nat.reduceAdd, kv_0, kv_1, kv_2, kv_5, kv_120, kv_10010, kc_0, kc_1, kc_2, kc_5, kc_120, kc_10010, h.2.1, e] at b
      omega
theorem lv_loop {D n m o : Nat} {code : List Nat} (hL : SL t n) (hD : 3 * n + 9 ≤ D) (hm : m < 5) (ho : o ≤ 6) (hn : need m o ≤ n + 1) : ∀ (k i p : Nat) (cs : List Nat) (M : Mem), i + k = (if m = 2 then 1 else 120) → RRd M t p (code ++ cs) → code.length + cs.length ≤ p →
    BodyK D 23 34 [(0, .ref 2), (1, .int (nI m)), (2, .int (nI o)), (3, .int (nI (if m = 2 then 1 else 120))), (4, .int (nI i))] [] M (PQ M t code (lp t (pz t n (m + 1) o) m k p cs)) := by
  obtain ⟨d, rfl⟩ : ∃ d, D = d + 9 := ⟨D - 9, by omega⟩
  have hmost : (if m = 2 then 1 else 120) ≤ 120 := by split <;> omega
  have emo := nI_v (n := if m = 2 then 1 else 120) (by omega)
  have em := nI_v (n := m) (by omega)
  intro k
  induction k with
  | zero =>
    intro i p cs M hi h hl
    have e := nI_v (n := i) (by omega)
    refine body_run 400 rfl (fun B Cl Z hZ hB hC => ?_)
    (conv => whnf); refine ⟨fun b => ?_, fun b => ?_⟩
    · conv => whnf
      exact hZ _ _ ⟨rfl, Fr_refl, h⟩
    · simp only [c_lt, c_gt, c_le, c_ge, c_eq, c_ne, b2_z, b2_nz, b2_i, Classical.not_not, t0, t1, Nat.reduceMod, Nat.reduceDiv, Int.reduceAdd, Int.reduceNeg, Nat.reduceAdd, kv_0, kv_1, kv_2, kv_5, kv_120, kv_10010, kc_0, kc_1, kc_2, kc_5, kc_120, kc_10010, e, emo] at b
      omega
  | succ k ih =>
    intro i p cs M hi h hl
    have e := nI_v (n := i) (by omega)
    have hle := h.2.2.1
    have h120 := h.1.2.1
    refine body_run 400 rfl (fun B Cl Z hZ hB hC => ?_)
    (conv => whnf); refine ⟨fun b => ?_, fun b => ?_⟩
    · simp only [c_lt, c_gt, c_le, c_ge, c_eq, c_ne, b2_z, b2_nz, b2_i, Classical.not_not, t0, t1, Nat.reduceMod, Nat.reduceDiv, Int.reduceAdd, Int.reduceNeg, Nat.reduceAdd, kv_0, kv_1, kv_2, kv_5, kv_120, kv_10010, kc_0, kc_1, kc_2, kc_5, kc_120, kc_10010, e, emo] at b
      omega
    (conv => whnf); refine ⟨fun b => ?_, fun b => ?_⟩
    · simp only [c_lt, c_gt, c_le, c_ge, c_eq, c_ne, b2_z, b2_nz, b2_i, Classical.not_not, t0, t1, Nat.reduceMod, Nat.reduceDiv, Int.reduceAdd, Int.reduceNeg, Nat.reduceAdd, kv_0, kv_1, kv_2, kv_5, kv_120, kv_10010, kc_0, kc_1, kc_2, kc_5, kc_120, kc_10010, h.2.2.2.1, kv_m1] at b
      omega
    (conv => whnf); refine ret_k hC (sp_next h.1 h.2.1 (by omega)) ?_
    (conv => whnf); refine ret_k hC (sp_levelOf (fun i c q => (h.1.2.2 i c q).2)) ?_
    have hstop : (∀ c, t[p]? = some c → ¬ lvO c = m) → lp t (pz t n (m + 1) o) m (k + 1) p cs = (p, some cs) := by
      intro q
      unfold lp
      split
      · next c hc => rw [if_neg (q c hc)]
      · rfl
    have elv := lvI_v (t := t) (p := p)
    (conv => whnf); refine ⟨fun g => ?_, fun g => ?_⟩
    · rw [c_ne, elv, em] at g
      (conv => whnf)
      refine hZ _ _ ⟨rfl, Fr_refl, ?_⟩
      rw [hstop (fun c hc hq => ?_)]
      · exact h
      · rw [hc] at g
        simp only [hq, show m < 9 by omega, if_true] at g
        exact absurd trivial g
    · rw [c_ne, elv, em] at g
      have g := Classical.not_not.mp g
      cases hx : t[p]? with
      | none => rw [hx] at g; simp only at g; omega
      | some c =>
        rw [hx] at g
        simp only at g
        have hq : lvO c = m := by
          split at g
          · omega
          · omega
        have hpl := (List.getElem?_eq_some_iff.mp hx).1
        have hc256 := (h.1.2.2 p c hx).2
        have hunf : lp t (pz t n (m + 1) o) m (k + 1) p cs = (match pz t n (m + 1) o (p + 1) with
            | (q, some ds) => lp t (pz t n (m + 1) o) m k q (cs ++ ds ++ [10010 + c])
            | (q, none) => (q, none)) := by
          rw [lp, hx]
          exact if_pos hq
        rw [hunf] at hB hZ
        (conv => whnf); refine ret_k hC (sp_next h.1 h.2.1 (by omega)) ?_
        rw [nxI_s hx]
        (conv => whnf)
        simp only [Nat.reduceMod, h.2.1, nI_i1]
        have hR := RRd_at h hpl
        refine hC _ _ _ _ _ (hL _ (m + 1) o (p + 1) (code ++ cs) _ (by omega) (by omega) ho (by unfold need at hn ⊢; omega) hR (by simp; omega)) (fun v M1 q => ?_)
        obtain ⟨rfl, q2, q3⟩ := q
        have hF : Fr AD M M1 := Fr_trans (Fr_mI Fr_refl (by decide)) q2
        have hf := pz_fine (t := t) n (m + 1) o (p + 1) (by omega)
        cases hr : pz t n (m + 1) o (p + 1) with
        | mk q oc =>
          rw [hr] at q3 hf
          cases oc with
          | none =>
            have q4 : RFd M1 t q := q3
            simp only [hr] at hB hZ
            (conv => whnf)
            refine hC _ _ _ _ _ (sp_stepF q4) (fun v M2 r => ?_)
            obtain ⟨rfl, r2, r3⟩ := r
            (conv => whnf)
            exact hB _ _ _ _ (Body_lv (Body_mono (lv_fault (d := d + 8) (most := 0) r2) (fun v M' z => ⟨z.1, Fr_trans hF (Fr_trans r3 z.2.1), z.2.2⟩)) ⟨rfl, rfl, rfl, trivial⟩)
          | some ds =>
            have q4 : RRd M1 t q (code ++ cs ++ ds) := q3
            obtain ⟨g1, g2, g3⟩ := hf
            have g3 := (g3 ds rfl).1
            simp at g1 g2 g3
            simp only [hr] at hB hZ
            (conv => whnf)
            have x1 : cI 10010 + nI c = nI (10010 + c) := nI_add 10010 c
            rw [x1]
            refine hC _ _ _ _ _ (sp_step q4 (by simp; omega)) (fun v M2 r => ?_)
            obtain ⟨rfl, r2, r3⟩ := r
            (conv => whnf)
            have r4 : RRd M2 t q (code ++ (cs ++ ds ++ [10010 + c])) := by
              rw [List.append_assoc, List.append_assoc] at r2
              rw [List.append_assoc]; exact r2
            refine hB _ _ _ _ (Body_lv (Body_mono (ih (i + 1) q _ M2 (by omega) r4 (by simp; omega)) (fun v M' z => ⟨z.1, Fr_trans hF (Fr_trans r3 z.2.1), z.2.2⟩)) ⟨rfl, rfl, rfl, rfl, v_eq (nI_i1 i), trivial⟩)
theorem sl_step {n : Nat} (hO : SO t (n + 1)) (hL : SL t n) : SL t (n + 1) := by
  intro D m o a code M hD hm ho hn h hl
  obtain ⟨d, rfl⟩ : ∃ d, D = d + 9 := ⟨D - 9, by omega⟩
  have em := nI_v (n := m) (by omega)
  have hle := h.2.2.1
  refine call_run 400 rfl rfl (fun B Cl Z hZ hB hC => ?_)
  (conv => whnf); refine ⟨fun b => ?_, fun b => ?_⟩
  rotate_left
  · simp only [c_lt, c_gt, c_le, c_ge, c_eq, c_ne, b2_z, b2_nz, b2_i, Classical.not_not, t0, t1, Nat.reduceMod, Nat.reduceDiv, Int.reduceAdd, Int.reduceNeg, Nat.reduceAdd, kv_0, kv_1, kv_2, kv_5, kv_120, kv_10010, kc_0, kc_1, kc_2, kc_5, kc_120, kc_10010, em] at b
    obtain rfl : m = 5 := by omega
    (conv => whnf)
    refine hC _ _ _ _ _ (hO _ o a code M (by omega) ho hn h hl) (fun v M1 q => ?_)
    obtain ⟨rfl, q2⟩ := q
    (conv => whnf)
    exact hZ _ _ ⟨rfl, q2⟩
  · simp only [c_lt, c_gt, c_le, c_ge, c_eq, c_ne, b2_z, b2_nz, b2_i, Classical.not_not, t0, t1, Nat.reduceMod, Nat.reduceDiv, Int.reduceAdd, Int.reduceNeg, Nat.reduceAdd, kv_0, kv_1, kv_2, kv_5, kv_120, kv_10010, kc_0, kc_1, kc_2, kc_5, kc_120, kc_10010, em] at b
    have hm5 : m < 5 := by omega
    have hunf : pz t (n + 1) m o a = (match pz t n (m + 1) o a with
      | (p, none) => (p, none)
      | (p, some cs) => lp t (pz t n (m + 1) o) m (if m = 2 then 1 else 120) p cs) := by
      rw [pz]
      exact if_pos hm5
    rw [hunf] at hB hZ
    (conv => whnf)
    rw [nI_i1]
    refine hC _ _ _ _ _ (hL _ (m + 1) o a code M (by omega) (by omega) ho (by unfold need at hn ⊢; omega) h hl) (fun v M1 q => ?_)
    obtain ⟨rfl, q2, q3⟩ := q
    have hf := pz_fine (t := t) n (m + 1) o a hle
    cases hr : pz t n (m + 1) o a with
    | mk p oc =>
      rw [hr] at q3 hf
      cases oc with
      | none =>
        have q4 : RFd M1 t p := q3
        simp only [hr] at hB hZ
        (conv => whnf); refine ⟨fun g => ?_, fun g => ?_⟩
        · (conv => whnf)
          exact hB _ _ _ _ (Body_lv (Body_mono (lv_fault (d := d + 8) (most := 0) q4) (fun v M' z => ⟨z.1, Fr_trans q2 z.2.1, z.2.2⟩)) ⟨rfl, rfl, rfl, trivial⟩)
        · (conv => whnf)
          exact hB _ _ _ _ (Body_lv (Body_mono (lv_fault (d := d + 8) (most := 0) q4) (fun v M' z => ⟨z.1, Fr_trans q2 z.2.1, z.2.2⟩)) ⟨rfl, rfl, rfl, trivial⟩)
      | some cs =>
        have q4 : RRd M1 t p (code ++ cs) := q3
        obtain ⟨g1, g2, g3⟩ := hf
        have g3 := (g3 cs rfl).1
        simp at g1 g2 g3
        simp only [hr] at hB hZ
        have hlo := lv_loop (D := d + 9) (n := n) (m := m) (o := o) (code := code) hL (by omega) hm5 ho hn (if m = 2 then 1 else 120) 0 p cs M1 (by omega) q4 (by omega)
        (conv => whnf); refine ⟨fun g => ?_, fun g => ?_⟩
        · simp only [c_lt, c_gt, c_le, c_ge, c_eq, c_ne, b2_z, b2_nz, b2_i, Classical.not_not, t0, t1, Nat.reduceMod, Nat.reduceDiv, Int.reduceAdd, Int.reduceNeg, Nat.reduceAdd, kv_0, kv_1, kv_2, kv_5, kv_120, kv_10010, kc_0, kc_1, kc_2, kc_5, kc_120, kc_10010, em] at g
          (conv => whnf)
          have hm2 : ¬ m = 2 := by omega
          rw [if_neg hm2] at hlo
          rw [if_neg hm2] at hB
          exact hB _ _ _ _ (Body_lv (Body_mono hlo (fun v M' z => ⟨z.1, Fr_trans q2 z.2.1, z.2.2⟩)) ⟨rfl, rfl, rfl, rfl, rfl, trivial⟩)
        · simp only [c_lt, c_gt, c_le, c_ge, c_eq, c_ne, b2_z, b2_nz, b2_i, Classical.not_not, t0, t1, Nat.reduceMod, Nat.reduceDiv, Int.reduceAdd, Int.reduceNeg, Nat.reduceAdd, kv_0, kv_1, kv_2, kv_5, kv_120, kv_10010, kc_0, kc_1, kc_2, kc_5, kc_120, kc_10010, em] at g
          (conv => whnf)
          have hm2 : m = 2 := by omega
          rw [if_pos hm2] at hlo
          rw [if_pos hm2] at hB
          exact hB _ _ _ _ (Body_lv (Body_mono hlo (fun v M' z => ⟨z.1, Fr_trans q2 z.2.1, z.2.2⟩)) ⟨rfl, rfl, rfl, rfl, rfl, trivial⟩)
theorem sosl (t : List Nat) : ∀ n, SO t n ∧ SL t n
  | 0 => ⟨fun D o a code M _ ho hn => by unfold need at hn; omega, fun D m o a code M _ hm ho hn => by unfold need at hn; omega⟩
  | n + 1 => by
    obtain ⟨h1, h2⟩ := sosl t n
    have h3 := so_step h1 h2
    exact ⟨h3, sl_step h3 h2⟩
end Rec
