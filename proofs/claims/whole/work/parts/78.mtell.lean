/-! the reference: numbers told -/
def posI (p : Option Nat) : Int32 := match p with
  | some p => nI p
  | none => cI (-1)
def whOk (rk : Rk) (what : Nat) (p : Option Nat) : Prop := if what ≤ 3 then (∀ q, p = some q → q % 16 < hgt rk (q / 16)) else ∃ q, p = some q ∧ (if what = 7 then q < 8 else q = 0)
theorem pos_b {rk : Rk} (ho : okR rk) {q : Nat} (h : q % 16 < hgt rk (q / 16)) : q < 64 ∧ q / 16 < rk.length ∧ 12 * (q / 16) + q % 16 < 48 := by
  have b1 := ho.1
  have b2 := hgt_lt h
  have b3 := ho.2.1 (q / 16)
  omega
theorem RMk_set {M M' : Mem} {rk : Rk} {q j v : Nat} (h : RMk M rk) (ho : okR rk) (hq : q % 16 < hgt rk (q / 16)) (hj : j < 4) (h1 : M'.1 55 1 = M.1 55 1) (h56 : M'.1 56 = M.1 56) (hc : ∀ i, i < 4 → M'.1 (57 + i) = if i = j then upd (M.1 (57 + i)) (12 * (q / 16) + q % 16) (nI v) else M.1 (57 + i)) : RMk M' (setL rk (q / 16) (q % 16) j v) := by
  have hr := hgt_lt hq
  refine ⟨by rw [setL_len, h1]; exact h.1, fun r hr' => ⟨?_, fun l x hx i hi => ?_⟩⟩
  · rw [setL_len] at hr'
    rw [setL_hgt hr, h56]
    exact (h.2 r hr').1
  · have hl := ly_lt hx
    rw [setL_hgt hr] at hl
    have b1 := ho.2.1 r
    have b2 := ho.2.1 (q / 16)
    rw [setL_at hr] at hx
    rw [hc i hi]
    by_cases z : r = q / 16 ∧ l = q % 16
    · rw [if_pos z] at hx
      obtain ⟨x0, hx0, rfl⟩ := Option.map_eq_some_iff.mp hx
      rw [lyF_set hj hi]
      split
      · unfold upd
        rw [if_pos (by rw [z.1, z.2])]
      · have := (h.2 (q / 16) hr).2 (q % 16) x0 hx0 i hi
        rw [z.1, z.2]
        exact this
    · rw [if_neg z] at hx
      have := (h.2 r (hgt_lt hl)).2 l x hx i hi
      split
      · unfold upd
        rw [if_neg (fun w => z (by omega))]
        exact this
      · exact this
def TL : List Nat := [57, 58, 59, 60, 61, 62]
theorem m_lays {d what v : Nat} {M : Mem} {s : St} {p : Option Nat} (hk : RMk M (sK s)) (hn : RMn M s) (ho : okR (sK s)) (hw : what < 8) (hp : whOk (sK s) what p) : Call (d + 2) 168 [.ref 55, .int (nI what), .int (posI p), .int (nI v)] M (fun u M' => u = none ∧ FrM TL [] M M' ∧ RMk M' (sK (setA s what p v)) ∧ RMn M' (setA s what p v)) := by
  have ew := nI_v (n := what) (by omega)
  cases p with
  | none =>
    have hw3 : what ≤ 3 := by
      unfold whOk at hp
      split at hp
      · assumption
      · obtain ⟨q, hq, -⟩ := hp
        cases hq
    have e : setA s what none v = s := if_pos hw3
    rw [e]
    refine call_run 400 rfl rfl (fun B Cl Z hZ hB hC => ?_)
    (conv => whnf); refine ⟨fun a => ?_, fun a => ?_⟩
    · exact absurd rfl a
    · conv => whnf
      exact hZ _ _ ⟨rfl, FrM_refl, hk, hn⟩
  | some q =>
    have hq64 : q < 64 := by
      unfold whOk at hp
      split at hp
      · exact (pos_b ho (hp q rfl)).1
      · obtain ⟨q', hq', h2⟩ := hp
        cases hq'
        split at h2 <;> omega
    have eq := nI_v (n := q) (by omega)
    have cq := nI_c (n := q) (by omega)
    have hnn : ∀ (M' : Mem), M'.1 61 = M.1 61 → M'.1 62 = M.1 62 → RMn M' s := fun M' a b => RMn_e hn a b
    refine call_run 400 rfl rfl (fun B Cl Z hZ hB hC => ?_)
    (conv => whnf); refine ⟨fun a => ?_, fun a => ?_⟩
    case' refine_2 =>
      replace a : ¬ cnd .ne (nI q) (cI (-1)) := a
      rw [c_ne, eq, kv_m1] at a
      omega
    clear a
    have lowK : ∀ j, j < 4 → what = j → ∀ r M', (r = none ∧ M' = mI M (57 + j) (12 * (q / 16) + q % 16) (nI v)) → Z r M' := by
      intro j hj hwj r M' ⟨hr, hM⟩
      subst hwj
      subst hM
      unfold whOk at hp
      rw [if_pos (by omega)] at hp
      have hl := hp q rfl
      have hset : setA s what (some q) v = wK s (setL (sK s) (q / 16) (q % 16) what v) := if_pos (by omega)
      rw [hset] at hZ
      refine hZ _ _ ⟨hr, ?_, RMk_set hk ho hl hj ?_ ?_ (fun i hi => ?_), hnn _ ?_ ?_⟩
      · match what, hj with
        | 0, _ => exact FrM_a FrM_refl (by decide) (by decide)
        | 1, _ => exact FrM_a FrM_refl (by decide) (by decide)
        | 2, _ => exact FrM_a FrM_refl (by decide) (by decide)
        | 3, _ => exact FrM_a FrM_refl (by decide) (by decide)
      · rw [mI_ne _ _ _ (by omega)]
      · rw [mI_ne _ _ _ (by omega)]
      · by_cases z : i = what
        · rw [if_pos z, z, mI_same]
        · rw [if_neg z, mI_ne _ _ _ (by omega)]
      · rw [mI_ne _ _ _ (by omega)]
      · rw [mI_ne _ _ _ (by omega)]
    have vp : what ≤ 3 → vp_in (nI (12 * (q / 16) + q % 16)) 48 := by
      intro h3
      unfold whOk at hp
      rw [if_pos h3] at hp
      exact nI_vp (pos_b ho (hp q rfl)).2.2 (by decide)
    have hi : ∀ j, (nI what : Int32) = cI j → (0 ≤ j ∧ j ≤ 7) → (what : Int) = j := fun j h h2 => by
      have := congrArg Int32.toInt h
      rw [ew, cI_v (by omega) (by omega)] at this
      exact this
    (conv => whnf); refine ⟨fun b => ?_, fun b => ?_⟩
    · obtain rfl : what = 0 := by have := hi 0 b (by decide); omega
      (conv => whnf); refine ret_k hC (m_at12 (by omega)) ?_
      (conv => whnf)
      refine ⟨vp (by decide), ?_⟩
      conv => whnf
      rw [nI_c (n := 12 * (q / 16) + q % 16) (by omega)]
      exact lowK 0 (by decide) rfl _ _ ⟨rfl, rfl⟩
    (conv => whnf); refine ⟨fun b2 => ?_, fun b2 => ?_⟩
    · obtain rfl : what = 1 := by have := hi 1 b2 (by decide); omega
      (conv => whnf); refine ret_k hC (m_at12 (by omega)) ?_
      (conv => whnf)
      refine ⟨vp (by decide), ?_⟩
      conv => whnf
      rw [nI_c (n := 12 * (q / 16) + q % 16) (by omega)]
      exact lowK 1 (by decide) rfl _ _ ⟨rfl, rfl⟩
    (conv => whnf); refine ⟨fun b3 => ?_, fun b3 => ?_⟩
    · obtain rfl : what = 2 := by have := hi 2 b3 (by decide); omega
      (conv => whnf); refine ret_k hC (m_at12 (by omega)) ?_
      (conv => whnf)
      refine ⟨vp (by decide), ?_⟩
      conv => whnf
      rw [nI_c (n := 12 * (q / 16) + q % 16) (by omega)]
      exact lowK 2 (by decide) rfl _ _ ⟨rfl, rfl⟩
    (conv => whnf); refine ⟨fun b4 => ?_, fun b4 => ?_⟩
    · obtain rfl : what = 3 := by have := hi 3 b4 (by decide); omega
      (conv => whnf); refine ret_k hC (m_at12 (by omega)) ?_
      (conv => whnf)
      refine ⟨vp (by decide), ?_⟩
      conv => whnf
      rw [nI_c (n := 12 * (q / 16) + q % 16) (by omega)]
      exact lowK 3 (by decide) rfl _ _ ⟨rfl, rfl⟩
    have n0 : ∀ j : Nat, j < 8 → ¬ (nI what : Int32) = cI (j : Int) → ¬ what = j := fun j _ h z => h (by rw [z]; rfl)
    have hw4 : 4 ≤ what := by
      have := n0 0 (by decide) b
      have := n0 1 (by decide) b2
      have := n0 2 (by decide) b3
      have := n0 3 (by decide) b4
      omega
    unfold whOk at hp
    rw [if_neg (by omega)] at hp
    obtain ⟨q', hq', h2⟩ := hp
    cases hq'
    have told : what = 4 ∨ what = 5 ∨ what = 6 → ∀ r M', (r = none ∧ M' = mI M 61 (what - 4) (nI v)) → Z r M' := by
      intro hw5 r M' ⟨hr, hM⟩
      subst hM
      have hf : FrM [61] [] M (mI M 61 (what - 4) (nI v)) := FrM_a FrM_refl (by decide) (by decide)
      have e : ∀ j, (mI M 61 (what - 4) (nI v)).1 61 j = if j = what - 4 then nI v else M.1 61 j := fun j => by
        rw [mI_same]
        rfl
      refine hZ _ _ ⟨hr, FrM_sub hf (by decide) (by decide), ?_⟩
      rcases hw5 with rfl | rfl | rfl
      · have hset : setA s 4 (some q) v = wCo s v := by unfold setA; rw [if_neg (by decide), if_pos rfl]
        rw [hset]
        exact ⟨RMk_fr hk hf (by decide) (by decide), e 0, (e 1).trans hn.2.1, (e 2).trans hn.2.2.1, hn.2.2.2⟩
      · have hset : setA s 5 (some q) v = wSt s v := by unfold setA; rw [if_neg (by decide), if_neg (by decide), if_pos rfl]
        rw [hset]
        exact ⟨RMk_fr hk hf (by decide) (by decide), (e 0).trans hn.1, e 1, (e 2).trans hn.2.2.1, hn.2.2.2⟩
      · have hset : setA s 6 (some q) v = wDy s v := by unfold setA; rw [if_neg (by decide), if_neg (by decide), if_neg (by decide), if_pos rfl]
        rw [hset]
        exact ⟨RMk_fr hk hf (by decide) (by decide), (e 0).trans hn.1, (e 1).trans hn.2.1, e 2, hn.2.2.2⟩
    have e4 : nI what - cI 4 = nI (what - 4) := nI_sub (b := 4) hw4
    have v4 : what ≤ 6 → vp_in (nI (what - 4)) 3 := fun _ => nI_vp (by omega) (by decide)
    (conv => whnf); refine ⟨fun b5 => ?_, fun b5 => ?_⟩
    · obtain h5 : what = 4 := by have := hi 4 b5 (by decide); omega
      (conv => whnf)
      rw [e4]
      refine ⟨v4 (by omega), ?_⟩
      conv => whnf
      rw [nI_c (n := what - 4) (by omega)]
      exact told (by omega) _ _ ⟨rfl, rfl⟩
    (conv => whnf); refine ⟨fun b6 => ?_, fun b6 => ?_⟩
    · obtain h5 : what = 5 := by have := hi 5 b6 (by decide); omega
      (conv => whnf)
      rw [e4]
      refine ⟨v4 (by omega), ?_⟩
      conv => whnf
      rw [nI_c (n := what - 4) (by omega)]
      exact told (by omega) _ _ ⟨rfl, rfl⟩
    (conv => whnf); refine ⟨fun b7 => ?_, fun b7 => ?_⟩
    · obtain h5 : what = 6 := by have := hi 6 b7 (by decide); omega
      (conv => whnf)
      rw [e4]
      refine ⟨v4 (by omega), ?_⟩
      conv => whnf
      rw [nI_c (n := what - 4) (by omega)]
      exact told (by omega) _ _ ⟨rfl, rfl⟩
    have h7 : what = 7 := by
      have := n0 4 (by decide) b5
      have := n0 5 (by decide) b6
      have := n0 6 (by decide) b7
      omega
    subst h7
    rw [if_pos rfl] at h2
    (conv => whnf); refine ⟨fun b8 => ?_, fun b8 => ?_⟩
    case' refine_2 => exact absurd rfl b8
    (conv => whnf)
    refine ⟨nI_vp h2 (by decide), ?_⟩
    conv => whnf
    show Z none (mI M 62 (nI q).toNatClampNeg (nI v))
    rw [cq]
    have hset : setA s 7 (some q) v = wDo s (upD (sDo s) q v) := by unfold setA; rw [if_neg (by decide), if_neg (by decide), if_neg (by decide), if_neg (by decide)]
    rw [hset] at hZ
    refine hZ _ _ ⟨rfl, FrM_a FrM_refl (by decide) (by decide), RMk_fr (A := [62]) (J := []) hk (FrM_a FrM_refl (by decide) (by decide)) (by decide) (by decide), hn.1, hn.2.1, hn.2.2.1, fun w hw => ?_⟩
    rw [mI_same]
    show (if w = q then nI v else M.1 62 w) = nI (upD (sDo s) q v w)
    unfold upD
    split
    · rfl
    · exact hn.2.2.2 w hw
