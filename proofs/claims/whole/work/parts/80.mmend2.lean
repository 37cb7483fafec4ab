/-! the reference: of, mend -/
theorem lyA_x {s : St} {n : Nat} (hn : n < 2147483648) : lyA s (nI n) = ((sK s).getD (n / 16) [])[n % 16]? := by
  unfold lyA
  rw [nI_v hn, if_pos (by omega)]
  rfl
theorem m_valueAt {d was : Nat} {M : Mem} {s : St} {x w : Int32} (h : RM M s) (hv : inv s) (ho : oneA s x w = some was) : Call (d + 2) 167 [.ref 55, .int w, .int x] M (RV (some (.int (nI was))) M) := by
  obtain ⟨⟨w1, w2⟩, n1, hcase⟩ := oneA_w ho
  obtain ⟨wn, rfl, ew, hwn⟩ := to_nI w1
  obtain ⟨n, rfl, en, hn⟩ := to_nI n1
  rw [ew, en] at hcase
  rw [ew] at w2
  rw [show ((wn : Int)).toNat = wn from rfl, show ((n : Int)).toNat = n from rfl, lyA_x hn] at hcase
  have hi : ∀ j, (nI wn : Int32) = cI j → (0 ≤ j ∧ j ≤ 7) → (wn : Int) = j := fun j h h2 => by
    have := congrArg Int32.toInt h
    rw [ew, cI_v (by omega) (by omega)] at this
    exact this
  have n0 : ∀ j : Nat, j < 8 → ¬ (nI wn : Int32) = cI (j : Int) → ¬ wn = j := fun j _ h z => h (by rw [z]; rfl)
  have lowv : wn ≤ 3 → ∃ q, ((sK s).getD (n / 16) [])[n % 16]? = some q ∧ was = lyF q wn ∧ 12 * (n / 16) + n % 16 < 48 ∧ ∀ j, j < 4 → M.1 (57 + j) (12 * (n / 16) + n % 16) = nI (lyF q j) := by
    intro h3
    rcases hcase with ⟨z, q, hq, hw⟩ | ⟨z, -⟩ | ⟨z, -⟩
    · exact ⟨q, hq, hw, (pos_b hv.1 (ly_lt hq)).2.2, fun j hj => (h.1.2 (n / 16) (hgt_lt (ly_lt hq))).2 (n % 16) q hq j hj⟩
    · omega
    · omega
  refine call_run 400 rfl rfl (fun B Cl Z hZ hB hC => ?_)
  (conv => whnf); refine ⟨fun b => ?_, fun b => ?_⟩
  · obtain rfl : wn = 0 := by have := hi 0 b (by decide); omega
    obtain ⟨q, hq, rfl, h48, hr⟩ := lowv (by decide)
    (conv => whnf); refine ret_k hC (m_at12 hn) ?_
    (conv => whnf)
    refine ⟨nI_vp h48 (by decide), ?_⟩
    conv => whnf
    rw [nI_c (n := 12 * (n / 16) + n % 16) (by omega)]
    exact hZ _ _ ⟨v_eq (hr 0 (by decide)), rfl⟩
  (conv => whnf); refine ⟨fun b2 => ?_, fun b2 => ?_⟩
  · obtain rfl : wn = 1 := by have := hi 1 b2 (by decide); omega
    obtain ⟨q, hq, rfl, h48, hr⟩ := lowv (by decide)
    (conv => whnf); refine ret_k hC (m_at12 hn) ?_
    (conv => whnf)
    refine ⟨nI_vp h48 (by decide), ?_⟩
    conv => whnf
    rw [nI_c (n := 12 * (n / 16) + n % 16) (by omega)]
    exact hZ _ _ ⟨v_eq (hr 1 (by decide)), rfl⟩
  (conv => whnf); refine ⟨fun b3 => ?_, fun b3 => ?_⟩
  · obtain rfl : wn = 2 := by have := hi 2 b3 (by decide); omega
    obtain ⟨q, hq, rfl, h48, hr⟩ := lowv (by decide)
    (conv => whnf); refine ret_k hC (m_at12 hn) ?_
    (conv => whnf)
    refine ⟨nI_vp h48 (by decide), ?_⟩
    conv => whnf
    rw [nI_c (n := 12 * (n / 16) + n % 16) (by omega)]
    exact hZ _ _ ⟨v_eq (hr 2 (by decide)), rfl⟩
  (conv => whnf); refine ⟨fun b4 => ?_, fun b4 => ?_⟩
  · obtain rfl : wn = 3 := by have := hi 3 b4 (by decide); omega
    obtain ⟨q, hq, rfl, h48, hr⟩ := lowv (by decide)
    (conv => whnf); refine ret_k hC (m_at12 hn) ?_
    (conv => whnf)
    refine ⟨nI_vp h48 (by decide), ?_⟩
    conv => whnf
    rw [nI_c (n := 12 * (n / 16) + n % 16) (by omega)]
    exact hZ _ _ ⟨v_eq (hr 3 (by decide)), rfl⟩
  have hw4 : 4 ≤ wn := by
    have := n0 0 (by decide) b
    have := n0 1 (by decide) b2
    have := n0 2 (by decide) b3
    have := n0 3 (by decide) b4
    omega
  have e4 : nI wn - cI 4 = nI (wn - 4) := nI_sub (b := 4) hw4
  have told : wn ≤ 6 → M.1 61 (wn - 4) = nI was := by
    intro h6
    rcases hcase with ⟨z, -⟩ | ⟨z, -⟩ | ⟨z, z2, z3⟩
    · omega
    · omega
    · match wn, z with
      | 4, _ => rw [if_pos (by decide)] at z3; rw [z3]; exact h.2.1.1
      | 5, _ => rw [if_neg (by decide), if_pos (by decide)] at z3; rw [z3]; exact h.2.1.2.1
      | 6, _ => rw [if_neg (by decide), if_neg (by decide)] at z3; rw [z3]; exact h.2.1.2.2.1
      | 0, _ => omega
      | 1, _ => omega
      | 2, _ => omega
      | 3, _ => omega
      | w + 7, z => omega
  (conv => whnf); refine ⟨fun b5 => ?_, fun b5 => ?_⟩
  · have h5 : wn = 4 := by have := hi 4 b5 (by decide); omega
    (conv => whnf)
    rw [e4]
    refine ⟨nI_vp (by omega) (by decide), ?_⟩
    conv => whnf
    rw [nI_c (n := wn - 4) (by omega)]
    exact hZ _ _ ⟨v_eq (told (by omega)), rfl⟩
  (conv => whnf); refine ⟨fun b6 => ?_, fun b6 => ?_⟩
  · have h5 : wn = 5 := by have := hi 5 b6 (by decide); omega
    (conv => whnf)
    rw [e4]
    refine ⟨nI_vp (by omega) (by decide), ?_⟩
    conv => whnf
    rw [nI_c (n := wn - 4) (by omega)]
    exact hZ _ _ ⟨v_eq (told (by omega)), rfl⟩
  (conv => whnf); refine ⟨fun b7 => ?_, fun b7 => ?_⟩
  · have h5 : wn = 6 := by have := hi 6 b7 (by decide); omega
    (conv => whnf)
    rw [e4]
    refine ⟨nI_vp (by omega) (by decide), ?_⟩
    conv => whnf
    rw [nI_c (n := wn - 4) (by omega)]
    exact hZ _ _ ⟨v_eq (told (by omega)), rfl⟩
  have h7 : wn = 7 := by
    have := n0 4 (by decide) b5
    have := n0 5 (by decide) b6
    have := n0 6 (by decide) b7
    omega
  subst h7
  (conv => whnf); refine ⟨fun b8 => ?_, fun b8 => ?_⟩
  case' refine_2 => exact absurd rfl b8
  have hd : n ≤ 7 ∧ was = sDo s n := by
    rcases hcase with ⟨z, -⟩ | ⟨z, z2, z3⟩ | ⟨z, -⟩
    · omega
    · exact ⟨by omega, z3⟩
    · omega
  (conv => whnf)
  refine ⟨nI_vp (by omega) (by decide), ?_⟩
  conv => whnf
  rw [nI_c hn]
  exact hZ _ _ ⟨v_eq (by rw [hd.2]; exact h.2.1.2.2.2 n (by omega)), rfl⟩
theorem m_isOne {d : Nat} {M : Mem} {s : St} {x w : Int32} (h : RM M s) (hv : inv s) : Call (d + 4) 174 [.ref 55, .int x, .int w] M (fun v M' => M' = M ∧ ((oneA s x w = none ∧ v = some (.int (cI 0))) ∨ ∃ u, oneA s x w = some u ∧ v = some (.int (cI 1)))) := by
  refine call_run 400 rfl rfl (fun B Cl Z hZ hB hC => ?_)
  (conv => whnf); refine ret_k hC (m_in) ?_
  rw [kv_0, kv_3]
  (conv => whnf); refine ⟨fun a => ?_, fun a => ?_⟩
  · rw [b2_z] at a
    (conv => whnf); refine ⟨fun b => ?_, fun b => ?_⟩
    · simp only [c_lt, c_gt, c_le, c_ge, c_eq, c_ne, b2_z, b2_nz, b2_i, Classical.not_not, t0, t1, Nat.reduceMod, Nat.reduceDiv, Int.reduceAdd, Int.reduceNeg, Nat.reduceAdd, kv_0, kv_1, kv_3, kv_4, kv_6, kv_7, kc_0, kc_1, kc_3, kc_4, kc_6, kc_7] at b
      (conv => whnf); refine ret_k hC (m_in) ?_
      rw [kv_4, kv_6]
      (conv => whnf); refine ⟨fun g => ?_, fun g => ?_⟩
      · rw [b2_z] at g
        have e : oneA s x w = none := by unfold oneA; rw [if_neg a, if_neg b, if_neg (fun z => g z.1)]
        conv => whnf
        exact ⟨Or.inl rfl, hZ _ _ ⟨rfl, Or.inl ⟨e, rfl⟩⟩⟩
      · rw [b2_z] at g
        have g := Classical.not_not.mp g
        (conv => whnf); refine ⟨fun k => ?_, fun k => ?_⟩
        · simp only [c_lt, c_gt, c_le, c_ge, c_eq, c_ne, b2_z, b2_nz, b2_i, Classical.not_not, t0, t1, Nat.reduceMod, Nat.reduceDiv, Int.reduceAdd, Int.reduceNeg, Nat.reduceAdd, kv_0, kv_1, kv_3, kv_4, kv_6, kv_7, kc_0, kc_1, kc_3, kc_4, kc_6, kc_7] at k
          have e : oneA s x w = none := by unfold oneA; rw [if_neg a, if_neg b, if_neg (fun z => k z.2)]
          conv => whnf
          exact ⟨Or.inl rfl, hZ _ _ ⟨rfl, Or.inl ⟨e, rfl⟩⟩⟩
        · simp only [c_lt, c_gt, c_le, c_ge, c_eq, c_ne, b2_z, b2_nz, b2_i, Classical.not_not, t0, t1, Nat.reduceMod, Nat.reduceDiv, Int.reduceAdd, Int.reduceNeg, Nat.reduceAdd, kv_0, kv_1, kv_3, kv_4, kv_6, kv_7, kc_0, kc_1, kc_3, kc_4, kc_6, kc_7] at k
          have e : oneA s x w = some (if w.toInt = 4 then sCo s else if w.toInt = 5 then sSt s else sDy s) := by unfold oneA; rw [if_neg a, if_neg b, if_pos ⟨g, k⟩]
          conv => whnf
          exact ⟨Or.inr rfl, hZ _ _ ⟨rfl, Or.inr ⟨_, e, rfl⟩⟩⟩
    · simp only [c_lt, c_gt, c_le, c_ge, c_eq, c_ne, b2_z, b2_nz, b2_i, Classical.not_not, t0, t1, Nat.reduceMod, Nat.reduceDiv, Int.reduceAdd, Int.reduceNeg, Nat.reduceAdd, kv_0, kv_1, kv_3, kv_4, kv_6, kv_7, kc_0, kc_1, kc_3, kc_4, kc_6, kc_7] at b
      refine hC _ _ _ _ _ (m_in) (fun v M1 p => ?_)
      obtain ⟨rfl, rfl⟩ := p
      rw [kv_0, kv_7]
      by_cases z : 0 ≤ x.toInt ∧ x.toInt ≤ 7
      · have e : oneA s x w = some (sDo s x.toInt.toNat) := by unfold oneA; rw [if_neg a, if_pos b, if_pos z]
        rw [b2_t z]
        conv => whnf
        exact ⟨Or.inr rfl, hZ _ _ ⟨rfl, Or.inr ⟨_, e, rfl⟩⟩⟩
      · have e : oneA s x w = none := by unfold oneA; rw [if_neg a, if_pos b, if_neg z]
        rw [b2_f z]
        conv => whnf
        exact ⟨Or.inl rfl, hZ _ _ ⟨rfl, Or.inl ⟨e, rfl⟩⟩⟩
  · rw [b2_z] at a
    have a := Classical.not_not.mp a
    have e := oneA_l (s := s) (n := x) a
    (conv => whnf)
    refine hC _ _ _ _ _ (m_isLayer h.1 hv.1) (fun v M1 p => ?_)
    obtain ⟨rfl, rfl⟩ := p
    by_cases z : 0 ≤ x.toInt ∧ x.toInt.toNat % 16 < hgt (sK s) (x.toInt.toNat / 16)
    · obtain ⟨q, n, -, -, -, -, hl⟩ := lyA_s z
      rw [hl] at e
      rw [b2_t z]
      conv => whnf
      exact ⟨Or.inr rfl, hZ _ _ ⟨rfl, Or.inr ⟨_, e, rfl⟩⟩⟩
    · rw [lyA_n z] at e
      rw [b2_f z]
      conv => whnf
      exact ⟨Or.inl rfl, hZ _ _ ⟨rfl, Or.inl ⟨e, rfl⟩⟩⟩
theorem m_mayHave {d wn : Nat} {M : Mem} {v : Int32} (hw : wn < 8) : Call (d + 2) 175 [.int (nI wn), .int v] M (fun r M' => M' = M ∧ ((mayV (nI wn) v ∧ r = some (.int (cI 1))) ∨ (¬ mayV (nI wn) v ∧ r = some (.int (cI 0))))) := by
  have ew := nI_v (n := wn) (by omega)
  have hm : mayV (nI wn) v ↔ (if wn = 1 ∨ wn = 7 then 1 else 0) ≤ v.toInt ∧ v.toInt ≤ (if wn = 0 ∨ wn = 2 then 7 else if wn = 1 ∨ wn = 4 ∨ wn = 7 then 9 else 99) := by
    unfold mayV
    rw [ew, show ((wn : Int)).toNat = wn from rfl, okV_most hw]
    split <;> split <;> (try split) <;> omega
  have fin3 : ∀ lo hi : Int, (mayV (nI wn) v ↔ (lo ≤ v.toInt ∧ v.toInt ≤ hi)) → ((mayV (nI wn) v ∧ some (Value.int (b2 (lo ≤ v.toInt ∧ v.toInt ≤ hi))) = some (.int (cI 1))) ∨ (¬ mayV (nI wn) v ∧ some (Value.int (b2 (lo ≤ v.toInt ∧ v.toInt ≤ hi))) = some (.int (cI 0)))) := by
    intro lo hi hP
    by_cases z : lo ≤ v.toInt ∧ v.toInt ≤ hi
    · exact Or.inl ⟨hP.mpr z, by rw [b2_t z]; rfl⟩
    · exact Or.inr ⟨fun y => z (hP.mp y), by rw [b2_f z]; rfl⟩
  refine call_run 400 rfl rfl (fun B Cl Z hZ hB hC => ?_)
  repeat' (first | ((conv => whnf); refine ⟨fun _ => ?_, fun _ => ?_⟩) | ((conv => whnf); refine ⟨?_, ?_⟩) | ((conv => whnf); refine ret_k hC (m_in) ?_) | fail)
  all_goals first
    | exact b2_01
    | skip
  all_goals (try simp only [x_eq, kv_0, kv_1, kv_2, kv_3, kv_4, kv_5, kv_6, kv_7, Int.reduceAdd] at *)
  all_goals refine hZ _ _ ⟨rfl, fin3 _ _ ?_⟩
  all_goals rw [hm]
  all_goals (try rw [kv_0])
  all_goals (try rw [kv_1])
  all_goals (try rw [kv_7])
  all_goals (try rw [kv_9])
  all_goals (try rw [kv_99])
  all_goals (repeat' split) <;> omega
