/-! the fewest cuts that let a mark out -/
def BI (n : Nat) (cm : Nat → Nat) (Q : List Nat) : Prop := Q.length ≤ 4096 ∧ ∀ s ∈ Q, s < 2 ^ n ∧ (s = 2 ^ n - 1 ∨ (0 < cm s ∧ cm s ≤ n ∧ (s ||| 2 ^ (cm s - 1)) ∈ Q))
theorem kok_BI {n : Nat} {cm : Nat → Nat} {Q : List Nat} (hn : n ≤ 12) (h : BI n cm Q) : ∀ k s, s ∈ Q → kok cm (2 ^ n - 1) k s
  | 0, _, _ => trivial
  | k + 1, s, hs => by
    obtain ⟨h1, h2⟩ := h.2 s hs
    have h12 : 2 ^ n ≤ 2 ^ 12 := Nat.pow_le_pow_right (by omega) hn
    refine ⟨by omega, ?_⟩
    rcases h2 with z | ⟨z1, z2, z3⟩
    · exact Or.inl z
    · exact Or.inr ⟨z1, by omega, kok_BI hn h k _ z3⟩
theorem clr_or {s i : Nat} (hs : s < 4096) (h : s.testBit i = true) : clr s i ||| 2 ^ i = s := by
  apply Nat.eq_of_testBit_eq
  intro j
  rw [Nat.testBit_or, tb_clr hs, Nat.testBit_two_pow]
  by_cases q : i = j
  · subst q; simp [h]
  · simp [q]
theorem clr_ne {s i : Nat} (hs : s < 4096) (h : s.testBit i = true) : ¬ clr s i = s := by
  intro q
  have := tb_clr (i := i) (j := i) hs
  rw [q, h] at this
  simp at this
theorem clr_eq {s i : Nat} (hs : s < 4096) (h : ¬ s.testBit i = true) : clr s i = s := by
  apply Nat.eq_of_testBit_eq
  intro j
  rw [tb_clr hs]
  by_cases q : i = j
  · subst q; simp at h; simp [h]
  · simp [q]
theorem BI_add {n set i : Nat} {cm : Nat → Nat} {Q : List Nat} (hn : n ≤ 12) (h : BI n cm Q) (hset : set ∈ Q) (hi : set.testBit i = true) (hin : i < n) (h0 : cm (clr set i) = 0) (hl : Q.length < 4096) : BI n (cmU cm (clr set i) (i + 1)) (Q ++ [clr set i]) := by
  have h12 : 2 ^ n ≤ 2 ^ 12 := Nat.pow_le_pow_right (by omega) hn
  have hs := (h.2 set hset).1
  have hle : clr set i ≤ set := Nat.and_le_left
  have hne := clr_ne (i := i) (show set < 4096 by omega) hi
  refine ⟨by simp; omega, fun s hsm => ?_⟩
  have key : ∀ s ∈ Q, ¬ s = clr set i → s < 2 ^ n ∧ (s = 2 ^ n - 1 ∨ (0 < cmU cm (clr set i) (i + 1) s ∧ cmU cm (clr set i) (i + 1) s ≤ n ∧ (s ||| 2 ^ (cmU cm (clr set i) (i + 1) s - 1)) ∈ Q ++ [clr set i])) := by
    intro s hs' hne'
    have hc : cmU cm (clr set i) (i + 1) s = cm s := if_neg hne'
    rw [hc]
    obtain ⟨a, b⟩ := h.2 s hs'
    exact ⟨a, b.imp id fun ⟨b1, b2, b3⟩ => ⟨b1, b2, List.mem_append_left _ b3⟩⟩
  have knew : clr set i < 2 ^ n ∧ (clr set i = 2 ^ n - 1 ∨ (0 < cmU cm (clr set i) (i + 1) (clr set i) ∧ cmU cm (clr set i) (i + 1) (clr set i) ≤ n ∧ (clr set i ||| 2 ^ (cmU cm (clr set i) (i + 1) (clr set i) - 1)) ∈ Q ++ [clr set i])) := by
    have hc : cmU cm (clr set i) (i + 1) (clr set i) = i + 1 := if_pos rfl
    rw [hc, Nat.add_sub_cancel, clr_or (by omega) hi]
    exact ⟨by omega, Or.inr ⟨by omega, by omega, List.mem_append_left _ hset⟩⟩
  by_cases z : s = clr set i
  · rw [z]; exact knew
  · rcases List.mem_append.mp hsm with y | y
    · exact key s y z
    · rw [List.mem_singleton] at y; exact absurd y z
def LOp (M : Mem) (ls : List Lyr) (r : Option (Nat × Nat × (Nat → Nat))) : Po := fun v M' => Fr [5, 9, 37, 38, 45, 47, 51, 52] M M' ∧ match r with
  | none => v = some (.int (cI 0))
  | some (set, last, cm) => v = some (.int (cI 1)) ∧ M'.1 5 0 = nI (ls.length - pcn set 12 + 1) ∧ ∀ j p, (kcl cm (2 ^ ls.length - 1) (ls.length - pcn set 12 + 1) last set)[j]? = some p → M'.1 47 j = nI p
theorem LOp_tr {A : List Nat} {M M1 : Mem} {ls : List Lyr} {r : Option (Nat × Nat × (Nat → Nat))} (h : Fr A M M1) (ha : A.all (fun a => [5, 9, 37, 38, 45, 47, 51, 52].contains a) = true) : ∀ v M', LOp M1 ls r v M' → LOp M ls r v M' := fun v M' q => ⟨Fr_trans (Fr_sub h ha) q.1, q.2⟩
def RQ (M : Mem) (Q : List Nat) : Prop := ∀ j s, Q[j]? = some s → M.1 51 j = nI s
theorem lo_inner {d mk : Nat} {E : EnvK} {ls : List Lyr} (hmk : mk < 8) {n hd set : Nat} (hset : set < 2 ^ ls.length)
    (ih : ∀ (Q : List Nat) (cm : Nat → Nat) (M : Mem), RSr M E ls false → RE M E → RCm M E ls cm → RQ M Q → BI ls.length cm Q → BodyK (d + 12) 59 39 [(0, .ref 5), (1, .int (nI mk)), (2, .int (nI (2 ^ ls.length - 1))), (3, .int (nI Q.length)), (4, .int (nI (hd + 1)))] [] M (LOp M ls (bfs E ls mk n (hd + 1) Q cm))) :
    ∀ (m i : Nat) (Q : List Nat) (cm : Nat → Nat) (M : Mem), i + m = ls.length → set ∈ Q → RSr M E ls false → RE M E → RCm M E ls cm → RQ M Q → BI ls.length cm Q →
    BodyK (d + 12) 59 67 [(0, .ref 5), (1, .int (nI mk)), (2, .int (nI (2 ^ ls.length - 1))), (3, .int (nI Q.length)), (4, .int (nI hd)), (5, .int (nI set)), (6, .int (nI i))] [] M (LOp M ls (match bin E ls mk set m i Q cm with
      | (some i', _, cm') => some (set, i', cm')
      | (none, Q', cm') => bfs E ls mk n (hd + 1) Q' cm')) := by
  intro m
  induction m with
  | zero =>
    intro i Q cm M hi hsQ h he hcm hQ hbi
    have h12 := h.1.2.1
    have e := nI_v (n := i) (by omega)
    have en := nI_v (n := ls.length) (by omega)
    refine body_run 400 rfl (fun B Cl Z hZ hB hC => ?_)
    (conv => whnf); refine ⟨fun b => ?_, fun b => ?_⟩
    · (conv => whnf)
      exact hB _ _ _ _ (Body_lv (ih Q cm M h he hcm hQ hbi) ⟨rfl, rfl, rfl, rfl, v_eq (nI_i1 hd), trivial⟩)
    · simp only [c_lt, c_gt, c_le, c_ge, c_eq, c_ne, b2_z, b2_nz, b2_i, Classical.not_not, t0, t1, Nat.reduceMod, Nat.reduceDiv, Int.reduceAdd, Int.reduceNeg, Nat.reduceAdd, kv_m1, kv_0, kv_1, kv_2, kc_0, kc_1, kc_2, h.1.1, e, en] at b
      omega
  | succ m ihm =>
    intro i Q cm M hi hsQ h he hcm hQ hbi
    have h12 := h.1.2.1
    have hpw : 2 ^ ls.length ≤ 2 ^ 12 := Nat.pow_le_pow_right (by omega) h12
    have hs12 : set < 4096 := by omega
    have e := nI_v (n := i) (by omega)
    have en := nI_v (n := ls.length) (by omega)
    have es := nI_v (n := set) (by omega)
    have er := nI_v (n := clr set i) (by have := clr_lt (i := i) hs12; omega)
    have hcl := clr_i (s := set) (i := i) hs12 (by omega)
    have hil : i < ls.length := by omega
    have hq := List.getElem?_eq_getElem hil
    generalize ls[i] = q at hq
    have hgd : ls.getD i (0, 0, 0, 0) = q := by simp [List.getD, hq]
    have hok := (h.1.2.2 i q hq).1
    have em := nI_v (n := q.2.2.1) (by have := hok.2.2.1; omega)
    have emk := nI_v (n := mk) (by omega)
    have hbn : bin E ls mk set (m + 1) i Q cm = (if set.testBit i = true ∧ stS E ls (clr set i) then
      (if q.2.2.1 = mk then (some i, Q, cm)
      else if cm (clr set i) = 0 ∧ Q.length < 4096 then bin E ls mk set m (i + 1) (Q ++ [clr set i]) (cmU cm (clr set i) (i + 1)) else bin E ls mk set m (i + 1) Q cm)
      else bin E ls mk set m (i + 1) Q cm) := by rw [bin, hgd]
    rw [hbn]
    refine body_run 400 rfl (fun B Cl Z hZ hB hC => ?_)
    (conv => whnf); refine ⟨fun b => ?_, fun b => ?_⟩
    · simp only [c_lt, c_gt, c_le, c_ge, c_eq, c_ne, b2_z, b2_nz, b2_i, Classical.not_not, t0, t1, Nat.reduceMod, Nat.reduceDiv, Int.reduceAdd, Int.reduceNeg, Nat.reduceAdd, kv_m1, kv_0, kv_1, kv_2, kc_0, kc_1, kc_2, h.1.1, e, en] at b
      omega
    (conv => whnf); refine ⟨fun g => ?_, fun g => ?_⟩
    · replace g : nI set &&& ((cI 1 <<< (nI i &&& 31)) ^^^ cI (-1)) = nI set := g
      rw [hcl, x_eq, er, es] at g
      have hnb : ¬ set.testBit i = true := fun z => clr_ne hs12 z (by omega)
      rw [if_neg (fun z => hnb z.1)] at hB
      (conv => whnf)
      exact hB _ _ _ _ (Body_lv (ihm (i + 1) Q cm M (by omega) hsQ h he hcm hQ hbi) ⟨rfl, rfl, rfl, rfl, rfl, rfl, v_eq (nI_i1 i), trivial⟩)
    · replace g : ¬ nI set &&& ((cI 1 <<< (nI i &&& 31)) ^^^ cI (-1)) = nI set := g
      rw [hcl, x_eq, er, es] at g
      have hbt : set.testBit i = true := by
        cases z : set.testBit i with
        | true => rfl
        | false => exact absurd (by rw [clr_eq hs12 (by rw [z]; simp)]) g
      have hrs : clr set i < 2 ^ ls.length := Nat.lt_of_le_of_lt Nat.and_le_left hset
      (conv => whnf)
      rw [hcl]
      refine hC _ _ _ _ _ (sp_isStanding (d := d + 6) hrs h he hcm) (fun v M1 p => ?_)
      obtain ⟨rfl, p2, p3, p4⟩ := p
      have he1 : RE M1 E := RE_fr he p4 (by decide)
      have hQ1 : RQ M1 Q := fun j s hj => by rw [Fr_1 p4 51 (by decide)]; exact hQ j s hj
      (conv => whnf); refine ⟨fun k => ?_, fun k => ?_⟩
      · rw [b2_nz] at k
        (conv => whnf); refine ret_k hC (sp_snumber p2.1 hq (show 2 < 4 by omega)) ?_
        (conv => whnf); refine ⟨fun l => ?_, fun l => ?_⟩
        · replace l : ¬ nI q.2.2.1 = nI mk := l
          rw [x_eq, em, emk] at l
          have hnm : ¬ q.2.2.1 = mk := by omega
          rw [if_pos ⟨hbt, k⟩, if_neg hnm] at hB
          have hcr := p3 (clr set i) (by omega)
          (conv => whnf)
          refine ⟨nI_vp (by omega) (by omega), ?_⟩
          (conv => whnf); refine ⟨fun o => ?_, fun o => ?_⟩
          · rw [nI_c (n := clr set i) (by omega)] at o
            replace o : ¬ M1.1 52 (clr set i) = 0 := o
            have hc0 : ¬ cm (clr set i) = 0 := by
              intro z
              rcases hcr.2 z with w | w
              · exact o w
              · exact w.2 k
            rw [if_neg (fun z => hc0 z.1)] at hB
            (conv => whnf)
            exact hB _ _ _ _ (Body_lv (Body_mono (ihm (i + 1) Q cm M1 (by omega) hsQ p2 he1 p3 hQ1 hbi) (LOp_tr p4 (by decide))) ⟨rfl, rfl, rfl, rfl, rfl, rfl, v_eq (nI_i1 i), trivial⟩)
          · rw [nI_c (n := clr set i) (by omega)] at o
            replace o : ¬ ¬ M1.1 52 (clr set i) = 0 := o
            have o := Classical.not_not.mp o
            have hc0 : cm (clr set i) = 0 := by
              rcases Nat.eq_zero_or_pos (cm (clr set i)) with z | z
              · exact z
              · obtain ⟨w1, w2, -⟩ := hcr.1 z
                rw [w2, x_eq, nI_v (by omega)] at o
                have : (0 : Int32).toInt = 0 := rfl
                omega
            have eQ := nI_v (n := Q.length) (by have := hbi.1; omega)
            (conv => whnf); refine ⟨fun u => ?_, fun u => ?_⟩
            · simp only [c_lt, c_gt, c_le, c_ge, c_eq, c_ne, b2_z, b2_nz, b2_i, Classical.not_not, t0, t1, Nat.reduceMod, Nat.reduceDiv, Int.reduceAdd, Int.reduceNeg, Nat.reduceAdd, kv_m1, kv_0, kv_1, kv_2, kc_0, kc_1, kc_2, eQ] at u
              replace u : (4096 : Int) ≤ (Q.length : Int) := u
              rw [if_neg (fun z => by omega)] at hB
              (conv => whnf)
              exact hB _ _ _ _ (Body_lv (Body_mono (ihm (i + 1) Q cm M1 (by omega) hsQ p2 he1 p3 hQ1 hbi) (LOp_tr p4 (by decide))) ⟨rfl, rfl, rfl, rfl, rfl, rfl, v_eq (nI_i1 i), trivial⟩)
            · simp only [c_lt, c_gt, c_le, c_ge, c_eq, c_ne, b2_z, b2_nz, b2_i, Classical.not_not, t0, t1, Nat.reduceMod, Nat.reduceDiv, Int.reduceAdd, Int.reduceNeg, Nat.reduceAdd, kv_m1, kv_0, kv_1, kv_2, kc_0, kc_1, kc_2, eQ] at u
              replace u : ¬ (4096 : Int) ≤ (Q.length : Int) := u
              rw [if_pos ⟨hc0, by omega⟩] at hB
              (conv => whnf)
              refine ⟨nI_vp (by omega) (by omega), ?_⟩
              (conv => whnf)
              rw [nI_i1]
              refine ⟨nI_vp (by omega) (by omega), ?_⟩
              (conv => whnf)
              rw [nI_c (n := clr set i) (by omega), nI_c (n := Q.length) (by omega)]
              have hF2 : Fr [51, 52] M1 (mI (mI M1 52 (clr set i) (nI (i + 1))) 51 Q.length (nI (clr set i))) := Fr_mI (Fr_mI Fr_refl (by decide)) (by decide)
              have hcm2 : RCm (mI (mI M1 52 (clr set i) (nI (i + 1))) 51 Q.length (nI (clr set i))) E ls (cmU cm (clr set i) (i + 1)) := by
                intro s hs
                rw [mI_ne _ _ _ (by decide)]
                by_cases z : s = clr set i
                · subst z
                  have : cmU cm (clr set i) (i + 1) (clr set i) = i + 1 := if_pos rfl
                  rw [this, mI_1]
                  exact ⟨fun _ => ⟨by omega, rfl, k⟩, fun w => by omega⟩
                · have : cmU cm (clr set i) (i + 1) s = cm s := if_neg z
                  rw [this, mI_2 _ _ z]
                  exact p3 s hs
              have hQ2 : RQ (mI (mI M1 52 (clr set i) (nI (i + 1))) 51 Q.length (nI (clr set i))) (Q ++ [clr set i]) := by
                intro j s hj
                rw [mI_at]
                rcases Nat.lt_or_ge j Q.length with z | z
                · rw [List.getElem?_append_left z] at hj
                  rw [if_neg (by omega), mI_ne _ _ _ (by decide)]
                  exact hQ1 j s hj
                · have := (List.getElem?_eq_some_iff.mp hj).1
                  simp at this
                  obtain rfl : j = Q.length := by omega
                  rw [List.getElem?_append_right (Nat.le_refl _), Nat.sub_self] at hj
                  cases hj
                  rw [if_pos ⟨rfl, rfl⟩]
              refine hB _ _ _ _ (Body_lv (Body_mono (ihm (i + 1) (Q ++ [clr set i]) (cmU cm (clr set i) (i + 1)) _ (by omega) (List.mem_append_left _ hsQ) (RSr_fr p2 hF2 (by decide)) (RE_fr he1 hF2 (by decide)) hcm2 hQ2 (BI_add h12 hbi hsQ hbt hil hc0 (by omega))) (fun v M' z => LOp_tr p4 (by decide) v M' (LOp_tr hF2 (by decide) v M' z))) ⟨rfl, rfl, rfl, v_eq ?_, rfl, rfl, v_eq (nI_i1 i), trivial⟩)
              rw [List.length_append]
              exact nI_i1 _
        · replace l : ¬ ¬ nI q.2.2.1 = nI mk := l
          rw [x_eq, em, emk] at l
          have hm : q.2.2.1 = mk := by omega
          rw [if_pos ⟨hbt, k⟩, if_pos hm] at hZ
          have hpc : 1 ≤ pcn set 12 := by have := pcn_lt hbt 12 (by omega); omega
          (conv => whnf)
          refine hC _ _ _ _ _ (sp_keepCuts (d := d + 9) (all := 2 ^ ls.length - 1) (last := i) (by omega) hset p2 p3 hpc (kok_BI h12 hbi _ _ hsQ)) (fun v M2 u => ?_)
          obtain ⟨rfl, u2, u3, u4⟩ := u
          (conv => whnf)
          refine ⟨Or.inr rfl, hZ _ _ ⟨Fr_trans (Fr_sub p4 (by decide)) (Fr_sub u2 (by decide)), rfl, u3, u4⟩⟩
      · rw [b2_nz] at k
        rw [if_neg (fun z => k z.2)] at hB
        (conv => whnf)
        exact hB _ _ _ _ (Body_lv (Body_mono (ihm (i + 1) Q cm M1 (by omega) hsQ p2 he1 p3 hQ1 hbi) (LOp_tr p4 (by decide))) ⟨rfl, rfl, rfl, rfl, rfl, rfl, v_eq (nI_i1 i), trivial⟩)
theorem lo_outer {d mk : Nat} {E : EnvK} {ls : List Lyr} (hmk : mk < 8) : ∀ (n hd : Nat) (Q : List Nat) (cm : Nat → Nat) (M : Mem), hd + n = 4096 → RSr M E ls false → RE M E → RCm M E ls cm → RQ M Q → BI ls.length cm Q →
    BodyK (d + 12) 59 39 [(0, .ref 5), (1, .int (nI mk)), (2, .int (nI (2 ^ ls.length - 1))), (3, .int (nI Q.length)), (4, .int (nI hd))] [] M (LOp M ls (bfs E ls mk n hd Q cm)) := by
  intro n
  induction n with
  | zero =>
    intro hd Q cm M hh h he hcm hQ hbi
    have e := nI_v (n := hd) (by omega)
    have eQ := nI_v (n := Q.length) (by have := hbi.1; omega)
    refine body_run 400 rfl (fun B Cl Z hZ hB hC => ?_)
    (conv => whnf); refine ⟨fun b => ?_, fun b => ?_⟩
    · (conv => whnf)
      refine ⟨Or.inl rfl, hZ _ _ ⟨Fr_refl, rfl⟩⟩
    · (conv => whnf); refine ⟨fun c => ?_, fun c => ?_⟩
      · (conv => whnf)
        refine ⟨Or.inl rfl, hZ _ _ ⟨Fr_refl, rfl⟩⟩
      · simp only [c_lt, c_gt, c_le, c_ge, c_eq, c_ne, b2_z, b2_nz, b2_i, Classical.not_not, t0, t1, Nat.reduceMod, Nat.reduceDiv, Int.reduceAdd, Int.reduceNeg, Nat.reduceAdd, kv_m1, kv_0, kv_1, kv_2, kc_0, kc_1, kc_2, e] at c
        replace c : ¬ (4096 : Int) ≤ (hd : Int) := c
        omega
  | succ n ihn =>
    intro hd Q cm M hh h he hcm hQ hbi
    have e := nI_v (n := hd) (by omega)
    have eQ := nI_v (n := Q.length) (by have := hbi.1; omega)
    refine body_run 400 rfl (fun B Cl Z hZ hB hC => ?_)
    (conv => whnf); refine ⟨fun b => ?_, fun b => ?_⟩
    · simp only [c_lt, c_gt, c_le, c_ge, c_eq, c_ne, b2_z, b2_nz, b2_i, Classical.not_not, t0, t1, Nat.reduceMod, Nat.reduceDiv, Int.reduceAdd, Int.reduceNeg, Nat.reduceAdd, kv_m1, kv_0, kv_1, kv_2, kc_0, kc_1, kc_2, e, eQ] at b
      (conv => whnf)
      have hn : bfs E ls mk (n + 1) hd Q cm = none := by rw [bfs, List.getElem?_eq_none (by omega)]
      rw [hn] at hZ
      refine ⟨Or.inl rfl, hZ _ _ ⟨Fr_refl, rfl⟩⟩
    · simp only [c_lt, c_gt, c_le, c_ge, c_eq, c_ne, b2_z, b2_nz, b2_i, Classical.not_not, t0, t1, Nat.reduceMod, Nat.reduceDiv, Int.reduceAdd, Int.reduceNeg, Nat.reduceAdd, kv_m1, kv_0, kv_1, kv_2, kc_0, kc_1, kc_2, e, eQ] at b
      (conv => whnf); refine ⟨fun c => ?_, fun c => ?_⟩
      · simp only [c_lt, c_gt, c_le, c_ge, c_eq, c_ne, b2_z, b2_nz, b2_i, Classical.not_not, t0, t1, Nat.reduceMod, Nat.reduceDiv, Int.reduceAdd, Int.reduceNeg, Nat.reduceAdd, kv_m1, kv_0, kv_1, kv_2, kc_0, kc_1, kc_2, e] at c
        replace c : (4096 : Int) ≤ (hd : Int) := c
        omega
      · have hdl : hd < Q.length := by omega
        have hq := List.getElem?_eq_getElem hdl
        have hmem := List.getElem_mem hdl
        generalize Q[hd] = set at hq hmem
        have hset := (hbi.2 set hmem).1
        have hQd := hQ hd set hq
        have hn : bfs E ls mk (n + 1) hd Q cm = (match bin E ls mk set ls.length 0 Q cm with
          | (some i, _, cm') => some (set, i, cm')
          | (none, Q', cm') => bfs E ls mk n (hd + 1) Q' cm') := by rw [bfs, hq] <;> rfl
        rw [hn] at hB
        (conv => whnf)
        refine ⟨nI_vp (by omega) (by omega), ?_⟩
        (conv => whnf)
        rw [nI_c (n := hd) (by omega), hQd]
        exact hB _ _ _ _ (Body_lv (lo_inner (d := d) hmk hset (fun Q' cm' M' a1 a2 a3 a4 a5 => ihn (hd + 1) Q' cm' M' (by omega) a1 a2 a3 a4 a5) ls.length 0 Q cm M (by omega) hmem h he hcm hQ hbi) ⟨rfl, rfl, rfl, rfl, rfl, rfl, rfl, trivial⟩)
/-- what the search answers: no, or the set, the last cut, and what led there -/
def lres (E : EnvK) (ls : List Lyr) (mk : Nat) : Option (Nat × Nat × (Nat → Nat)) := if hasM mk ls = true then bfs E ls mk 4096 0 [2 ^ ls.length - 1] (fun _ => 0) else none
theorem sp_letOutBest {d mk : Nat} {M : Mem} {E : EnvK} {ls : List Lyr} (hmk : mk < 8) (h : RSr M E ls false) (he : RE M E) : Call (d + 12) 59 [.ref 5, .int (nI mk)] M (LOp M ls (lres E ls mk)) := by
  have h12 := h.1.2.1
  have hp := Nat.two_pow_pos ls.length
  have hpw : 2 ^ ls.length ≤ 2 ^ 12 := Nat.pow_le_pow_right (by omega) h12
  have x1 : (cI 1 <<< (M.1 5 5 &&& 31)) - cI 1 = nI (2 ^ ls.length - 1) := by rw [h.1.1]; exact full_i _ h12
  refine call_run 400 rfl rfl (fun B Cl Z hZ hB hC => ?_)
  (conv => whnf); refine ret_k hC (sp_hasMark (d := d + 9) (by omega) h.1) ?_
  (conv => whnf); refine ⟨fun b => ?_, fun b => ?_⟩
  · rw [b2_nz] at b
    have hl : lres E ls mk = bfs E ls mk 4096 0 [2 ^ ls.length - 1] (fun _ => 0) := if_pos b
    rw [hl] at hB
    (conv => whnf)
    refine hC _ _ _ _ _ (sp_fillI (d := d + 10) (Or.inr ⟨rfl, rfl⟩)) (fun v M1 q => ?_)
    obtain ⟨rfl, q2, q3⟩ := q
    (conv => whnf)
    refine ⟨nI_vp (c := 0) (by omega) (by omega), ?_⟩
    (conv => whnf)
    have hF : ∀ x, Fr [51] M1 (mI M1 51 0 x) := fun x => Fr_mI Fr_refl (by decide)
    have h1 : ∀ x, RSr (mI M1 51 0 x) E ls false := fun x => RSr_fr (RSr_fr h q2 (by decide)) (hF x) (by decide)
    have he1 : ∀ x, RE (mI M1 51 0 x) E := fun x => RE_fr (RE_fr he q2 (by decide)) (hF x) (by decide)
    have hc1 : ∀ x, RCm (mI M1 51 0 x) E ls (fun _ => 0) := fun x s hs => ⟨fun z => absurd z (Nat.lt_irrefl 0), fun _ => Or.inl (by rw [mI_ne _ _ _ (by decide), q3 s hs]; rfl)⟩
    have hbi : BI ls.length (fun _ => 0) [2 ^ ls.length - 1] := ⟨by simp, fun s hs => by rw [List.mem_singleton] at hs; subst hs; exact ⟨by omega, Or.inl rfl⟩⟩
    have hQ1 : ∀ x, x = nI (2 ^ ls.length - 1) → RQ (mI M1 51 0 x) [2 ^ ls.length - 1] := by
      intro x hx j s hj
      have := (List.getElem?_eq_some_iff.mp hj).1
      simp at this
      subst this
      cases hj
      rw [mI_1, hx]
    refine hB _ _ _ _ (Body_lv (Body_mono (lo_outer (d := d) hmk 4096 0 [2 ^ ls.length - 1] (fun _ => 0) _ rfl (h1 _) (he1 _) (hc1 _) (hQ1 _ x1) hbi) (fun v M' z => LOp_tr q2 (by decide) v M' (LOp_tr (hF _) (by decide) v M' z))) ⟨rfl, rfl, v_eq x1, rfl, rfl, trivial⟩)
  · rw [b2_nz] at b
    have hl : lres E ls mk = none := if_neg b
    rw [hl] at hZ
    (conv => whnf)
    exact ⟨Or.inl rfl, hZ _ _ ⟨Fr_refl, rfl⟩⟩
