/-! cuts that let a mark out: sets come to in order -/
def cmU (cm : Nat → Nat) (s v : Nat) : Nat → Nat := fun x => if x = s then v else cm x
def bin (E : EnvK) (ls : List Lyr) (mk set : Nat) : Nat → Nat → List Nat → (Nat → Nat) → Option Nat × List Nat × (Nat → Nat)
  | 0, _, Q, cm => (none, Q, cm)
  | m + 1, i, Q, cm =>
    if set.testBit i = true ∧ stS E ls (clr set i) then
      (if (ls.getD i (0, 0, 0, 0)).2.2.1 = mk then (some i, Q, cm)
      else if cm (clr set i) = 0 ∧ Q.length < 4096 then bin E ls mk set m (i + 1) (Q ++ [clr set i]) (cmU cm (clr set i) (i + 1)) else bin E ls mk set m (i + 1) Q cm)
    else bin E ls mk set m (i + 1) Q cm
def bfs (E : EnvK) (ls : List Lyr) (mk : Nat) : Nat → Nat → List Nat → (Nat → Nat) → Option (Nat × Nat × (Nat → Nat))
  | 0, _, _, _ => none
  | n + 1, hd, Q, cm => match Q[hd]? with
    | none => none
    | some set => match bin E ls mk set ls.length 0 Q cm with
      | (some i, _, cm') => some (set, i, cm')
      | (none, Q', cm') => bfs E ls mk n (hd + 1) Q' cm'
/-- the cuts that led to a set, the last one told -/
def kcl (cm : Nat → Nat) (all : Nat) : Nat → Nat → Nat → List Nat
  | 0, _, _ => []
  | n + 1, cut, thn => if thn = all then kcl cm all n cut thn ++ [cut] else kcl cm all n (cm thn - 1) (thn ||| 2 ^ (cm thn - 1)) ++ [cut]
def kok (cm : Nat → Nat) (all : Nat) : Nat → Nat → Prop
  | 0, _ => True
  | n + 1, thn => thn < 4096 ∧ (thn = all ∨ (0 < cm thn ∧ cm thn ≤ 12 ∧ kok cm all n (thn ||| 2 ^ (cm thn - 1))))
theorem kcl_len (cm : Nat → Nat) (all : Nat) : ∀ n cut thn, (kcl cm all n cut thn).length = n
  | 0, _, _ => rfl
  | n + 1, cut, thn => by
    unfold kcl
    split <;> simp [kcl_len cm all n]
theorem kok_all (cm : Nat → Nat) {all : Nat} (h : all < 4096) : ∀ n, kok cm all n all
  | 0 => trivial
  | _ + 1 => ⟨h, Or.inl rfl⟩
theorem nI_dn (k : Nat) : nI (k + 1) - cI 1 + cI (-1) = nI k - cI 1 := by
  rw [show nI (k + 1) - cI 1 = nI k from nI_pred k, Int32.sub_eq_add_neg]
  rfl
theorem keepc_loop {d all : Nat} {E : EnvK} {ls : List Lyr} {cm : Nat → Nat} (hall : all < 4096) : ∀ (k cut thn : Nat) (M : Mem), k ≤ 12 → kok cm all k thn → RCm M E ls cm → thn < 4096 →
    BodyK (d + 1) 48 29 [(0, .ref 5), (1, .int (nI all)), (4, .int (nI cut)), (5, .int (nI thn)), (6, .int (nI k - cI 1))] [] M (fun v M' => v = none ∧ Fr [47] M M' ∧ (∀ j p, (kcl cm all k cut thn)[j]? = some p → M'.1 47 j = nI p) ∧ ∀ j, k ≤ j → M'.1 47 j = M.1 47 j) := by
  have ea := nI_v (n := all) (by omega)
  intro k
  induction k with
  | zero =>
    intro cut thn M hk hok hcm ht
    refine body_run 400 rfl (fun B Cl Z hZ hB hC => ?_)
    (conv => whnf); refine ⟨fun b => ?_, fun b => ?_⟩
    · conv => whnf
      exact hZ _ _ ⟨rfl, Fr_refl, fun j p hj => by simp [kcl] at hj, fun _ _ => rfl⟩
    · exact absurd (show nI 0 - cI 1 < 0 by decide) b
  | succ k ih =>
    intro cut thn M hk hok hcm ht
    have et := nI_v (n := thn) (by omega)
    have e := nI_v (n := k) (by omega)
    have hi : nI (k + 1) - cI 1 = nI k := nI_pred k
    have hstep : ∀ (cut' thn' : Nat), kcl cm all (k + 1) cut thn = kcl cm all k cut' thn' ++ [cut] → kok cm all k thn' → thn' < 4096 →
        BodyK (d + 1) 48 29 [(0, .ref 5), (1, .int (nI all)), (4, .int (nI cut')), (5, .int (nI thn')), (6, .int (nI k - cI 1))] [] (mI M 47 k (nI cut)) (fun v M' => v = none ∧ Fr [47] M M' ∧ (∀ j p, (kcl cm all (k + 1) cut thn)[j]? = some p → M'.1 47 j = nI p) ∧ ∀ j, k + 1 ≤ j → M'.1 47 j = M.1 47 j) := by
      intro cut' thn' hkc hok' ht'
      refine Body_mono (ih cut' thn' _ (by omega) hok' (fun s hs => by rw [mI_ne _ _ _ (by decide)]; exact hcm s hs) ht') (fun v M' z => ⟨z.1, Fr_trans (Fr_mI Fr_refl (by decide)) z.2.1, fun j p hj => ?_, fun j hj => ?_⟩)
      · rw [hkc] at hj
        have hlen := kcl_len cm all k cut' thn'
        rcases Nat.lt_or_ge j k with y | y
        · rw [List.getElem?_append_left (by omega)] at hj
          exact z.2.2.1 j p hj
        · have := (List.getElem?_eq_some_iff.mp hj).1
          simp [hlen] at this
          obtain rfl : j = k := by omega
          rw [List.getElem?_append_right (by omega), hlen, Nat.sub_self] at hj
          cases hj
          rw [z.2.2.2 _ (Nat.le_refl _), mI_1]
      · rw [z.2.2.2 j (by omega), mI_2 _ _ (by omega)]
    refine body_run 400 rfl (fun B Cl Z hZ hB hC => ?_)
    (conv => whnf); refine ⟨fun b => ?_, fun b => ?_⟩
    · rw [hi] at b
      simp only [c_lt, c_gt, c_le, c_ge, c_eq, c_ne, b2_z, b2_nz, b2_i, Classical.not_not, t0, t1, Nat.reduceMod, Nat.reduceDiv, Int.reduceAdd, Int.reduceNeg, Nat.reduceAdd, kv_m1, kv_0, kv_1, kv_12, kc_0, kc_1, kc_12, e] at b
      omega
    (conv => whnf); refine ⟨fun b => ?_, fun b => ?_⟩
    · rw [hi] at b
      simp only [c_lt, c_gt, c_le, c_ge, c_eq, c_ne, b2_z, b2_nz, b2_i, Classical.not_not, t0, t1, Nat.reduceMod, Nat.reduceDiv, Int.reduceAdd, Int.reduceNeg, Nat.reduceAdd, kv_m1, kv_0, kv_1, kv_12, kc_0, kc_1, kc_12, e] at b
      omega
    (conv => whnf)
    rw [hi]
    refine ⟨nI_vp (by omega) (by omega), ?_⟩
    (conv => whnf); refine ⟨fun g => ?_, fun g => ?_⟩
    · replace g : nI thn = nI all := g
      rw [x_eq, et, ea] at g
      have g : thn = all := by omega
      (conv => whnf)
      rw [nI_c (n := k) (by omega)]
      refine hB _ _ _ _ (Body_lv (hstep cut thn (by rw [kcl, if_pos g]) (by rw [g]; exact kok_all cm hall k) ht) ⟨rfl, rfl, rfl, rfl, v_eq ?_, trivial⟩)
      rw [Int32.sub_eq_add_neg]
      rfl
    · replace g : ¬ nI thn = nI all := g
      rw [x_eq, et, ea] at g
      have g : ¬ thn = all := by omega
      obtain ⟨-, hok2⟩ := hok
      obtain ⟨o1, o2, o3⟩ := hok2.resolve_left g
      have hc := ((hcm thn ht).1 o1).2.1
      have hc1 : (mI M 47 (nI k).toNatClampNeg (nI cut)).1 52 (nI thn).toNatClampNeg - cI 1 = nI (cm thn - 1) := by
        rw [mI_ne _ _ _ (by decide), nI_c (n := thn) (by omega), hc]
        exact nI_sub (b := 1) (by omega)
      have ec := nI_v (n := cm thn - 1) (by omega)
      (conv => whnf); refine ⟨fun h => ?_, fun h => ?_⟩
      · simp only [c_lt, c_gt, c_le, c_ge, c_eq, c_ne, b2_z, b2_nz, b2_i, Classical.not_not, t0, t1, Nat.reduceMod, Nat.reduceDiv, Int.reduceAdd, Int.reduceNeg, Nat.reduceAdd, kv_m1, kv_0, kv_1, kv_12, kc_0, kc_1, kc_12, et] at h
        omega
      (conv => whnf); refine ⟨fun h => ?_, fun h => ?_⟩
      · simp only [c_lt, c_gt, c_le, c_ge, c_eq, c_ne, b2_z, b2_nz, b2_i, Classical.not_not, t0, t1, Nat.reduceMod, Nat.reduceDiv, Int.reduceAdd, Int.reduceNeg, Nat.reduceAdd, kv_m1, kv_0, kv_1, kv_12, kc_0, kc_1, kc_12, et] at h
        replace h : (4096 : Int) ≤ (thn : Int) := h
        omega
      (conv => whnf)
      refine ⟨nI_vp (by omega) (by omega), ?_⟩
      (conv => whnf); refine ⟨fun l => ?_, fun l => ?_⟩
      · rw [hc1] at l
        simp only [c_lt, c_gt, c_le, c_ge, c_eq, c_ne, b2_z, b2_nz, b2_i, Classical.not_not, t0, t1, Nat.reduceMod, Nat.reduceDiv, Int.reduceAdd, Int.reduceNeg, Nat.reduceAdd, kv_m1, kv_0, kv_1, kv_12, kc_0, kc_1, kc_12, ec] at l
        omega
      · (conv => whnf)
        rw [hc1, add_i ht (by omega), nI_c (n := k) (by omega)]
        have ht2 : thn ||| 2 ^ (cm thn - 1) < 4096 := Nat.or_lt_two_pow (n := 12) ht (Nat.pow_lt_pow_right (by omega) (by omega))
        refine hB _ _ _ _ (Body_lv (hstep (cm thn - 1) (thn ||| 2 ^ (cm thn - 1)) (by rw [kcl, if_neg g]) o3 ht2) ⟨rfl, rfl, rfl, rfl, v_eq ?_, trivial⟩)
        rw [Int32.sub_eq_add_neg]
        rfl
theorem sp_keepCuts {d all set last : Nat} {M : Mem} {E : EnvK} {ls : List Lyr} {cm : Nat → Nat} (hall : all < 4096) (hset : set < 2 ^ ls.length) (h : RSr M E ls false) (hcm : RCm M E ls cm) (hpc : 1 ≤ pcn set 12) (hok : kok cm all (ls.length - pcn set 12 + 1) set) :
    Call (d + 2) 48 [.ref 5, .int (nI all), .int (nI set), .int (nI last)] M (fun v M' => v = none ∧ Fr [5, 47] M M' ∧ M'.1 5 0 = nI (ls.length - pcn set 12 + 1) ∧ ∀ j p, (kcl cm all (ls.length - pcn set 12 + 1) last set)[j]? = some p → M'.1 47 j = nI p) := by
  have h12 := h.1.2.1
  have hs12 : set < 4096 := Nat.lt_of_lt_of_le hset (Nat.pow_le_pow_right (n := 2) (by omega) h12)
  have hpb : pcn set 12 = pcn set ls.length := by
    have := pcn_big hset (12 - ls.length)
    rw [show ls.length + (12 - ls.length) = 12 by omega] at this
    exact this
  have hple := pcn_le set ls.length
  have x1 : nI ls.length - nI (pcn set 12) + cI 1 = nI (ls.length - pcn set 12 + 1) := by rw [nI_sub (by omega)]; exact nI_i1 _
  refine call_run 400 rfl rfl (fun B Cl Z hZ hB hC => ?_)
  (conv => whnf); refine ret_k hC (sp_bitCount hs12) ?_
  (conv => whnf)
  simp only [Nat.reduceMod, h.1.1, x1, mI_1]
  have hcm2 : RCm (mI M 5 0 (nI (ls.length - pcn set 12 + 1))) E ls cm := fun s hs => by rw [mI_ne _ _ _ (by decide)]; exact hcm s hs
  refine hB _ _ _ _ (Body_lv (Body_mono (keepc_loop (d := d + 1) hall (ls.length - pcn set 12 + 1) last set _ (by omega) hok hcm2 hs12) (fun v M' z => ⟨z.1, Fr_trans (Fr_mI Fr_refl (by decide)) (Fr_sub z.2.1 (by decide)), ?_, z.2.2.1⟩)) ⟨rfl, rfl, rfl, rfl, rfl, trivial⟩)
  rw [Fr_1 z.2.1 5 (by decide), mI_1]
