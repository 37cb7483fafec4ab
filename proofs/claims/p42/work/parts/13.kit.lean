/-! a kit for walks: numbers, conditions, answers -/
def bI (b : Bool) : Int32 := match b with
  | true => 1
  | false => 0
def RV (v : Option Value) (M : Mem) : Po := fun r M' => r = v ∧ M' = M
theorem bI_z {b : Bool} : (bI b = 0) = (b = false) := by cases b <;> simp [bI] <;> decide
theorem bI_toInt {b : Bool} : (bI b).toInt = if b then 1 else 0 := by cases b <;> rfl
theorem bI_01 (b : Bool) : bI b = 0 ∨ bI b = 1 := by cases b <;> simp [bI]
theorem c_lt {x y : Int32} : cnd .lt x y = (x.toInt < y.toInt) := propext Int32.lt_iff_toInt_lt
theorem c_gt {x y : Int32} : cnd .gt x y = (y.toInt < x.toInt) := propext Int32.lt_iff_toInt_lt
theorem c_le {x y : Int32} : cnd .le x y = (x.toInt ≤ y.toInt) := propext Int32.le_iff_toInt_le
theorem c_ge {x y : Int32} : cnd .ge x y = (y.toInt ≤ x.toInt) := propext Int32.le_iff_toInt_le
theorem c_eq {x y : Int32} : cnd .eq x y = (x.toInt = y.toInt) := propext Int32.toInt_inj.symm
theorem c_ne {x y : Int32} : cnd .ne x y = (¬ x.toInt = y.toInt) := by rw [← c_eq]; rfl
theorem x_eq {x y : Int32} : (x = y) = (x.toInt = y.toInt) := propext Int32.toInt_inj.symm
theorem cI_v {n : Int} (h1 : -2147483648 ≤ n) (h2 : n < 2147483648) : (cI n).toInt = n := by
  cases n with
  | ofNat k => exact nI_toInt (by simp at h2; omega)
  | negSucc k =>
    show (-(nI (k + 1))).toInt = _
    rcases Nat.lt_or_ge (k + 1) 2147483648 with q | q
    · rw [Int32.toInt_neg, nI_toInt (show k + 1 < 2 ^ 31 from q)]
      have : Int.negSucc k = -((k + 1 : Nat) : Int) := rfl
      rw [this]
      exact Int.bmod_eq_of_le (by omega) (by omega)
    · obtain rfl : k = 2147483647 := by omega
      rfl
theorem t0 : (0 : Int32).toInt = 0 := rfl
theorem t1 : (1 : Int32).toInt = 1 := rfl
theorem nI_v {n : Nat} (h : n < 2147483648) : (nI n).toInt = (n : Int) := nI_toInt h
theorem ad_v {x y : Int32} (h1 : -2147483648 ≤ x.toInt + y.toInt) (h2 : x.toInt + y.toInt < 2147483648) : (x + y).toInt = x.toInt + y.toInt := by
  rw [Int32.toInt_add]; exact Int.bmod_eq_of_le (by omega) (by omega)
theorem sb_v {x y : Int32} (h1 : -2147483648 ≤ x.toInt - y.toInt) (h2 : x.toInt - y.toInt < 2147483648) : (x - y).toInt = x.toInt - y.toInt := by
  rw [Int32.toInt_sub]; exact Int.bmod_eq_of_le (by omega) (by omega)
theorem ml_v {x y : Int32} (h1 : -2147483648 ≤ x.toInt * y.toInt) (h2 : x.toInt * y.toInt < 2147483648) : (x * y).toInt = x.toInt * y.toInt := by
  rw [Int32.toInt_mul]; exact Int.bmod_eq_of_le (by omega) (by omega)
theorem nI_mul (a b : Nat) : nI a * nI b = nI (a * b) := (Int32.ofNat_mul a b).symm
theorem nI_sub {a b : Nat} (h : b ≤ a) : nI a - nI b = nI (a - b) := by
  have : nI a = nI (a - b) + nI b := by rw [nI_add, Nat.sub_add_cancel h]
  rw [this, Int32.add_sub_cancel]
theorem nI_c {n : Nat} (h : n < 2147483648) : (nI n).toNatClampNeg = n := nI_clamp h
theorem nI_vp {c N : Nat} (h : c < N) (hN : N < 2147483648) : vp_in (nI c) N := nI_in h hN
theorem to_nI {x : Int32} (h : 0 ≤ x.toInt) : ∃ j : Nat, x = nI j ∧ x.toInt = (j : Int) ∧ j < 2147483648 := by
  obtain ⟨j, h1, h2⟩ := nI_of (x := x) (by rw [Int32.lt_iff_toInt_lt]; show ¬ _ < (0 : Int); omega)
  exact ⟨j, h2, by rw [h2]; exact nI_toInt h1, h1⟩
theorem nI_div {a b : Nat} (ha : a < 2147483648) (hb : b < 2147483648) : nI a / nI b = nI (a / b) := by
  apply Int32.toInt_inj.mp
  have h : a / b < 2147483648 := Nat.lt_of_le_of_lt (Nat.div_le_self a b) ha
  rw [Int32.toInt_div, nI_v ha, nI_v hb, nI_v h, ← Int.ofNat_tdiv]
  generalize a / b = q at *
  exact Int.bmod_eq_of_le (by omega) (by omega)
theorem nI_rem {a b : Nat} (ha : a < 2147483648) (hb : b < 2147483648) : nI a - nI a / nI b * nI b = nI (a % b) := by
  have h := Nat.div_mul_le_self a b
  rw [nI_div ha hb, nI_mul, nI_sub h]
  congr 1
  have := Nat.mod_add_div a b
  rw [Nat.mul_comm] at this
  omega
theorem ret_k {d : Nat} {Cl : Nat → List Value → Mem → Po → Prop} (hC : ∀ (k' : Nat) (as : List Value) (M : Mem) (Q1 Q2 : Po), Call d k' as M Q1 → (∀ r M', Q1 r M' → Q2 r M') → Cl k' as M Q2)
    {k : Nat} {as : List Value} {M M0 : Mem} {v : Option Value} {P : Po} (h : Call d k as M (RV v M0)) (q : P v M0) : Cl k as M P :=
  hC _ _ _ _ _ h (fun r M' e => by obtain ⟨rfl, rfl⟩ := e; exact q)
theorem RV_i (v : Option Value) (M : Mem) : RV v M v M := ⟨rfl, rfl⟩
def b2 (P : Prop) [Decidable P] : Int32 := if P then 1 else 0
theorem b2_t {P : Prop} [Decidable P] (h : P) : b2 P = 1 := if_pos h
theorem b2_f {P : Prop} [Decidable P] (h : ¬ P) : b2 P = 0 := if_neg h
theorem b2_z {P : Prop} [Decidable P] : cnd .eq (b2 P) 0 = ¬ P := by
  rw [c_eq]
  by_cases h : P
  · rw [b2_t h]; simp [h]
  · rw [b2_f h]; simp [h]
theorem b2_nz {P : Prop} [Decidable P] : cnd .ne (b2 P) 0 = P := by
  rw [c_ne]
  by_cases h : P
  · rw [b2_t h]; simp [h]
  · rw [b2_f h]; simp [h]
theorem b2_0 {P : Prop} [Decidable P] (h : ¬ P) : cI 0 = b2 P := (b2_f h).symm
theorem b2_1 {P : Prop} [Decidable P] (h : P) : cI 1 = b2 P := (b2_t h).symm
theorem b2_01 {P : Prop} [Decidable P] : b2 P = 0 ∨ b2 P = 1 := by
  by_cases h : P
  · exact Or.inr (b2_t h)
  · exact Or.inl (b2_f h)
theorem kv_m100 : (cI (-100)).toInt = (-100) := cI_v (by decide) (by decide)
theorem kv_m14 : (cI (-14)).toInt = (-14) := cI_v (by decide) (by decide)
theorem kv_m13 : (cI (-13)).toInt = (-13) := cI_v (by decide) (by decide)
theorem kv_m12 : (cI (-12)).toInt = (-12) := cI_v (by decide) (by decide)
theorem kv_m11 : (cI (-11)).toInt = (-11) := cI_v (by decide) (by decide)
theorem kv_m5 : (cI (-5)).toInt = (-5) := cI_v (by decide) (by decide)
theorem kv_m3 : (cI (-3)).toInt = (-3) := cI_v (by decide) (by decide)
theorem kv_m2 : (cI (-2)).toInt = (-2) := cI_v (by decide) (by decide)
theorem kv_m1 : (cI (-1)).toInt = (-1) := cI_v (by decide) (by decide)
theorem kv_0 : (cI 0).toInt = 0 := cI_v (by decide) (by decide)
theorem kv_1 : (cI 1).toInt = 1 := cI_v (by decide) (by decide)
theorem kv_2 : (cI 2).toInt = 2 := cI_v (by decide) (by decide)
theorem kv_3 : (cI 3).toInt = 3 := cI_v (by decide) (by decide)
theorem kv_4 : (cI 4).toInt = 4 := cI_v (by decide) (by decide)
theorem kv_5 : (cI 5).toInt = 5 := cI_v (by decide) (by decide)
theorem kv_6 : (cI 6).toInt = 6 := cI_v (by decide) (by decide)
theorem kv_7 : (cI 7).toInt = 7 := cI_v (by decide) (by decide)
theorem kv_8 : (cI 8).toInt = 8 := cI_v (by decide) (by decide)
theorem kv_9 : (cI 9).toInt = 9 := cI_v (by decide) (by decide)
theorem kv_10 : (cI 10).toInt = 10 := cI_v (by decide) (by decide)
theorem kv_11 : (cI 11).toInt = 11 := cI_v (by decide) (by decide)
theorem kv_12 : (cI 12).toInt = 12 := cI_v (by decide) (by decide)
theorem kv_16 : (cI 16).toInt = 16 := cI_v (by decide) (by decide)
theorem kv_20 : (cI 20).toInt = 20 := cI_v (by decide) (by decide)
theorem kv_24 : (cI 24).toInt = 24 := cI_v (by decide) (by decide)
theorem kv_30 : (cI 30).toInt = 30 := cI_v (by decide) (by decide)
theorem kv_33 : (cI 33).toInt = 33 := cI_v (by decide) (by decide)
theorem kv_37 : (cI 37).toInt = 37 := cI_v (by decide) (by decide)
theorem kv_38 : (cI 38).toInt = 38 := cI_v (by decide) (by decide)
theorem kv_39 : (cI 39).toInt = 39 := cI_v (by decide) (by decide)
theorem kv_40 : (cI 40).toInt = 40 := cI_v (by decide) (by decide)
theorem kv_41 : (cI 41).toInt = 41 := cI_v (by decide) (by decide)
theorem kv_42 : (cI 42).toInt = 42 := cI_v (by decide) (by decide)
theorem kv_43 : (cI 43).toInt = 43 := cI_v (by decide) (by decide)
theorem kv_45 : (cI 45).toInt = 45 := cI_v (by decide) (by decide)
theorem kv_47 : (cI 47).toInt = 47 := cI_v (by decide) (by decide)
theorem kv_48 : (cI 48).toInt = 48 := cI_v (by decide) (by decide)
theorem kv_50 : (cI 50).toInt = 50 := cI_v (by decide) (by decide)
theorem kv_57 : (cI 57).toInt = 57 := cI_v (by decide) (by decide)
theorem kv_59 : (cI 59).toInt = 59 := cI_v (by decide) (by decide)
theorem kv_60 : (cI 60).toInt = 60 := cI_v (by decide) (by decide)
theorem kv_61 : (cI 61).toInt = 61 := cI_v (by decide) (by decide)
theorem kv_62 : (cI 62).toInt = 62 := cI_v (by decide) (by decide)
theorem kv_63 : (cI 63).toInt = 63 := cI_v (by decide) (by decide)
theorem kv_70 : (cI 70).toInt = 70 := cI_v (by decide) (by decide)
theorem kv_80 : (cI 80).toInt = 80 := cI_v (by decide) (by decide)
theorem kv_81 : (cI 81).toInt = 81 := cI_v (by decide) (by decide)
theorem kv_99 : (cI 99).toInt = 99 := cI_v (by decide) (by decide)
theorem kv_100 : (cI 100).toInt = 100 := cI_v (by decide) (by decide)
theorem kv_120 : (cI 120).toInt = 120 := cI_v (by decide) (by decide)
theorem kv_124 : (cI 124).toInt = 124 := cI_v (by decide) (by decide)
theorem kv_128 : (cI 128).toInt = 128 := cI_v (by decide) (by decide)
theorem kv_130 : (cI 130).toInt = 130 := cI_v (by decide) (by decide)
theorem kv_255 : (cI 255).toInt = 255 := cI_v (by decide) (by decide)
theorem kv_10000 : (cI 10000).toInt = 10000 := cI_v (by decide) (by decide)
theorem kv_10010 : (cI 10010).toInt = 10010 := cI_v (by decide) (by decide)
theorem kv_10043 : (cI 10043).toInt = 10043 := cI_v (by decide) (by decide)
theorem kv_10069 : (cI 10069).toInt = 10069 := cI_v (by decide) (by decide)
theorem kv_10073 : (cI 10073).toInt = 10073 := cI_v (by decide) (by decide)
theorem kv_10136 : (cI 10136).toInt = 10136 := cI_v (by decide) (by decide)
theorem kv_12345 : (cI 12345).toInt = 12345 := cI_v (by decide) (by decide)
theorem b2_i {P : Prop} [Decidable P] : ((b2 P).toInt = 0) = ¬ P := by rw [← b2_z, c_eq]; rfl
theorem kv_44 : (cI 44).toInt = 44 := cI_v (by decide) (by decide)
theorem kv_46 : (cI 46).toInt = 46 := cI_v (by decide) (by decide)
theorem kv_49 : (cI 49).toInt = 49 := cI_v (by decide) (by decide)
theorem kv_51 : (cI 51).toInt = 51 := cI_v (by decide) (by decide)
theorem kv_52 : (cI 52).toInt = 52 := cI_v (by decide) (by decide)
theorem kv_53 : (cI 53).toInt = 53 := cI_v (by decide) (by decide)
theorem kv_54 : (cI 54).toInt = 54 := cI_v (by decide) (by decide)
theorem kv_55 : (cI 55).toInt = 55 := cI_v (by decide) (by decide)
theorem kv_56 : (cI 56).toInt = 56 := cI_v (by decide) (by decide)
theorem kv_58 : (cI 58).toInt = 58 := cI_v (by decide) (by decide)
theorem kv_97 : (cI 97).toInt = 97 := cI_v (by decide) (by decide)
theorem kv_98 : (cI 98).toInt = 98 := cI_v (by decide) (by decide)
theorem kv_101 : (cI 101).toInt = 101 := cI_v (by decide) (by decide)
theorem kv_102 : (cI 102).toInt = 102 := cI_v (by decide) (by decide)
theorem kv_103 : (cI 103).toInt = 103 := cI_v (by decide) (by decide)
theorem kv_104 : (cI 104).toInt = 104 := cI_v (by decide) (by decide)
theorem kv_105 : (cI 105).toInt = 105 := cI_v (by decide) (by decide)
theorem kv_106 : (cI 106).toInt = 106 := cI_v (by decide) (by decide)
theorem kv_107 : (cI 107).toInt = 107 := cI_v (by decide) (by decide)
theorem kv_108 : (cI 108).toInt = 108 := cI_v (by decide) (by decide)
theorem kv_109 : (cI 109).toInt = 109 := cI_v (by decide) (by decide)
theorem kc_0 : (cI 0).toNatClampNeg = 0 := nI_c (by decide)
theorem kc_1 : (cI 1).toNatClampNeg = 1 := nI_c (by decide)
theorem kc_2 : (cI 2).toNatClampNeg = 2 := nI_c (by decide)
theorem kc_3 : (cI 3).toNatClampNeg = 3 := nI_c (by decide)
theorem kc_4 : (cI 4).toNatClampNeg = 4 := nI_c (by decide)
theorem kc_5 : (cI 5).toNatClampNeg = 5 := nI_c (by decide)
theorem kc_6 : (cI 6).toNatClampNeg = 6 := nI_c (by decide)
theorem kc_7 : (cI 7).toNatClampNeg = 7 := nI_c (by decide)
theorem kc_8 : (cI 8).toNatClampNeg = 8 := nI_c (by decide)
theorem kc_9 : (cI 9).toNatClampNeg = 9 := nI_c (by decide)
theorem kc_10 : (cI 10).toNatClampNeg = 10 := nI_c (by decide)
theorem kc_11 : (cI 11).toNatClampNeg = 11 := nI_c (by decide)
theorem kc_12 : (cI 12).toNatClampNeg = 12 := nI_c (by decide)
theorem kc_16 : (cI 16).toNatClampNeg = 16 := nI_c (by decide)
theorem kc_20 : (cI 20).toNatClampNeg = 20 := nI_c (by decide)
theorem kc_24 : (cI 24).toNatClampNeg = 24 := nI_c (by decide)
theorem kc_30 : (cI 30).toNatClampNeg = 30 := nI_c (by decide)
theorem kc_33 : (cI 33).toNatClampNeg = 33 := nI_c (by decide)
theorem kc_37 : (cI 37).toNatClampNeg = 37 := nI_c (by decide)
theorem kc_38 : (cI 38).toNatClampNeg = 38 := nI_c (by decide)
theorem kc_39 : (cI 39).toNatClampNeg = 39 := nI_c (by decide)
theorem kc_40 : (cI 40).toNatClampNeg = 40 := nI_c (by decide)
theorem kc_41 : (cI 41).toNatClampNeg = 41 := nI_c (by decide)
theorem kc_42 : (cI 42).toNatClampNeg = 42 := nI_c (by decide)
theorem kc_43 : (cI 43).toNatClampNeg = 43 := nI_c (by decide)
theorem kc_44 : (cI 44).toNatClampNeg = 44 := nI_c (by decide)
theorem kc_45 : (cI 45).toNatClampNeg = 45 := nI_c (by decide)
theorem kc_46 : (cI 46).toNatClampNeg = 46 := nI_c (by decide)
theorem kc_47 : (cI 47).toNatClampNeg = 47 := nI_c (by decide)
theorem kc_48 : (cI 48).toNatClampNeg = 48 := nI_c (by decide)
theorem kc_49 : (cI 49).toNatClampNeg = 49 := nI_c (by decide)
theorem kc_50 : (cI 50).toNatClampNeg = 50 := nI_c (by decide)
theorem kc_51 : (cI 51).toNatClampNeg = 51 := nI_c (by decide)
theorem kc_52 : (cI 52).toNatClampNeg = 52 := nI_c (by decide)
theorem kc_53 : (cI 53).toNatClampNeg = 53 := nI_c (by decide)
theorem kc_54 : (cI 54).toNatClampNeg = 54 := nI_c (by decide)
theorem kc_55 : (cI 55).toNatClampNeg = 55 := nI_c (by decide)
theorem kc_56 : (cI 56).toNatClampNeg = 56 := nI_c (by decide)
theorem kc_57 : (cI 57).toNatClampNeg = 57 := nI_c (by decide)
theorem kc_58 : (cI 58).toNatClampNeg = 58 := nI_c (by decide)
theorem kc_59 : (cI 59).toNatClampNeg = 59 := nI_c (by decide)
theorem kc_60 : (cI 60).toNatClampNeg = 60 := nI_c (by decide)
theorem kc_61 : (cI 61).toNatClampNeg = 61 := nI_c (by decide)
theorem kc_62 : (cI 62).toNatClampNeg = 62 := nI_c (by decide)
theorem kc_63 : (cI 63).toNatClampNeg = 63 := nI_c (by decide)
theorem kc_70 : (cI 70).toNatClampNeg = 70 := nI_c (by decide)
theorem kc_80 : (cI 80).toNatClampNeg = 80 := nI_c (by decide)
theorem kc_81 : (cI 81).toNatClampNeg = 81 := nI_c (by decide)
theorem kc_97 : (cI 97).toNatClampNeg = 97 := nI_c (by decide)
theorem kc_98 : (cI 98).toNatClampNeg = 98 := nI_c (by decide)
theorem kc_99 : (cI 99).toNatClampNeg = 99 := nI_c (by decide)
theorem kc_100 : (cI 100).toNatClampNeg = 100 := nI_c (by decide)
theorem kc_101 : (cI 101).toNatClampNeg = 101 := nI_c (by decide)
theorem kc_102 : (cI 102).toNatClampNeg = 102 := nI_c (by decide)
theorem kc_103 : (cI 103).toNatClampNeg = 103 := nI_c (by decide)
theorem kc_104 : (cI 104).toNatClampNeg = 104 := nI_c (by decide)
theorem kc_105 : (cI 105).toNatClampNeg = 105 := nI_c (by decide)
theorem kc_106 : (cI 106).toNatClampNeg = 106 := nI_c (by decide)
theorem kc_107 : (cI 107).toNatClampNeg = 107 := nI_c (by decide)
theorem kc_108 : (cI 108).toNatClampNeg = 108 := nI_c (by decide)
theorem kc_109 : (cI 109).toNatClampNeg = 109 := nI_c (by decide)
theorem kc_120 : (cI 120).toNatClampNeg = 120 := nI_c (by decide)
theorem kc_124 : (cI 124).toNatClampNeg = 124 := nI_c (by decide)
theorem kc_128 : (cI 128).toNatClampNeg = 128 := nI_c (by decide)
theorem kc_130 : (cI 130).toNatClampNeg = 130 := nI_c (by decide)
theorem kc_255 : (cI 255).toNatClampNeg = 255 := nI_c (by decide)
theorem kc_10000 : (cI 10000).toNatClampNeg = 10000 := nI_c (by decide)
theorem kc_10010 : (cI 10010).toNatClampNeg = 10010 := nI_c (by decide)
theorem kc_10043 : (cI 10043).toNatClampNeg = 10043 := nI_c (by decide)
theorem kc_10069 : (cI 10069).toNatClampNeg = 10069 := nI_c (by decide)
theorem kc_10073 : (cI 10073).toNatClampNeg = 10073 := nI_c (by decide)
theorem kc_10136 : (cI 10136).toNatClampNeg = 10136 := nI_c (by decide)
theorem kc_12345 : (cI 12345).toNatClampNeg = 12345 := nI_c (by decide)
theorem cn_0 : cI 0 = nI 0 := rfl
theorem cn_1 : cI 1 = nI 1 := rfl
theorem cn_2 : cI 2 = nI 2 := rfl
theorem cn_3 : cI 3 = nI 3 := rfl
theorem cn_4 : cI 4 = nI 4 := rfl
theorem cn_5 : cI 5 = nI 5 := rfl
theorem cn_6 : cI 6 = nI 6 := rfl
theorem cn_7 : cI 7 = nI 7 := rfl
theorem cn_8 : cI 8 = nI 8 := rfl
theorem cn_9 : cI 9 = nI 9 := rfl
theorem cn_10 : cI 10 = nI 10 := rfl
theorem cn_11 : cI 11 = nI 11 := rfl
theorem cn_12 : cI 12 = nI 12 := rfl
theorem cn_16 : cI 16 = nI 16 := rfl
theorem cn_20 : cI 20 = nI 20 := rfl
theorem cn_24 : cI 24 = nI 24 := rfl
theorem cn_30 : cI 30 = nI 30 := rfl
theorem cn_33 : cI 33 = nI 33 := rfl
theorem cn_37 : cI 37 = nI 37 := rfl
theorem cn_38 : cI 38 = nI 38 := rfl
theorem cn_39 : cI 39 = nI 39 := rfl
theorem cn_40 : cI 40 = nI 40 := rfl
theorem cn_41 : cI 41 = nI 41 := rfl
theorem cn_42 : cI 42 = nI 42 := rfl
theorem cn_43 : cI 43 = nI 43 := rfl
theorem cn_44 : cI 44 = nI 44 := rfl
theorem cn_45 : cI 45 = nI 45 := rfl
theorem cn_46 : cI 46 = nI 46 := rfl
theorem cn_47 : cI 47 = nI 47 := rfl
theorem cn_48 : cI 48 = nI 48 := rfl
theorem cn_49 : cI 49 = nI 49 := rfl
theorem cn_50 : cI 50 = nI 50 := rfl
theorem cn_51 : cI 51 = nI 51 := rfl
theorem cn_52 : cI 52 = nI 52 := rfl
theorem cn_53 : cI 53 = nI 53 := rfl
theorem cn_54 : cI 54 = nI 54 := rfl
theorem cn_55 : cI 55 = nI 55 := rfl
theorem cn_56 : cI 56 = nI 56 := rfl
theorem cn_57 : cI 57 = nI 57 := rfl
theorem cn_58 : cI 58 = nI 58 := rfl
theorem cn_59 : cI 59 = nI 59 := rfl
theorem cn_60 : cI 60 = nI 60 := rfl
theorem cn_61 : cI 61 = nI 61 := rfl
theorem cn_62 : cI 62 = nI 62 := rfl
theorem cn_63 : cI 63 = nI 63 := rfl
theorem cn_70 : cI 70 = nI 70 := rfl
theorem cn_80 : cI 80 = nI 80 := rfl
theorem cn_81 : cI 81 = nI 81 := rfl
theorem cn_97 : cI 97 = nI 97 := rfl
theorem cn_98 : cI 98 = nI 98 := rfl
theorem cn_99 : cI 99 = nI 99 := rfl
theorem cn_100 : cI 100 = nI 100 := rfl
theorem cn_101 : cI 101 = nI 101 := rfl
theorem cn_102 : cI 102 = nI 102 := rfl
theorem cn_103 : cI 103 = nI 103 := rfl
theorem cn_104 : cI 104 = nI 104 := rfl
theorem cn_105 : cI 105 = nI 105 := rfl
theorem cn_106 : cI 106 = nI 106 := rfl
theorem cn_107 : cI 107 = nI 107 := rfl
theorem cn_108 : cI 108 = nI 108 := rfl
theorem cn_109 : cI 109 = nI 109 := rfl
theorem cn_120 : cI 120 = nI 120 := rfl
theorem cn_124 : cI 124 = nI 124 := rfl
theorem cn_128 : cI 128 = nI 128 := rfl
theorem cn_130 : cI 130 = nI 130 := rfl
theorem cn_255 : cI 255 = nI 255 := rfl
theorem cn_10000 : cI 10000 = nI 10000 := rfl
theorem cn_10010 : cI 10010 = nI 10010 := rfl
theorem cn_10043 : cI 10043 = nI 10043 := rfl
theorem cn_10069 : cI 10069 = nI 10069 := rfl
theorem cn_10073 : cI 10073 = nI 10073 := rfl
theorem cn_10136 : cI 10136 = nI 10136 := rfl
theorem cn_12345 : cI 12345 = nI 12345 := rfl
