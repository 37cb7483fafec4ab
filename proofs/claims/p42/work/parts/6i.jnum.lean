/-! more numbers; shifts and masks -/
theorem kv_13 : (cI 13).toInt = 13 := cI_v (by decide) (by decide)
theorem kv_14 : (cI 14).toInt = 14 := cI_v (by decide) (by decide)
theorem kv_15 : (cI 15).toInt = 15 := cI_v (by decide) (by decide)
theorem kv_17 : (cI 17).toInt = 17 := cI_v (by decide) (by decide)
theorem kv_18 : (cI 18).toInt = 18 := cI_v (by decide) (by decide)
theorem kv_19 : (cI 19).toInt = 19 := cI_v (by decide) (by decide)
theorem kv_21 : (cI 21).toInt = 21 := cI_v (by decide) (by decide)
theorem kv_22 : (cI 22).toInt = 22 := cI_v (by decide) (by decide)
theorem kv_23 : (cI 23).toInt = 23 := cI_v (by decide) (by decide)
theorem kv_25 : (cI 25).toInt = 25 := cI_v (by decide) (by decide)
theorem kv_26 : (cI 26).toInt = 26 := cI_v (by decide) (by decide)
theorem kv_500 : (cI 500).toInt = 500 := cI_v (by decide) (by decide)
theorem kv_1023 : (cI 1023).toInt = 1023 := cI_v (by decide) (by decide)
theorem kv_9049 : (cI 9049).toInt = 9049 := cI_v (by decide) (by decide)
theorem kc_13 : (cI 13).toNatClampNeg = 13 := nI_c (by decide)
theorem kc_14 : (cI 14).toNatClampNeg = 14 := nI_c (by decide)
theorem kc_15 : (cI 15).toNatClampNeg = 15 := nI_c (by decide)
theorem kc_17 : (cI 17).toNatClampNeg = 17 := nI_c (by decide)
theorem kc_18 : (cI 18).toNatClampNeg = 18 := nI_c (by decide)
theorem kc_19 : (cI 19).toNatClampNeg = 19 := nI_c (by decide)
theorem kc_21 : (cI 21).toNatClampNeg = 21 := nI_c (by decide)
theorem kc_22 : (cI 22).toNatClampNeg = 22 := nI_c (by decide)
theorem kc_23 : (cI 23).toNatClampNeg = 23 := nI_c (by decide)
theorem kc_25 : (cI 25).toNatClampNeg = 25 := nI_c (by decide)
theorem kc_26 : (cI 26).toNatClampNeg = 26 := nI_c (by decide)
theorem kc_500 : (cI 500).toNatClampNeg = 500 := nI_c (by decide)
theorem kc_1023 : (cI 1023).toNatClampNeg = 1023 := nI_c (by decide)
theorem kc_9049 : (cI 9049).toNatClampNeg = 9049 := nI_c (by decide)
theorem cn_13 : cI 13 = nI 13 := rfl
theorem cn_14 : cI 14 = nI 14 := rfl
theorem cn_15 : cI 15 = nI 15 := rfl
theorem cn_17 : cI 17 = nI 17 := rfl
theorem cn_18 : cI 18 = nI 18 := rfl
theorem cn_19 : cI 19 = nI 19 := rfl
theorem cn_21 : cI 21 = nI 21 := rfl
theorem cn_22 : cI 22 = nI 22 := rfl
theorem cn_23 : cI 23 = nI 23 := rfl
theorem cn_25 : cI 25 = nI 25 := rfl
theorem cn_26 : cI 26 = nI 26 := rfl
theorem cn_500 : cI 500 = nI 500 := rfl
theorem cn_1023 : cI 1023 = nI 1023 := rfl
theorem cn_9049 : cI 9049 = nI 9049 := rfl
theorem shr_n {c s : Nat} (hc : c < 2147483648) (hs : s < 32) : nI c >>> (nI s &&& 31) = nI (c / 2 ^ s) := by
  apply Int32.toInt_inj.mp
  have h1 : c / 2 ^ s < 2147483648 := Nat.lt_of_le_of_lt (Nat.div_le_self _ _) hc
  rw [nI_v h1]
  show (((nI c) >>> (nI s &&& 31)).toBitVec).toInt = _
  rw [Int32.toBitVec_shiftRight]
  show ((nI c).toBitVec.sshiftRight ((nI s &&& 31).toBitVec.smod 32).toNat).toInt = _
  rw [s_l s hs, BitVec.toInt_sshiftRight]
  have e : (nI c).toBitVec.toInt = (c : Int) := nI_v hc
  rw [e, Int.shiftRight_eq_div_pow, Int.natCast_ediv, Int.natCast_pow]
theorem and_n (x : Int32) {m : Nat} (hm : m < 2147483648) : ∃ n, x &&& nI m = nI n ∧ n ≤ m := by
  have h0 : (nI m).toBitVec.toNat = m := by
    have h1 : ((nI m).toBitVec.toNat : Int) = (nI m).toBitVec.toInt := by
      refine (BitVec.toInt_eq_toNat_of_lt ?_).symm
      show 2 * (BitVec.ofNat 32 m).toNat < 2 ^ 32
      rw [BitVec.toNat_ofNat]
      omega
    have h2 : (nI m).toBitVec.toInt = (m : Int) := nI_v hm
    omega
  have h1 : (x &&& nI m).toBitVec.toNat ≤ m := by
    show (x.toBitVec &&& (nI m).toBitVec).toNat ≤ m
    rw [BitVec.toNat_and, h0]
    exact Nat.and_le_right
  have h2 : (x &&& nI m).toInt = ((x &&& nI m).toBitVec.toNat : Int) := BitVec.toInt_eq_toNat_of_lt (by omega)
  obtain ⟨n, e1, e2, -⟩ := to_nI (x := x &&& nI m) (by omega)
  exact ⟨n, e1, by omega⟩
theorem rem_n {a b : Nat} (ha : a < 2147483648) (hb : b < 2147483648) : nI a - nI a / nI b * nI b = nI (a % b) := nI_rem ha hb
