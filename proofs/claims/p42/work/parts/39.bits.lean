/-! bits and sets (the first rows pasted from kit/laws/BITS) -/
def bt (x : Int32) (i : Nat) : Bool := x.toBitVec.getLsbD i
theorem b_ext {x y : Int32} (h : ∀ i, i < 32 → bt x i = bt y i) : x = y := Int32.toBitVec_inj.mp (BitVec.eq_of_getLsbD_eq (fun i hi => h i hi))
theorem b_or (x y : Int32) (i : Nat) : bt (x ||| y) i = (bt x i || bt y i) := by unfold bt; rw [Int32.toBitVec_or, BitVec.getLsbD_or]
theorem b_and (x y : Int32) (i : Nat) : bt (x &&& y) i = (bt x i && bt y i) := by unfold bt; rw [Int32.toBitVec_and, BitVec.getLsbD_and]
theorem b_xor (x y : Int32) (i : Nat) : bt (x ^^^ y) i = (bt x i ^^ bt y i) := by unfold bt; rw [Int32.toBitVec_xor, BitVec.getLsbD_xor]
theorem b_big {x : Int32} {i : Nat} (h : 32 ≤ i) : bt x i = false := BitVec.getLsbD_of_ge _ _ h
theorem b_255 (i : Nat) : bt 255 i = decide (i < 8) := by
  rcases Nat.lt_or_ge i 32 with h | h
  · exact (by decide +kernel : ∀ i, i < 32 → bt 255 i = decide (i < 8)) i h
  · rw [b_big h, decide_eq_false (by omega)]
theorem b_65535 (i : Nat) : bt 65535 i = decide (i < 16) := by
  rcases Nat.lt_or_ge i 32 with h | h
  · exact (by decide +kernel : ∀ i, i < 32 → bt 65535 i = decide (i < 16)) i h
  · rw [b_big h, decide_eq_false (by omega)]
theorem b_m1 : ∀ i, i < 32 → bt (-1) i = true := by decide +kernel
theorem b_0 (i : Nat) : bt 0 i = false := BitVec.getLsbD_zero
theorem s_l : ∀ n, n < 32 → ((nI n &&& 31).toBitVec.smod 32).toNat = n := by decide +kernel
theorem s_u : ∀ n, n < 32 → (((nI n).toUInt32 &&& Int32.toUInt32 31).toBitVec % 32).toNat = n := by decide +kernel
theorem b_shl (n : Nat) (hn : n < 32) (x : Int32) {i : Nat} (hi : i < 32) : bt (x <<< (nI n &&& 31)) i = (decide (n ≤ i) && bt x (i - n)) := by
  unfold bt
  rw [Int32.toBitVec_shiftLeft]
  show (x.toBitVec <<< ((nI n &&& 31).toBitVec.smod 32).toNat).getLsbD i = _
  rw [s_l n hn, BitVec.getLsbD_shiftLeft]
  rcases Nat.lt_or_ge i n with h | h
  · simp [h, Nat.not_le.mpr h]
  · simp [hi, h, Nat.not_lt.mpr h]
theorem b_ushr (n : Nat) (hn : n < 32) (x : Int32) (i : Nat) : bt ((x.toUInt32 >>> ((nI n).toUInt32 &&& Int32.toUInt32 31)).toInt32) i = bt x (n + i) := by
  show (x.toUInt32 >>> ((nI n).toUInt32 &&& Int32.toUInt32 31)).toBitVec.getLsbD i = x.toUInt32.toBitVec.getLsbD (n + i)
  rw [UInt32.toBitVec_shiftRight]
  show (x.toUInt32.toBitVec >>> (((nI n).toUInt32 &&& Int32.toUInt32 31).toBitVec % 32).toNat).getLsbD i = _
  rw [s_u n hn, BitVec.getLsbD_ushiftRight]
theorem b_sshr (n : Nat) (hn : n < 32) (x : Int32) {i : Nat} (hi : i < 32) : bt (x >>> (nI n &&& 31)) i = if n + i < 32 then bt x (n + i) else bt x 31 := by
  unfold bt
  rw [Int32.toBitVec_shiftRight]
  show (x.toBitVec.sshiftRight ((nI n &&& 31).toBitVec.smod 32).toNat).getLsbD i = _
  rw [s_l n hn, BitVec.getLsbD_sshiftRight, BitVec.msb_eq_getLsbD_last]
  simp [hi]
theorem b_shl8 (x : Int32) {i : Nat} (hi : i < 32) : bt (x <<< ((8 : Int32) &&& 31)) i = (decide (8 ≤ i) && bt x (i - 8)) := b_shl 8 (by omega) x hi
theorem b_shl16 (x : Int32) {i : Nat} (hi : i < 32) : bt (x <<< ((16 : Int32) &&& 31)) i = (decide (16 ≤ i) && bt x (i - 16)) := b_shl 16 (by omega) x hi
theorem b_shl24 (x : Int32) {i : Nat} (hi : i < 32) : bt (x <<< ((24 : Int32) &&& 31)) i = (decide (24 ≤ i) && bt x (i - 24)) := b_shl 24 (by omega) x hi
theorem b_sshr8 (x : Int32) {i : Nat} (hi : i < 32) : bt (x >>> ((8 : Int32) &&& 31)) i = if 8 + i < 32 then bt x (8 + i) else bt x 31 := b_sshr 8 (by omega) x hi
/-! ===== nI under and, xor, >>>, one bit, 65535 ===== -/
theorem nx_and (a b : Nat) : nI a &&& nI b = nI (a &&& b) := by
  apply Int32.toBitVec_inj.1
  show BitVec.ofNat 32 a &&& BitVec.ofNat 32 b = BitVec.ofNat 32 (a &&& b)
  apply BitVec.eq_of_getLsbD_eq
  intro i hi
  simp [hi]
theorem nx_xor (a b : Nat) : nI a ^^^ nI b = nI (a ^^^ b) := by
  apply Int32.toBitVec_inj.1
  show BitVec.ofNat 32 a ^^^ BitVec.ofNat 32 b = BitVec.ofNat 32 (a ^^^ b)
  apply BitVec.eq_of_getLsbD_eq
  intro i hi
  simp [hi]
theorem bt_nI {n i : Nat} (h : n < 4294967296) : bt (nI n) i = n.testBit i := by
  unfold bt
  show (BitVec.ofNat 32 n).getLsbD i = _
  rw [BitVec.getLsbD_ofNat]
  by_cases q : i < 32
  · simp [q]
  · simp only [q, decide_false, Bool.false_and]
    symm
    apply Nat.testBit_lt_two_pow
    exact Nat.lt_of_lt_of_le h (Nat.pow_le_pow_right (n := 2) (by omega) (show 32 ≤ i by omega))
theorem tb1 (i : Nat) : (1 : Nat).testBit i = decide (i = 0) := by
  cases i with
  | zero => rfl
  | succ i => rw [Nat.testBit_succ]; simp
theorem b01 (b : Bool) (i : Nat) : bt (nI (if b = true then 1 else 0)) i = (b && decide (i = 0)) := by
  cases b
  · rw [if_neg (by simp), bt_nI (by omega)]; simp
  · rw [if_pos rfl, bt_nI (by omega), tb1]; simp
/-- whether a set has one -/
theorem has_z {s j : Nat} (hs : s < 4096) (hj : j < 31) : ((nI s >>> (nI j &&& 31)) &&& cI 1) = nI (if s.testBit j = true then 1 else 0) := by
  apply b_ext
  intro i hi
  rw [b01, b_and, b_sshr j (by omega) _ hi, bt_nI (n := s) (by omega), show cI 1 = nI 1 from rfl, bt_nI (n := 1) (by omega), tb1]
  by_cases q : i = 0
  · subst q
    rw [if_pos (by omega)]
    rfl
  · simp [q]
/-- without one -/
def clr (s i : Nat) : Nat := s &&& (4095 ^^^ 2 ^ i)
theorem clr_lt {s i : Nat} (h : s < 4096) : clr s i < 4096 := Nat.lt_of_le_of_lt Nat.and_le_left h
theorem tb_clr {s i j : Nat} (hs : s < 4096) : (clr s i).testBit j = (s.testBit j && !decide (i = j)) := by
  unfold clr
  rw [Nat.testBit_and, Nat.testBit_xor, Nat.testBit_two_pow]
  by_cases q : j < 12
  · have h : (4095 : Nat).testBit j = true := by
      have : (4095 : Nat) = 2 ^ 12 - 1 := rfl
      rw [this, Nat.testBit_two_pow_sub_one]
      simpa using q
    rw [h]
    simp
  · have h : s.testBit j = false := Nat.testBit_lt_two_pow (Nat.lt_of_lt_of_le hs (Nat.pow_le_pow_right (n := 2) (by omega) (show 12 ≤ j by omega)))
    rw [h]
    simp
theorem nb_m1 {i : Nat} (h : i < 32) : bt (cI (-1)) i = true := b_m1 i h
theorem clr_i {s i : Nat} (hs : s < 4096) (hi : i < 31) : nI s &&& ((cI 1 <<< (nI i &&& 31)) ^^^ cI (-1)) = nI (clr s i) := by
  apply b_ext
  intro k hk
  rw [bt_nI (n := clr s i) (by have := clr_lt (i := i) hs; omega), tb_clr hs, b_and, b_xor, nb_m1 hk, b_shl i (by omega) _ hk, bt_nI (n := s) (by omega), show cI 1 = nI 1 from rfl, bt_nI (n := 1) (by omega), tb1]
  by_cases q : i ≤ k
  · by_cases q2 : i = k
    · subst q2; simp
    · have : ¬ k - i = 0 := by omega
      simp [q, q2, this]
  · have : ¬ i = k := by omega
    simp [q, this]
/-- with one more -/
theorem add_i {s i : Nat} (hs : s < 4096) (hi : i < 12) : nI s ||| (cI 1 <<< (nI i &&& 31)) = nI (s ||| 2 ^ i) := by
  have hp : 2 ^ i ≤ 2 ^ 11 := Nat.pow_le_pow_right (by omega) (by omega)
  have hb : s ||| 2 ^ i < 4096 := Nat.or_lt_two_pow (n := 12) hs (by omega)
  apply b_ext
  intro k hk
  rw [bt_nI (n := s ||| 2 ^ i) (by omega), b_or, b_shl i (by omega) _ hk, bt_nI (n := s) (by omega), show cI 1 = nI 1 from rfl, bt_nI (n := 1) (by omega), tb1, Nat.testBit_or, Nat.testBit_two_pow]
  by_cases q : i ≤ k
  · by_cases q2 : i = k
    · subst q2; simp
    · have : ¬ k - i = 0 := by omega
      simp [q, q2, this]
  · have : ¬ i = k := by omega
    simp [q, this]
theorem full_i : ∀ n, n ≤ 12 → (cI 1 <<< (nI n &&& 31)) - cI 1 = nI (2 ^ n - 1) := by decide +kernel
theorem pow_i : ∀ n, n ≤ 12 → cI 1 <<< (nI n &&& 31) = nI (2 ^ n) := by decide +kernel
/-- how many of the first n a set has -/
def pcn (s : Nat) : Nat → Nat
  | 0 => 0
  | n + 1 => pcn s n + (if s.testBit n = true then 1 else 0)
theorem pcn_le (s : Nat) : ∀ n, pcn s n ≤ n
  | 0 => Nat.le_refl _
  | n + 1 => by have := pcn_le s n; unfold pcn; split <;> omega
def ushI (x y : Int32) : Int32 := (x.toUInt32 >>> (y.toUInt32 &&& Int32.toUInt32 31)).toInt32
def bcI (x : Int32) : Int32 :=
  let x1 := x - (ushI x (cI 1) &&& (nth (0, 0, 0, 0) ktL 1).2.2.1)
  let x2 := (x1 &&& (nth (0, 0, 0, 0) ktL 2).2.2.1) + (ushI x1 (cI 2) &&& (nth (0, 0, 0, 0) ktL 2).2.2.1)
  let x3 := (x2 + ushI x2 (cI 4)) &&& (nth (0, 0, 0, 0) ktL 3).2.2.1
  let x4 := x3 + ushI x3 (cI 8)
  let x5 := x4 + ushI x4 (cI 16)
  x5 &&& cI 63
theorem bc_0 : (List.range 4096).all (fun s => decide (bcI (nI s) = nI (pcn s 12))) = true := by decide +kernel
theorem bc_at {s : Nat} (h : s < 4096) : bcI (nI s) = nI (pcn s 12) := of_decide_eq_true (List.all_eq_true.mp bc_0 s (List.mem_range.mpr h))
theorem sp_bitCount {d s : Nat} {M : Mem} (h : s < 4096) : Call (d + 1) 112 [.int (nI s)] M (RV (some (.int (nI (pcn s 12)))) M) := by
  rw [← bc_at h]
  refine call_run 400 rfl rfl (fun B Cl Z hZ hB hC => ?_)
  conv => whnf
  exact hZ _ _ ⟨rfl, rfl⟩
