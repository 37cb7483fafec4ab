/-! what the law reads of the script -/
def cN (L : Nat) (xs : Nat → Int32) (i : Nat) : Nat := if i < L then (xs i &&& 16777215).toInt.toNat else i * 9049
theorem cN_i (x : Int32) : x &&& 16777215 = nI (x &&& 16777215).toInt.toNat ∧ (x &&& 16777215).toInt.toNat < 16777216 := by
  obtain ⟨n, h1, h2⟩ := and_n x (m := 16777215) (by decide)
  have h3 : x &&& 16777215 = nI n := h1
  rw [h3]
  have e := nI_v (n := n) (by omega)
  rw [e]
  exact ⟨by rw [Int.toNat_natCast], by omega⟩
theorem cN_lt {L : Nat} {xs : Nat → Int32} {i : Nat} (hi : i < 1000) : cN L xs i < 16777216 := by
  unfold cN
  split
  · exact (cN_i _).2
  · omega
def RJ (x : Int32) (M : Mem) : Int32 → Mem → Prop := fun y M' => y = x ∧ M' = M
theorem js_cell {L : Nat} {xs : Nat → Int32} {M : Mem} {i : Nat} (hL : L ≤ 260) (hi : i < 1000) : JCall L xs 0 [.ref 950, .int (nI i)] M [] (RJ (nI (cN L xs i)) M) := by
  have ei := nI_v (n := i) (by omega)
  have eL := nI_v (n := L) (by omega)
  refine jcall_of rfl rfl (fun Bd H => ?_); refine H.1 400 0 _ _ _ (fun B vc sc Z hBB hV hS hZ => ?_)
  (conv => whnf); refine ⟨fun g => ?_, fun g => ?_⟩
  · simp only [c_lt, c_gt, c_le, c_ge, c_eq, c_ne, b2_z, b2_nz, b2_i, Classical.not_not, t0, t1, Nat.reduceMod, Nat.reduceDiv, Int.reduceAdd, Int.reduceNeg, Nat.reduceAdd, kv_9049, kc_9049] at g
    rw [ei, eL] at g
    conv => whnf
    refine hZ _ _ ⟨?_, rfl⟩
    rw [cN, if_neg (by omega), cn_9049, nI_mul]
  · simp only [c_lt, c_gt, c_le, c_ge, c_eq, c_ne, b2_z, b2_nz, b2_i, Classical.not_not, t0, t1, Nat.reduceMod, Nat.reduceDiv, Int.reduceAdd, Int.reduceNeg, Nat.reduceAdd, kv_9049, kc_9049] at g
    rw [ei, eL] at g
    have hlt : i < L := by omega
    conv => whnf
    refine ⟨nI_vp hlt (by omega), ?_⟩
    conv => whnf
    refine hZ _ _ ⟨?_, rfl⟩
    rw [nI_c (by omega), cN, if_pos hlt]
    exact (cN_i _).1
theorem jc_of {L : Nat} {xs : Nat → Int32} {k0 k : Nat} {as : List Value} {S : JSt} {Q : Int32 → Mem → Prop} (h : JCall L xs k as S.1 [] Q) (hl : Nat.blt (jlev k) (jlev k0) = true) : jcl L xs k0 k as S Q := ⟨blt_lt hl, [], List.nil_sublist _, h⟩
theorem js_ricks {L : Nat} {xs : Nat → Int32} {M : Mem} (hL : L ≤ 260) : JCall L xs 1 [.ref 950] M [] (RJ (nI (cN L xs 0 % 5)) M) := by
  have h0 := cN_lt (L := L) (xs := xs) (i := 0) (by omega)
  refine jcall_of rfl rfl (fun Bd H => ?_); refine H.1 400 0 _ _ _ (fun B vc sc Z hBB hV hS hZ => ?_)
  (conv => whnf); refine hS _ _ _ _ _ (jc_of (js_cell (i := 0) hL (by omega)) rfl) (fun x M' e => ?_); obtain ⟨rfl, rfl⟩ := e
  conv => whnf
  refine ⟨by decide, ?_⟩
  conv => whnf
  refine hZ _ _ ⟨?_, rfl⟩
  exact rem_n (by omega) (by decide)
theorem js_yard {L : Nat} {xs : Nat → Int32} {M : Mem} (hL : L ≤ 260) : JCall L xs 8 [.ref 950] M [] (RJ (nI (cN L xs 0 % 5)) M) := by
  have e1 := nI_v (n := cN L xs 0 % 5) (by omega)
  refine jcall_of rfl rfl (fun Bd H => ?_); refine H.1 400 0 _ _ _ (fun B vc sc Z hBB hV hS hZ => ?_)
  (conv => whnf); refine hS _ _ _ _ _ (jc_of (js_ricks hL) rfl) (fun x M' e => ?_); obtain ⟨rfl, rfl⟩ := e
  conv => whnf
  refine hZ _ _ ⟨?_, rfl⟩
  by_cases h : nI (cN L xs 0 % 5) < cI 4
  · rw [if_pos h]
  · rw [if_neg h]
    rw [Int32.lt_iff_toInt_lt, e1, kv_4] at h
    rw [cn_4]
    congr 1
    omega
theorem js_hasLaw {L : Nat} {xs : Nat → Int32} {M : Mem} (hL : L ≤ 260) : JCall L xs 2 [.ref 950] M [] (fun x M' => (x = 0 ∨ x = 1) ∧ M' = M) := by
  refine jcall_of rfl rfl (fun Bd H => ?_); refine H.1 400 0 _ _ _ (fun B vc sc Z hBB hV hS hZ => ?_)
  (conv => whnf); refine hS _ _ _ _ _ (jc_of (js_cell (i := 0) hL (by omega)) rfl) (fun x M' e => ?_); obtain ⟨rfl, rfl⟩ := e
  (conv => whnf); refine ⟨fun g => ?_, fun g => ?_⟩
  · conv => whnf
    exact ⟨Or.inl rfl, hZ _ _ ⟨Or.inl rfl, rfl⟩⟩
  · conv => whnf
    exact ⟨Or.inr rfl, hZ _ _ ⟨Or.inr rfl, rfl⟩⟩
/-- how many hours a rick begins with -/
def mN (L : Nat) (xs : Nat → Int32) (r : Nat) : Nat := (((nI (cN L xs 0) >>> ((cI 4 + cI 3 * nI r) &&& 31)) &&& cI 7) + ((nI (cN L xs (1 + r)) >>> (cI 20 &&& 31)) &&& cI 3)).toInt.toNat
theorem mN_i {L : Nat} {xs : Nat → Int32} {r : Nat} : ((nI (cN L xs 0) >>> ((cI 4 + cI 3 * nI r) &&& 31)) &&& cI 7) + ((nI (cN L xs (1 + r)) >>> (cI 20 &&& 31)) &&& cI 3) = nI (mN L xs r) ∧ mN L xs r ≤ 10 := by
  unfold mN
  obtain ⟨a, a1, a2⟩ := and_n (nI (cN L xs 0) >>> ((cI 4 + cI 3 * nI r) &&& 31)) (m := 7) (by decide)
  obtain ⟨b, b1, b2⟩ := and_n (nI (cN L xs (1 + r)) >>> (cI 20 &&& 31)) (m := 3) (by decide)
  rw [cn_7, a1]
  rw [show cI 3 = nI 3 from rfl]
  rw [b1, nI_add, nI_v (n := a + b) (by omega), Int.toNat_natCast]
  exact ⟨rfl, by omega⟩
theorem js_many {L : Nat} {xs : Nat → Int32} {M : Mem} {r : Nat} (hL : L ≤ 260) (hr : r < 4) : JCall L xs 3 [.ref 950, .int (nI r)] M [] (RJ (nI (mN L xs r)) M) := by
  refine jcall_of rfl rfl (fun Bd H => ?_); refine H.1 400 0 _ _ _ (fun B vc sc Z hBB hV hS hZ => ?_)
  (conv => whnf); refine hS _ _ _ _ _ (jc_of (js_cell (i := 0) hL (by omega)) rfl) (fun x M' e => ?_); obtain ⟨rfl, rfl⟩ := e
  (conv => whnf)
  rw [cn_1, nI_add]
  (conv => whnf); refine hS _ _ _ _ _ (jc_of (js_cell (i := 1 + r) hL (by omega)) rfl) (fun x M' e => ?_); obtain ⟨rfl, rfl⟩ := e
  conv => whnf
  exact hZ _ _ ⟨mN_i.1, rfl⟩
theorem js_cold {L : Nat} {xs : Nat → Int32} {M : Mem} (hL : L ≤ 260) : JCall L xs 5 [.ref 950] M [] (fun x M' => (∃ n, x = nI n ∧ n ≤ 9) ∧ M' = M) := by
  have h0 := cN_lt (L := L) (xs := xs) (i := 11) (by omega)
  refine jcall_of rfl rfl (fun Bd H => ?_); refine H.1 400 0 _ _ _ (fun B vc sc Z hBB hV hS hZ => ?_)
  (conv => whnf); refine hS _ _ _ _ _ (jc_of (js_cell (i := 11) hL (by omega)) rfl) (fun x M' e => ?_); obtain ⟨rfl, rfl⟩ := e
  conv => whnf
  refine ⟨by decide, ?_⟩
  conv => whnf
  have e1 : nI (cN L xs 11) >>> (cI 2 &&& 31) = nI (cN L xs 11 / 4) := shr_n (s := 2) (by omega) (by decide)
  have h1 : cN L xs 11 / 4 ≤ cN L xs 11 := Nat.div_le_self _ _
  refine hZ _ _ ⟨⟨cN L xs 11 / 4 % 10, ?_, by omega⟩, rfl⟩
  rw [e1, cn_10]
  exact rem_n (by omega) (by decide)
/-- the stand that the law tells -/
def sN0 (L : Nat) (xs : Nat → Int32) : Nat := if nI (cN L xs 11) &&& cI 1 = 0 then 20 else cN L xs 11 / 64 % 100
theorem sN0_le {L : Nat} {xs : Nat → Int32} : sN0 L xs ≤ 99 := by
  unfold sN0
  split <;> omega
theorem js_stand {L : Nat} {xs : Nat → Int32} {M : Mem} (hL : L ≤ 260) : JCall L xs 6 [.ref 950] M [] (RJ (nI (sN0 L xs)) M) := by
  have h0 := cN_lt (L := L) (xs := xs) (i := 11) (by omega)
  refine jcall_of rfl rfl (fun Bd H => ?_); refine H.1 400 0 _ _ _ (fun B vc sc Z hBB hV hS hZ => ?_)
  (conv => whnf); refine hS _ _ _ _ _ (jc_of (js_cell (i := 11) hL (by omega)) rfl) (fun x M' e => ?_); obtain ⟨rfl, rfl⟩ := e
  (conv => whnf); refine ⟨fun g => ?_, fun g => ?_⟩
  · replace g : ¬ nI (cN L xs 11) &&& cI 1 = 0 := g
    (conv => whnf); refine hS _ _ _ _ _ (jc_of (js_cell (i := 11) hL (by omega)) rfl) (fun x M' e => ?_); obtain ⟨rfl, rfl⟩ := e
    conv => whnf
    refine ⟨by decide, ?_⟩
    conv => whnf
    have e1 : nI (cN L xs 11) >>> (cI 6 &&& 31) = nI (cN L xs 11 / 64) := shr_n (s := 6) (by omega) (by decide)
    have h1 : cN L xs 11 / 64 ≤ cN L xs 11 := Nat.div_le_self _ _
    refine hZ _ _ ⟨?_, rfl⟩
    rw [e1, sN0, if_neg g, cn_100]
    exact rem_n (by omega) (by decide)
  · replace g : ¬ ¬ nI (cN L xs 11) &&& cI 1 = 0 := g
    conv => whnf
    refine hZ _ _ ⟨?_, rfl⟩
    rw [sN0, if_pos (Classical.not_not.mp g)]
    rfl
theorem js_door {L : Nat} {xs : Nat → Int32} {M : Mem} {w : Nat} (hL : L ≤ 260) (hw : w < 8) : JCall L xs 7 [.ref 950, .int (nI w)] M [] (fun x M' => (∃ n, x = nI n ∧ 1 ≤ n ∧ n ≤ 9) ∧ M' = M) := by
  have h0 := cN_lt (L := L) (xs := xs) (i := 12) (by omega)
  refine jcall_of rfl rfl (fun Bd H => ?_); refine H.1 400 0 _ _ _ (fun B vc sc Z hBB hV hS hZ => ?_)
  (conv => whnf); refine hS _ _ _ _ _ (jc_of (js_cell (i := 12) hL (by omega)) rfl) (fun x M' e => ?_); obtain ⟨rfl, rfl⟩ := e
  conv => whnf
  refine ⟨by decide, ?_⟩
  conv => whnf
  have e1 : nI (cN L xs 12) >>> (cI 2 * nI w &&& 31) = nI (cN L xs 12 / 2 ^ (2 * w)) := by rw [cn_2, nI_mul]; exact shr_n (s := 2 * w) (by omega) (by omega)
  have h1 : cN L xs 12 / 2 ^ (2 * w) ≤ cN L xs 12 := Nat.div_le_self _ _
  refine hZ _ _ ⟨⟨1 + cN L xs 12 / 2 ^ (2 * w) % 9, ?_, by omega, by omega⟩, rfl⟩
  rw [e1, cn_1, cn_9, ← nI_add, rem_n (by omega) (by decide)]
/-- a number of an hour that the law tells: which, what -/
def okW (what : Nat) (n : Nat) : Prop := (what = 0 → n < 8) ∧ (what = 1 → 1 ≤ n ∧ n ≤ 9) ∧ (what = 2 → n < 8) ∧ (what = 3 → n < 100)
theorem js_layer {L : Nat} {xs : Nat → Int32} {M : Mem} {r k what : Nat} (hL : L ≤ 260) (hr : r < 4) (hk : k < 10) (hw : what < 4) : JCall L xs 4 [.ref 950, .int (nI r), .int (nI k), .int (nI what)] M [] (fun x M' => (∃ n, x = nI n ∧ okW what n) ∧ M' = M) := by
  have ew := nI_v (n := what) (by omega)
  have h0 := cN_lt (L := L) (xs := xs) (i := 1 + r) (by omega)
  have h1 := cN_lt (L := L) (xs := xs) (i := 5 + k % 6) (by omega)
  refine jcall_of rfl rfl (fun Bd H => ?_); refine H.1 400 0 _ _ _ (fun B vc sc Z hBB hV hS hZ => ?_)
  (conv => whnf)
  rw [cn_1, nI_add]
  (conv => whnf); refine hS _ _ _ _ _ (jc_of (js_cell (i := 1 + r) hL (by omega)) rfl) (fun x M' e => ?_); obtain ⟨rfl, rfl⟩ := e
  conv => whnf
  refine ⟨by decide, ?_⟩
  (conv => whnf)
  rw [cn_5, cn_6, rem_n (by omega) (by decide), nI_add]
  (conv => whnf); refine hS _ _ _ _ _ (jc_of (js_cell (i := 5 + k % 6) hL (by omega)) rfl) (fun x M' e => ?_); obtain ⟨rfl, rfl⟩ := e
  (conv => whnf)
  have hb : cN L xs (1 + r) * (k + 3) ≤ 16777216 * 13 := Nat.mul_le_mul (by omega) (by omega)
  have ev : (nI (cN L xs (1 + r)) * (nI k + cI 3) + nI (cN L xs (5 + k % 6))) >>> (cI 2 &&& 31) = nI ((cN L xs (1 + r) * (k + 3) + cN L xs (5 + k % 6)) / 4) := by
    rw [cn_3, nI_add, nI_mul, nI_add]
    exact shr_n (s := 2) (by omega) (by decide)
  rw [ev]
  generalize hv : (cN L xs (1 + r) * (k + 3) + cN L xs (5 + k % 6)) / 4 = v
  have hv2 : v < 100000000 := by omega
  refine ⟨fun g => ?_, fun g => ?_⟩
  · simp only [c_lt, c_gt, c_le, c_ge, c_eq, c_ne, b2_z, b2_nz, b2_i, Classical.not_not, t0, t1, Nat.reduceMod, Nat.reduceDiv, Int.reduceAdd, Int.reduceNeg, Nat.reduceAdd, kv_0, kv_1, kv_2, kv_3, kv_5, kv_6, kv_7, kv_8, kv_9, kv_11, kv_100, kv_1023, kc_0, kc_1, kc_2, kc_3, kc_5, kc_6, kc_7, kc_8, kc_9, kc_11, kc_100, kc_1023] at g
    rw [ew] at g
    (conv => whnf); refine ⟨fun g2 => ?_, fun g2 => ?_⟩
    · simp only [c_lt, c_gt, c_le, c_ge, c_eq, c_ne, b2_z, b2_nz, b2_i, Classical.not_not, t0, t1, Nat.reduceMod, Nat.reduceDiv, Int.reduceAdd, Int.reduceNeg, Nat.reduceAdd, kv_0, kv_1, kv_2, kv_3, kv_5, kv_6, kv_7, kv_8, kv_9, kv_11, kv_100, kv_1023, kc_0, kc_1, kc_2, kc_3, kc_5, kc_6, kc_7, kc_8, kc_9, kc_11, kc_100, kc_1023] at g2
      rw [ew] at g2
      (conv => whnf); refine ⟨fun g3 => ?_, fun g3 => ?_⟩
      · simp only [c_lt, c_gt, c_le, c_ge, c_eq, c_ne, b2_z, b2_nz, b2_i, Classical.not_not, t0, t1, Nat.reduceMod, Nat.reduceDiv, Int.reduceAdd, Int.reduceNeg, Nat.reduceAdd, kv_0, kv_1, kv_2, kv_3, kv_5, kv_6, kv_7, kv_8, kv_9, kv_11, kv_100, kv_1023, kc_0, kc_1, kc_2, kc_3, kc_5, kc_6, kc_7, kc_8, kc_9, kc_11, kc_100, kc_1023] at g3
        rw [ew] at g3
        (conv => whnf); refine ⟨fun g4 => ?_, fun g4 => ?_⟩
        · conv => whnf
          obtain ⟨n, e1, e2⟩ := and_n (nI v >>> (cI 11 &&& 31)) (m := 3) (by decide)
          exact hZ _ _ ⟨⟨n, e1, by omega, by omega, by omega, by omega⟩, rfl⟩
        · conv => whnf
          refine ⟨by decide, ?_⟩
          conv => whnf
          obtain ⟨n, e1, e2⟩ := and_n (nI v >>> (cI 5 &&& 31)) (m := 1023) (by decide)
          refine hZ _ _ ⟨⟨n % 100, ?_, by omega, by omega, by omega, by omega⟩, rfl⟩
          rw [cn_1023, e1, cn_100]
          exact rem_n (by omega) (by decide)
      · simp only [c_lt, c_gt, c_le, c_ge, c_eq, c_ne, b2_z, b2_nz, b2_i, Classical.not_not, t0, t1, Nat.reduceMod, Nat.reduceDiv, Int.reduceAdd, Int.reduceNeg, Nat.reduceAdd, kv_0, kv_1, kv_2, kv_3, kv_5, kv_6, kv_7, kv_8, kv_9, kv_11, kv_100, kv_1023, kc_0, kc_1, kc_2, kc_3, kc_5, kc_6, kc_7, kc_8, kc_9, kc_11, kc_100, kc_1023] at g3
        rw [ew] at g3
        (conv => whnf); refine ⟨fun g4 => ?_, fun g4 => ?_⟩
        · conv => whnf
          obtain ⟨n, e1, e2⟩ := and_n (nI v >>> (cI 8 &&& 31)) (m := 7) (by decide)
          exact hZ _ _ ⟨⟨n, e1, by omega, by omega, by omega, by omega⟩, rfl⟩
        · conv => whnf
          exact hZ _ _ ⟨⟨0, rfl, by omega, by omega, by omega, by omega⟩, rfl⟩
    · simp only [c_lt, c_gt, c_le, c_ge, c_eq, c_ne, b2_z, b2_nz, b2_i, Classical.not_not, t0, t1, Nat.reduceMod, Nat.reduceDiv, Int.reduceAdd, Int.reduceNeg, Nat.reduceAdd, kv_0, kv_1, kv_2, kv_3, kv_5, kv_6, kv_7, kv_8, kv_9, kv_11, kv_100, kv_1023, kc_0, kc_1, kc_2, kc_3, kc_5, kc_6, kc_7, kc_8, kc_9, kc_11, kc_100, kc_1023] at g2
      rw [ew] at g2
      conv => whnf
      refine ⟨by decide, ?_⟩
      conv => whnf
      obtain ⟨n, e1, e2⟩ := and_n (nI v >>> (cI 3 &&& 31)) (m := 1023) (by decide)
      refine hZ _ _ ⟨⟨1 + n % 9, ?_, by omega, by omega, by omega, by omega⟩, rfl⟩
      rw [cn_1023, e1, cn_9, cn_1, ← nI_add, rem_n (by omega) (by decide)]
  · simp only [c_lt, c_gt, c_le, c_ge, c_eq, c_ne, b2_z, b2_nz, b2_i, Classical.not_not, t0, t1, Nat.reduceMod, Nat.reduceDiv, Int.reduceAdd, Int.reduceNeg, Nat.reduceAdd, kv_0, kv_1, kv_2, kv_3, kv_5, kv_6, kv_7, kv_8, kv_9, kv_11, kv_100, kv_1023, kc_0, kc_1, kc_2, kc_3, kc_5, kc_6, kc_7, kc_8, kc_9, kc_11, kc_100, kc_1023] at g
    rw [ew] at g
    conv => whnf
    obtain ⟨n, e1, e2⟩ := and_n (nI v) (m := 7) (by decide)
    exact hZ _ _ ⟨⟨n, e1, by omega, by omega, by omega, by omega⟩, rfl⟩
