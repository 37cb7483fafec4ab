/-! the law's loop -/
section LAW
variable {p : Program} {l : Launch} {e : Jvm.Env} {s : State} {m : MethodId} {below : List Frame} {meth : Method} {c : Code} {b L : Nat} {xs : Nat → Int32} {ad : Nat → Nat} {ty : Nat → ClassId} {D : va_G} {nC nS : Nat}
theorem and63 (y : Int32) : ∃ n, y &&& 63 = nI n ∧ n ≤ 63 := by
  have h1 : (y &&& 63).toBitVec.toNat ≤ 63 := by
    show (y.toBitVec &&& 63#32).toNat ≤ 63
    rw [BitVec.toNat_and]
    exact Nat.and_le_right
  have h2 : (y &&& 63).toInt = ((y &&& 63).toBitVec.toNat : Int) := BitVec.toInt_eq_toNat_of_lt (by omega)
  obtain ⟨n, e1, e2, -⟩ := to_nI (x := y &&& 63) (by omega)
  exact ⟨n, e1, by omega⟩
theorem lw_sw (C0 : lw_At p s m meth c b L xs) (hSt : LK ad s nC nS) (hL : L ≤ 3072) {i cn n : Nat} {s0 : St} {M : Mem} (hn : n ≤ 63) (hi : i + 6 ≤ L) (hR : RC cn M s0) (hM : RM M s0) (hc : cn < 90000) (next : ∀ (s1 : St) (M1 : Mem), RC (cn + 60) M1 s1 → RM M1 s1 → LSt p l e s m b below meth c ad ty D nC nS (nI i) 1484 [] M1) : LSt p l e s m b below meth c ad ty D nC nS (nI i) 33 [.int (nI n)] M := by
  obtain ⟨hx, hb, -⟩ := id C0
  have hin : ∀ (o t : Nat), ¬ (nI n).toInt < 0 → ¬ (38 : Int) < (nI n).toInt → (#[171, 184, 217, 260, 303, 336, 359, 372, 395, 428, 471, 524, 567, 610, 653, 697, 731, 764, 797, 830, 863, 906, 949, 972, 985, 1008, 1021, 1034, 1047, 1060, 1083, 1126, 1149, 1182, 1225, 1298, 1332, 1395, 1428] : Array Int)[((nI n).toInt - 0).toNat]? = some (o : Int) → ((33 : Nat) : Int) + (o : Int) = (t : Int) → LSt p l e s m b below meth c ad ty D nC nS (nI i) t [] M → LSt p l e s m b below meth c ad ty D nC nS (nI i) 33 [.int (nI n)] M := by
    intro o t h1 h2 h3 h4 k H locs ls hS hW hl
    exact lv_tableIn hx hb dL_33 h1 h2 h3 h4 (k H locs ls hS hW hl)
  match n, hn, hin with
  | 0, _, hin => exact hin 171 204 (by decide) (by decide) rfl (by decide) (lcs_0 C0 hSt hL hi hR hM hc next)
  | 1, _, hin => exact hin 184 217 (by decide) (by decide) rfl (by decide) (lcs_1 C0 hSt hL hi hR hM hc next)
  | 2, _, hin => exact hin 217 250 (by decide) (by decide) rfl (by decide) (lcs_2 C0 hSt hL hi hR hM hc next)
  | 3, _, hin => exact hin 260 293 (by decide) (by decide) rfl (by decide) (lcs_3 C0 hSt hL hi hR hM hc next)
  | 4, _, hin => exact hin 303 336 (by decide) (by decide) rfl (by decide) (lcs_4 C0 hSt hL hi hR hM hc next)
  | 5, _, hin => exact hin 336 369 (by decide) (by decide) rfl (by decide) (lcs_5 C0 hSt hL hi hR hM hc next)
  | 6, _, hin => exact hin 359 392 (by decide) (by decide) rfl (by decide) (lcs_6 C0 hSt hL hi hR hM hc next)
  | 7, _, hin => exact hin 372 405 (by decide) (by decide) rfl (by decide) (lcs_7 C0 hSt hL hi hR hM hc next)
  | 8, _, hin => exact hin 395 428 (by decide) (by decide) rfl (by decide) (lcs_8 C0 hSt hL hi hR hM hc next)
  | 9, _, hin => exact hin 428 461 (by decide) (by decide) rfl (by decide) (lcs_9 C0 hSt hL hi hR hM hc next)
  | 10, _, hin => exact hin 471 504 (by decide) (by decide) rfl (by decide) (lcs_10 C0 hSt hL hi hR hM hc next)
  | 11, _, hin => exact hin 524 557 (by decide) (by decide) rfl (by decide) (lcs_11 C0 hSt hL hi hR hM hc next)
  | 12, _, hin => exact hin 567 600 (by decide) (by decide) rfl (by decide) (lcs_12 C0 hSt hL hi hR hM hc next)
  | 13, _, hin => exact hin 610 643 (by decide) (by decide) rfl (by decide) (lcs_13 C0 hSt hL hi hR hM hc next)
  | 14, _, hin => exact hin 653 686 (by decide) (by decide) rfl (by decide) (lcs_14 C0 hSt hL hi hR hM hc next)
  | 15, _, hin => exact hin 697 730 (by decide) (by decide) rfl (by decide) (lcs_15 C0 hSt hL hi hR hM hc next)
  | 16, _, hin => exact hin 731 764 (by decide) (by decide) rfl (by decide) (lcs_16 C0 hSt hL hi hR hM hc next)
  | 17, _, hin => exact hin 764 797 (by decide) (by decide) rfl (by decide) (lcs_17 C0 hSt hL hi hR hM hc next)
  | 18, _, hin => exact hin 797 830 (by decide) (by decide) rfl (by decide) (lcs_18 C0 hSt hL hi hR hM hc next)
  | 19, _, hin => exact hin 830 863 (by decide) (by decide) rfl (by decide) (lcs_19 C0 hSt hL hi hR hM hc next)
  | 20, _, hin => exact hin 863 896 (by decide) (by decide) rfl (by decide) (lcs_20 C0 hSt hL hi hR hM hc next)
  | 21, _, hin => exact hin 906 939 (by decide) (by decide) rfl (by decide) (lcs_21 C0 hSt hL hi hR hM hc next)
  | 22, _, hin => exact hin 949 982 (by decide) (by decide) rfl (by decide) (lcs_22 C0 hSt hL hi hR hM hc next)
  | 23, _, hin => exact hin 972 1005 (by decide) (by decide) rfl (by decide) (lcs_23 C0 hSt hL hi hR hM hc next)
  | 24, _, hin => exact hin 985 1018 (by decide) (by decide) rfl (by decide) (lcs_24 C0 hSt hL hi hR hM hc next)
  | 25, _, hin => exact hin 1008 1041 (by decide) (by decide) rfl (by decide) (lcs_25 C0 hSt hL hi hR hM hc next)
  | 26, _, hin => exact hin 1021 1054 (by decide) (by decide) rfl (by decide) (lcs_26 C0 hSt hL hi hR hM hc next)
  | 27, _, hin => exact hin 1034 1067 (by decide) (by decide) rfl (by decide) (lcs_27 C0 hSt hL hi hR hM hc next)
  | 28, _, hin => exact hin 1047 1080 (by decide) (by decide) rfl (by decide) (lcs_28 C0 hSt hL hi hR hM hc next)
  | 29, _, hin => exact hin 1060 1093 (by decide) (by decide) rfl (by decide) (lcs_29 C0 hSt hL hi hR hM hc next)
  | 30, _, hin => exact hin 1083 1116 (by decide) (by decide) rfl (by decide) (lcs_30 C0 hSt hL hi hR hM hc next)
  | 31, _, hin => exact hin 1126 1159 (by decide) (by decide) rfl (by decide) (lcs_31 C0 hSt hL hi hR hM hc next)
  | 32, _, hin => exact hin 1149 1182 (by decide) (by decide) rfl (by decide) (lcs_32 C0 hSt hL hi hR hM hc next)
  | 33, _, hin => exact hin 1182 1215 (by decide) (by decide) rfl (by decide) (lcs_33 C0 hSt hL hi hR hM hc next)
  | 34, _, hin => exact hin 1225 1258 (by decide) (by decide) rfl (by decide) (lcs_34 C0 hSt hL hi hR hM hc next)
  | 35, _, hin => exact hin 1298 1331 (by decide) (by decide) rfl (by decide) (lcs_35 C0 hSt hL hi hR hM hc next)
  | 36, _, hin => exact hin 1332 1365 (by decide) (by decide) rfl (by decide) (lcs_36 C0 hSt hL hi hR hM hc next)
  | 37, _, hin => exact hin 1395 1428 (by decide) (by decide) rfl (by decide) (lcs_37 C0 hSt hL hi hR hM hc next)
  | 38, _, hin => exact hin 1428 1461 (by decide) (by decide) rfl (by decide) (lcs_38 C0 hSt hL hi hR hM hc next)
  | n + 39, hn, _ =>
    have e9 := nI_v (n := n + 39) (by omega)
    intro H locs ls hS hW hl
    exact lv_tableOut hx hb dL_33 (tgt := 1484) (Or.inr (by rw [e9]; omega)) (by decide) (next s0 M (RC_le (by omega) hR) hM H locs ls hS hW hl)
theorem lw_loop (C0 : lw_At p s m meth c b L xs) (hSt : LK ad s nC nS) (hL : L ≤ 3072) (hC : nC ≤ 600000) (hSl : nS ≤ 7302250) : ∀ (n i cn : Nat) (s0 : St) (M : Mem), i ≤ L → L + 1 ≤ i + n → cn ≤ 10 * i → RC cn M s0 → RM M s0 → LSt p l e s m b below meth c ad ty D nC nS (nI i) 18 [] M := by
  obtain ⟨hx, hb, hr, hml, hown, hts, hX, hbl, hlocks, hgv⟩ := id C0
  have hbA : ¬ (fun q : Nat => s.heap.size ≤ q) b := Nat.not_le.mpr hbl
  intro n
  induction n with
  | zero => intro i cn s0 M h1 h2; omega
  | succ n ih =>
    intro i cn s0 M hi hin hcn hR hM H locs ls hS hW hl
    have ei := nI_v (n := i) (by omega)
    have eL : (Int32.ofNat L - 6).toInt = (L : Int) - 6 := by
      have e1 : (Int32.ofNat L).toInt = (L : Int) := nI_v (n := L) (by omega)
      have e2 : (6 : Int32).toInt = 6 := rfl
      rw [sb_v (by rw [e1, e2]; omega) (by rw [e1, e2]; omega), e1, e2]
    refine lv_iload_n hx hb (okRw_at okL_0 8 rfl) rfl (lv_at hl 3 rfl) ?_
    refine lv_aload_n hx hb (okRw_at okL_0 9 rfl) rfl (lv_at hl 0 rfl) ?_
    refine va_slen hx hb hX hbl hbA hS (okRw_at okL_0 10 rfl) ?_
    refine lv_bipush (v := 6) hx hb (okRw_at okL_0 11 rfl) (by decide) ?_
    refine lv_isub hx hb (okRw_at okL_0 12 rfl) ?_
    refine lv_icmp_gt (tgt := 1490) hx hb (okRw_at okL_0 13 rfl) (by decide) (fun g => ?_) (fun g => ?_)
    · refine lv_iconst (v := 1) hx hb (okRw_at okL_26 15 rfl) (by decide) ?_
      refine va_forget (fun q hq => hS.2.2 q hq) ?_
      refine W.widen (k := 600000) (n := 7302250) hC hSl ?_
      exact lw_ret hx hb hr hlocks (okRw_at okL_26 16 rfl)
    · have g : ¬ Int32.ofNat L - 6 < nI i := g
      rw [Int32.lt_iff_toInt_lt, eL, ei] at g
      have hi6 : i + 6 ≤ L := by omega
      have hv : vp_in (nI i) L := nI_vp (by omega) (by omega)
      refine lv_aload_n hx hb (okRw_at okL_0 14 rfl) rfl (lv_at hl 0 rfl) ?_
      refine lv_iload_n hx hb (okRw_at okL_0 15 rfl) rfl (lv_at hl 3 rfl) ?_
      refine va_sld hx hb hX hbl hbA hS hv (okRw_at okL_0 16 rfl) ?_
      refine lv_bipush (v := 63) hx hb (okRw_at okL_0 17 rfl) (by decide) ?_
      refine lv_iand hx hb (okRw_at okL_0 18 rfl) ?_
      obtain ⟨w, e6, hw⟩ := and63 (xs (nI i).toNatClampNeg)
      rw [e6]
      refine lw_sw C0 hSt hL hw hi6 hR hM (by omega) (fun s1 M1 h1 h2 => ?_) H locs ls hS hW hl
      intro H2 locs2 ls2 hS2 hW2 hl2
      refine lv_iinc (v := nI (i + 6)) (lv' := [(3, .int (nI (i + 6))), (0, .ref b), (1, .ref (ad 0)), (2, .ref (ad 55))]) hx hb (okRw_at okL_26 13 rfl) hl2 (k := 3) rfl (by rw [← nI_add]; rfl) (by decide) rfl (fun ls hl => ?_)
      refine lv_goto (tgt := 18) hx hb (okRw_at okL_26 14 rfl) (by decide) ?_
      exact ih (i + 6) (cn + 60) s1 M1 hi6 (by omega) (by omega) h1 h2 H2 locs2 ls hS2 hW2 (lv_sub hl [1, 2, 3, 0] rfl)
end LAW
