/-! the law's cases -/
section LAW
variable {p : Program} {l : Launch} {e : Jvm.Env} {s : State} {m : MethodId} {below : List Frame} {meth : Method} {c : Code} {b L : Nat} {xs : Nat → Int32} {ad : Nat → Nat} {ty : Nat → ClassId} {D : va_G} {nC nS : Nat}
theorem lcs_20 (C0 : lw_At p s m meth c b L xs) (hSt : LK ad s nC nS) (hL : L ≤ 3072) {i cn : Nat} {s0 : St} {M : Mem} (hi : i + 6 ≤ L) (hR : RC cn M s0) (hM : RM M s0) (hc : cn < 90000) (next : ∀ (s1 : St) (M1 : Mem), RC (cn + 60) M1 s1 → RM M1 s1 → LSt p l e s m b below meth c ad ty D nC nS (nI i) 1484 [] M1) : LSt p l e s m b below meth c ad ty D nC nS (nI i) 896 [] M := by
  refine LS_al1 C0 (okRw_at okL_14 31 rfl) ?_
  refine LS_arg C0 hL hi (k := 1) (kz := 1) (by decide) (by decide) (okRw_at okL_14 32 rfl) (okRw_at okL_14 33 rfl) (okRw_at okL_14 34 rfl) (okRw_at okL_14 35 rfl) (okRw_at okL_14 36 rfl) ?_
  refine LS_arg C0 hL hi (k := 2) (kz := 2) (by decide) (by decide) (okRw_at okL_14 37 rfl) (okRw_at okL_14 38 rfl) (okRw_at okL_14 39 rfl) (okRw_at okL_15 0 rfl) (okRw_at okL_15 1 rfl) ?_
  refine LS_arg C0 hL hi (k := 3) (kz := 3) (by decide) (by decide) (okRw_at okL_15 2 rfl) (okRw_at okL_15 3 rfl) (okRw_at okL_15 4 rfl) (okRw_at okL_15 5 rfl) (okRw_at okL_15 6 rfl) ?_
  refine LS_call C0 hSt (D0 := 200) (k := 120) (aN := 0) (ci := 9) (as := [.int (xs (i + 1)), .int (xs (i + 2)), .int (xs (i + 3))]) (rest := []) (by decide) (pb_byTurns hR) rfl rfl rfl rfl (lwG_4 160 rfl rfl) (okRw_at okL_15 7 rfl) (Nat.le_of_ble_eq_true rfl) rfl (fun r M1 q => ?_)
  obtain ⟨rfl, q2, q3⟩ := q
  refine LS_al2 C0 (okRw_at okL_15 8 rfl) ?_
  refine LS_arg C0 hL hi (k := 1) (kz := 1) (by decide) (by decide) (okRw_at okL_15 9 rfl) (okRw_at okL_15 10 rfl) (okRw_at okL_15 11 rfl) (okRw_at okL_15 12 rfl) (okRw_at okL_15 13 rfl) ?_
  refine LS_arg C0 hL hi (k := 2) (kz := 2) (by decide) (by decide) (okRw_at okL_15 14 rfl) (okRw_at okL_15 15 rfl) (okRw_at okL_15 16 rfl) (okRw_at okL_15 17 rfl) (okRw_at okL_15 18 rfl) ?_
  refine LS_arg C0 hL hi (k := 3) (kz := 3) (by decide) (by decide) (okRw_at okL_15 19 rfl) (okRw_at okL_15 20 rfl) (okRw_at okL_15 21 rfl) (okRw_at okL_15 22 rfl) (okRw_at okL_15 23 rfl) ?_
  refine LS_call C0 hSt (D0 := 200) (k := 238) (aN := 55) (ci := 10) (as := [.int (xs (i + 1)), .int (xs (i + 2)), .int (xs (i + 3))]) (rest := [.int _]) (by decide) (m_byTurns (RM_fr hM q3) hR.inv) rfl rfl rfl rfl (lwG_7 175 rfl rfl) (okRw_at okL_15 24 rfl) (Nat.le_of_ble_eq_true rfl) rfl (fun r M2 u => ?_)
  obtain ⟨rfl, u2, u3⟩ := u
  refine LS_ieq C0 (tgt := 1484) (okRw_at okL_15 25 rfl) (by decide) ?_
  exact next _ M2 (RC_frM q2 u3) u2
theorem lcs_21 (C0 : lw_At p s m meth c b L xs) (hSt : LK ad s nC nS) (hL : L ≤ 3072) {i cn : Nat} {s0 : St} {M : Mem} (hi : i + 6 ≤ L) (hR : RC cn M s0) (hM : RM M s0) (hc : cn < 90000) (next : ∀ (s1 : St) (M1 : Mem), RC (cn + 60) M1 s1 → RM M1 s1 → LSt p l e s m b below meth c ad ty D nC nS (nI i) 1484 [] M1) : LSt p l e s m b below meth c ad ty D nC nS (nI i) 939 [] M := by
  refine LS_al1 C0 (okRw_at okL_15 28 rfl) ?_
  refine LS_arg C0 hL hi (k := 1) (kz := 1) (by decide) (by decide) (okRw_at okL_15 29 rfl) (okRw_at okL_15 30 rfl) (okRw_at okL_15 31 rfl) (okRw_at okL_15 32 rfl) (okRw_at okL_15 33 rfl) ?_
  refine LS_arg C0 hL hi (k := 2) (kz := 2) (by decide) (by decide) (okRw_at okL_15 34 rfl) (okRw_at okL_15 35 rfl) (okRw_at okL_15 36 rfl) (okRw_at okL_15 37 rfl) (okRw_at okL_15 38 rfl) ?_
  refine LS_arg C0 hL hi (k := 3) (kz := 3) (by decide) (by decide) (okRw_at okL_15 39 rfl) (okRw_at okL_16 0 rfl) (okRw_at okL_16 1 rfl) (okRw_at okL_16 2 rfl) (okRw_at okL_16 3 rfl) ?_
  refine LS_call C0 hSt (D0 := 200) (k := 121) (aN := 0) (ci := 9) (as := [.int (xs (i + 1)), .int (xs (i + 2)), .int (xs (i + 3))]) (rest := []) (by decide) (pb_drawn hR) rfl rfl rfl rfl (lwG_4 175 rfl rfl) (okRw_at okL_16 4 rfl) (Nat.le_of_ble_eq_true rfl) rfl (fun r M1 q => ?_)
  obtain ⟨rfl, q2, q3⟩ := q
  refine LS_al2 C0 (okRw_at okL_16 5 rfl) ?_
  refine LS_arg C0 hL hi (k := 1) (kz := 1) (by decide) (by decide) (okRw_at okL_16 6 rfl) (okRw_at okL_16 7 rfl) (okRw_at okL_16 8 rfl) (okRw_at okL_16 9 rfl) (okRw_at okL_16 10 rfl) ?_
  refine LS_arg C0 hL hi (k := 2) (kz := 2) (by decide) (by decide) (okRw_at okL_16 11 rfl) (okRw_at okL_16 12 rfl) (okRw_at okL_16 13 rfl) (okRw_at okL_16 14 rfl) (okRw_at okL_16 15 rfl) ?_
  refine LS_arg C0 hL hi (k := 3) (kz := 3) (by decide) (by decide) (okRw_at okL_16 16 rfl) (okRw_at okL_16 17 rfl) (okRw_at okL_16 18 rfl) (okRw_at okL_16 19 rfl) (okRw_at okL_16 20 rfl) ?_
  refine LS_call C0 hSt (D0 := 200) (k := 239) (aN := 55) (ci := 10) (as := [.int (xs (i + 1)), .int (xs (i + 2)), .int (xs (i + 3))]) (rest := [.int _]) (by decide) (m_drawn (RM_fr hM q3) hR.inv) rfl rfl rfl rfl (lwG_7 187 rfl rfl) (okRw_at okL_16 21 rfl) (Nat.le_of_ble_eq_true rfl) rfl (fun r M2 u => ?_)
  obtain ⟨rfl, u2, u3⟩ := u
  refine LS_ieq C0 (tgt := 1484) (okRw_at okL_16 22 rfl) (by decide) ?_
  exact next _ M2 (RC_frM q2 u3) u2
theorem lcs_22 (C0 : lw_At p s m meth c b L xs) (hSt : LK ad s nC nS) (hL : L ≤ 3072) {i cn : Nat} {s0 : St} {M : Mem} (hi : i + 6 ≤ L) (hR : RC cn M s0) (hM : RM M s0) (hc : cn < 90000) (next : ∀ (s1 : St) (M1 : Mem), RC (cn + 60) M1 s1 → RM M1 s1 → LSt p l e s m b below meth c ad ty D nC nS (nI i) 1484 [] M1) : LSt p l e s m b below meth c ad ty D nC nS (nI i) 982 [] M := by
  refine LS_al1 C0 (okRw_at okL_16 25 rfl) ?_
  refine LS_arg C0 hL hi (k := 1) (kz := 1) (by decide) (by decide) (okRw_at okL_16 26 rfl) (okRw_at okL_16 27 rfl) (okRw_at okL_16 28 rfl) (okRw_at okL_16 29 rfl) (okRw_at okL_16 30 rfl) ?_
  refine LS_call C0 hSt (D0 := 200) (k := 122) (aN := 0) (ci := 9) (as := [.int (xs (i + 1))]) (rest := []) (by decide) (pb_cut hR) rfl rfl rfl rfl (lwG_4 185 rfl rfl) (okRw_at okL_16 31 rfl) (Nat.le_of_ble_eq_true rfl) rfl (fun r M1 q => ?_)
  obtain ⟨rfl, q2, q3⟩ := q
  refine LS_al2 C0 (okRw_at okL_16 32 rfl) ?_
  refine LS_arg C0 hL hi (k := 1) (kz := 1) (by decide) (by decide) (okRw_at okL_16 33 rfl) (okRw_at okL_16 34 rfl) (okRw_at okL_16 35 rfl) (okRw_at okL_16 36 rfl) (okRw_at okL_16 37 rfl) ?_
  refine LS_call C0 hSt (D0 := 200) (k := 240) (aN := 55) (ci := 10) (as := [.int (xs (i + 1))]) (rest := [.int _]) (by decide) (m_cut (RM_fr hM q3) hR.inv) rfl rfl rfl rfl (lwG_7 192 rfl rfl) (okRw_at okL_16 38 rfl) (Nat.le_of_ble_eq_true rfl) rfl (fun r M2 u => ?_)
  obtain ⟨rfl, u2, u3⟩ := u
  refine LS_ieq C0 (tgt := 1484) (okRw_at okL_16 39 rfl) (by decide) ?_
  exact next _ M2 (RC_frM q2 u3) u2
theorem lcs_23 (C0 : lw_At p s m meth c b L xs) (hSt : LK ad s nC nS) (hL : L ≤ 3072) {i cn : Nat} {s0 : St} {M : Mem} (hi : i + 6 ≤ L) (hR : RC cn M s0) (hM : RM M s0) (hc : cn < 90000) (next : ∀ (s1 : St) (M1 : Mem), RC (cn + 60) M1 s1 → RM M1 s1 → LSt p l e s m b below meth c ad ty D nC nS (nI i) 1484 [] M1) : LSt p l e s m b below meth c ad ty D nC nS (nI i) 1005 [] M := by
  refine LS_al1 C0 (okRw_at okL_17 2 rfl) ?_
  refine LS_call C0 hSt (D0 := 200) (k := 123) (aN := 0) (ci := 9) (as := []) (rest := []) (by decide) (pb_day hR) rfl rfl rfl rfl (lwG_4 190 rfl rfl) (okRw_at okL_17 3 rfl) (Nat.le_of_ble_eq_true rfl) rfl (fun r M1 q => ?_)
  obtain ⟨rfl, q2, q3⟩ := q
  refine LS_al2 C0 (okRw_at okL_17 4 rfl) ?_
  refine LS_call C0 hSt (D0 := 200) (k := 241) (aN := 55) (ci := 10) (as := []) (rest := [.int _]) (by decide) (m_day (RM_fr hM q3) hR.inv) rfl rfl rfl rfl (lwG_7 200 rfl rfl) (okRw_at okL_17 5 rfl) (Nat.le_of_ble_eq_true rfl) rfl (fun r M2 u => ?_)
  obtain ⟨rfl, u2, u3⟩ := u
  refine LS_ieq C0 (tgt := 1484) (okRw_at okL_17 6 rfl) (by decide) ?_
  exact next _ M2 (RC_frM q2 u3) u2
theorem lcs_24 (C0 : lw_At p s m meth c b L xs) (hSt : LK ad s nC nS) (hL : L ≤ 3072) {i cn : Nat} {s0 : St} {M : Mem} (hi : i + 6 ≤ L) (hR : RC cn M s0) (hM : RM M s0) (hc : cn < 90000) (next : ∀ (s1 : St) (M1 : Mem), RC (cn + 60) M1 s1 → RM M1 s1 → LSt p l e s m b below meth c ad ty D nC nS (nI i) 1484 [] M1) : LSt p l e s m b below meth c ad ty D nC nS (nI i) 1018 [] M := by
  refine LS_al1 C0 (okRw_at okL_17 9 rfl) ?_
  refine LS_arg C0 hL hi (k := 1) (kz := 1) (by decide) (by decide) (okRw_at okL_17 10 rfl) (okRw_at okL_17 11 rfl) (okRw_at okL_17 12 rfl) (okRw_at okL_17 13 rfl) (okRw_at okL_17 14 rfl) ?_
  refine LS_call C0 hSt (D0 := 200) (k := 124) (aN := 0) (ci := 9) (as := [.int (xs (i + 1))]) (rest := []) (by decide) (pb_led hR) rfl rfl rfl rfl (lwG_4 199 rfl rfl) (okRw_at okL_17 15 rfl) (Nat.le_of_ble_eq_true rfl) rfl (fun r M1 q => ?_)
  obtain ⟨rfl, q2, q3⟩ := q
  refine LS_al2 C0 (okRw_at okL_17 16 rfl) ?_
  refine LS_arg C0 hL hi (k := 1) (kz := 1) (by decide) (by decide) (okRw_at okL_17 17 rfl) (okRw_at okL_17 18 rfl) (okRw_at okL_17 19 rfl) (okRw_at okL_17 20 rfl) (okRw_at okL_17 21 rfl) ?_
  refine LS_call C0 hSt (D0 := 200) (k := 242) (aN := 55) (ci := 10) (as := [.int (xs (i + 1))]) (rest := [.int _]) (by decide) (m_led (RM_fr hM q3)) rfl rfl rfl rfl (lwG_7 204 rfl rfl) (okRw_at okL_17 22 rfl) (Nat.le_of_ble_eq_true rfl) rfl (fun r M2 u => ?_)
  obtain ⟨rfl, u2, u3⟩ := u
  refine LS_ieq C0 (tgt := 1484) (okRw_at okL_17 23 rfl) (by decide) ?_
  exact next _ M2 (RC_frM q2 u3) u2
theorem lcs_25 (C0 : lw_At p s m meth c b L xs) (hSt : LK ad s nC nS) (hL : L ≤ 3072) {i cn : Nat} {s0 : St} {M : Mem} (hi : i + 6 ≤ L) (hR : RC cn M s0) (hM : RM M s0) (hc : cn < 90000) (next : ∀ (s1 : St) (M1 : Mem), RC (cn + 60) M1 s1 → RM M1 s1 → LSt p l e s m b below meth c ad ty D nC nS (nI i) 1484 [] M1) : LSt p l e s m b below meth c ad ty D nC nS (nI i) 1041 [] M := by
  refine LS_al1 C0 (okRw_at okL_17 26 rfl) ?_
  refine LS_call C0 hSt (D0 := 200) (k := 125) (aN := 0) (ci := 9) (as := []) (rest := []) (by decide) (pb_image hR) rfl rfl rfl rfl (lwG_4 203 rfl rfl) (okRw_at okL_17 27 rfl) (Nat.le_of_ble_eq_true rfl) rfl (fun r M1 q => ?_)
  obtain ⟨rfl, q2, q3⟩ := q
  refine LS_al2 C0 (okRw_at okL_17 28 rfl) ?_
  refine LS_call C0 hSt (D0 := 200) (k := 243) (aN := 55) (ci := 10) (as := []) (rest := [.int _]) (by decide) (m_image (RM_fr hM q3) hR.inv) rfl rfl rfl rfl (lwG_7 208 rfl rfl) (okRw_at okL_17 29 rfl) (Nat.le_of_ble_eq_true rfl) rfl (fun r M2 u => ?_)
  obtain ⟨rfl, u2, u3⟩ := u
  refine LS_ieq C0 (tgt := 1484) (okRw_at okL_17 30 rfl) (by decide) ?_
  exact next _ M2 (RC_frM q2 u3) u2
theorem lcs_26 (C0 : lw_At p s m meth c b L xs) (hSt : LK ad s nC nS) (hL : L ≤ 3072) {i cn : Nat} {s0 : St} {M : Mem} (hi : i + 6 ≤ L) (hR : RC cn M s0) (hM : RM M s0) (hc : cn < 90000) (next : ∀ (s1 : St) (M1 : Mem), RC (cn + 60) M1 s1 → RM M1 s1 → LSt p l e s m b below meth c ad ty D nC nS (nI i) 1484 [] M1) : LSt p l e s m b below meth c ad ty D nC nS (nI i) 1054 [] M := by
  refine LS_al1 C0 (okRw_at okL_17 33 rfl) ?_
  refine LS_call C0 hSt (D0 := 200) (k := 126) (aN := 0) (ci := 9) (as := []) (rest := []) (by decide) (pb_back hR (by omega)) rfl rfl rfl rfl (lwG_4 211 rfl rfl) (okRw_at okL_17 34 rfl) (Nat.le_of_ble_eq_true rfl) rfl (fun r M1 q => ?_)
  obtain ⟨rfl, q2, q3⟩ := q
  refine LS_al2 C0 (okRw_at okL_17 35 rfl) ?_
  refine LS_call C0 hSt (D0 := 200) (k := 244) (aN := 55) (ci := 10) (as := []) (rest := [.int _]) (by decide) (m_back (RM_fr hM q3) hR.inv) rfl rfl rfl rfl (lwG_7 212 rfl rfl) (okRw_at okL_17 36 rfl) (Nat.le_of_ble_eq_true rfl) rfl (fun r M2 u => ?_)
  obtain ⟨rfl, u2, u3⟩ := u
  refine LS_ieq C0 (tgt := 1484) (okRw_at okL_17 37 rfl) (by decide) ?_
  exact next _ M2 (RC_frM q2 u3) u2
theorem lcs_27 (C0 : lw_At p s m meth c b L xs) (hSt : LK ad s nC nS) (hL : L ≤ 3072) {i cn : Nat} {s0 : St} {M : Mem} (hi : i + 6 ≤ L) (hR : RC cn M s0) (hM : RM M s0) (hc : cn < 90000) (next : ∀ (s1 : St) (M1 : Mem), RC (cn + 60) M1 s1 → RM M1 s1 → LSt p l e s m b below meth c ad ty D nC nS (nI i) 1484 [] M1) : LSt p l e s m b below meth c ad ty D nC nS (nI i) 1067 [] M := by
  refine LS_al1 C0 (okRw_at okL_18 0 rfl) ?_
  refine LS_call C0 hSt (D0 := 200) (k := 127) (aN := 0) (ci := 9) (as := []) (rest := []) (by decide) (pb_undo hR (by omega)) rfl rfl rfl rfl (lwG_4 219 rfl rfl) (okRw_at okL_18 1 rfl) (Nat.le_of_ble_eq_true rfl) rfl (fun r M1 q => ?_)
  obtain ⟨rfl, q2, q3⟩ := q
  refine LS_al2 C0 (okRw_at okL_18 2 rfl) ?_
  refine LS_call C0 hSt (D0 := 200) (k := 170) (aN := 55) (ci := 10) (as := []) (rest := [.int _]) (by decide) (m_undo (RM_fr hM q3) hR.inv) rfl rfl rfl rfl (lwG_6 143 rfl rfl) (okRw_at okL_18 3 rfl) (Nat.le_of_ble_eq_true rfl) rfl (fun r M2 u => ?_)
  obtain ⟨rfl, u2, u3⟩ := u
  refine LS_ieq C0 (tgt := 1484) (okRw_at okL_18 4 rfl) (by decide) ?_
  exact next _ M2 (RC_frM q2 u3) u2
theorem lcs_28 (C0 : lw_At p s m meth c b L xs) (hSt : LK ad s nC nS) (hL : L ≤ 3072) {i cn : Nat} {s0 : St} {M : Mem} (hi : i + 6 ≤ L) (hR : RC cn M s0) (hM : RM M s0) (hc : cn < 90000) (next : ∀ (s1 : St) (M1 : Mem), RC (cn + 60) M1 s1 → RM M1 s1 → LSt p l e s m b below meth c ad ty D nC nS (nI i) 1484 [] M1) : LSt p l e s m b below meth c ad ty D nC nS (nI i) 1080 [] M := by
  refine LS_al1 C0 (okRw_at okL_18 7 rfl) ?_
  refine LS_call C0 hSt (D0 := 200) (k := 128) (aN := 0) (ci := 9) (as := []) (rest := []) (by decide) (pb_redo hR (by omega)) rfl rfl rfl rfl (lwG_4 236 rfl rfl) (okRw_at okL_18 8 rfl) (Nat.le_of_ble_eq_true rfl) rfl (fun r M1 q => ?_)
  obtain ⟨rfl, q2, q3⟩ := q
  refine LS_al2 C0 (okRw_at okL_18 9 rfl) ?_
  refine LS_call C0 hSt (D0 := 200) (k := 171) (aN := 55) (ci := 10) (as := []) (rest := [.int _]) (by decide) (m_redo (RM_fr hM q3) hR.inv) rfl rfl rfl rfl (lwG_6 154 rfl rfl) (okRw_at okL_18 10 rfl) (Nat.le_of_ble_eq_true rfl) rfl (fun r M2 u => ?_)
  obtain ⟨rfl, u2, u3⟩ := u
  refine LS_ieq C0 (tgt := 1484) (okRw_at okL_18 11 rfl) (by decide) ?_
  exact next _ M2 (RC_frM q2 u3) u2
theorem lcs_29 (C0 : lw_At p s m meth c b L xs) (hSt : LK ad s nC nS) (hL : L ≤ 3072) {i cn : Nat} {s0 : St} {M : Mem} (hi : i + 6 ≤ L) (hR : RC cn M s0) (hM : RM M s0) (hc : cn < 90000) (next : ∀ (s1 : St) (M1 : Mem), RC (cn + 60) M1 s1 → RM M1 s1 → LSt p l e s m b below meth c ad ty D nC nS (nI i) 1484 [] M1) : LSt p l e s m b below meth c ad ty D nC nS (nI i) 1093 [] M := by
  refine LS_al1 C0 (okRw_at okL_18 14 rfl) ?_
  refine LS_arg C0 hL hi (k := 1) (kz := 1) (by decide) (by decide) (okRw_at okL_18 15 rfl) (okRw_at okL_18 16 rfl) (okRw_at okL_18 17 rfl) (okRw_at okL_18 18 rfl) (okRw_at okL_18 19 rfl) ?_
  refine LS_call C0 hSt (D0 := 200) (k := 129) (aN := 0) (ci := 9) (as := [.int (xs (i + 1))]) (rest := []) (by decide) (pb_body hR) rfl rfl rfl rfl (lwG_5 9 rfl rfl) (okRw_at okL_18 20 rfl) (Nat.le_of_ble_eq_true rfl) rfl (fun r M1 q => ?_)
  obtain ⟨rfl, q2, q3⟩ := q
  refine LS_al2 C0 (okRw_at okL_18 21 rfl) ?_
  refine LS_arg C0 hL hi (k := 1) (kz := 1) (by decide) (by decide) (okRw_at okL_18 22 rfl) (okRw_at okL_18 23 rfl) (okRw_at okL_18 24 rfl) (okRw_at okL_18 25 rfl) (okRw_at okL_18 26 rfl) ?_
  refine LS_call C0 hSt (D0 := 200) (k := 248) (aN := 55) (ci := 10) (as := [.int (xs (i + 1))]) (rest := [.int _]) (by decide) (m_body (RM_fr hM q3) hR.inv) rfl rfl rfl rfl (lwG_7 224 rfl rfl) (okRw_at okL_18 27 rfl) (Nat.le_of_ble_eq_true rfl) rfl (fun r M2 u => ?_)
  obtain ⟨rfl, u2, u3⟩ := u
  refine LS_ieq C0 (tgt := 1484) (okRw_at okL_18 28 rfl) (by decide) ?_
  exact next _ M2 (RC_frM q2 u3) u2
theorem lcs_30 (C0 : lw_At p s m meth c b L xs) (hSt : LK ad s nC nS) (hL : L ≤ 3072) {i cn : Nat} {s0 : St} {M : Mem} (hi : i + 6 ≤ L) (hR : RC cn M s0) (hM : RM M s0) (hc : cn < 90000) (next : ∀ (s1 : St) (M1 : Mem), RC (cn + 60) M1 s1 → RM M1 s1 → LSt p l e s m b below meth c ad ty D nC nS (nI i) 1484 [] M1) : LSt p l e s m b below meth c ad ty D nC nS (nI i) 1116 [] M := by
  refine LS_al1 C0 (okRw_at okL_18 31 rfl) ?_
  refine LS_arg C0 hL hi (k := 1) (kz := 1) (by decide) (by decide) (okRw_at okL_18 32 rfl) (okRw_at okL_18 33 rfl) (okRw_at okL_18 34 rfl) (okRw_at okL_18 35 rfl) (okRw_at okL_18 36 rfl) ?_
  refine LS_arg C0 hL hi (k := 2) (kz := 2) (by decide) (by decide) (okRw_at okL_18 37 rfl) (okRw_at okL_18 38 rfl) (okRw_at okL_18 39 rfl) (okRw_at okL_19 0 rfl) (okRw_at okL_19 1 rfl) ?_
  refine LS_arg C0 hL hi (k := 3) (kz := 3) (by decide) (by decide) (okRw_at okL_19 2 rfl) (okRw_at okL_19 3 rfl) (okRw_at okL_19 4 rfl) (okRw_at okL_19 5 rfl) (okRw_at okL_19 6 rfl) ?_
  refine LS_call C0 hSt (D0 := 200) (k := 130) (aN := 0) (ci := 9) (as := [.int (xs (i + 1)), .int (xs (i + 2)), .int (xs (i + 3))]) (rest := []) (by decide) (pb_act hR) rfl rfl rfl rfl (lwG_5 17 rfl rfl) (okRw_at okL_19 7 rfl) (Nat.le_of_ble_eq_true rfl) rfl (fun r M1 q => ?_)
  obtain ⟨rfl, q2, q3⟩ := q
  refine LS_al2 C0 (okRw_at okL_19 8 rfl) ?_
  refine LS_arg C0 hL hi (k := 1) (kz := 1) (by decide) (by decide) (okRw_at okL_19 9 rfl) (okRw_at okL_19 10 rfl) (okRw_at okL_19 11 rfl) (okRw_at okL_19 12 rfl) (okRw_at okL_19 13 rfl) ?_
  refine LS_arg C0 hL hi (k := 2) (kz := 2) (by decide) (by decide) (okRw_at okL_19 14 rfl) (okRw_at okL_19 15 rfl) (okRw_at okL_19 16 rfl) (okRw_at okL_19 17 rfl) (okRw_at okL_19 18 rfl) ?_
  refine LS_arg C0 hL hi (k := 3) (kz := 3) (by decide) (by decide) (okRw_at okL_19 19 rfl) (okRw_at okL_19 20 rfl) (okRw_at okL_19 21 rfl) (okRw_at okL_19 22 rfl) (okRw_at okL_19 23 rfl) ?_
  refine LS_call C0 hSt (D0 := 200) (k := 261) (aN := 55) (ci := 10) (as := [.int (xs (i + 1)), .int (xs (i + 2)), .int (xs (i + 3))]) (rest := [.int _]) (by decide) (m_act (RM_fr hM q3) hR.inv) rfl rfl rfl rfl (lwG_7 228 rfl rfl) (okRw_at okL_19 24 rfl) (Nat.le_of_ble_eq_true rfl) rfl (fun r M2 u => ?_)
  obtain ⟨rfl, u2, u3⟩ := u
  refine LS_ieq C0 (tgt := 1484) (okRw_at okL_19 25 rfl) (by decide) ?_
  exact next _ M2 (RC_frM q2 u3) u2
theorem lcs_31 (C0 : lw_At p s m meth c b L xs) (hSt : LK ad s nC nS) (hL : L ≤ 3072) {i cn : Nat} {s0 : St} {M : Mem} (hi : i + 6 ≤ L) (hR : RC cn M s0) (hM : RM M s0) (hc : cn < 90000) (next : ∀ (s1 : St) (M1 : Mem), RC (cn + 60) M1 s1 → RM M1 s1 → LSt p l e s m b below meth c ad ty D nC nS (nI i) 1484 [] M1) : LSt p l e s m b below meth c ad ty D nC nS (nI i) 1159 [] M := by
  refine LS_al1 C0 (okRw_at okL_19 28 rfl) ?_
  refine LS_arg C0 hL hi (k := 1) (kz := 1) (by decide) (by decide) (okRw_at okL_19 29 rfl) (okRw_at okL_19 30 rfl) (okRw_at okL_19 31 rfl) (okRw_at okL_19 32 rfl) (okRw_at okL_19 33 rfl) ?_
  refine LS_call C0 hSt (D0 := 200) (k := 131) (aN := 0) (ci := 9) (as := [.int (xs (i + 1))]) (rest := []) (by decide) (pb_trace hR) rfl rfl rfl rfl (lwG_5 49 rfl rfl) (okRw_at okL_19 34 rfl) (Nat.le_of_ble_eq_true rfl) rfl (fun r M1 q => ?_)
  obtain ⟨rfl, q2, q3⟩ := q
  refine LS_al2 C0 (okRw_at okL_19 35 rfl) ?_
  refine LS_arg C0 hL hi (k := 1) (kz := 1) (by decide) (by decide) (okRw_at okL_19 36 rfl) (okRw_at okL_19 37 rfl) (okRw_at okL_19 38 rfl) (okRw_at okL_19 39 rfl) (okRw_at okL_20 0 rfl) ?_
  refine LS_call C0 hSt (D0 := 200) (k := 247) (aN := 55) (ci := 10) (as := [.int (xs (i + 1))]) (rest := [.int _]) (by decide) (m_trace (RM_fr hM q3) hR.inv) rfl rfl rfl rfl (lwG_7 220 rfl rfl) (okRw_at okL_20 1 rfl) (Nat.le_of_ble_eq_true rfl) rfl (fun r M2 u => ?_)
  obtain ⟨rfl, u2, u3⟩ := u
  refine LS_ieq C0 (tgt := 1484) (okRw_at okL_20 2 rfl) (by decide) ?_
  exact next _ M2 (RC_frM q2 u3) u2
theorem lcs_32 (C0 : lw_At p s m meth c b L xs) (hSt : LK ad s nC nS) (hL : L ≤ 3072) {i cn : Nat} {s0 : St} {M : Mem} (hi : i + 6 ≤ L) (hR : RC cn M s0) (hM : RM M s0) (hc : cn < 90000) (next : ∀ (s1 : St) (M1 : Mem), RC (cn + 60) M1 s1 → RM M1 s1 → LSt p l e s m b below meth c ad ty D nC nS (nI i) 1484 [] M1) : LSt p l e s m b below meth c ad ty D nC nS (nI i) 1182 [] M := by
  refine LS_al1 C0 (okRw_at okL_20 5 rfl) ?_
  refine LS_arg C0 hL hi (k := 1) (kz := 1) (by decide) (by decide) (okRw_at okL_20 6 rfl) (okRw_at okL_20 7 rfl) (okRw_at okL_20 8 rfl) (okRw_at okL_20 9 rfl) (okRw_at okL_20 10 rfl) ?_
  refine LS_arg C0 hL hi (k := 2) (kz := 2) (by decide) (by decide) (okRw_at okL_20 11 rfl) (okRw_at okL_20 12 rfl) (okRw_at okL_20 13 rfl) (okRw_at okL_20 14 rfl) (okRw_at okL_20 15 rfl) ?_
  refine LS_call C0 hSt (D0 := 200) (k := 132) (aN := 0) (ci := 9) (as := [.int (xs (i + 1)), .int (xs (i + 2))]) (rest := []) (by decide) (pb_keep hR) rfl rfl rfl rfl (lwG_5 57 rfl rfl) (okRw_at okL_20 16 rfl) (Nat.le_of_ble_eq_true rfl) rfl (fun r M1 q => ?_)
  obtain ⟨rfl, q2, q3⟩ := q
  refine LS_al2 C0 (okRw_at okL_20 17 rfl) ?_
  refine LS_arg C0 hL hi (k := 1) (kz := 1) (by decide) (by decide) (okRw_at okL_20 18 rfl) (okRw_at okL_20 19 rfl) (okRw_at okL_20 20 rfl) (okRw_at okL_20 21 rfl) (okRw_at okL_20 22 rfl) ?_
  refine LS_arg C0 hL hi (k := 2) (kz := 2) (by decide) (by decide) (okRw_at okL_20 23 rfl) (okRw_at okL_20 24 rfl) (okRw_at okL_20 25 rfl) (okRw_at okL_20 26 rfl) (okRw_at okL_20 27 rfl) ?_
  refine LS_call C0 hSt (D0 := 200) (k := 265) (aN := 55) (ci := 10) (as := [.int (xs (i + 1)), .int (xs (i + 2))]) (rest := [.int _]) (by decide) (m_keep (RM_fr hM q3) hR.inv) rfl rfl rfl rfl (lwG_8 55 rfl rfl) (okRw_at okL_20 28 rfl) (Nat.le_of_ble_eq_true rfl) rfl (fun r M2 u => ?_)
  obtain ⟨rfl, u2, u3⟩ := u
  refine LS_ieq C0 (tgt := 1484) (okRw_at okL_20 29 rfl) (by decide) ?_
  exact next _ M2 (RC_frM q2 u3) u2
theorem lcs_33 (C0 : lw_At p s m meth c b L xs) (hSt : LK ad s nC nS) (hL : L ≤ 3072) {i cn : Nat} {s0 : St} {M : Mem} (hi : i + 6 ≤ L) (hR : RC cn M s0) (hM : RM M s0) (hc : cn < 90000) (next : ∀ (s1 : St) (M1 : Mem), RC (cn + 60) M1 s1 → RM M1 s1 → LSt p l e s m b below meth c ad ty D nC nS (nI i) 1484 [] M1) : LSt p l e s m b below meth c ad ty D nC nS (nI i) 1215 [] M := by
  refine LS_al1 C0 (okRw_at okL_20 32 rfl) ?_
  refine LS_arg C0 hL hi (k := 1) (kz := 1) (by decide) (by decide) (okRw_at okL_20 33 rfl) (okRw_at okL_20 34 rfl) (okRw_at okL_20 35 rfl) (okRw_at okL_20 36 rfl) (okRw_at okL_20 37 rfl) ?_
  refine LS_arg C0 hL hi (k := 2) (kz := 2) (by decide) (by decide) (okRw_at okL_20 38 rfl) (okRw_at okL_20 39 rfl) (okRw_at okL_21 0 rfl) (okRw_at okL_21 1 rfl) (okRw_at okL_21 2 rfl) ?_
  refine LS_arg C0 hL hi (k := 3) (kz := 3) (by decide) (by decide) (okRw_at okL_21 3 rfl) (okRw_at okL_21 4 rfl) (okRw_at okL_21 5 rfl) (okRw_at okL_21 6 rfl) (okRw_at okL_21 7 rfl) ?_
  refine LS_call C0 hSt (D0 := 200) (k := 133) (aN := 0) (ci := 9) (as := [.int (xs (i + 1)), .int (xs (i + 2)), .int (xs (i + 3))]) (rest := []) (by decide) (pb_row hR) rfl rfl rfl rfl (lwG_5 69 rfl rfl) (okRw_at okL_21 8 rfl) (Nat.le_of_ble_eq_true rfl) rfl (fun r M1 q => ?_)
  obtain ⟨rfl, q2, q3⟩ := q
  refine LS_al2 C0 (okRw_at okL_21 9 rfl) ?_
  refine LS_arg C0 hL hi (k := 1) (kz := 1) (by decide) (by decide) (okRw_at okL_21 10 rfl) (okRw_at okL_21 11 rfl) (okRw_at okL_21 12 rfl) (okRw_at okL_21 13 rfl) (okRw_at okL_21 14 rfl) ?_
  refine LS_arg C0 hL hi (k := 2) (kz := 2) (by decide) (by decide) (okRw_at okL_21 15 rfl) (okRw_at okL_21 16 rfl) (okRw_at okL_21 17 rfl) (okRw_at okL_21 18 rfl) (okRw_at okL_21 19 rfl) ?_
  refine LS_arg C0 hL hi (k := 3) (kz := 3) (by decide) (by decide) (okRw_at okL_21 20 rfl) (okRw_at okL_21 21 rfl) (okRw_at okL_21 22 rfl) (okRw_at okL_21 23 rfl) (okRw_at okL_21 24 rfl) ?_
  refine LS_call C0 hSt (D0 := 200) (k := 266) (aN := 55) (ci := 10) (as := [.int (xs (i + 1)), .int (xs (i + 2)), .int (xs (i + 3))]) (rest := [.int _]) (by decide) (m_row (RM_fr hM q3) hR.inv) rfl rfl rfl rfl (lwG_8 59 rfl rfl) (okRw_at okL_21 25 rfl) (Nat.le_of_ble_eq_true rfl) rfl (fun r M2 u => ?_)
  obtain ⟨rfl, u2, u3⟩ := u
  refine LS_ieq C0 (tgt := 1484) (okRw_at okL_21 26 rfl) (by decide) ?_
  exact next _ M2 (RC_frM q2 u3) u2
theorem lcs_34 (C0 : lw_At p s m meth c b L xs) (hSt : LK ad s nC nS) (hL : L ≤ 3072) {i cn : Nat} {s0 : St} {M : Mem} (hi : i + 6 ≤ L) (hR : RC cn M s0) (hM : RM M s0) (hc : cn < 90000) (next : ∀ (s1 : St) (M1 : Mem), RC (cn + 60) M1 s1 → RM M1 s1 → LSt p l e s m b below meth c ad ty D nC nS (nI i) 1484 [] M1) : LSt p l e s m b below meth c ad ty D nC nS (nI i) 1258 [] M := by
  refine LS_al1 C0 (okRw_at okL_21 29 rfl) ?_
  refine LS_arg C0 hL hi (k := 1) (kz := 1) (by decide) (by decide) (okRw_at okL_21 30 rfl) (okRw_at okL_21 31 rfl) (okRw_at okL_21 32 rfl) (okRw_at okL_21 33 rfl) (okRw_at okL_21 34 rfl) ?_
  refine LS_arg C0 hL hi (k := 2) (kz := 2) (by decide) (by decide) (okRw_at okL_21 35 rfl) (okRw_at okL_21 36 rfl) (okRw_at okL_21 37 rfl) (okRw_at okL_21 38 rfl) (okRw_at okL_21 39 rfl) ?_
  refine LS_arg C0 hL hi (k := 3) (kz := 3) (by decide) (by decide) (okRw_at okL_22 0 rfl) (okRw_at okL_22 1 rfl) (okRw_at okL_22 2 rfl) (okRw_at okL_22 3 rfl) (okRw_at okL_22 4 rfl) ?_
  refine LS_i2l C0 (okRw_at okL_22 5 rfl) ?_
  refine LS_b32 C0 (okRw_at okL_22 6 rfl) ?_
  refine LS_lshl C0 dL_1277 ?_
  refine LS_arg C0 hL hi (k := 4) (kz := 4) (by decide) (by decide) (okRw_at okL_22 7 rfl) (okRw_at okL_22 8 rfl) (okRw_at okL_22 9 rfl) (okRw_at okL_22 10 rfl) (okRw_at okL_22 11 rfl) ?_
  refine LS_i2l C0 (okRw_at okL_22 12 rfl) ?_
  refine LS_ldc2 C0 (v := 4294967295) (lwG_8 83 rfl rfl) (okRw_at okL_22 13 rfl) ?_
  refine LS_land C0 dL_1287 ?_
  refine LS_lor C0 dL_1288 ?_
  refine LS_call C0 hSt (D0 := 200) (k := 134) (aN := 0) (ci := 9) (as := [.int (xs (i + 1)), .int (xs (i + 2)), .long ((xs (i + 3)).toInt64 <<< ((32 : Int32).toInt64 &&& 63) ||| (xs (i + 4)).toInt64 &&& 4294967295)]) (rest := []) (by decide) (pb_put hR) rfl rfl rfl rfl (lwG_5 80 rfl rfl) (okRw_at okL_22 14 rfl) (Nat.le_of_ble_eq_true rfl) rfl (fun r M1 q => ?_)
  obtain ⟨rfl, q2, q3⟩ := q
  refine LS_al2 C0 (okRw_at okL_22 15 rfl) ?_
  refine LS_arg C0 hL hi (k := 1) (kz := 1) (by decide) (by decide) (okRw_at okL_22 16 rfl) (okRw_at okL_22 17 rfl) (okRw_at okL_22 18 rfl) (okRw_at okL_22 19 rfl) (okRw_at okL_22 20 rfl) ?_
  refine LS_arg C0 hL hi (k := 2) (kz := 2) (by decide) (by decide) (okRw_at okL_22 21 rfl) (okRw_at okL_22 22 rfl) (okRw_at okL_22 23 rfl) (okRw_at okL_22 24 rfl) (okRw_at okL_22 25 rfl) ?_
  refine LS_arg C0 hL hi (k := 3) (kz := 3) (by decide) (by decide) (okRw_at okL_22 26 rfl) (okRw_at okL_22 27 rfl) (okRw_at okL_22 28 rfl) (okRw_at okL_22 29 rfl) (okRw_at okL_22 30 rfl) ?_
  refine LS_i2l C0 (okRw_at okL_22 31 rfl) ?_
  refine LS_b32 C0 (okRw_at okL_22 32 rfl) ?_
  refine LS_lshl C0 dL_1311 ?_
  refine LS_arg C0 hL hi (k := 4) (kz := 4) (by decide) (by decide) (okRw_at okL_22 33 rfl) (okRw_at okL_22 34 rfl) (okRw_at okL_22 35 rfl) (okRw_at okL_22 36 rfl) (okRw_at okL_22 37 rfl) ?_
  refine LS_i2l C0 (okRw_at okL_22 38 rfl) ?_
  refine LS_ldc2 C0 (v := 4294967295) (lwG_8 83 rfl rfl) (okRw_at okL_22 39 rfl) ?_
  refine LS_land C0 dL_1321 ?_
  refine LS_lor C0 dL_1322 ?_
  refine LS_call C0 hSt (D0 := 200) (k := 268) (aN := 55) (ci := 10) (as := [.int (xs (i + 1)), .int (xs (i + 2)), .long ((xs (i + 3)).toInt64 <<< ((32 : Int32).toInt64 &&& 63) ||| (xs (i + 4)).toInt64 &&& 4294967295)]) (rest := [.int _]) (by decide) (m_put (RM_fr hM q3) hR.inv) rfl rfl rfl rfl (lwG_8 63 rfl rfl) (okRw_at okL_23 0 rfl) (Nat.le_of_ble_eq_true rfl) rfl (fun r M2 u => ?_)
  obtain ⟨rfl, u2, u3⟩ := u
  refine LS_ieq C0 (tgt := 1484) (okRw_at okL_23 1 rfl) (by decide) ?_
  exact next _ M2 (RC_frM q2 u3) u2
theorem lcs_35 (C0 : lw_At p s m meth c b L xs) (hSt : LK ad s nC nS) (hL : L ≤ 3072) {i cn : Nat} {s0 : St} {M : Mem} (hi : i + 6 ≤ L) (hR : RC cn M s0) (hM : RM M s0) (hc : cn < 90000) (next : ∀ (s1 : St) (M1 : Mem), RC (cn + 60) M1 s1 → RM M1 s1 → LSt p l e s m b below meth c ad ty D nC nS (nI i) 1484 [] M1) : LSt p l e s m b below meth c ad ty D nC nS (nI i) 1331 [] M := by
  refine LS_al1 C0 (okRw_at okL_23 4 rfl) ?_
  refine LS_arg C0 hL hi (k := 1) (kz := 1) (by decide) (by decide) (okRw_at okL_23 5 rfl) (okRw_at okL_23 6 rfl) (okRw_at okL_23 7 rfl) (okRw_at okL_23 8 rfl) (okRw_at okL_23 9 rfl) ?_
  refine LS_arg C0 hL hi (k := 2) (kz := 2) (by decide) (by decide) (okRw_at okL_23 10 rfl) (okRw_at okL_23 11 rfl) (okRw_at okL_23 12 rfl) (okRw_at okL_23 13 rfl) (okRw_at okL_23 14 rfl) ?_
  refine LS_call C0 hSt (D0 := 200) (k := 135) (aN := 0) (ci := 9) (as := [.int (xs (i + 1)), .int (xs (i + 2))]) (rest := []) (by decide) (pb_element hR) rfl rfl rfl rfl (lwG_5 96 rfl rfl) (okRw_at okL_23 15 rfl) (Nat.le_of_ble_eq_true rfl) rfl (fun r M1 q => ?_)
  obtain ⟨rfl, q2, q3⟩ := q
  refine LS_al2 C0 (okRw_at okL_23 16 rfl) ?_
  refine LS_arg C0 hL hi (k := 1) (kz := 1) (by decide) (by decide) (okRw_at okL_23 17 rfl) (okRw_at okL_23 18 rfl) (okRw_at okL_23 19 rfl) (okRw_at okL_23 20 rfl) (okRw_at okL_23 21 rfl) ?_
  refine LS_arg C0 hL hi (k := 2) (kz := 2) (by decide) (by decide) (okRw_at okL_23 22 rfl) (okRw_at okL_23 23 rfl) (okRw_at okL_23 24 rfl) (okRw_at okL_23 25 rfl) (okRw_at okL_23 26 rfl) ?_
  refine LS_call C0 hSt (D0 := 200) (k := 269) (aN := 55) (ci := 10) (as := [.int (xs (i + 1)), .int (xs (i + 2))]) (rest := [.long _]) (by decide) (m_element (RM_fr hM q3) hR.inv) rfl rfl rfl rfl (lwG_8 71 rfl rfl) (okRw_at okL_23 27 rfl) (Nat.le_of_ble_eq_true rfl) rfl (fun r M2 u => ?_)
  obtain ⟨rfl, u2, u3⟩ := u
  refine LS_leq C0 (tgt := 1484) (okRw_at okL_23 28 rfl) (okRw_at okL_23 29 rfl) (by decide) ?_
  exact next _ M2 (RC_frM q2 u3) u2
theorem lcs_36 (C0 : lw_At p s m meth c b L xs) (hSt : LK ad s nC nS) (hL : L ≤ 3072) {i cn : Nat} {s0 : St} {M : Mem} (hi : i + 6 ≤ L) (hR : RC cn M s0) (hM : RM M s0) (hc : cn < 90000) (next : ∀ (s1 : St) (M1 : Mem), RC (cn + 60) M1 s1 → RM M1 s1 → LSt p l e s m b below meth c ad ty D nC nS (nI i) 1484 [] M1) : LSt p l e s m b below meth c ad ty D nC nS (nI i) 1365 [] M := by
  refine LS_al1 C0 (okRw_at okL_23 32 rfl) ?_
  refine LS_arg C0 hL hi (k := 1) (kz := 1) (by decide) (by decide) (okRw_at okL_23 33 rfl) (okRw_at okL_23 34 rfl) (okRw_at okL_23 35 rfl) (okRw_at okL_23 36 rfl) (okRw_at okL_23 37 rfl) ?_
  refine LS_arg C0 hL hi (k := 2) (kz := 2) (by decide) (by decide) (okRw_at okL_23 38 rfl) (okRw_at okL_23 39 rfl) (okRw_at okL_24 0 rfl) (okRw_at okL_24 1 rfl) (okRw_at okL_24 2 rfl) ?_
  refine LS_arg C0 hL hi (k := 3) (kz := 3) (by decide) (by decide) (okRw_at okL_24 3 rfl) (okRw_at okL_24 4 rfl) (okRw_at okL_24 5 rfl) (okRw_at okL_24 6 rfl) (okRw_at okL_24 7 rfl) ?_
  refine LS_arg C0 hL hi (k := 4) (kz := 4) (by decide) (by decide) (okRw_at okL_24 8 rfl) (okRw_at okL_24 9 rfl) (okRw_at okL_24 10 rfl) (okRw_at okL_24 11 rfl) (okRw_at okL_24 12 rfl) ?_
  refine LS_arg C0 hL hi (k := 5) (kz := 5) (by decide) (by decide) (okRw_at okL_24 13 rfl) (okRw_at okL_24 14 rfl) (okRw_at okL_24 15 rfl) (okRw_at okL_24 16 rfl) (okRw_at okL_24 17 rfl) ?_
  refine LS_call C0 hSt (D0 := 200) (k := 136) (aN := 0) (ci := 9) (as := [.int (xs (i + 1)), .int (xs (i + 2)), .int (xs (i + 3)), .int (xs (i + 4)), .int (xs (i + 5))]) (rest := []) (by decide) (pb_shift hR) rfl rfl rfl rfl (lwG_5 100 rfl rfl) (okRw_at okL_24 18 rfl) (Nat.le_of_ble_eq_true rfl) rfl (fun r M1 q => ?_)
  obtain ⟨rfl, q2, q3⟩ := q
  refine LS_al2 C0 (okRw_at okL_24 19 rfl) ?_
  refine LS_arg C0 hL hi (k := 1) (kz := 1) (by decide) (by decide) (okRw_at okL_24 20 rfl) (okRw_at okL_24 21 rfl) (okRw_at okL_24 22 rfl) (okRw_at okL_24 23 rfl) (okRw_at okL_24 24 rfl) ?_
  refine LS_arg C0 hL hi (k := 2) (kz := 2) (by decide) (by decide) (okRw_at okL_24 25 rfl) (okRw_at okL_24 26 rfl) (okRw_at okL_24 27 rfl) (okRw_at okL_24 28 rfl) (okRw_at okL_24 29 rfl) ?_
  refine LS_arg C0 hL hi (k := 3) (kz := 3) (by decide) (by decide) (okRw_at okL_24 30 rfl) (okRw_at okL_24 31 rfl) (okRw_at okL_24 32 rfl) (okRw_at okL_24 33 rfl) (okRw_at okL_24 34 rfl) ?_
  refine LS_arg C0 hL hi (k := 4) (kz := 4) (by decide) (by decide) (okRw_at okL_24 35 rfl) (okRw_at okL_24 36 rfl) (okRw_at okL_24 37 rfl) (okRw_at okL_24 38 rfl) (okRw_at okL_24 39 rfl) ?_
  refine LS_arg C0 hL hi (k := 5) (kz := 5) (by decide) (by decide) (okRw_at okL_25 0 rfl) (okRw_at okL_25 1 rfl) (okRw_at okL_25 2 rfl) (okRw_at okL_25 3 rfl) (okRw_at okL_25 4 rfl) ?_
  refine LS_call C0 hSt (D0 := 200) (k := 270) (aN := 55) (ci := 10) (as := [.int (xs (i + 1)), .int (xs (i + 2)), .int (xs (i + 3)), .int (xs (i + 4)), .int (xs (i + 5))]) (rest := [.int _]) (by decide) (m_shift (RM_fr hM q3) hR.inv) rfl rfl rfl rfl (lwG_8 75 rfl rfl) (okRw_at okL_25 5 rfl) (Nat.le_of_ble_eq_true rfl) rfl (fun r M2 u => ?_)
  obtain ⟨rfl, u2, u3⟩ := u
  refine LS_ieq C0 (tgt := 1484) (okRw_at okL_25 6 rfl) (by decide) ?_
  exact next _ M2 (RC_frM q2 u3) u2
theorem lcs_37 (C0 : lw_At p s m meth c b L xs) (hSt : LK ad s nC nS) (hL : L ≤ 3072) {i cn : Nat} {s0 : St} {M : Mem} (hi : i + 6 ≤ L) (hR : RC cn M s0) (hM : RM M s0) (hc : cn < 90000) (next : ∀ (s1 : St) (M1 : Mem), RC (cn + 60) M1 s1 → RM M1 s1 → LSt p l e s m b below meth c ad ty D nC nS (nI i) 1484 [] M1) : LSt p l e s m b below meth c ad ty D nC nS (nI i) 1428 [] M := by
  refine LS_al1 C0 (okRw_at okL_25 9 rfl) ?_
  refine LS_arg C0 hL hi (k := 1) (kz := 1) (by decide) (by decide) (okRw_at okL_25 10 rfl) (okRw_at okL_25 11 rfl) (okRw_at okL_25 12 rfl) (okRw_at okL_25 13 rfl) (okRw_at okL_25 14 rfl) ?_
  refine LS_arg C0 hL hi (k := 2) (kz := 2) (by decide) (by decide) (okRw_at okL_25 15 rfl) (okRw_at okL_25 16 rfl) (okRw_at okL_25 17 rfl) (okRw_at okL_25 18 rfl) (okRw_at okL_25 19 rfl) ?_
  refine LS_call C0 hSt (D0 := 200) (k := 137) (aN := 0) (ci := 9) (as := [.int (xs (i + 1)), .int (xs (i + 2))]) (rest := []) (by decide) (pb_taken hR) rfl rfl rfl rfl (lwG_5 122 rfl rfl) (okRw_at okL_25 20 rfl) (Nat.le_of_ble_eq_true rfl) rfl (fun r M1 q => ?_)
  obtain ⟨rfl, q2, q3⟩ := q
  refine LS_al2 C0 (okRw_at okL_25 21 rfl) ?_
  refine LS_arg C0 hL hi (k := 1) (kz := 1) (by decide) (by decide) (okRw_at okL_25 22 rfl) (okRw_at okL_25 23 rfl) (okRw_at okL_25 24 rfl) (okRw_at okL_25 25 rfl) (okRw_at okL_25 26 rfl) ?_
  refine LS_arg C0 hL hi (k := 2) (kz := 2) (by decide) (by decide) (okRw_at okL_25 27 rfl) (okRw_at okL_25 28 rfl) (okRw_at okL_25 29 rfl) (okRw_at okL_25 30 rfl) (okRw_at okL_25 31 rfl) ?_
  refine LS_call C0 hSt (D0 := 200) (k := 271) (aN := 55) (ci := 10) (as := [.int (xs (i + 1)), .int (xs (i + 2))]) (rest := [.int _]) (by decide) (m_taken (RM_fr hM q3) hR.inv) rfl rfl rfl rfl (lwG_8 79 rfl rfl) (okRw_at okL_25 32 rfl) (Nat.le_of_ble_eq_true rfl) rfl (fun r M2 u => ?_)
  obtain ⟨rfl, u2, u3⟩ := u
  refine LS_ieq C0 (tgt := 1484) (okRw_at okL_25 33 rfl) (by decide) ?_
  exact next _ M2 (RC_frM q2 u3) u2
theorem lcs_38 (C0 : lw_At p s m meth c b L xs) (hSt : LK ad s nC nS) (hL : L ≤ 3072) {i cn : Nat} {s0 : St} {M : Mem} (hi : i + 6 ≤ L) (hR : RC cn M s0) (hM : RM M s0) (hc : cn < 90000) (next : ∀ (s1 : St) (M1 : Mem), RC (cn + 60) M1 s1 → RM M1 s1 → LSt p l e s m b below meth c ad ty D nC nS (nI i) 1484 [] M1) : LSt p l e s m b below meth c ad ty D nC nS (nI i) 1461 [] M := by
  refine LS_al1 C0 (okRw_at okL_25 36 rfl) ?_
  refine LS_arg C0 hL hi (k := 1) (kz := 1) (by decide) (by decide) (okRw_at okL_25 37 rfl) (okRw_at okL_25 38 rfl) (okRw_at okL_25 39 rfl) (okRw_at okL_26 0 rfl) (okRw_at okL_26 1 rfl) ?_
  refine LS_call C0 hSt (D0 := 200) (k := 138) (aN := 0) (ci := 9) (as := [.int (xs (i + 1))]) (rest := []) (by decide) (pb_count hR) rfl rfl rfl rfl (lwG_5 136 rfl rfl) (okRw_at okL_26 2 rfl) (Nat.le_of_ble_eq_true rfl) rfl (fun r M1 q => ?_)
  obtain ⟨rfl, q2, q3⟩ := q
  refine LS_al2 C0 (okRw_at okL_26 3 rfl) ?_
  refine LS_arg C0 hL hi (k := 1) (kz := 1) (by decide) (by decide) (okRw_at okL_26 4 rfl) (okRw_at okL_26 5 rfl) (okRw_at okL_26 6 rfl) (okRw_at okL_26 7 rfl) (okRw_at okL_26 8 rfl) ?_
  refine LS_call C0 hSt (D0 := 200) (k := 263) (aN := 55) (ci := 10) (as := [.int (xs (i + 1))]) (rest := [.int _]) (by decide) (m_count (RM_fr hM q3) hR.inv) rfl rfl rfl rfl (lwG_8 47 rfl rfl) (okRw_at okL_26 9 rfl) (Nat.le_of_ble_eq_true rfl) rfl (fun r M2 u => ?_)
  obtain ⟨rfl, u2, u3⟩ := u
  refine LS_ieq C0 (tgt := 1484) (okRw_at okL_26 10 rfl) (by decide) ?_
  exact next _ M2 (RC_frM q2 u3) u2
end LAW
