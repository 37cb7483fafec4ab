/-! the law's cases -/
section LAW
variable {p : Program} {l : Launch} {e : Jvm.Env} {s : State} {m : MethodId} {below : List Frame} {meth : Method} {c : Code} {b L : Nat} {xs : Nat → Int32} {ad : Nat → Nat} {ty : Nat → ClassId} {D : va_G} {nC nS : Nat}
theorem lcs_0 (C0 : lw_At p s m meth c b L xs) (hSt : LK ad s nC nS) (hL : L ≤ 3072) {i cn : Nat} {s0 : St} {M : Mem} (hi : i + 6 ≤ L) (hR : RC cn M s0) (hM : RM M s0) (hc : cn < 90000) (next : ∀ (s1 : St) (M1 : Mem), RC (cn + 60) M1 s1 → RM M1 s1 → LSt p l e s m b below meth c ad ty D nC nS (nI i) 1484 [] M1) : LSt p l e s m b below meth c ad ty D nC nS (nI i) 204 [] M := by
  have fin : ∀ (v : Int32) (s1 : St), Call 200 100 [.ref 0] M (RP cn M (.int v) s1) → (∀ M1, RM M1 s0 → Call 200 162 [.ref 55] M1 (QP M1 (.int v) s1)) → LSt p l e s m b below meth c ad ty D nC nS (nI i) 204 [] M := by
    intro v s1 c1 c2
    refine LS_al1 C0 (okRw_at okL_0 19 rfl) ?_
    refine LS_call C0 hSt (D0 := 200) (k := 100) (aN := 0) (ci := 9) (as := []) (rest := []) (by decide) (c1) rfl rfl rfl rfl (lwG_2 95 rfl rfl) (okRw_at okL_0 20 rfl) (Nat.le_of_ble_eq_true rfl) rfl (fun r M1 q => ?_)
    obtain ⟨rfl, q2, q3⟩ := q
    refine LS_al2 C0 (okRw_at okL_0 21 rfl) ?_
    refine LS_call C0 hSt (D0 := 200) (k := 162) (aN := 55) (ci := 10) (as := []) (rest := [.int _]) (by decide) (c2 M1 (RM_fr hM q3)) rfl rfl rfl rfl (lwG_6 113 rfl rfl) (okRw_at okL_0 22 rfl) (Nat.le_of_ble_eq_true rfl) rfl (fun r M2 u => ?_)
    obtain ⟨rfl, u2, u3⟩ := u
    refine LS_ieq C0 (tgt := 1484) (okRw_at okL_0 23 rfl) (by decide) ?_
    exact next _ M2 (RC_frM q2 u3) u2
  by_cases h4 : (sK s0).length = 4
  · refine fin _ s0 (by have := pb_rick (d := 199) hR; rw [if_pos h4] at this; exact this) (fun M1 h => by have := m_rick (d := 199) h hR.inv; rw [if_pos h4] at this; exact this)
  · refine fin _ _ (by have := pb_rick (d := 199) hR; rw [if_neg h4] at this; exact this) (fun M1 h => by have := m_rick (d := 199) h hR.inv; rw [if_neg h4] at this; exact this)
theorem lcs_1 (C0 : lw_At p s m meth c b L xs) (hSt : LK ad s nC nS) (hL : L ≤ 3072) {i cn : Nat} {s0 : St} {M : Mem} (hi : i + 6 ≤ L) (hR : RC cn M s0) (hM : RM M s0) (hc : cn < 90000) (next : ∀ (s1 : St) (M1 : Mem), RC (cn + 60) M1 s1 → RM M1 s1 → LSt p l e s m b below meth c ad ty D nC nS (nI i) 1484 [] M1) : LSt p l e s m b below meth c ad ty D nC nS (nI i) 217 [] M := by
  refine LS_al1 C0 (okRw_at okL_0 26 rfl) ?_
  refine LS_arg C0 hL hi (k := 1) (kz := 1) (by decide) (by decide) (okRw_at okL_0 27 rfl) (okRw_at okL_0 28 rfl) (okRw_at okL_0 29 rfl) (okRw_at okL_0 30 rfl) (okRw_at okL_0 31 rfl) ?_
  refine LS_arg C0 hL hi (k := 2) (kz := 2) (by decide) (by decide) (okRw_at okL_0 32 rfl) (okRw_at okL_0 33 rfl) (okRw_at okL_0 34 rfl) (okRw_at okL_0 35 rfl) (okRw_at okL_0 36 rfl) ?_
  refine LS_call C0 hSt (D0 := 200) (k := 101) (aN := 0) (ci := 9) (as := [.int (xs (i + 1)), .int (xs (i + 2))]) (rest := []) (by decide) (pb_lay hR (by omega)) rfl rfl rfl rfl (lwG_2 99 rfl rfl) (okRw_at okL_0 37 rfl) (Nat.le_of_ble_eq_true rfl) rfl (fun r M1 q => ?_)
  obtain ⟨rfl, q2, q3⟩ := q
  refine LS_al2 C0 (okRw_at okL_0 38 rfl) ?_
  refine LS_arg C0 hL hi (k := 1) (kz := 1) (by decide) (by decide) (okRw_at okL_0 39 rfl) (okRw_at okL_1 0 rfl) (okRw_at okL_1 1 rfl) (okRw_at okL_1 2 rfl) (okRw_at okL_1 3 rfl) ?_
  refine LS_arg C0 hL hi (k := 2) (kz := 2) (by decide) (by decide) (okRw_at okL_1 4 rfl) (okRw_at okL_1 5 rfl) (okRw_at okL_1 6 rfl) (okRw_at okL_1 7 rfl) (okRw_at okL_1 8 rfl) ?_
  refine LS_call C0 hSt (D0 := 200) (k := 165) (aN := 55) (ci := 10) (as := [.int (xs (i + 1)), .int (xs (i + 2))]) (rest := [.int _]) (by decide) (m_lay (RM_fr hM q3) hR.inv) rfl rfl rfl rfl (lwG_6 117 rfl rfl) (okRw_at okL_1 9 rfl) (Nat.le_of_ble_eq_true rfl) rfl (fun r M2 u => ?_)
  obtain ⟨rfl, u2, u3⟩ := u
  refine LS_ieq C0 (tgt := 1484) (okRw_at okL_1 10 rfl) (by decide) ?_
  exact next _ M2 (RC_frM q2 u3) u2
theorem lcs_2 (C0 : lw_At p s m meth c b L xs) (hSt : LK ad s nC nS) (hL : L ≤ 3072) {i cn : Nat} {s0 : St} {M : Mem} (hi : i + 6 ≤ L) (hR : RC cn M s0) (hM : RM M s0) (hc : cn < 90000) (next : ∀ (s1 : St) (M1 : Mem), RC (cn + 60) M1 s1 → RM M1 s1 → LSt p l e s m b below meth c ad ty D nC nS (nI i) 1484 [] M1) : LSt p l e s m b below meth c ad ty D nC nS (nI i) 250 [] M := by
  refine LS_al1 C0 (okRw_at okL_1 13 rfl) ?_
  refine LS_arg C0 hL hi (k := 1) (kz := 1) (by decide) (by decide) (okRw_at okL_1 14 rfl) (okRw_at okL_1 15 rfl) (okRw_at okL_1 16 rfl) (okRw_at okL_1 17 rfl) (okRw_at okL_1 18 rfl) ?_
  refine LS_arg C0 hL hi (k := 2) (kz := 2) (by decide) (by decide) (okRw_at okL_1 19 rfl) (okRw_at okL_1 20 rfl) (okRw_at okL_1 21 rfl) (okRw_at okL_1 22 rfl) (okRw_at okL_1 23 rfl) ?_
  refine LS_arg C0 hL hi (k := 3) (kz := 3) (by decide) (by decide) (okRw_at okL_1 24 rfl) (okRw_at okL_1 25 rfl) (okRw_at okL_1 26 rfl) (okRw_at okL_1 27 rfl) (okRw_at okL_1 28 rfl) ?_
  refine LS_call C0 hSt (D0 := 200) (k := 102) (aN := 0) (ci := 9) (as := [.int (xs (i + 1)), .int (xs (i + 2)), .int (xs (i + 3))]) (rest := []) (by decide) (pb_layers hR (by omega)) rfl rfl rfl rfl (lwG_2 128 rfl rfl) (okRw_at okL_1 29 rfl) (Nat.le_of_ble_eq_true rfl) rfl (fun r M1 q => ?_)
  obtain ⟨rfl, q2, q3⟩ := q
  refine LS_al2 C0 (okRw_at okL_1 30 rfl) ?_
  refine LS_arg C0 hL hi (k := 1) (kz := 1) (by decide) (by decide) (okRw_at okL_1 31 rfl) (okRw_at okL_1 32 rfl) (okRw_at okL_1 33 rfl) (okRw_at okL_1 34 rfl) (okRw_at okL_1 35 rfl) ?_
  refine LS_arg C0 hL hi (k := 2) (kz := 2) (by decide) (by decide) (okRw_at okL_1 36 rfl) (okRw_at okL_1 37 rfl) (okRw_at okL_1 38 rfl) (okRw_at okL_1 39 rfl) (okRw_at okL_2 0 rfl) ?_
  refine LS_arg C0 hL hi (k := 3) (kz := 3) (by decide) (by decide) (okRw_at okL_2 1 rfl) (okRw_at okL_2 2 rfl) (okRw_at okL_2 3 rfl) (okRw_at okL_2 4 rfl) (okRw_at okL_2 5 rfl) ?_
  refine LS_call C0 hSt (D0 := 200) (k := 166) (aN := 55) (ci := 10) (as := [.int (xs (i + 1)), .int (xs (i + 2)), .int (xs (i + 3))]) (rest := [.int _]) (by decide) (m_layers (RM_fr hM q3) hR.inv) rfl rfl rfl rfl (lwG_6 135 rfl rfl) (okRw_at okL_2 6 rfl) (Nat.le_of_ble_eq_true rfl) rfl (fun r M2 u => ?_)
  obtain ⟨rfl, u2, u3⟩ := u
  refine LS_ieq C0 (tgt := 1484) (okRw_at okL_2 7 rfl) (by decide) ?_
  exact next _ M2 (RC_frM q2 u3) u2
theorem lcs_3 (C0 : lw_At p s m meth c b L xs) (hSt : LK ad s nC nS) (hL : L ≤ 3072) {i cn : Nat} {s0 : St} {M : Mem} (hi : i + 6 ≤ L) (hR : RC cn M s0) (hM : RM M s0) (hc : cn < 90000) (next : ∀ (s1 : St) (M1 : Mem), RC (cn + 60) M1 s1 → RM M1 s1 → LSt p l e s m b below meth c ad ty D nC nS (nI i) 1484 [] M1) : LSt p l e s m b below meth c ad ty D nC nS (nI i) 293 [] M := by
  refine LS_al1 C0 (okRw_at okL_2 10 rfl) ?_
  refine LS_arg C0 hL hi (k := 1) (kz := 1) (by decide) (by decide) (okRw_at okL_2 11 rfl) (okRw_at okL_2 12 rfl) (okRw_at okL_2 13 rfl) (okRw_at okL_2 14 rfl) (okRw_at okL_2 15 rfl) ?_
  refine LS_arg C0 hL hi (k := 2) (kz := 2) (by decide) (by decide) (okRw_at okL_2 16 rfl) (okRw_at okL_2 17 rfl) (okRw_at okL_2 18 rfl) (okRw_at okL_2 19 rfl) (okRw_at okL_2 20 rfl) ?_
  refine LS_arg C0 hL hi (k := 3) (kz := 3) (by decide) (by decide) (okRw_at okL_2 21 rfl) (okRw_at okL_2 22 rfl) (okRw_at okL_2 23 rfl) (okRw_at okL_2 24 rfl) (okRw_at okL_2 25 rfl) ?_
  refine LS_call C0 hSt (D0 := 200) (k := 103) (aN := 0) (ci := 9) (as := [.int (xs (i + 1)), .int (xs (i + 2)), .int (xs (i + 3))]) (rest := []) (by decide) (pb_mend hR (by omega)) rfl rfl rfl rfl (lwG_2 156 rfl rfl) (okRw_at okL_2 26 rfl) (Nat.le_of_ble_eq_true rfl) rfl (fun r M1 q => ?_)
  obtain ⟨rfl, q2, q3⟩ := q
  refine LS_al2 C0 (okRw_at okL_2 27 rfl) ?_
  refine LS_arg C0 hL hi (k := 1) (kz := 1) (by decide) (by decide) (okRw_at okL_2 28 rfl) (okRw_at okL_2 29 rfl) (okRw_at okL_2 30 rfl) (okRw_at okL_2 31 rfl) (okRw_at okL_2 32 rfl) ?_
  refine LS_arg C0 hL hi (k := 2) (kz := 2) (by decide) (by decide) (okRw_at okL_2 33 rfl) (okRw_at okL_2 34 rfl) (okRw_at okL_2 35 rfl) (okRw_at okL_2 36 rfl) (okRw_at okL_2 37 rfl) ?_
  refine LS_arg C0 hL hi (k := 3) (kz := 3) (by decide) (by decide) (okRw_at okL_2 38 rfl) (okRw_at okL_2 39 rfl) (okRw_at okL_3 0 rfl) (okRw_at okL_3 1 rfl) (okRw_at okL_3 2 rfl) ?_
  refine LS_call C0 hSt (D0 := 200) (k := 176) (aN := 55) (ci := 10) (as := [.int (xs (i + 1)), .int (xs (i + 2)), .int (xs (i + 3))]) (rest := [.int _]) (by decide) (m_mend (RM_fr hM q3) hR.inv) rfl rfl rfl rfl (lwG_6 158 rfl rfl) (okRw_at okL_3 3 rfl) (Nat.le_of_ble_eq_true rfl) rfl (fun r M2 u => ?_)
  obtain ⟨rfl, u2, u3⟩ := u
  refine LS_ieq C0 (tgt := 1484) (okRw_at okL_3 4 rfl) (by decide) ?_
  exact next _ M2 (RC_frM q2 u3) u2
theorem lcs_4 (C0 : lw_At p s m meth c b L xs) (hSt : LK ad s nC nS) (hL : L ≤ 3072) {i cn : Nat} {s0 : St} {M : Mem} (hi : i + 6 ≤ L) (hR : RC cn M s0) (hM : RM M s0) (hc : cn < 90000) (next : ∀ (s1 : St) (M1 : Mem), RC (cn + 60) M1 s1 → RM M1 s1 → LSt p l e s m b below meth c ad ty D nC nS (nI i) 1484 [] M1) : LSt p l e s m b below meth c ad ty D nC nS (nI i) 336 [] M := by
  refine LS_al1 C0 (okRw_at okL_3 7 rfl) ?_
  refine LS_arg C0 hL hi (k := 1) (kz := 1) (by decide) (by decide) (okRw_at okL_3 8 rfl) (okRw_at okL_3 9 rfl) (okRw_at okL_3 10 rfl) (okRw_at okL_3 11 rfl) (okRw_at okL_3 12 rfl) ?_
  refine LS_arg C0 hL hi (k := 2) (kz := 2) (by decide) (by decide) (okRw_at okL_3 13 rfl) (okRw_at okL_3 14 rfl) (okRw_at okL_3 15 rfl) (okRw_at okL_3 16 rfl) (okRw_at okL_3 17 rfl) ?_
  refine LS_call C0 hSt (D0 := 200) (k := 104) (aN := 0) (ci := 9) (as := [.int (xs (i + 1)), .int (xs (i + 2))]) (rest := []) (by decide) (pb_of hR) rfl rfl rfl rfl (lwG_2 208 rfl rfl) (okRw_at okL_3 18 rfl) (Nat.le_of_ble_eq_true rfl) rfl (fun r M1 q => ?_)
  obtain ⟨rfl, q2, q3⟩ := q
  refine LS_al2 C0 (okRw_at okL_3 19 rfl) ?_
  refine LS_arg C0 hL hi (k := 1) (kz := 1) (by decide) (by decide) (okRw_at okL_3 20 rfl) (okRw_at okL_3 21 rfl) (okRw_at okL_3 22 rfl) (okRw_at okL_3 23 rfl) (okRw_at okL_3 24 rfl) ?_
  refine LS_arg C0 hL hi (k := 2) (kz := 2) (by decide) (by decide) (okRw_at okL_3 25 rfl) (okRw_at okL_3 26 rfl) (okRw_at okL_3 27 rfl) (okRw_at okL_3 28 rfl) (okRw_at okL_3 29 rfl) ?_
  refine LS_call C0 hSt (D0 := 200) (k := 177) (aN := 55) (ci := 10) (as := [.int (xs (i + 1)), .int (xs (i + 2))]) (rest := [.int _]) (by decide) (m_of (RM_fr hM q3) hR.inv) rfl rfl rfl rfl (lwG_6 181 rfl rfl) (okRw_at okL_3 30 rfl) (Nat.le_of_ble_eq_true rfl) rfl (fun r M2 u => ?_)
  obtain ⟨rfl, u2, u3⟩ := u
  refine LS_ieq C0 (tgt := 1484) (okRw_at okL_3 31 rfl) (by decide) ?_
  exact next _ M2 (RC_frM q2 u3) u2
theorem lcs_5 (C0 : lw_At p s m meth c b L xs) (hSt : LK ad s nC nS) (hL : L ≤ 3072) {i cn : Nat} {s0 : St} {M : Mem} (hi : i + 6 ≤ L) (hR : RC cn M s0) (hM : RM M s0) (hc : cn < 90000) (next : ∀ (s1 : St) (M1 : Mem), RC (cn + 60) M1 s1 → RM M1 s1 → LSt p l e s m b below meth c ad ty D nC nS (nI i) 1484 [] M1) : LSt p l e s m b below meth c ad ty D nC nS (nI i) 369 [] M := by
  refine LS_al1 C0 (okRw_at okL_3 34 rfl) ?_
  refine LS_arg C0 hL hi (k := 1) (kz := 1) (by decide) (by decide) (okRw_at okL_3 35 rfl) (okRw_at okL_3 36 rfl) (okRw_at okL_3 37 rfl) (okRw_at okL_3 38 rfl) (okRw_at okL_3 39 rfl) ?_
  refine LS_call C0 hSt (D0 := 200) (k := 105) (aN := 0) (ci := 9) (as := [.int (xs (i + 1))]) (rest := []) (by decide) (pb_feed hR) rfl rfl rfl rfl (lwG_2 209 rfl rfl) (okRw_at okL_4 0 rfl) (Nat.le_of_ble_eq_true rfl) rfl (fun r M1 q => ?_)
  obtain ⟨rfl, q2, q3⟩ := q
  refine LS_al2 C0 (okRw_at okL_4 1 rfl) ?_
  refine LS_arg C0 hL hi (k := 1) (kz := 1) (by decide) (by decide) (okRw_at okL_4 2 rfl) (okRw_at okL_4 3 rfl) (okRw_at okL_4 4 rfl) (okRw_at okL_4 5 rfl) (okRw_at okL_4 6 rfl) ?_
  refine LS_call C0 hSt (D0 := 200) (k := 178) (aN := 55) (ci := 10) (as := [.int (xs (i + 1))]) (rest := [.int _]) (by decide) (m_feed (RM_fr hM q3) hR.inv) rfl rfl rfl rfl (lwG_6 185 rfl rfl) (okRw_at okL_4 7 rfl) (Nat.le_of_ble_eq_true rfl) rfl (fun r M2 u => ?_)
  obtain ⟨rfl, u2, u3⟩ := u
  refine LS_ieq C0 (tgt := 1484) (okRw_at okL_4 8 rfl) (by decide) ?_
  exact next _ M2 (RC_frM q2 u3) u2
theorem lcs_6 (C0 : lw_At p s m meth c b L xs) (hSt : LK ad s nC nS) (hL : L ≤ 3072) {i cn : Nat} {s0 : St} {M : Mem} (hi : i + 6 ≤ L) (hR : RC cn M s0) (hM : RM M s0) (hc : cn < 90000) (next : ∀ (s1 : St) (M1 : Mem), RC (cn + 60) M1 s1 → RM M1 s1 → LSt p l e s m b below meth c ad ty D nC nS (nI i) 1484 [] M1) : LSt p l e s m b below meth c ad ty D nC nS (nI i) 392 [] M := by
  refine LS_al1 C0 (okRw_at okL_4 11 rfl) ?_
  refine LS_call C0 hSt (D0 := 200) (k := 106) (aN := 0) (ci := 9) (as := []) (rest := []) (by decide) (pb_law hR) rfl rfl rfl rfl (lwG_2 221 rfl rfl) (okRw_at okL_4 12 rfl) (Nat.le_of_ble_eq_true rfl) rfl (fun r M1 q => ?_)
  obtain ⟨rfl, q2, q3⟩ := q
  refine LS_al2 C0 (okRw_at okL_4 13 rfl) ?_
  refine LS_call C0 hSt (D0 := 200) (k := 196) (aN := 55) (ci := 10) (as := []) (rest := [.int _]) (by decide) (m_law (RM_fr hM q3) hR.inv) rfl rfl rfl rfl (lwG_6 189 rfl rfl) (okRw_at okL_4 14 rfl) (Nat.le_of_ble_eq_true rfl) rfl (fun r M2 u => ?_)
  obtain ⟨rfl, u2, u3⟩ := u
  refine LS_ieq C0 (tgt := 1484) (okRw_at okL_4 15 rfl) (by decide) ?_
  exact next _ M2 (RC_frM q2 u3) u2
theorem lcs_7 (C0 : lw_At p s m meth c b L xs) (hSt : LK ad s nC nS) (hL : L ≤ 3072) {i cn : Nat} {s0 : St} {M : Mem} (hi : i + 6 ≤ L) (hR : RC cn M s0) (hM : RM M s0) (hc : cn < 90000) (next : ∀ (s1 : St) (M1 : Mem), RC (cn + 60) M1 s1 → RM M1 s1 → LSt p l e s m b below meth c ad ty D nC nS (nI i) 1484 [] M1) : LSt p l e s m b below meth c ad ty D nC nS (nI i) 405 [] M := by
  refine LS_al1 C0 (okRw_at okL_4 18 rfl) ?_
  refine LS_arg C0 hL hi (k := 1) (kz := 1) (by decide) (by decide) (okRw_at okL_4 19 rfl) (okRw_at okL_4 20 rfl) (okRw_at okL_4 21 rfl) (okRw_at okL_4 22 rfl) (okRw_at okL_4 23 rfl) ?_
  refine LS_call C0 hSt (D0 := 200) (k := 107) (aN := 0) (ci := 9) (as := [.int (xs (i + 1))]) (rest := []) (by decide) (pb_keeps hR) rfl rfl rfl rfl (lwG_3 125 rfl rfl) (okRw_at okL_4 24 rfl) (Nat.le_of_ble_eq_true rfl) rfl (fun r M1 q => ?_)
  obtain ⟨rfl, q2, q3⟩ := q
  refine LS_al2 C0 (okRw_at okL_4 25 rfl) ?_
  refine LS_arg C0 hL hi (k := 1) (kz := 1) (by decide) (by decide) (okRw_at okL_4 26 rfl) (okRw_at okL_4 27 rfl) (okRw_at okL_4 28 rfl) (okRw_at okL_4 29 rfl) (okRw_at okL_4 30 rfl) ?_
  refine LS_call C0 hSt (D0 := 200) (k := 209) (aN := 55) (ci := 10) (as := [.int (xs (i + 1))]) (rest := [.int _]) (by decide) (m_keeps (RM_fr hM q3) hR.inv) rfl rfl rfl rfl (lwG_7 8 rfl rfl) (okRw_at okL_4 31 rfl) (Nat.le_of_ble_eq_true rfl) rfl (fun r M2 u => ?_)
  obtain ⟨rfl, u2, u3⟩ := u
  refine LS_ieq C0 (tgt := 1484) (okRw_at okL_4 32 rfl) (by decide) ?_
  exact next _ M2 (RC_frM q2 u3) u2
theorem lcs_8 (C0 : lw_At p s m meth c b L xs) (hSt : LK ad s nC nS) (hL : L ≤ 3072) {i cn : Nat} {s0 : St} {M : Mem} (hi : i + 6 ≤ L) (hR : RC cn M s0) (hM : RM M s0) (hc : cn < 90000) (next : ∀ (s1 : St) (M1 : Mem), RC (cn + 60) M1 s1 → RM M1 s1 → LSt p l e s m b below meth c ad ty D nC nS (nI i) 1484 [] M1) : LSt p l e s m b below meth c ad ty D nC nS (nI i) 428 [] M := by
  refine LS_al1 C0 (okRw_at okL_4 35 rfl) ?_
  refine LS_arg C0 hL hi (k := 1) (kz := 1) (by decide) (by decide) (okRw_at okL_4 36 rfl) (okRw_at okL_4 37 rfl) (okRw_at okL_4 38 rfl) (okRw_at okL_4 39 rfl) (okRw_at okL_5 0 rfl) ?_
  refine LS_arg C0 hL hi (k := 2) (kz := 2) (by decide) (by decide) (okRw_at okL_5 1 rfl) (okRw_at okL_5 2 rfl) (okRw_at okL_5 3 rfl) (okRw_at okL_5 4 rfl) (okRw_at okL_5 5 rfl) ?_
  refine LS_call C0 hSt (D0 := 200) (k := 108) (aN := 0) (ci := 9) (as := [.int (xs (i + 1)), .int (xs (i + 2))]) (rest := []) (by decide) (pb_lean hR) rfl rfl rfl rfl (lwG_3 165 rfl rfl) (okRw_at okL_5 6 rfl) (Nat.le_of_ble_eq_true rfl) rfl (fun r M1 q => ?_)
  obtain ⟨rfl, q2, q3⟩ := q
  refine LS_al2 C0 (okRw_at okL_5 7 rfl) ?_
  refine LS_arg C0 hL hi (k := 1) (kz := 1) (by decide) (by decide) (okRw_at okL_5 8 rfl) (okRw_at okL_5 9 rfl) (okRw_at okL_5 10 rfl) (okRw_at okL_5 11 rfl) (okRw_at okL_5 12 rfl) ?_
  refine LS_arg C0 hL hi (k := 2) (kz := 2) (by decide) (by decide) (okRw_at okL_5 13 rfl) (okRw_at okL_5 14 rfl) (okRw_at okL_5 15 rfl) (okRw_at okL_5 16 rfl) (okRw_at okL_5 17 rfl) ?_
  refine LS_call C0 hSt (D0 := 200) (k := 210) (aN := 55) (ci := 10) (as := [.int (xs (i + 1)), .int (xs (i + 2))]) (rest := [.int _]) (by decide) (m_lean (RM_fr hM q3) hR.inv) rfl rfl rfl rfl (lwG_7 35 rfl rfl) (okRw_at okL_5 18 rfl) (Nat.le_of_ble_eq_true rfl) rfl (fun r M2 u => ?_)
  obtain ⟨rfl, u2, u3⟩ := u
  refine LS_ieq C0 (tgt := 1484) (okRw_at okL_5 19 rfl) (by decide) ?_
  exact next _ M2 (RC_frM q2 u3) u2
theorem lcs_9 (C0 : lw_At p s m meth c b L xs) (hSt : LK ad s nC nS) (hL : L ≤ 3072) {i cn : Nat} {s0 : St} {M : Mem} (hi : i + 6 ≤ L) (hR : RC cn M s0) (hM : RM M s0) (hc : cn < 90000) (next : ∀ (s1 : St) (M1 : Mem), RC (cn + 60) M1 s1 → RM M1 s1 → LSt p l e s m b below meth c ad ty D nC nS (nI i) 1484 [] M1) : LSt p l e s m b below meth c ad ty D nC nS (nI i) 461 [] M := by
  refine LS_al1 C0 (okRw_at okL_5 22 rfl) ?_
  refine LS_arg C0 hL hi (k := 1) (kz := 1) (by decide) (by decide) (okRw_at okL_5 23 rfl) (okRw_at okL_5 24 rfl) (okRw_at okL_5 25 rfl) (okRw_at okL_5 26 rfl) (okRw_at okL_5 27 rfl) ?_
  refine LS_arg C0 hL hi (k := 2) (kz := 2) (by decide) (by decide) (okRw_at okL_5 28 rfl) (okRw_at okL_5 29 rfl) (okRw_at okL_5 30 rfl) (okRw_at okL_5 31 rfl) (okRw_at okL_5 32 rfl) ?_
  refine LS_arg C0 hL hi (k := 3) (kz := 3) (by decide) (by decide) (okRw_at okL_5 33 rfl) (okRw_at okL_5 34 rfl) (okRw_at okL_5 35 rfl) (okRw_at okL_5 36 rfl) (okRw_at okL_5 37 rfl) ?_
  refine LS_call C0 hSt (D0 := 200) (k := 109) (aN := 0) (ci := 9) (as := [.int (xs (i + 1)), .int (xs (i + 2)), .int (xs (i + 3))]) (rest := []) (by decide) (pb_winter hR) rfl rfl rfl rfl (lwG_3 205 rfl rfl) (okRw_at okL_5 38 rfl) (Nat.le_of_ble_eq_true rfl) rfl (fun r M1 q => ?_)
  obtain ⟨rfl, q2, q3⟩ := q
  refine LS_al2 C0 (okRw_at okL_5 39 rfl) ?_
  refine LS_arg C0 hL hi (k := 1) (kz := 1) (by decide) (by decide) (okRw_at okL_6 0 rfl) (okRw_at okL_6 1 rfl) (okRw_at okL_6 2 rfl) (okRw_at okL_6 3 rfl) (okRw_at okL_6 4 rfl) ?_
  refine LS_arg C0 hL hi (k := 2) (kz := 2) (by decide) (by decide) (okRw_at okL_6 5 rfl) (okRw_at okL_6 6 rfl) (okRw_at okL_6 7 rfl) (okRw_at okL_6 8 rfl) (okRw_at okL_6 9 rfl) ?_
  refine LS_arg C0 hL hi (k := 3) (kz := 3) (by decide) (by decide) (okRw_at okL_6 10 rfl) (okRw_at okL_6 11 rfl) (okRw_at okL_6 12 rfl) (okRw_at okL_6 13 rfl) (okRw_at okL_6 14 rfl) ?_
  refine LS_call C0 hSt (D0 := 200) (k := 215) (aN := 55) (ci := 10) (as := [.int (xs (i + 1)), .int (xs (i + 2)), .int (xs (i + 3))]) (rest := [.int _]) (by decide) (m_winter (RM_fr hM q3) hR.inv) rfl rfl rfl rfl (lwG_7 65 rfl rfl) (okRw_at okL_6 15 rfl) (Nat.le_of_ble_eq_true rfl) rfl (fun r M2 u => ?_)
  obtain ⟨rfl, u2, u3⟩ := u
  refine LS_ieq C0 (tgt := 1484) (okRw_at okL_6 16 rfl) (by decide) ?_
  exact next _ M2 (RC_frM q2 u3) u2
theorem lcs_10 (C0 : lw_At p s m meth c b L xs) (hSt : LK ad s nC nS) (hL : L ≤ 3072) {i cn : Nat} {s0 : St} {M : Mem} (hi : i + 6 ≤ L) (hR : RC cn M s0) (hM : RM M s0) (hc : cn < 90000) (next : ∀ (s1 : St) (M1 : Mem), RC (cn + 60) M1 s1 → RM M1 s1 → LSt p l e s m b below meth c ad ty D nC nS (nI i) 1484 [] M1) : LSt p l e s m b below meth c ad ty D nC nS (nI i) 504 [] M := by
  refine LS_al1 C0 (okRw_at okL_6 19 rfl) ?_
  refine LS_arg C0 hL hi (k := 1) (kz := 1) (by decide) (by decide) (okRw_at okL_6 20 rfl) (okRw_at okL_6 21 rfl) (okRw_at okL_6 22 rfl) (okRw_at okL_6 23 rfl) (okRw_at okL_6 24 rfl) ?_
  refine LS_arg C0 hL hi (k := 2) (kz := 2) (by decide) (by decide) (okRw_at okL_6 25 rfl) (okRw_at okL_6 26 rfl) (okRw_at okL_6 27 rfl) (okRw_at okL_6 28 rfl) (okRw_at okL_6 29 rfl) ?_
  refine LS_arg C0 hL hi (k := 3) (kz := 3) (by decide) (by decide) (okRw_at okL_6 30 rfl) (okRw_at okL_6 31 rfl) (okRw_at okL_6 32 rfl) (okRw_at okL_6 33 rfl) (okRw_at okL_6 34 rfl) ?_
  refine LS_arg C0 hL hi (k := 4) (kz := 4) (by decide) (by decide) (okRw_at okL_6 35 rfl) (okRw_at okL_6 36 rfl) (okRw_at okL_6 37 rfl) (okRw_at okL_6 38 rfl) (okRw_at okL_6 39 rfl) ?_
  refine LS_call C0 hSt (D0 := 200) (k := 110) (aN := 0) (ci := 9) (as := [.int (xs (i + 1)), .int (xs (i + 2)), .int (xs (i + 3)), .int (xs (i + 4))]) (rest := []) (by decide) (pb_leanThen hR) rfl rfl rfl rfl (lwG_4 5 rfl rfl) (okRw_at okL_7 0 rfl) (Nat.le_of_ble_eq_true rfl) rfl (fun r M1 q => ?_)
  obtain ⟨rfl, q2, q3⟩ := q
  refine LS_al2 C0 (okRw_at okL_7 1 rfl) ?_
  refine LS_arg C0 hL hi (k := 1) (kz := 1) (by decide) (by decide) (okRw_at okL_7 2 rfl) (okRw_at okL_7 3 rfl) (okRw_at okL_7 4 rfl) (okRw_at okL_7 5 rfl) (okRw_at okL_7 6 rfl) ?_
  refine LS_arg C0 hL hi (k := 2) (kz := 2) (by decide) (by decide) (okRw_at okL_7 7 rfl) (okRw_at okL_7 8 rfl) (okRw_at okL_7 9 rfl) (okRw_at okL_7 10 rfl) (okRw_at okL_7 11 rfl) ?_
  refine LS_arg C0 hL hi (k := 3) (kz := 3) (by decide) (by decide) (okRw_at okL_7 12 rfl) (okRw_at okL_7 13 rfl) (okRw_at okL_7 14 rfl) (okRw_at okL_7 15 rfl) (okRw_at okL_7 16 rfl) ?_
  refine LS_arg C0 hL hi (k := 4) (kz := 4) (by decide) (by decide) (okRw_at okL_7 17 rfl) (okRw_at okL_7 18 rfl) (okRw_at okL_7 19 rfl) (okRw_at okL_7 20 rfl) (okRw_at okL_7 21 rfl) ?_
  refine LS_call C0 hSt (D0 := 200) (k := 216) (aN := 55) (ci := 10) (as := [.int (xs (i + 1)), .int (xs (i + 2)), .int (xs (i + 3)), .int (xs (i + 4))]) (rest := [.int _]) (by decide) (m_leanThen (RM_fr hM q3) hR.inv) rfl rfl rfl rfl (lwG_7 88 rfl rfl) (okRw_at okL_7 22 rfl) (Nat.le_of_ble_eq_true rfl) rfl (fun r M2 u => ?_)
  obtain ⟨rfl, u2, u3⟩ := u
  refine LS_ieq C0 (tgt := 1484) (okRw_at okL_7 23 rfl) (by decide) ?_
  exact next _ M2 (RC_frM q2 u3) u2
theorem lcs_11 (C0 : lw_At p s m meth c b L xs) (hSt : LK ad s nC nS) (hL : L ≤ 3072) {i cn : Nat} {s0 : St} {M : Mem} (hi : i + 6 ≤ L) (hR : RC cn M s0) (hM : RM M s0) (hc : cn < 90000) (next : ∀ (s1 : St) (M1 : Mem), RC (cn + 60) M1 s1 → RM M1 s1 → LSt p l e s m b below meth c ad ty D nC nS (nI i) 1484 [] M1) : LSt p l e s m b below meth c ad ty D nC nS (nI i) 557 [] M := by
  refine LS_al1 C0 (okRw_at okL_7 26 rfl) ?_
  refine LS_arg C0 hL hi (k := 1) (kz := 1) (by decide) (by decide) (okRw_at okL_7 27 rfl) (okRw_at okL_7 28 rfl) (okRw_at okL_7 29 rfl) (okRw_at okL_7 30 rfl) (okRw_at okL_7 31 rfl) ?_
  refine LS_arg C0 hL hi (k := 2) (kz := 2) (by decide) (by decide) (okRw_at okL_7 32 rfl) (okRw_at okL_7 33 rfl) (okRw_at okL_7 34 rfl) (okRw_at okL_7 35 rfl) (okRw_at okL_7 36 rfl) ?_
  refine LS_arg C0 hL hi (k := 3) (kz := 3) (by decide) (by decide) (okRw_at okL_7 37 rfl) (okRw_at okL_7 38 rfl) (okRw_at okL_7 39 rfl) (okRw_at okL_8 0 rfl) (okRw_at okL_8 1 rfl) ?_
  refine LS_call C0 hSt (D0 := 200) (k := 111) (aN := 0) (ci := 9) (as := [.int (xs (i + 1)), .int (xs (i + 2)), .int (xs (i + 3))]) (rest := []) (by decide) (pb_order hR) rfl rfl rfl rfl (lwG_4 9 rfl rfl) (okRw_at okL_8 2 rfl) (Nat.le_of_ble_eq_true rfl) rfl (fun r M1 q => ?_)
  obtain ⟨rfl, q2, q3⟩ := q
  refine LS_al2 C0 (okRw_at okL_8 3 rfl) ?_
  refine LS_arg C0 hL hi (k := 1) (kz := 1) (by decide) (by decide) (okRw_at okL_8 4 rfl) (okRw_at okL_8 5 rfl) (okRw_at okL_8 6 rfl) (okRw_at okL_8 7 rfl) (okRw_at okL_8 8 rfl) ?_
  refine LS_arg C0 hL hi (k := 2) (kz := 2) (by decide) (by decide) (okRw_at okL_8 9 rfl) (okRw_at okL_8 10 rfl) (okRw_at okL_8 11 rfl) (okRw_at okL_8 12 rfl) (okRw_at okL_8 13 rfl) ?_
  refine LS_arg C0 hL hi (k := 3) (kz := 3) (by decide) (by decide) (okRw_at okL_8 14 rfl) (okRw_at okL_8 15 rfl) (okRw_at okL_8 16 rfl) (okRw_at okL_8 17 rfl) (okRw_at okL_8 18 rfl) ?_
  refine LS_call C0 hSt (D0 := 200) (k := 219) (aN := 55) (ci := 10) (as := [.int (xs (i + 1)), .int (xs (i + 2)), .int (xs (i + 3))]) (rest := [.int _]) (by decide) (m_order (RM_fr hM q3) hR.inv) rfl rfl rfl rfl (lwG_7 92 rfl rfl) (okRw_at okL_8 19 rfl) (Nat.le_of_ble_eq_true rfl) rfl (fun r M2 u => ?_)
  obtain ⟨rfl, u2, u3⟩ := u
  refine LS_ieq C0 (tgt := 1484) (okRw_at okL_8 20 rfl) (by decide) ?_
  exact next _ M2 (RC_frM q2 u3) u2
theorem lcs_12 (C0 : lw_At p s m meth c b L xs) (hSt : LK ad s nC nS) (hL : L ≤ 3072) {i cn : Nat} {s0 : St} {M : Mem} (hi : i + 6 ≤ L) (hR : RC cn M s0) (hM : RM M s0) (hc : cn < 90000) (next : ∀ (s1 : St) (M1 : Mem), RC (cn + 60) M1 s1 → RM M1 s1 → LSt p l e s m b below meth c ad ty D nC nS (nI i) 1484 [] M1) : LSt p l e s m b below meth c ad ty D nC nS (nI i) 600 [] M := by
  refine LS_al1 C0 (okRw_at okL_8 23 rfl) ?_
  refine LS_arg C0 hL hi (k := 1) (kz := 1) (by decide) (by decide) (okRw_at okL_8 24 rfl) (okRw_at okL_8 25 rfl) (okRw_at okL_8 26 rfl) (okRw_at okL_8 27 rfl) (okRw_at okL_8 28 rfl) ?_
  refine LS_arg C0 hL hi (k := 2) (kz := 2) (by decide) (by decide) (okRw_at okL_8 29 rfl) (okRw_at okL_8 30 rfl) (okRw_at okL_8 31 rfl) (okRw_at okL_8 32 rfl) (okRw_at okL_8 33 rfl) ?_
  refine LS_arg C0 hL hi (k := 3) (kz := 3) (by decide) (by decide) (okRw_at okL_8 34 rfl) (okRw_at okL_8 35 rfl) (okRw_at okL_8 36 rfl) (okRw_at okL_8 37 rfl) (okRw_at okL_8 38 rfl) ?_
  refine LS_call C0 hSt (D0 := 200) (k := 112) (aN := 0) (ci := 9) (as := [.int (xs (i + 1)), .int (xs (i + 2)), .int (xs (i + 3))]) (rest := []) (by decide) (pb_letOut hR) rfl rfl rfl rfl (lwG_4 68 rfl rfl) (okRw_at okL_8 39 rfl) (Nat.le_of_ble_eq_true rfl) rfl (fun r M1 q => ?_)
  obtain ⟨rfl, q2, q3⟩ := q
  refine LS_al2 C0 (okRw_at okL_9 0 rfl) ?_
  refine LS_arg C0 hL hi (k := 1) (kz := 1) (by decide) (by decide) (okRw_at okL_9 1 rfl) (okRw_at okL_9 2 rfl) (okRw_at okL_9 3 rfl) (okRw_at okL_9 4 rfl) (okRw_at okL_9 5 rfl) ?_
  refine LS_arg C0 hL hi (k := 2) (kz := 2) (by decide) (by decide) (okRw_at okL_9 6 rfl) (okRw_at okL_9 7 rfl) (okRw_at okL_9 8 rfl) (okRw_at okL_9 9 rfl) (okRw_at okL_9 10 rfl) ?_
  refine LS_arg C0 hL hi (k := 3) (kz := 3) (by decide) (by decide) (okRw_at okL_9 11 rfl) (okRw_at okL_9 12 rfl) (okRw_at okL_9 13 rfl) (okRw_at okL_9 14 rfl) (okRw_at okL_9 15 rfl) ?_
  refine LS_call C0 hSt (D0 := 200) (k := 225) (aN := 55) (ci := 10) (as := [.int (xs (i + 1)), .int (xs (i + 2)), .int (xs (i + 3))]) (rest := [.int _]) (by decide) (m_letOut (RM_fr hM q3) hR.inv) rfl rfl rfl rfl (lwG_7 110 rfl rfl) (okRw_at okL_9 16 rfl) (Nat.le_of_ble_eq_true rfl) rfl (fun r M2 u => ?_)
  obtain ⟨rfl, u2, u3⟩ := u
  refine LS_ieq C0 (tgt := 1484) (okRw_at okL_9 17 rfl) (by decide) ?_
  exact next _ M2 (RC_frM q2 u3) u2
theorem lcs_13 (C0 : lw_At p s m meth c b L xs) (hSt : LK ad s nC nS) (hL : L ≤ 3072) {i cn : Nat} {s0 : St} {M : Mem} (hi : i + 6 ≤ L) (hR : RC cn M s0) (hM : RM M s0) (hc : cn < 90000) (next : ∀ (s1 : St) (M1 : Mem), RC (cn + 60) M1 s1 → RM M1 s1 → LSt p l e s m b below meth c ad ty D nC nS (nI i) 1484 [] M1) : LSt p l e s m b below meth c ad ty D nC nS (nI i) 643 [] M := by
  refine LS_al1 C0 (okRw_at okL_9 20 rfl) ?_
  refine LS_arg C0 hL hi (k := 1) (kz := 1) (by decide) (by decide) (okRw_at okL_9 21 rfl) (okRw_at okL_9 22 rfl) (okRw_at okL_9 23 rfl) (okRw_at okL_9 24 rfl) (okRw_at okL_9 25 rfl) ?_
  refine LS_arg C0 hL hi (k := 2) (kz := 2) (by decide) (by decide) (okRw_at okL_9 26 rfl) (okRw_at okL_9 27 rfl) (okRw_at okL_9 28 rfl) (okRw_at okL_9 29 rfl) (okRw_at okL_9 30 rfl) ?_
  refine LS_arg C0 hL hi (k := 3) (kz := 3) (by decide) (by decide) (okRw_at okL_9 31 rfl) (okRw_at okL_9 32 rfl) (okRw_at okL_9 33 rfl) (okRw_at okL_9 34 rfl) (okRw_at okL_9 35 rfl) ?_
  refine LS_call C0 hSt (D0 := 200) (k := 113) (aN := 0) (ci := 9) (as := [.int (xs (i + 1)), .int (xs (i + 2)), .int (xs (i + 3))]) (rest := []) (by decide) (pb_worth hR) rfl rfl rfl rfl (lwG_4 95 rfl rfl) (okRw_at okL_9 36 rfl) (Nat.le_of_ble_eq_true rfl) rfl (fun r M1 q => ?_)
  obtain ⟨rfl, q2, q3⟩ := q
  refine LS_al2 C0 (okRw_at okL_9 37 rfl) ?_
  refine LS_arg C0 hL hi (k := 1) (kz := 1) (by decide) (by decide) (okRw_at okL_9 38 rfl) (okRw_at okL_9 39 rfl) (okRw_at okL_10 0 rfl) (okRw_at okL_10 1 rfl) (okRw_at okL_10 2 rfl) ?_
  refine LS_arg C0 hL hi (k := 2) (kz := 2) (by decide) (by decide) (okRw_at okL_10 3 rfl) (okRw_at okL_10 4 rfl) (okRw_at okL_10 5 rfl) (okRw_at okL_10 6 rfl) (okRw_at okL_10 7 rfl) ?_
  refine LS_arg C0 hL hi (k := 3) (kz := 3) (by decide) (by decide) (okRw_at okL_10 8 rfl) (okRw_at okL_10 9 rfl) (okRw_at okL_10 10 rfl) (okRw_at okL_10 11 rfl) (okRw_at okL_10 12 rfl) ?_
  refine LS_call C0 hSt (D0 := 200) (k := 227) (aN := 55) (ci := 10) (as := [.int (xs (i + 1)), .int (xs (i + 2)), .int (xs (i + 3))]) (rest := [.int _]) (by decide) (m_worth (RM_fr hM q3) hR.inv) rfl rfl rfl rfl (lwG_7 136 rfl rfl) (okRw_at okL_10 13 rfl) (Nat.le_of_ble_eq_true rfl) rfl (fun r M2 u => ?_)
  obtain ⟨rfl, u2, u3⟩ := u
  refine LS_ieq C0 (tgt := 1484) (okRw_at okL_10 14 rfl) (by decide) ?_
  exact next _ M2 (RC_frM q2 u3) u2
theorem lcs_14 (C0 : lw_At p s m meth c b L xs) (hSt : LK ad s nC nS) (hL : L ≤ 3072) {i cn : Nat} {s0 : St} {M : Mem} (hi : i + 6 ≤ L) (hR : RC cn M s0) (hM : RM M s0) (hc : cn < 90000) (next : ∀ (s1 : St) (M1 : Mem), RC (cn + 60) M1 s1 → RM M1 s1 → LSt p l e s m b below meth c ad ty D nC nS (nI i) 1484 [] M1) : LSt p l e s m b below meth c ad ty D nC nS (nI i) 686 [] M := by
  refine LS_al1 C0 (okRw_at okL_10 17 rfl) ?_
  refine LS_arg C0 hL hi (k := 1) (kz := 1) (by decide) (by decide) (okRw_at okL_10 18 rfl) (okRw_at okL_10 19 rfl) (okRw_at okL_10 20 rfl) (okRw_at okL_10 21 rfl) (okRw_at okL_10 22 rfl) ?_
  refine LS_arg C0 hL hi (k := 2) (kz := 2) (by decide) (by decide) (okRw_at okL_10 23 rfl) (okRw_at okL_10 24 rfl) (okRw_at okL_10 25 rfl) (okRw_at okL_10 26 rfl) (okRw_at okL_10 27 rfl) ?_
  refine LS_arg C0 hL hi (k := 3) (kz := 3) (by decide) (by decide) (okRw_at okL_10 28 rfl) (okRw_at okL_10 29 rfl) (okRw_at okL_10 30 rfl) (okRw_at okL_10 31 rfl) (okRw_at okL_10 32 rfl) ?_
  refine LS_call C0 hSt (D0 := 200) (k := 114) (aN := 0) (ci := 9) (as := [.int (xs (i + 1)), .int (xs (i + 2)), .int (xs (i + 3))]) (rest := []) (by decide) (pb_likely hR) rfl rfl rfl rfl (lwG_4 107 rfl rfl) (okRw_at okL_10 33 rfl) (Nat.le_of_ble_eq_true rfl) rfl (fun r M1 q => ?_)
  obtain ⟨rfl, q2, q3⟩ := q
  refine LS_al2 C0 (okRw_at okL_10 34 rfl) ?_
  refine LS_arg C0 hL hi (k := 1) (kz := 1) (by decide) (by decide) (okRw_at okL_10 35 rfl) (okRw_at okL_10 36 rfl) (okRw_at okL_10 37 rfl) (okRw_at okL_10 38 rfl) (okRw_at okL_10 39 rfl) ?_
  refine LS_arg C0 hL hi (k := 2) (kz := 2) (by decide) (by decide) (okRw_at okL_11 0 rfl) (okRw_at okL_11 1 rfl) (okRw_at okL_11 2 rfl) (okRw_at okL_11 3 rfl) (okRw_at okL_11 4 rfl) ?_
  refine LS_arg C0 hL hi (k := 3) (kz := 3) (by decide) (by decide) (okRw_at okL_11 5 rfl) (okRw_at okL_11 6 rfl) (okRw_at okL_11 7 rfl) (okRw_at okL_11 8 rfl) (okRw_at okL_11 9 rfl) ?_
  refine LS_call C0 hSt (D0 := 200) (k := 230) (aN := 55) (ci := 10) (as := [.int (xs (i + 1)), .int (xs (i + 2)), .int (xs (i + 3))]) (rest := [.long _]) (by decide) (m_likely (RM_fr hM q3) hR.inv) rfl rfl rfl rfl (lwG_7 144 rfl rfl) (okRw_at okL_11 10 rfl) (Nat.le_of_ble_eq_true rfl) rfl (fun r M2 u => ?_)
  obtain ⟨rfl, u2, u3⟩ := u
  refine LS_leq C0 (tgt := 1484) (okRw_at okL_11 11 rfl) (okRw_at okL_11 12 rfl) (by decide) ?_
  exact next _ M2 (RC_frM q2 u3) u2
theorem lcs_15 (C0 : lw_At p s m meth c b L xs) (hSt : LK ad s nC nS) (hL : L ≤ 3072) {i cn : Nat} {s0 : St} {M : Mem} (hi : i + 6 ≤ L) (hR : RC cn M s0) (hM : RM M s0) (hc : cn < 90000) (next : ∀ (s1 : St) (M1 : Mem), RC (cn + 60) M1 s1 → RM M1 s1 → LSt p l e s m b below meth c ad ty D nC nS (nI i) 1484 [] M1) : LSt p l e s m b below meth c ad ty D nC nS (nI i) 730 [] M := by
  refine LS_al1 C0 (okRw_at okL_11 15 rfl) ?_
  refine LS_arg C0 hL hi (k := 1) (kz := 1) (by decide) (by decide) (okRw_at okL_11 16 rfl) (okRw_at okL_11 17 rfl) (okRw_at okL_11 18 rfl) (okRw_at okL_11 19 rfl) (okRw_at okL_11 20 rfl) ?_
  refine LS_arg C0 hL hi (k := 2) (kz := 2) (by decide) (by decide) (okRw_at okL_11 21 rfl) (okRw_at okL_11 22 rfl) (okRw_at okL_11 23 rfl) (okRw_at okL_11 24 rfl) (okRw_at okL_11 25 rfl) ?_
  refine LS_call C0 hSt (D0 := 200) (k := 115) (aN := 0) (ci := 9) (as := [.int (xs (i + 1)), .int (xs (i + 2))]) (rest := []) (by decide) (pb_mean hR) rfl rfl rfl rfl (lwG_4 119 rfl rfl) (okRw_at okL_11 26 rfl) (Nat.le_of_ble_eq_true rfl) rfl (fun r M1 q => ?_)
  obtain ⟨rfl, q2, q3⟩ := q
  refine LS_al2 C0 (okRw_at okL_11 27 rfl) ?_
  refine LS_arg C0 hL hi (k := 1) (kz := 1) (by decide) (by decide) (okRw_at okL_11 28 rfl) (okRw_at okL_11 29 rfl) (okRw_at okL_11 30 rfl) (okRw_at okL_11 31 rfl) (okRw_at okL_11 32 rfl) ?_
  refine LS_arg C0 hL hi (k := 2) (kz := 2) (by decide) (by decide) (okRw_at okL_11 33 rfl) (okRw_at okL_11 34 rfl) (okRw_at okL_11 35 rfl) (okRw_at okL_11 36 rfl) (okRw_at okL_11 37 rfl) ?_
  refine LS_call C0 hSt (D0 := 200) (k := 231) (aN := 55) (ci := 10) (as := [.int (xs (i + 1)), .int (xs (i + 2))]) (rest := [.long _]) (by decide) (m_mean (RM_fr hM q3) hR.inv) rfl rfl rfl rfl (lwG_7 155 rfl rfl) (okRw_at okL_11 38 rfl) (Nat.le_of_ble_eq_true rfl) rfl (fun r M2 u => ?_)
  obtain ⟨rfl, u2, u3⟩ := u
  refine LS_leq C0 (tgt := 1484) (okRw_at okL_11 39 rfl) (okRw_at okL_12 0 rfl) (by decide) ?_
  exact next _ M2 (RC_frM q2 u3) u2
theorem lcs_16 (C0 : lw_At p s m meth c b L xs) (hSt : LK ad s nC nS) (hL : L ≤ 3072) {i cn : Nat} {s0 : St} {M : Mem} (hi : i + 6 ≤ L) (hR : RC cn M s0) (hM : RM M s0) (hc : cn < 90000) (next : ∀ (s1 : St) (M1 : Mem), RC (cn + 60) M1 s1 → RM M1 s1 → LSt p l e s m b below meth c ad ty D nC nS (nI i) 1484 [] M1) : LSt p l e s m b below meth c ad ty D nC nS (nI i) 764 [] M := by
  refine LS_al1 C0 (okRw_at okL_12 3 rfl) ?_
  refine LS_arg C0 hL hi (k := 1) (kz := 1) (by decide) (by decide) (okRw_at okL_12 4 rfl) (okRw_at okL_12 5 rfl) (okRw_at okL_12 6 rfl) (okRw_at okL_12 7 rfl) (okRw_at okL_12 8 rfl) ?_
  refine LS_arg C0 hL hi (k := 2) (kz := 2) (by decide) (by decide) (okRw_at okL_12 9 rfl) (okRw_at okL_12 10 rfl) (okRw_at okL_12 11 rfl) (okRw_at okL_12 12 rfl) (okRw_at okL_12 13 rfl) ?_
  refine LS_call C0 hSt (D0 := 200) (k := 116) (aN := 0) (ci := 9) (as := [.int (xs (i + 1)), .int (xs (i + 2))]) (rest := []) (by decide) (pb_judge hR) rfl rfl rfl rfl (lwG_4 123 rfl rfl) (okRw_at okL_12 14 rfl) (Nat.le_of_ble_eq_true rfl) rfl (fun r M1 q => ?_)
  obtain ⟨rfl, q2, q3⟩ := q
  refine LS_al2 C0 (okRw_at okL_12 15 rfl) ?_
  refine LS_arg C0 hL hi (k := 1) (kz := 1) (by decide) (by decide) (okRw_at okL_12 16 rfl) (okRw_at okL_12 17 rfl) (okRw_at okL_12 18 rfl) (okRw_at okL_12 19 rfl) (okRw_at okL_12 20 rfl) ?_
  refine LS_arg C0 hL hi (k := 2) (kz := 2) (by decide) (by decide) (okRw_at okL_12 21 rfl) (okRw_at okL_12 22 rfl) (okRw_at okL_12 23 rfl) (okRw_at okL_12 24 rfl) (okRw_at okL_12 25 rfl) ?_
  refine LS_call C0 hSt (D0 := 200) (k := 232) (aN := 55) (ci := 10) (as := [.int (xs (i + 1)), .int (xs (i + 2))]) (rest := [.int _]) (by decide) (m_judge (RM_fr hM q3) hR.inv) rfl rfl rfl rfl (lwG_7 159 rfl rfl) (okRw_at okL_12 26 rfl) (Nat.le_of_ble_eq_true rfl) rfl (fun r M2 u => ?_)
  obtain ⟨rfl, u2, u3⟩ := u
  refine LS_ieq C0 (tgt := 1484) (okRw_at okL_12 27 rfl) (by decide) ?_
  exact next _ M2 (RC_frM q2 u3) u2
theorem lcs_17 (C0 : lw_At p s m meth c b L xs) (hSt : LK ad s nC nS) (hL : L ≤ 3072) {i cn : Nat} {s0 : St} {M : Mem} (hi : i + 6 ≤ L) (hR : RC cn M s0) (hM : RM M s0) (hc : cn < 90000) (next : ∀ (s1 : St) (M1 : Mem), RC (cn + 60) M1 s1 → RM M1 s1 → LSt p l e s m b below meth c ad ty D nC nS (nI i) 1484 [] M1) : LSt p l e s m b below meth c ad ty D nC nS (nI i) 797 [] M := by
  refine LS_al1 C0 (okRw_at okL_12 30 rfl) ?_
  refine LS_arg C0 hL hi (k := 1) (kz := 1) (by decide) (by decide) (okRw_at okL_12 31 rfl) (okRw_at okL_12 32 rfl) (okRw_at okL_12 33 rfl) (okRw_at okL_12 34 rfl) (okRw_at okL_12 35 rfl) ?_
  refine LS_arg C0 hL hi (k := 2) (kz := 2) (by decide) (by decide) (okRw_at okL_12 36 rfl) (okRw_at okL_12 37 rfl) (okRw_at okL_12 38 rfl) (okRw_at okL_12 39 rfl) (okRw_at okL_13 0 rfl) ?_
  refine LS_call C0 hSt (D0 := 200) (k := 117) (aN := 0) (ci := 9) (as := [.int (xs (i + 1)), .int (xs (i + 2))]) (rest := []) (by decide) (pb_top hR) rfl rfl rfl rfl (lwG_4 127 rfl rfl) (okRw_at okL_13 1 rfl) (Nat.le_of_ble_eq_true rfl) rfl (fun r M1 q => ?_)
  obtain ⟨rfl, q2, q3⟩ := q
  refine LS_al2 C0 (okRw_at okL_13 2 rfl) ?_
  refine LS_arg C0 hL hi (k := 1) (kz := 1) (by decide) (by decide) (okRw_at okL_13 3 rfl) (okRw_at okL_13 4 rfl) (okRw_at okL_13 5 rfl) (okRw_at okL_13 6 rfl) (okRw_at okL_13 7 rfl) ?_
  refine LS_arg C0 hL hi (k := 2) (kz := 2) (by decide) (by decide) (okRw_at okL_13 8 rfl) (okRw_at okL_13 9 rfl) (okRw_at okL_13 10 rfl) (okRw_at okL_13 11 rfl) (okRw_at okL_13 12 rfl) ?_
  refine LS_call C0 hSt (D0 := 200) (k := 233) (aN := 55) (ci := 10) (as := [.int (xs (i + 1)), .int (xs (i + 2))]) (rest := [.int _]) (by decide) (m_top (RM_fr hM q3) hR.inv) rfl rfl rfl rfl (lwG_7 163 rfl rfl) (okRw_at okL_13 13 rfl) (Nat.le_of_ble_eq_true rfl) rfl (fun r M2 u => ?_)
  obtain ⟨rfl, u2, u3⟩ := u
  refine LS_ieq C0 (tgt := 1484) (okRw_at okL_13 14 rfl) (by decide) ?_
  exact next _ M2 (RC_frM q2 u3) u2
theorem lcs_18 (C0 : lw_At p s m meth c b L xs) (hSt : LK ad s nC nS) (hL : L ≤ 3072) {i cn : Nat} {s0 : St} {M : Mem} (hi : i + 6 ≤ L) (hR : RC cn M s0) (hM : RM M s0) (hc : cn < 90000) (next : ∀ (s1 : St) (M1 : Mem), RC (cn + 60) M1 s1 → RM M1 s1 → LSt p l e s m b below meth c ad ty D nC nS (nI i) 1484 [] M1) : LSt p l e s m b below meth c ad ty D nC nS (nI i) 830 [] M := by
  refine LS_al1 C0 (okRw_at okL_13 17 rfl) ?_
  refine LS_arg C0 hL hi (k := 1) (kz := 1) (by decide) (by decide) (okRw_at okL_13 18 rfl) (okRw_at okL_13 19 rfl) (okRw_at okL_13 20 rfl) (okRw_at okL_13 21 rfl) (okRw_at okL_13 22 rfl) ?_
  refine LS_arg C0 hL hi (k := 2) (kz := 2) (by decide) (by decide) (okRw_at okL_13 23 rfl) (okRw_at okL_13 24 rfl) (okRw_at okL_13 25 rfl) (okRw_at okL_13 26 rfl) (okRw_at okL_13 27 rfl) ?_
  refine LS_call C0 hSt (D0 := 200) (k := 118) (aN := 0) (ci := 9) (as := [.int (xs (i + 1)), .int (xs (i + 2))]) (rest := []) (by decide) (pb_hours hR) rfl rfl rfl rfl (lwG_4 149 rfl rfl) (okRw_at okL_13 28 rfl) (Nat.le_of_ble_eq_true rfl) rfl (fun r M1 q => ?_)
  obtain ⟨rfl, q2, q3⟩ := q
  refine LS_al2 C0 (okRw_at okL_13 29 rfl) ?_
  refine LS_arg C0 hL hi (k := 1) (kz := 1) (by decide) (by decide) (okRw_at okL_13 30 rfl) (okRw_at okL_13 31 rfl) (okRw_at okL_13 32 rfl) (okRw_at okL_13 33 rfl) (okRw_at okL_13 34 rfl) ?_
  refine LS_arg C0 hL hi (k := 2) (kz := 2) (by decide) (by decide) (okRw_at okL_13 35 rfl) (okRw_at okL_13 36 rfl) (okRw_at okL_13 37 rfl) (okRw_at okL_13 38 rfl) (okRw_at okL_13 39 rfl) ?_
  refine LS_call C0 hSt (D0 := 200) (k := 234) (aN := 55) (ci := 10) (as := [.int (xs (i + 1)), .int (xs (i + 2))]) (rest := [.int _]) (by decide) (m_hours (RM_fr hM q3) hR.inv) rfl rfl rfl rfl (lwG_7 167 rfl rfl) (okRw_at okL_14 0 rfl) (Nat.le_of_ble_eq_true rfl) rfl (fun r M2 u => ?_)
  obtain ⟨rfl, u2, u3⟩ := u
  refine LS_ieq C0 (tgt := 1484) (okRw_at okL_14 1 rfl) (by decide) ?_
  exact next _ M2 (RC_frM q2 u3) u2
theorem lcs_19 (C0 : lw_At p s m meth c b L xs) (hSt : LK ad s nC nS) (hL : L ≤ 3072) {i cn : Nat} {s0 : St} {M : Mem} (hi : i + 6 ≤ L) (hR : RC cn M s0) (hM : RM M s0) (hc : cn < 90000) (next : ∀ (s1 : St) (M1 : Mem), RC (cn + 60) M1 s1 → RM M1 s1 → LSt p l e s m b below meth c ad ty D nC nS (nI i) 1484 [] M1) : LSt p l e s m b below meth c ad ty D nC nS (nI i) 863 [] M := by
  refine LS_al1 C0 (okRw_at okL_14 4 rfl) ?_
  refine LS_arg C0 hL hi (k := 1) (kz := 1) (by decide) (by decide) (okRw_at okL_14 5 rfl) (okRw_at okL_14 6 rfl) (okRw_at okL_14 7 rfl) (okRw_at okL_14 8 rfl) (okRw_at okL_14 9 rfl) ?_
  refine LS_arg C0 hL hi (k := 2) (kz := 2) (by decide) (by decide) (okRw_at okL_14 10 rfl) (okRw_at okL_14 11 rfl) (okRw_at okL_14 12 rfl) (okRw_at okL_14 13 rfl) (okRw_at okL_14 14 rfl) ?_
  refine LS_call C0 hSt (D0 := 200) (k := 119) (aN := 0) (ci := 9) (as := [.int (xs (i + 1)), .int (xs (i + 2))]) (rest := []) (by decide) (pb_young hR) rfl rfl rfl rfl (lwG_4 156 rfl rfl) (okRw_at okL_14 15 rfl) (Nat.le_of_ble_eq_true rfl) rfl (fun r M1 q => ?_)
  obtain ⟨rfl, q2, q3⟩ := q
  refine LS_al2 C0 (okRw_at okL_14 16 rfl) ?_
  refine LS_arg C0 hL hi (k := 1) (kz := 1) (by decide) (by decide) (okRw_at okL_14 17 rfl) (okRw_at okL_14 18 rfl) (okRw_at okL_14 19 rfl) (okRw_at okL_14 20 rfl) (okRw_at okL_14 21 rfl) ?_
  refine LS_arg C0 hL hi (k := 2) (kz := 2) (by decide) (by decide) (okRw_at okL_14 22 rfl) (okRw_at okL_14 23 rfl) (okRw_at okL_14 24 rfl) (okRw_at okL_14 25 rfl) (okRw_at okL_14 26 rfl) ?_
  refine LS_call C0 hSt (D0 := 200) (k := 235) (aN := 55) (ci := 10) (as := [.int (xs (i + 1)), .int (xs (i + 2))]) (rest := [.int _]) (by decide) (m_young (RM_fr hM q3) hR.inv) rfl rfl rfl rfl (lwG_7 171 rfl rfl) (okRw_at okL_14 27 rfl) (Nat.le_of_ble_eq_true rfl) rfl (fun r M2 u => ?_)
  obtain ⟨rfl, u2, u3⟩ := u
  refine LS_ieq C0 (tgt := 1484) (okRw_at okL_14 28 rfl) (by decide) ?_
  exact next _ M2 (RC_frM q2 u3) u2
end LAW
