/-! a step: fields, arrays, calls -/
section Hrd
variable {d k : Nat} {Q : Po} {pc cut ix len aux : Nat} {lv : Lv} {st : List Value} {M : Mem} {nx : Lv → List Value → Mem → Prop}
theorem ok_getfield (hdec : decode (mi k).2.1 pc = .ok (.getfield ix, len)) (hI : okI (mi k).2.2.2.2.1 (pc, cut, .getfield ix, len, aux) = true) (hnx : ∀ lv st M, nx lv st M → BodyK d k (pc + len) lv st M Q)
    (h : pR st fun a r => getf aux a M fun v => nx lv (v :: r) M) : BodyK d k pc lv st M Q := by
  intro p l e s m args below meth c ad ty D B0 H locs ls hFix hB hSt hW hS hl
  obtain ⟨hx, hb, hr, hml, hown, hts, hlocks, hk⟩ := id hFix
  obtain ⟨hP, hK, hD⟩ := id hW
  simp only [okI, Bool.and_eq_true, Bool.or_eq_true] at hI
  obtain ⟨h0, h1⟩ := hI
  have h0 := Nat.eq_of_beq_eq_true h0
  subst h0
  have go : ∀ {st' : List Value}, nx lv st' M → W p l e (roomD d) s m args below meth c H locs 0 0 (MQ below (Qcc ad ty D B0 Q) args s 0 0 (inA B0)) (F0 m (pc + 3) ls (st'.map (cv ad))) :=
    fun hn => hnx _ _ _ hn p l e s m args below meth c ad ty D B0 H locs ls hFix hB hSt hW hS hl
  obtain ⟨a, r, e0, hh⟩ := pR_e h; clear h; subst e0; have h := hh; clear hh
  rcases getf_e h with ⟨ci, fs, hla, rfl, hj, hh⟩ | ⟨rfl, hh⟩
  · rcases h1 with h1 | h1
    · obtain ⟨b1, b2, hlink, hsame⟩ := fld_e h1
      exact va_get hx hb hts (cf_all b1).2.1 hown hK hP a (wsA_obj hla) (cf_all b1).1 (aux % 100) b2 (hts _ hlink) (by rw [hsame]; exact fun _ h => h) (cfs_at (d := 0) hj) hdec (go (st' := fval M a (aux % 100) (nth 0 fs (aux % 100)) :: r) hh)
    · obtain ⟨-, j, rfl, -⟩ := sfl_e (by rw [Bool.and_eq_true]; exact h1)
      have := (lay0 hla).1
      omega
  · rcases h1 with h1 | h1
    · have := (fld_e h1).1
      rcases hh with ⟨rfl, -⟩ | ⟨rfl, -⟩ <;> exact absurd this (by decide)
    · obtain ⟨ho, j, hj, hlink⟩ := sfl_e (by rw [Bool.and_eq_true]; exact h1)
      rw [ho] at hown
      rcases hh with ⟨rfl, hh⟩ | ⟨rfl, hh⟩
      · obtain rfl : j = 1 := by omega
        exact vk_getf hx hb (hSt.2.2.2.2.2.1.1 0 (by omega)).2.2.1 hS hown (hts _ hlink) (fun _ h => h) hdec (go (st' := .ref 911 :: r) hh)
      · obtain rfl : j = 2 := by omega
        exact vk_getf hx hb (hSt.2.2.2.2.2.1.1 0 (by omega)).2.1 hS hown (hts _ hlink) (fun _ h => h) hdec (go (st' := .int 0 :: r) hh)
theorem ok_putfield (hdec : decode (mi k).2.1 pc = .ok (.putfield ix, len)) (hI : okI (mi k).2.2.2.2.1 (pc, cut, .putfield ix, len, aux) = true) (hnx : ∀ lv st M, nx lv st M → BodyK d k (pc + len) lv st M Q)
    (h : pI st fun x r => pR r fun a q => setf aux a (bok aux x (nx lv q (mI M a (aux % 100) x)))) : BodyK d k pc lv st M Q := by
  intro p l e s m args below meth c ad ty D B0 H locs ls hFix hB hSt hW hS hl
  obtain ⟨hx, hb, hr, hml, hown, hts, hlocks, hk⟩ := id hFix
  obtain ⟨hP, hK, hD⟩ := id hW
  simp only [okI, Bool.and_eq_true] at hI
  obtain ⟨h0, h1⟩ := hI
  have h0 := Nat.eq_of_beq_eq_true h0
  subst h0
  obtain ⟨x, r, e0, hh⟩ := pI_e h; clear h; subst e0; have h := hh; clear hh
  obtain ⟨a, q, e0, hh⟩ := pR_e h; clear h; subst e0; have h := hh; clear hh
  obtain ⟨ci, fs, hla, rfl, hj, hz, h⟩ := setf_e h
  obtain ⟨hbo, h⟩ := bok_e h
  obtain ⟨b1, b2, hlink, hsame⟩ := fld_e h1
  obtain ⟨hfin, hty⟩ := (lay0 hla).2.2 (aux % 100) hj hz
  have hn : narrow (tyF (aux / 100) (aux % 100)) (.int x) = .int x ∧ fits (tyF (aux / 100) (aux % 100)) (.int x) = true := by
    rcases hty with ⟨t1, -⟩ | ⟨t1, t2⟩
    · rw [t1]; exact ⟨rfl, rfl⟩
    · rw [t1]; rcases hbo t2 with rfl | rfl <;> exact ⟨rfl, rfl⟩
  refine va_put hx hb hts (cf_all b1).2.1 (tyF (aux / 100)) (cf_all b1).2.2.1 (cf_all b1).2.2.2 hown hK hP hD hS a (wsA_obj hla) (cf_all b1).1 (aux % 100) b2 (hts _ hlink) (by rw [hsame]; exact fun _ h => h) hfin ((cf_all b1).2.2.1 _ b2) hn.1 hn.2 (by rw [cfs_len]; exact hj) hdec (fun H1 locs1 hP1 hD1 hS1 => ?_)
  replace hP1 : va_P D vwCl ((wsA ad ty M).set a (ad a, .inr (aux / 100, (cfs ad M a fs).set (aux % 100) (.int x)))) H1 := hP1
  replace hD1 : va_D (inA B0) ((wsA ad ty M).set a (ad a, .inr (aux / 100, (cfs ad M a fs).set (aux % 100) (.int x)))) := hD1
  rw [set_fld hla hz] at hP1 hD1
  exact hnx _ _ _ h p l e s m args below meth c ad ty D B0 H1 locs1 ls hFix hB hSt ⟨hP1, hK, hD1⟩ hS1 hl
theorem ok_getstatic (hdec : decode (mi k).2.1 pc = .ok (.getstatic ix, len)) (hI : okI (mi k).2.2.2.2.1 (pc, cut, .getstatic ix, len, aux) = true) (hnx : ∀ lv st M, nx lv st M → BodyK d k (pc + len) lv st M Q)
    (h : gst aux fun v => nx lv (v :: st) M) : BodyK d k pc lv st M Q := by
  intro p l e s m args below meth c ad ty D B0 H locs ls hFix hB hSt hW hS hl
  obtain ⟨hx, hb, hr, hml, hown, hts, hlocks, hk⟩ := id hFix
  obtain ⟨hP, hK, hD⟩ := id hW
  simp only [okI, Bool.and_eq_true, Bool.or_eq_true] at hI
  obtain ⟨h0, h1⟩ := hI
  have h0 := Nat.eq_of_beq_eq_true h0
  subst h0
  have go : ∀ {st' : List Value}, nx lv st' M → W p l e (roomD d) s m args below meth c H locs 0 0 (MQ below (Qcc ad ty D B0 Q) args s 0 0 (inA B0)) (F0 m (pc + 3) ls (st'.map (cv ad))) :=
    fun hn => hnx _ _ _ hn p l e s m args below meth c ad ty D B0 H locs ls hFix hB hSt hW hS hl
  rcases gst_e h with ⟨rfl, hh⟩ | ⟨rfl, hh⟩ | ⟨rfl, hh⟩
  · rcases h1 with h1 | h1
    · cases h1
    · exact va_gets hx hb hSt.1 hS hown (hts _ (gts_e h1)) (fun _ h => h) hdec (go (st' := .ref 900 :: st) hh)
  · rcases h1 with h1 | h1
    · cases h1
    · exact va_gets hx hb hSt.2.1 hS hown (hts _ (gts_e h1)) (fun _ h => h) hdec (go (st' := .ref 901 :: st) hh)
  · rcases h1 with h1 | h1
    · cases h1
    · exact va_gets hx hb hSt.2.2.2.1 hS hown (hts _ (gts_e h1)) (fun _ h => h) hdec (go (st' := .int 1 :: st) hh)
theorem ok_iaload (hdec : decode (mi k).2.1 pc = .ok (.iaload, 1)) (hnx : ∀ lv st M, nx lv st M → BodyK d k (pc + 1) lv st M Q)
    (h : pI st fun i r => pR r fun a q => arI 0 a i M fun x => nx lv (.int x :: q) M) : BodyK d k pc lv st M Q := by
  intro p l e s m args below meth c ad ty D B0 H locs ls hFix hB hSt hW hS hl
  obtain ⟨hx, hb, hr, hml, hown, hts, hlocks, hk⟩ := id hFix
  obtain ⟨hP, hK, hD⟩ := id hW
  have go : ∀ {st' : List Value}, nx lv st' M → W p l e (roomD d) s m args below meth c H locs 0 0 (MQ below (Qcc ad ty D B0 Q) args s 0 0 (inA B0)) (F0 m (pc + 1) ls (st'.map (cv ad))) :=
    fun hn => hnx _ _ _ hn p l e s m args below meth c ad ty D B0 H locs ls hFix hB hSt hW hS hl
  obtain ⟨i, r, e0, hh⟩ := pI_e h; clear h; subst e0; have h := hh; clear hh
  obtain ⟨a, q, e0, hh⟩ := pR_e h; clear h; subst e0; have h := hh; clear hh
  rcases arI_e h with ⟨n, hla, hin, h⟩ | ⟨n, hla, hin, h⟩
  · exact va_iald hx hb hK hP a 0 (wsA_i hla) rfl hin hdec (go (st' := .int _ :: q) h)
  · rcases layK4 hla with ⟨-, hn, ha⟩ | ⟨ht, -⟩
    · cases hn
      exact va_ti hx hb (hSt.2.2.2.2.1 a ha) hS hin rfl hdec (go (st' := .int _ :: q) h)
    · cases ht
theorem ok_baload (hdec : decode (mi k).2.1 pc = .ok (.baload, 1)) (hnx : ∀ lv st M, nx lv st M → BodyK d k (pc + 1) lv st M Q)
    (h : pI st fun i r => pR r fun a q => arI 1 a i M fun x => nx lv (.int x :: q) M) : BodyK d k pc lv st M Q := by
  intro p l e s m args below meth c ad ty D B0 H locs ls hFix hB hSt hW hS hl
  obtain ⟨hx, hb, hr, hml, hown, hts, hlocks, hk⟩ := id hFix
  obtain ⟨hP, hK, hD⟩ := id hW
  have go : ∀ {st' : List Value}, nx lv st' M → W p l e (roomD d) s m args below meth c H locs 0 0 (MQ below (Qcc ad ty D B0 Q) args s 0 0 (inA B0)) (F0 m (pc + 1) ls (st'.map (cv ad))) :=
    fun hn => hnx _ _ _ hn p l e s m args below meth c ad ty D B0 H locs ls hFix hB hSt hW hS hl
  obtain ⟨i, r, e0, hh⟩ := pI_e h; clear h; subst e0; have h := hh; clear hh
  obtain ⟨a, q, e0, hh⟩ := pR_e h; clear h; subst e0; have h := hh; clear hh
  rcases arI_e h with ⟨n, hla, hin, h⟩ | ⟨n, hla, hin, h⟩
  · exact va_bald hx hb hK hP a 1 (wsA_i hla) rfl hin hdec (go (st' := .int _ :: q) h)
  · rcases layK4 hla with ⟨ht, -⟩ | ⟨-, hn, ha⟩
    · cases ht
    · cases hn
      subst ha
      exact va_tb hx hb (hSt.2.2.2.2.2.1.1 0 (by omega)).2.2.2 hS hin rfl hdec (go (st' := .int _ :: q) h)
theorem ok_laload (hdec : decode (mi k).2.1 pc = .ok (.laload, 1)) (hnx : ∀ lv st M, nx lv st M → BodyK d k (pc + 1) lv st M Q)
    (h : pI st fun i r => pR r fun a q => arL a i (nx lv (.long (M.2 a i.toNatClampNeg) :: q) M)) : BodyK d k pc lv st M Q := by
  intro p l e s m args below meth c ad ty D B0 H locs ls hFix hB hSt hW hS hl
  obtain ⟨hx, hb, hr, hml, hown, hts, hlocks, hk⟩ := id hFix
  obtain ⟨hP, hK, hD⟩ := id hW
  obtain ⟨i, r, e0, hh⟩ := pI_e h; clear h; subst e0; have h := hh; clear hh
  obtain ⟨a, q, e0, hh⟩ := pR_e h; clear h; subst e0; have h := hh; clear hh
  obtain ⟨n, hla, hin, h⟩ := arL_e h
  exact va_lald hx hb hK hP a 3 (wsA_l hla) rfl hin hdec (hnx _ _ _ h p l e s m args below meth c ad ty D B0 H locs ls hFix hB hSt hW hS hl)
theorem ok_aaload (hdec : decode (mi k).2.1 pc = .ok (.aaload, 1)) (hnx : ∀ lv st M, nx lv st M → BodyK d k (pc + 1) lv st M Q)
    (h : pI st fun i r => pR r fun a q => arQ a i fun b => nx lv (.ref b :: q) M) : BodyK d k pc lv st M Q := by
  intro p l e s m args below meth c ad ty D B0 H locs ls hFix hB hSt hW hS hl
  obtain ⟨hx, hb, hr, hml, hown, hts, hlocks, hk⟩ := id hFix
  obtain ⟨hP, hK, hD⟩ := id hW
  obtain ⟨i, r, e0, hh⟩ := pI_e h; clear h; subst e0; have h := hh; clear hh
  obtain ⟨a, q, e0, hh⟩ := pR_e h; clear h; subst e0; have h := hh; clear hh
  obtain ⟨n, b, sz, hla, hin, h⟩ := arQ_e h
  exact va_aldq hx hb hK hP a 4 (wsA_q hla) rfl hin hdec (hnx _ _ _ h p l e s m args below meth c ad ty D B0 H locs ls hFix hB hSt hW hS hl)
theorem ok_iastore (hdec : decode (mi k).2.1 pc = .ok (.iastore, 1)) (hnx : ∀ lv st M, nx lv st M → BodyK d k (pc + 1) lv st M Q)
    (h : pI st fun x r => pI r fun i q => pR q fun a z => asI 0 a i (nx lv z (mI M a i.toNatClampNeg x))) : BodyK d k pc lv st M Q := by
  intro p l e s m args below meth c ad ty D B0 H locs ls hFix hB hSt hW hS hl
  obtain ⟨hx, hb, hr, hml, hown, hts, hlocks, hk⟩ := id hFix
  obtain ⟨hP, hK, hD⟩ := id hW
  obtain ⟨x, r, e0, hh⟩ := pI_e h; clear h; subst e0; have h := hh; clear hh
  obtain ⟨i, r, e0, hh⟩ := pI_e h; clear h; subst e0; have h := hh; clear hh
  obtain ⟨a, q, e0, hh⟩ := pR_e h; clear h; subst e0; have h := hh; clear hh
  obtain ⟨n, hla, hin, h⟩ := asI_e h
  refine va_iast hx hb hK hP hD hS a 0 (wsA_i hla) rfl hin hdec (fun H1 locs1 hP1 hD1 hS1 => ?_)
  rw [set_arr hla] at hP1 hD1
  exact hnx _ _ _ h p l e s m args below meth c ad ty D B0 H1 locs1 ls hFix hB hSt ⟨hP1, hK, hD1⟩ hS1 hl
theorem ok_bastore (hdec : decode (mi k).2.1 pc = .ok (.bastore, 1)) (hnx : ∀ lv st M, nx lv st M → BodyK d k (pc + 1) lv st M Q)
    (h : pI st fun x r => pI r fun i q => pR q fun a z => asI 1 a i (nx lv z (mI M a i.toNatClampNeg (vp_nar .byte x)))) : BodyK d k pc lv st M Q := by
  intro p l e s m args below meth c ad ty D B0 H locs ls hFix hB hSt hW hS hl
  obtain ⟨hx, hb, hr, hml, hown, hts, hlocks, hk⟩ := id hFix
  obtain ⟨hP, hK, hD⟩ := id hW
  obtain ⟨x, r, e0, hh⟩ := pI_e h; clear h; subst e0; have h := hh; clear hh
  obtain ⟨i, r, e0, hh⟩ := pI_e h; clear h; subst e0; have h := hh; clear hh
  obtain ⟨a, q, e0, hh⟩ := pR_e h; clear h; subst e0; have h := hh; clear hh
  obtain ⟨n, hla, hin, h⟩ := asI_e h
  refine va_bast hx hb hK hP hD hS a 1 (wsA_i hla) rfl hin hdec (fun H1 locs1 hP1 hD1 hS1 => ?_)
  rw [set_arr hla] at hP1 hD1
  exact hnx _ _ _ h p l e s m args below meth c ad ty D B0 H1 locs1 ls hFix hB hSt ⟨hP1, hK, hD1⟩ hS1 hl
theorem ok_lastore (hdec : decode (mi k).2.1 pc = .ok (.lastore, 1)) (hnx : ∀ lv st M, nx lv st M → BodyK d k (pc + 1) lv st M Q)
    (h : pL st fun x r => pI r fun i q => pR q fun a z => arL a i (nx lv z (mL M a i.toNatClampNeg x))) : BodyK d k pc lv st M Q := by
  intro p l e s m args below meth c ad ty D B0 H locs ls hFix hB hSt hW hS hl
  obtain ⟨hx, hb, hr, hml, hown, hts, hlocks, hk⟩ := id hFix
  obtain ⟨hP, hK, hD⟩ := id hW
  obtain ⟨x, r, e0, hh⟩ := pL_e h; clear h; subst e0; have h := hh; clear hh
  obtain ⟨i, r, e0, hh⟩ := pI_e h; clear h; subst e0; have h := hh; clear hh
  obtain ⟨a, q, e0, hh⟩ := pR_e h; clear h; subst e0; have h := hh; clear hh
  obtain ⟨n, hla, hin, h⟩ := arL_e h
  refine va_last hx hb hK hP hD hS a 3 (wsA_l hla) rfl hin hdec (fun H1 locs1 hP1 hD1 hS1 => ?_)
  rw [set_lng hla] at hP1 hD1
  exact hnx _ _ _ h p l e s m args below meth c ad ty D B0 H1 locs1 ls hFix hB hSt ⟨hP1, hK, hD1⟩ hS1 hl
theorem ok_arraylength (hdec : decode (mi k).2.1 pc = .ok (.arraylength, 1)) (hnx : ∀ lv st M, nx lv st M → BodyK d k (pc + 1) lv st M Q)
    (h : pR st fun a r => aln a fun n => nx lv (.int (nI n) :: r) M) : BodyK d k pc lv st M Q := by
  intro p l e s m args below meth c ad ty D B0 H locs ls hFix hB hSt hW hS hl
  obtain ⟨hx, hb, hr, hml, hown, hts, hlocks, hk⟩ := id hFix
  obtain ⟨hP, hK, hD⟩ := id hW
  obtain ⟨a, q, e0, hh⟩ := pR_e h; clear h; subst e0; have h := hh; clear hh
  obtain ⟨n, hla, h⟩ := aln_e h
  have go := hnx _ _ _ h p l e s m args below meth c ad ty D B0 H locs ls hFix hB hSt hW hS hl
  rcases hla with ⟨t, hla⟩ | hla | ⟨b, sz, hla⟩ | ⟨t, hla⟩
  · match t, lay1 hla, hla with
    | 0, _, hla => exact va_alen hx hb hK hP a 0 (wsA_i hla) rfl rfl hdec go
    | 1, _, hla => exact va_alen hx hb hK hP a 1 (wsA_i hla) rfl rfl hdec go
    | 2, _, hla => exact va_alen hx hb hK hP a 2 (wsA_i hla) rfl rfl hdec go
  · exact va_alen hx hb hK hP a 3 (wsA_l hla) rfl rfl hdec go
  · exact va_alen hx hb hK hP a 4 (wsA_q hla) rfl rfl hdec go
  · rcases layK4 hla with ⟨-, hn, ha⟩ | ⟨-, hn, ha⟩
    · cases hn
      exact va_tlen hx hb (hSt.2.2.2.2.1 a ha) hS rfl hdec go
    · cases hn
      subst ha
      exact va_tlen hx hb (hSt.2.2.2.2.2.1.1 0 (by omega)).2.2.2 hS rfl hdec go
theorem mnm_lo {k : Nat} (h : k < 123) : mnm k = (mi k).1 := by
  have : Nat.blt k 1000 = true := Nat.ble_eq_true_of_le (by omega)
  simp [mnm, this]
theorem pre_U {s U : State} {H : Heap} {locs : List Loc} {ad : Nat → Nat} {ty : Nat → ClassId} {D : va_G} {B0 : Nat × Nat} {as : List Value} (hB : B0.1 ≤ s.heap.size) (hSt : StA ad B0 s s.heap) (hW : Wld ad ty D B0 s H M) (hS : va_S (inA B0) s.heap H locs) (hU : U.heap = H) (hw : s.WarmedH U.vm) :
    va_Pc (as.map (cv ad)) (fun U => B0.1 ≤ U.heap.size ∧ Wld ad ty D B0 U U.heap M ∧ StA ad B0 U U.heap) (as.map (cv ad)).toArray U := by
  subst hU
  exact ⟨rfl, Nat.le_trans hB hS.1, hW.moved hw.alike, (hSt.kept hS.2.1).moved hw⟩
theorem ok_invokevirtual {call : Nat → List Value → Mem → Po → Prop} (hdec : decode (mi k).2.1 pc = .ok (.invokevirtual ix, len)) (hI : okI (mi k).2.2.2.2.1 (pc, cut, .invokevirtual ix, len, aux) = true) (hnx : ∀ lv st M, nx lv st M → BodyK d k (pc + len) lv st M Q)
    (hcall : ∀ k' as M Q', call k' as M Q' → ∃ d', d = d' + 1 ∧ Call d' k' as M Q') (h : ivV aux st M (nx lv) call) : BodyK d k pc lv st M Q := by
  intro p l e s m args below meth c ad ty D B0 H locs ls hFix hB hSt hW hS hl
  obtain ⟨hx, hb, hr, hml, hown, hts, hlocks, hk⟩ := id hFix
  obtain ⟨hP, hK, hD⟩ := id hW
  simp only [okI, Bool.and_eq_true] at hI
  obtain ⟨h0, h1, h2⟩ := hI
  have h0 := Nat.eq_of_beq_eq_true h0
  subst h0
  have h1 := Nat.eq_of_beq_eq_true h1
  obtain ⟨hlink, hr2⟩ := mth_e h2
  unfold ivV at h
  obtain ⟨a, r, he, h⟩ := pR_e h
  obtain ⟨h8, h⟩ := iff1_e h
  rw [Bool.and_eq_true] at h8
  obtain ⟨h8, h9⟩ := h8
  have hk' : aux < 123 := by have := blt_lt h9; omega
  rw [mnm_lo hk'] at hlink
  obtain ⟨hrec, h⟩ := recv_e h
  obtain ⟨d', rfl, hC⟩ := hcall _ _ _ _ h
  have w3 := (wm_all hk').2.2
  rw [h1] at w3
  obtain ⟨y1, -⟩ := okY_e hk'
  have hlen : (mi aux).2.2.2.2.2.1 < st.length := by
    rcases Nat.lt_or_ge (mi aux).2.2.2.2.2.1 st.length with q | q
    · exact q
    · rw [List.drop_eq_nil_of_le q] at he; cases he
  have hcell : ∃ cell : Cell, H[ad a]? = some cell ∧ cell.vm.isStatics = false ∧ s.vm.findClass (mi aux).1.cls = some cell.cls := by
    rw [y1]
    rcases hrec with ⟨fs, hla⟩ | ⟨rfl, ho⟩
    · exact va_recv hK hP (cf_all (lay0 hla).1).1 (wsA_obj hla)
    · rw [ho]; exact vk_recv hSt.2.2.2.2.2.1 (i := 0) (by omega) hS
  refine callG (va_runV (As := (st.take (mi aux).2.2.2.2.2.1).reverse.map (cv ad)) (rest := r.map (cv ad)) (b := ad a) (C := (mi aux).1.cls) ⟨hx, hb, hml, hown, hts⟩ (hC.2 l ad ty D B0) ⟨callB_k hk' hts hlink, hts _ w3.1, hts _ w3.2⟩ ⟨blind_of _ ad ty D B0 M, hcell, fun U hU hw => pre_U (as := .ref a :: (st.take (mi aux).2.2.2.2.2.1).reverse) hB hSt hW hS hU hw⟩ rfl ?_ hl.1 ?_ ?_ hdec ⟨Nat.le_refl _, Nat.le_refl _⟩) hS ?_
  · rw [List.length_map, List.length_reverse, List.length_take]; omega
  · show st.map (cv ad) = _
    rw [← List.map_reverse, List.reverse_reverse]
    conv => lhs; rw [← List.take_append_drop (mi aux).2.2.2.2.2.1 st, he]
    rw [List.map_append]
    rfl
  · show 2 * 0 + _ ≤ 8
    rw [Nat.mul_zero, Nat.zero_add]
    exact room8_e h8
  · intro v M1 H1 locs1 hq hW1 hS1
    have := hnx _ _ _ hq p l e s m args below meth c ad ty D B0 H1 locs1 ls hFix hB hSt hW1 hS1 hl
    rw [List.map_append] at this
    cases v <;> exact this
theorem ok_invokestatic {call : Nat → List Value → Mem → Po → Prop} (hd : 0 < d) (hdec : decode (mi k).2.1 pc = .ok (.invokestatic ix, len)) (hI : okI (mi k).2.2.2.2.1 (pc, cut, .invokestatic ix, len, aux) = true) (hnx : ∀ lv st M, nx lv st M → BodyK d k (pc + len) lv st M Q)
    (hcall : ∀ k' as M Q', call k' as M Q' → ∃ d', d = d' + 1 ∧ Call d' k' as M Q') (h : ivS aux st M (nx lv) call) : BodyK d k pc lv st M Q := by
  intro p l e s m args below meth c ad ty D B0 H locs ls hFix hB hSt hW hS hl
  obtain ⟨hx, hb, hr, hml, hown, hts, hlocks, hk⟩ := id hFix
  obtain ⟨hP, hK, hD⟩ := id hW
  have hmls : c.maxLocals = ls.size := hml.trans hl.1.symm
  simp only [okI, Bool.and_eq_true, Bool.or_eq_true] at hI
  obtain ⟨h0, h1⟩ := hI
  have h0 := Nat.eq_of_beq_eq_true h0
  subst h0
  have go : ∀ {st' : List Value}, nx lv st' M → W p l e (roomD d) s m args below meth c H locs 0 0 (MQ below (Qcc ad ty D B0 Q) args s 0 0 (inA B0)) (F0 m (pc + 3) ls (st'.map (cv ad))) :=
    fun hn => hnx _ _ _ hn p l e s m args below meth c ad ty D B0 H locs ls hFix hB hSt hW hS hl
  unfold ivS at h
  rcases h1 with h1 | ⟨h1, h2⟩
  · have h1 := Nat.eq_of_beq_eq_true h1
    subst h1
    exact h.elim
  obtain ⟨hlink, hr2⟩ := mth_e h2
  rcases hr2 with hk' | ⟨r1, r2⟩
  · have hlt : Nat.blt aux 1000 = true := Nat.ble_eq_true_of_le (by omega)
    rw [hlt] at h
    replace h : iff1 (Nat.ble (mi aux).2.2.2.2.2.1 st.length && room8 (st.drop (mi aux).2.2.2.2.2.1)) (call aux (st.take (mi aux).2.2.2.2.2.1).reverse M fun v M1 => nx lv (v.toList ++ st.drop (mi aux).2.2.2.2.2.1) M1) := h
    obtain ⟨h8, h⟩ := iff1_e h
    rw [Bool.and_eq_true] at h8
    obtain ⟨h9, h8⟩ := h8
    have h9 := Nat.le_of_ble_eq_true h9
    rw [mnm_lo hk'] at hlink
    have h1 : Nat.beq (mi aux).2.2.2.2.2.2 1 = true := h1.elim (fun q => absurd (Nat.le_of_ble_eq_true q) (by omega)) id
    have h1 := Nat.eq_of_beq_eq_true h1
    obtain ⟨d', rfl, hC⟩ := hcall _ _ _ _ h
    have w3 := (wm_all hk').2.2
    rw [h1] at w3
    refine callG (va_runS (As := (st.take (mi aux).2.2.2.2.2.1).reverse.map (cv ad)) (rest := (st.drop (mi aux).2.2.2.2.2.1).map (cv ad)) ⟨hx, hb, hml, hown, hts⟩ (hC.2 l ad ty D B0) ⟨callB_k hk' hts hlink, hts _ w3⟩ ⟨blind_of _ ad ty D B0 M, fun U hU hw => pre_U hB hSt hW hS hU hw⟩ rfl ?_ hl.1 ?_ ?_ hdec ⟨Nat.le_refl _, Nat.le_refl _⟩) hS ?_
    · rw [List.length_map, List.length_reverse, List.length_take]; omega
    · show st.map (cv ad) = _
      rw [← List.map_reverse, List.reverse_reverse, ← List.map_append, List.take_append_drop]
    · show 2 * 0 + _ ≤ 8
      rw [Nat.mul_zero, Nat.zero_add]
      exact room8_e h8
    · intro v M1 H1 locs1 hq hW1 hS1
      have := hnx _ _ _ hq p l e s m args below meth c ad ty D B0 H1 locs1 ls hFix hB hSt hW1 hS1 hl
      rw [List.map_append] at this
      cases v <;> exact this
  · have hf : 1 ≤ (roomD d).frames := hd
    have hlo : ∀ {r : List Value} {n : Nat}, room8 r = true → n ≤ 32 → ((r.map (cv ad)).map fun v => v.category).sum + n ≤ (roomD d).locals := by
      intro r n h8 hn
      have := room8_e (ad := ad) h8
      show _ ≤ 40 * d
      omega
    have e4 : aux = 1001 ∨ aux = 1002 ∨ aux = 1003 ∨ aux = 1004 := by omega
    rcases e4 with rfl | rfl | rfl | rfl
    · obtain ⟨y, r, e0, hh⟩ := pI_e h; clear h; subst e0; have h := hh; clear hh
      obtain ⟨x, q, e0, hh⟩ := pI_e h; clear h; subst e0; have h := hh; clear hh
      obtain ⟨h8, h⟩ := iff1_e h
      exact va_mmax hx hb hmls hown (hts _ hlink) (hts _ wl_max_s) (hts _ wl_iMath) (hts _ wl_max_c) hf (hlo h8 (by omega)) (Nat.zero_le _) (Nat.zero_le _) hdec (go (st' := .int _ :: q) h)
    · obtain ⟨y, r, e0, hh⟩ := pI_e h; clear h; subst e0; have h := hh; clear hh
      obtain ⟨x, q, e0, hh⟩ := pI_e h; clear h; subst e0; have h := hh; clear hh
      obtain ⟨h8, h⟩ := iff1_e h
      exact va_mmin hx hb hmls hown (hts _ hlink) (hts _ wl_min_s) (hts _ wl_iMath) (hts _ wl_min_c) hf (hlo h8 (by omega)) (Nat.zero_le _) (Nat.zero_le _) hdec (go (st' := .int _ :: q) h)
    · obtain ⟨x, q, e0, hh⟩ := pI_e h; clear h; subst e0; have h := hh; clear hh
      obtain ⟨h8, h⟩ := iff1_e h
      exact va_mabs hx hb hmls hown (hts _ hlink) (hts _ wl_abs_s) (hts _ wl_iMath) (hts _ wl_abs_c) hf (hlo h8 (by omega)) (Nat.zero_le _) (Nat.zero_le _) hdec (go (st' := .int _ :: q) h)
    · obtain ⟨n, r, e0, hh⟩ := pI_e h; clear h; subst e0; have h := hh; clear hh
      obtain ⟨dp, q, e0, hh⟩ := pI_e h; clear h; subst e0; have h := hh; clear hh
      obtain ⟨a, z, e0, hh⟩ := pR_e h; clear h; subst e0; have h := hh; clear hh
      obtain ⟨sp, y, e0, hh⟩ := pI_e h; clear h; subst e0; have h := hh; clear hh
      obtain ⟨a0, w, e0, hh⟩ := pR_e h; clear h; subst e0; have h := hh; clear hh
      obtain ⟨n0, n1, l0, l1, h⟩ := cpy_e h
      obtain ⟨h8, g1, g2, g3, g4, g5, h⟩ := iff1_e h
      refine va_copyi hx hb hmls hown (hts _ hlink) (hts _ wl_ac_n) (hts _ wl_ac_s) (hts _ wl_iSys) hK hP hD hS a0 a 0 0 (wsA_i l0) (wsA_i l1) rfl rfl rfl g1 g2 g3 g4 g5 (fun _ _ => rfl) hf (hlo h8 (by decide)) hdec (fun H1 locs1 hP1 hD1 hS1 => ?_)
      rw [set_cpy l1] at hP1 hD1
      exact hnx _ _ _ h p l e s m args below meth c ad ty D B0 H1 locs1 ls hFix hB hSt ⟨hP1, hK, hD1⟩ hS1 hl
end Hrd
