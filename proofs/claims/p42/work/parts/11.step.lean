/-! a step -/
section Stp
variable {d k : Nat} {Q : Po}
theorem tsw_e {x : Int32} {pc : Nat} {dp : Prop} {j : Nat → Prop} : ∀ (os : List Int) (lo : Nat), lo + os.length < 2147483648 → tsw x pc dp j (lo : Int) os → (∃ i o, i < os.length ∧ os[i]? = some o ∧ x = nI (lo + i) ∧ j ((pc : Int) + o).toNat) ∨ ((∀ i, i < os.length → ¬ x = nI (lo + i)) ∧ dp) := by
  intro os
  induction os with
  | nil => intro lo _ h; exact Or.inr ⟨fun i hi => absurd hi (Nat.not_lt_zero _), h⟩
  | cons o os ih =>
    intro lo hb h
    obtain ⟨h1, h2⟩ := h
    by_cases hx : x = nI lo
    · exact Or.inl ⟨0, o, Nat.succ_pos _, rfl, hx, h1 hx⟩
    · rcases ih (lo + 1) (by simp at hb; omega) (h2 hx) with ⟨i, o', a1, a2, a3, a4⟩ | ⟨a1, a2⟩
      · exact Or.inl ⟨i + 1, o', by simp; omega, by simpa using a2, by rw [a3]; congr 1; omega, a4⟩
      · refine Or.inr ⟨fun i hi => ?_, a2⟩
        cases i with
        | zero => exact hx
        | succ i => exact fun q => a1 i (by simpa using hi) (by rw [q]; congr 1; omega)
theorem lsw_e {x : Int32} {pc : Nat} {dp : Prop} {j : Nat → Prop} : ∀ (ps : List (Int × Int)) (dflt : Int), (∀ q ∈ ps, (0 : Int) ≤ q.1 ∧ q.1 < 2147483647 ∧ (0 : Int) ≤ (pc : Int) + q.2) → 0 ≤ (pc : Int) + dflt → (dp → j ((pc : Int) + dflt).toNat) → lsw x pc dp j ps → ∃ off : Int, Op.lookupswitch.offset ps dflt x.toInt = off ∧ 0 ≤ (pc : Int) + off ∧ j ((pc : Int) + off).toNat := by
  intro ps dflt
  induction ps with
  | nil => intro _ h0 hd h; exact ⟨dflt, rfl, h0, hd h⟩
  | cons a ps ih =>
    intro hq h0 hd h
    obtain ⟨q1, q2, q3⟩ := hq a List.mem_cons_self
    obtain ⟨h1, h2⟩ := h
    obtain ⟨a1, a2⟩ := a
    have hk : (cI a1).toInt = a1 := by
      obtain ⟨n, rfl⟩ := Int.eq_ofNat_of_zero_le q1
      exact nI_toInt (by simp at q2; omega)
    by_cases hx : x = cI a1
    · refine ⟨a2, ?_, q3, h1 hx⟩
      rw [hx]
      simp [Op.lookupswitch.offset, hk]
    · obtain ⟨off, e1, e2⟩ := ih (fun q hq2 => hq q (List.mem_cons_of_mem _ hq2)) h0 hd (h2 hx)
      exact ⟨off, by rw [lv_osw hx hk]; exact e1, e2⟩
theorem rtk_e {rt : Option FieldType} {x : Int32} {f : Prop} (h : rtk rt x f) : (∃ ty, rt = some ty ∧ narrow ty (.int x) = .int x) ∧ f := by
  unfold rtk at h
  split at h
  · exact ⟨⟨_, rfl, rfl⟩, h⟩
  · refine ⟨⟨_, rfl, ?_⟩, h.2⟩
    rcases h.1 with rfl | rfl <;> rfl
  · refine ⟨⟨_, rfl, ?_⟩, h.2⟩
    have := h.1
    simp [narrow, this]
  · cases h
theorem isLng_e {rt : Option FieldType} (h : isLng rt = true) : rt = some .long := by
  unfold isLng at h
  split at h
  · rfl
  · cases h
theorem isObj_e {rt : Option FieldType} (h : isObj rt = true) : ∃ n, rt = some (.object n) := by
  unfold isObj at h
  split at h
  · exact ⟨_, rfl⟩
  · cases h
set_option maxHeartbeats 8000000 in
set_option maxRecDepth 20000 in
theorem wpI_ok {e : Ent} {lv : Lv} {st : List Value} {M : Mem} {nx : Lv → List Value → Mem → Prop} {jm : Nat → Lv → List Value → Mem → Prop} {call : Nat → List Value → Mem → Po → Prop}
    (hdec : decode (mi k).2.1 e.1 = .ok (e.2.2.1, e.2.2.2.1)) (hI : okI (mi k).2.2.2.2.1 e = true)
    (hnx : ∀ lv st M, nx lv st M → BodyK d k (e.1 + e.2.2.2.1) lv st M Q) (hjm : ∀ t lv st M, jm t lv st M → BodyK d k t lv st M Q)
    (hcall : ∀ k' as M Q', call k' as M Q' → ∃ d', d = d' + 1 ∧ Call d' k' as M Q') (hd : 0 < d)
    (h : wpI (mi k).2.2.2.1 (mi k).2.2.1 e lv st M Q nx jm call) : BodyK d k e.1 lv st M Q := by
  obtain ⟨pc, cut, i, len, aux⟩ := e
  dsimp only at hdec hnx
  intro p l e s m args below meth c ad ty D B0 H locs ls hFix hB hSt hW hS hl
  obtain ⟨hx, hb, hr, hml, hown, hts, hlocks, hk⟩ := id hFix
  have hlen : ls.size = (mi k).2.2.1 := hl.1
  obtain ⟨hP, hK, hD⟩ := id hW
  have go : ∀ {lv' : Lv} {st' : List Value}, nx lv' st' M → ∀ ls', lv_has ls' (mi k).2.2.1 (lv'.map (cvp ad)) → W p l e (roomD d) s m args below meth c H locs 0 0 (MQ below (Qcc ad ty D B0 Q) args s 0 0 (inA B0)) (F0 m (pc + len) ls' (st'.map (cv ad))) :=
    fun hn ls' hl' => hnx _ _ _ hn p l e s m args below meth c ad ty D B0 H locs ls' hFix hB hSt hW hS hl'
  have jp : ∀ {t : Nat} {lv' : Lv} {st' : List Value}, jm t lv' st' M → lv_has ls (mi k).2.2.1 (lv'.map (cvp ad)) → W p l e (roomD d) s m args below meth c H locs 0 0 (MQ below (Qcc ad ty D B0 Q) args s 0 0 (inA B0)) (F0 m t ls (st'.map (cv ad))) :=
    fun hn hl' => hjm _ _ _ _ hn p l e s m args below meth c ad ty D B0 H locs ls hFix hB hSt hW hS hl'
  have gm : ∀ {lv' : Lv} {st' : List Value} {M' : Mem} {H' : Heap} {locs' : List Loc}, nx lv' st' M' → Wld ad ty D B0 s H' M' → va_S (inA B0) s.heap H' locs' → lv_has ls (mi k).2.2.1 (lv'.map (cvp ad)) → W p l e (roomD d) s m args below meth c H' locs' 0 0 (MQ below (Qcc ad ty D B0 Q) args s 0 0 (inA B0)) (F0 m (pc + len) ls (st'.map (cv ad))) :=
    fun hn hW' hS' hl' => hnx _ _ _ hn p l e s m args below meth c ad ty D B0 _ _ ls hFix hB hSt hW' hS' hl'
  have tgt : ∀ {off : Int}, okT (pc, cut, i, len, aux) off = true → (pc : Int) + off = (aux : Int) := fun h => of_decide_eq_true h
  have fits : ∀ t : Nat, True := fun _ => trivial
  cases i with
  | aconst_null =>
    simp only [okI, Bool.and_eq_true] at hI
    have := Nat.eq_of_beq_eq_true hI.1
    subst this
    exact lv_null hx hb hdec (go h ls hl)
  | iconst n =>
    simp only [okI, Bool.and_eq_true, decide_eq_true_eq] at hI
    have := Nat.eq_of_beq_eq_true hI.1
    subst this
    exact lv_iconst hx hb hdec hI.2 (go h ls hl)
  | bipush n =>
    simp only [okI, Bool.and_eq_true, decide_eq_true_eq] at hI
    have := Nat.eq_of_beq_eq_true hI.1
    subst this
    exact lv_bipush hx hb hdec hI.2 (go h ls hl)
  | sipush n =>
    simp only [okI, Bool.and_eq_true, decide_eq_true_eq] at hI
    have := Nat.eq_of_beq_eq_true hI.1
    subst this
    exact lv_sipush hx hb hdec hI.2 (go h ls hl)
  | lconst n =>
    simp only [okI, Bool.and_eq_true] at hI
    have := Nat.eq_of_beq_eq_true hI.1
    subst this
    exact lv_lconst hx hb hdec rfl (go h ls hl)
  | ldc ix =>
    simp only [okI, Bool.and_eq_true] at hI
    have := Nat.eq_of_beq_eq_true hI.1
    subst this
    have hI2 := hI.2
    rw [Bool.or_eq_true] at hI2
    simp only [Bool.and_eq_true] at hI2
    cases hq : Nat.beq aux 2000 with
    | true =>
      have e0 := Nat.eq_of_beq_eq_true hq
      subst e0
      rcases hI2 with ⟨⟨z1, z2⟩, z3⟩ | ⟨⟨z1, z2⟩, z3⟩
      · have e1 := Nat.eq_of_beq_eq_true z2
        have e2 := Nat.eq_of_beq_eq_true z3
        subst e2
        rw [e1] at hown
        exact va_ldcS hx hb hown hSt.2.2.2.2.2.2 hdec (go (st' := .ref 910 :: st) h ls hl)
      · cases z1
    | false =>
      have e0 : ldcV aux = .int (nth (0, 0, 0, 0) ktL aux).2.2.1 := by unfold ldcV; rw [hq]
      replace h : nx lv (ldcV aux :: st) M := h
      rw [e0] at h
      rcases hI2 with ⟨⟨z1, z2⟩, z3⟩ | ⟨⟨z1, z2⟩, z3⟩
      · rw [hq] at z1; cases z1
      · have zz := pk_all _ (nth_mem (d := (0, 0, 0, 0)) (blt_lt z1))
        unfold PK at zz
        rw [Nat.eq_of_beq_eq_true z2, Nat.eq_of_beq_eq_true z3] at zz
        exact lv_ldc hx hb hown (hts _ zz) hdec (go h ls hl)
  | ldc_w ix =>
    simp only [okI, Bool.and_eq_true] at hI
    have := Nat.eq_of_beq_eq_true hI.1
    subst this
    obtain ⟨⟨z1, z2⟩, z3⟩ := hI.2
    have zz := pk_all _ (nth_mem (d := (0, 0, 0, 0)) (blt_lt z1))
    unfold PK at zz
    rw [Nat.eq_of_beq_eq_true z2, Nat.eq_of_beq_eq_true z3] at zz
    exact lv_ldcw hx hb hown (hts _ zz) hdec (go h ls hl)
  | ldc2_w ix =>
    simp only [okI, Bool.and_eq_true] at hI
    have := Nat.eq_of_beq_eq_true hI.1
    subst this
    obtain ⟨⟨z1, z2⟩, z3⟩ := hI.2
    have zz := po_all _ (nth_mem (d := (0, 0, 0, 0)) (blt_lt z1))
    unfold PO at zz
    rw [Nat.eq_of_beq_eq_true z2, Nat.eq_of_beq_eq_true z3] at zz
    exact lv_ldc2 hx hb hown (hts _ zz) hdec (go h ls hl)
  | iload i =>
    simp only [okI, Bool.and_eq_true] at hI
    have := Nat.eq_of_beq_eq_true hI.1
    subst this
    obtain ⟨x, h1, h⟩ := ldI_e h
    exact lv_iload hx hb hdec (lkp_at hl h1) (go h ls hl)
  | iload_n i =>
    simp only [okI, Bool.and_eq_true] at hI
    have := Nat.eq_of_beq_eq_true hI.1
    subst this
    obtain ⟨x, h1, h⟩ := ldI_e h
    exact lv_iload_n hx hb hdec rfl (lkp_at hl h1) (go h ls hl)
  | lload i =>
    simp only [okI, Bool.and_eq_true] at hI
    have := Nat.eq_of_beq_eq_true hI.1
    subst this
    obtain ⟨x, h1, h⟩ := ldL_e h
    exact lv_lload hx hb hdec (lkp_at hl h1) (go h ls hl)
  | lload_n i =>
    simp only [okI, Bool.and_eq_true] at hI
    have := Nat.eq_of_beq_eq_true hI.1
    subst this
    obtain ⟨x, h1, h⟩ := ldL_e h
    exact lv_lload_n hx hb hdec rfl (lkp_at hl h1) (go h ls hl)
  | aload i =>
    simp only [okI, Bool.and_eq_true] at hI
    have := Nat.eq_of_beq_eq_true hI.1
    subst this
    replace h : ldA lv i (fun v => nx lv (v :: st) M) := h
    rcases ldA_e h with ⟨x, h1, h⟩ | ⟨h1, h⟩
    · exact lv_aload hx hb hdec (lkp_at hl h1) (go h ls hl)
    · exact lv_aloadN hx hb hdec (lkp_at hl h1) (go h ls hl)
  | aload_n i =>
    simp only [okI, Bool.and_eq_true] at hI
    have := Nat.eq_of_beq_eq_true hI.1
    subst this
    replace h : ldA lv i (fun v => nx lv (v :: st) M) := h
    rcases ldA_e h with ⟨x, h1, h⟩ | ⟨h1, h⟩
    · exact lv_aload_n hx hb hdec rfl (lkp_at hl h1) (go h ls hl)
    · exact lv_aload_nN hx hb hdec rfl (lkp_at hl h1) (go h ls hl)
  | istore i =>
    simp only [okI, Bool.and_eq_true] at hI
    have := Nat.eq_of_beq_eq_true hI.1
    subst this
    obtain ⟨x, r, e0, hh⟩ := pI_e h; clear h; subst e0; have h := hh; clear hh
    obtain ⟨h1, h⟩ := iff1_e h
    exact lv_istore hx hb hdec hl (blt_lt h1) (put1_map ad i (.int x) lv) (fun ls' hl' => go h ls' hl')
  | istore_n i =>
    simp only [okI, Bool.and_eq_true] at hI
    have := Nat.eq_of_beq_eq_true hI.1
    subst this
    obtain ⟨x, r, e0, hh⟩ := pI_e h; clear h; subst e0; have h := hh; clear hh
    obtain ⟨h1, h⟩ := iff1_e h
    exact lv_istore_n hx hb hdec rfl hl (blt_lt h1) (put1_map ad i (.int x) lv) (fun ls' hl' => go h ls' hl')
  | lstore i =>
    simp only [okI, Bool.and_eq_true] at hI
    have := Nat.eq_of_beq_eq_true hI.1
    subst this
    obtain ⟨x, r, e0, hh⟩ := pL_e h; clear h; subst e0; have h := hh; clear hh
    obtain ⟨h1, h⟩ := iff1_e h
    exact lv_lstore hx hb hdec hl (blt_lt h1) (put2_map ad i (.long x) lv) (fun ls' hl' => go h ls' hl')
  | lstore_n i =>
    simp only [okI, Bool.and_eq_true] at hI
    have := Nat.eq_of_beq_eq_true hI.1
    subst this
    obtain ⟨x, r, e0, hh⟩ := pL_e h; clear h; subst e0; have h := hh; clear hh
    obtain ⟨h1, h⟩ := iff1_e h
    exact lv_lstore_n hx hb hdec rfl hl (blt_lt h1) (put2_map ad i (.long x) lv) (fun ls' hl' => go h ls' hl')
  | astore i =>
    simp only [okI, Bool.and_eq_true] at hI
    have := Nat.eq_of_beq_eq_true hI.1
    subst this
    replace h : pA st (fun v r => iff1 (Nat.blt i (mi k).2.2.1) (nx (put1 i v lv) r M)) := h
    rcases pA_e h with ⟨x, r, rfl, hh⟩ | ⟨r, rfl, hh⟩
    · obtain ⟨h1, h⟩ := iff1_e hh
      exact lv_astore hx hb hdec hl (blt_lt h1) (put1_map ad i (.ref x) lv) (fun ls' hl' => go h ls' hl')
    · obtain ⟨h1, h⟩ := iff1_e hh
      exact lv_astoreN hx hb hdec hl (blt_lt h1) (put1_map ad i .null lv) (fun ls' hl' => go h ls' hl')
  | astore_n i =>
    simp only [okI, Bool.and_eq_true] at hI
    have := Nat.eq_of_beq_eq_true hI.1
    subst this
    replace h : pA st (fun v r => iff1 (Nat.blt i (mi k).2.2.1) (nx (put1 i v lv) r M)) := h
    rcases pA_e h with ⟨x, r, rfl, hh⟩ | ⟨r, rfl, hh⟩
    · obtain ⟨h1, h⟩ := iff1_e hh
      exact lv_astore_n hx hb hdec rfl hl (blt_lt h1) (put1_map ad i (.ref x) lv) (fun ls' hl' => go h ls' hl')
    · obtain ⟨h1, h⟩ := iff1_e hh
      exact lv_astore_nN hx hb hdec rfl hl (blt_lt h1) (put1_map ad i .null lv) (fun ls' hl' => go h ls' hl')
  | iinc i n =>
    simp only [okI, Bool.and_eq_true, decide_eq_true_eq] at hI
    have := Nat.eq_of_beq_eq_true hI.1
    subst this
    obtain ⟨x, h1, h⟩ := ldI_e h
    obtain ⟨h2, h⟩ := iff1_e h
    obtain ⟨kk, hkk⟩ := lkp_map (ad := ad) h1
    exact lv_iinc hx hb hdec hl hkk (by rw [hI.2]) (blt_lt h2) (put1_map ad i (.int (x + cI n)) lv) (fun ls' hl' => go h ls' hl')
  | pop =>
    simp only [okI, Bool.and_eq_true] at hI
    have := Nat.eq_of_beq_eq_true hI.1
    subst this
    replace h : p1 st (fun _ r => nx lv r M) := h
    obtain ⟨v, r, e0, hh, hc⟩ := p1_e h; clear h; subst e0; have h := hh; clear hh
    exact lv_pop hx hb hdec (by rw [cv_cat]; exact hc) (go h ls hl)
  | dup =>
    simp only [okI, Bool.and_eq_true] at hI
    have := Nat.eq_of_beq_eq_true hI.1
    subst this
    replace h : p1 st (fun v r => nx lv (v :: v :: r) M) := h
    obtain ⟨v, r, e0, hh, hc⟩ := p1_e h; clear h; subst e0; have h := hh; clear hh
    exact lv_dup hx hb hdec (by rw [cv_cat]; exact hc) (go h ls hl)
  | dup2 =>
    simp only [okI, Bool.and_eq_true] at hI
    have := Nat.eq_of_beq_eq_true hI.1
    subst this
    replace h : p1 st (fun v r => p1 r fun u q => nx lv (v :: u :: v :: u :: q) M) := h
    obtain ⟨v, r, e0, hh, hc⟩ := p1_e h; clear h; subst e0; have h := hh; clear hh
    obtain ⟨u, q, e0, hh, hc2⟩ := p1_e h; clear h; subst e0; have h := hh; clear hh
    exact lv_dup2_11 hx hb hdec (by rw [cv_cat]; exact hc) (by rw [cv_cat]; exact hc2) (go h ls hl)
  | iadd =>
    simp only [okI, Bool.and_eq_true] at hI
    have := Nat.eq_of_beq_eq_true hI.1
    subst this
    obtain ⟨y, r, e0, hh⟩ := pI_e h; clear h; subst e0; have h := hh; clear hh
    obtain ⟨x, q, e0, hh⟩ := pI_e h; clear h; subst e0; have h := hh; clear hh
    exact lv_iadd hx hb hdec (go h ls hl)
  | isub =>
    simp only [okI, Bool.and_eq_true] at hI
    have := Nat.eq_of_beq_eq_true hI.1
    subst this
    obtain ⟨y, r, e0, hh⟩ := pI_e h; clear h; subst e0; have h := hh; clear hh
    obtain ⟨x, q, e0, hh⟩ := pI_e h; clear h; subst e0; have h := hh; clear hh
    exact lv_isub hx hb hdec (go h ls hl)
  | imul =>
    simp only [okI, Bool.and_eq_true] at hI
    have := Nat.eq_of_beq_eq_true hI.1
    subst this
    obtain ⟨y, r, e0, hh⟩ := pI_e h; clear h; subst e0; have h := hh; clear hh
    obtain ⟨x, q, e0, hh⟩ := pI_e h; clear h; subst e0; have h := hh; clear hh
    exact lv_imul hx hb hdec (go h ls hl)
  | iand =>
    simp only [okI, Bool.and_eq_true] at hI
    have := Nat.eq_of_beq_eq_true hI.1
    subst this
    obtain ⟨y, r, e0, hh⟩ := pI_e h; clear h; subst e0; have h := hh; clear hh
    obtain ⟨x, q, e0, hh⟩ := pI_e h; clear h; subst e0; have h := hh; clear hh
    exact lv_iand hx hb hdec (go h ls hl)
  | ior =>
    simp only [okI, Bool.and_eq_true] at hI
    have := Nat.eq_of_beq_eq_true hI.1
    subst this
    obtain ⟨y, r, e0, hh⟩ := pI_e h; clear h; subst e0; have h := hh; clear hh
    obtain ⟨x, q, e0, hh⟩ := pI_e h; clear h; subst e0; have h := hh; clear hh
    exact lv_ior hx hb hdec (go h ls hl)
  | ixor =>
    simp only [okI, Bool.and_eq_true] at hI
    have := Nat.eq_of_beq_eq_true hI.1
    subst this
    obtain ⟨y, r, e0, hh⟩ := pI_e h; clear h; subst e0; have h := hh; clear hh
    obtain ⟨x, q, e0, hh⟩ := pI_e h; clear h; subst e0; have h := hh; clear hh
    exact lv_ixor hx hb hdec (go h ls hl)
  | ishl =>
    simp only [okI, Bool.and_eq_true] at hI
    have := Nat.eq_of_beq_eq_true hI.1
    subst this
    obtain ⟨y, r, e0, hh⟩ := pI_e h; clear h; subst e0; have h := hh; clear hh
    obtain ⟨x, q, e0, hh⟩ := pI_e h; clear h; subst e0; have h := hh; clear hh
    exact lv_ishl hx hb hdec (go h ls hl)
  | ishr =>
    simp only [okI, Bool.and_eq_true] at hI
    have := Nat.eq_of_beq_eq_true hI.1
    subst this
    obtain ⟨y, r, e0, hh⟩ := pI_e h; clear h; subst e0; have h := hh; clear hh
    obtain ⟨x, q, e0, hh⟩ := pI_e h; clear h; subst e0; have h := hh; clear hh
    exact lv_ishr hx hb hdec (go h ls hl)
  | iushr =>
    simp only [okI, Bool.and_eq_true] at hI
    have := Nat.eq_of_beq_eq_true hI.1
    subst this
    obtain ⟨y, r, e0, hh⟩ := pI_e h; clear h; subst e0; have h := hh; clear hh
    obtain ⟨x, q, e0, hh⟩ := pI_e h; clear h; subst e0; have h := hh; clear hh
    exact lv_iushr hx hb hdec rfl (go h ls hl)
  | idiv =>
    simp only [okI, Bool.and_eq_true] at hI
    have := Nat.eq_of_beq_eq_true hI.1
    subst this
    obtain ⟨y, r, e0, hh⟩ := pI_e h; clear h; subst e0; have h := hh; clear hh
    obtain ⟨x, q, e0, hne, hh⟩ := pI_e h; clear h; subst e0; have h := hh; clear hh
    exact lv_idiv hx hb hdec hne (go h ls hl)
  | irem =>
    simp only [okI, Bool.and_eq_true] at hI
    have := Nat.eq_of_beq_eq_true hI.1
    subst this
    obtain ⟨y, r, e0, hh⟩ := pI_e h; clear h; subst e0; have h := hh; clear hh
    obtain ⟨x, q, e0, hne, hh⟩ := pI_e h; clear h; subst e0; have h := hh; clear hh
    exact lv_irem hx hb hdec hne (go h ls hl)
  | ineg =>
    simp only [okI, Bool.and_eq_true] at hI
    have := Nat.eq_of_beq_eq_true hI.1
    subst this
    obtain ⟨x, q, e0, hh⟩ := pI_e h; clear h; subst e0; have h := hh; clear hh
    exact lv_ineg hx hb hdec (go h ls hl)
  | ladd =>
    simp only [okI, Bool.and_eq_true] at hI
    have := Nat.eq_of_beq_eq_true hI.1
    subst this
    obtain ⟨y, r, e0, hh⟩ := pL_e h; clear h; subst e0; have h := hh; clear hh
    obtain ⟨x, q, e0, hh⟩ := pL_e h; clear h; subst e0; have h := hh; clear hh
    exact lv_ladd hx hb hdec (go h ls hl)
  | lsub =>
    simp only [okI, Bool.and_eq_true] at hI
    have := Nat.eq_of_beq_eq_true hI.1
    subst this
    obtain ⟨y, r, e0, hh⟩ := pL_e h; clear h; subst e0; have h := hh; clear hh
    obtain ⟨x, q, e0, hh⟩ := pL_e h; clear h; subst e0; have h := hh; clear hh
    exact lv_lsub hx hb hdec (go h ls hl)
  | lmul =>
    simp only [okI, Bool.and_eq_true] at hI
    have := Nat.eq_of_beq_eq_true hI.1
    subst this
    obtain ⟨y, r, e0, hh⟩ := pL_e h; clear h; subst e0; have h := hh; clear hh
    obtain ⟨x, q, e0, hh⟩ := pL_e h; clear h; subst e0; have h := hh; clear hh
    exact lv_lmul hx hb hdec (go h ls hl)
  | ldiv =>
    simp only [okI, Bool.and_eq_true] at hI
    have := Nat.eq_of_beq_eq_true hI.1
    subst this
    obtain ⟨y, r, e0, hh⟩ := pL_e h; clear h; subst e0; have h := hh; clear hh
    obtain ⟨x, q, e0, hne, hh⟩ := pL_e h; clear h; subst e0; have h := hh; clear hh
    exact lv_ldiv hx hb hdec hne (go h ls hl)
  | lrem =>
    simp only [okI, Bool.and_eq_true] at hI
    have := Nat.eq_of_beq_eq_true hI.1
    subst this
    obtain ⟨y, r, e0, hh⟩ := pL_e h; clear h; subst e0; have h := hh; clear hh
    obtain ⟨x, q, e0, hne, hh⟩ := pL_e h; clear h; subst e0; have h := hh; clear hh
    exact lv_lrem hx hb hdec hne (go h ls hl)
  | lcmp =>
    simp only [okI, Bool.and_eq_true] at hI
    have := Nat.eq_of_beq_eq_true hI.1
    subst this
    obtain ⟨y, r, e0, hh⟩ := pL_e h; clear h; subst e0; have h := hh; clear hh
    obtain ⟨x, q, e0, hh⟩ := pL_e h; clear h; subst e0; have h := hh; clear hh
    exact W.lcmp hx hb hdec (go h ls hl)
  | i2l =>
    simp only [okI, Bool.and_eq_true] at hI
    have := Nat.eq_of_beq_eq_true hI.1
    subst this
    obtain ⟨x, q, e0, hh⟩ := pI_e h; clear h; subst e0; have h := hh; clear hh
    exact lv_i2l hx hb hdec rfl (go h ls hl)
  | l2i =>
    simp only [okI, Bool.and_eq_true] at hI
    have := Nat.eq_of_beq_eq_true hI.1
    subst this
    obtain ⟨x, q, e0, hh⟩ := pL_e h; clear h; subst e0; have h := hh; clear hh
    exact lv_l2i hx hb hdec rfl (go h ls hl)
  | i2b =>
    simp only [okI, Bool.and_eq_true] at hI
    have := Nat.eq_of_beq_eq_true hI.1
    subst this
    obtain ⟨x, q, e0, hh⟩ := pI_e h; clear h; subst e0; have h := hh; clear hh
    exact lv_i2b hx hb hdec rfl (go h ls hl)
  | i2s =>
    simp only [okI, Bool.and_eq_true] at hI
    have := Nat.eq_of_beq_eq_true hI.1
    subst this
    obtain ⟨x, q, e0, hh⟩ := pI_e h; clear h; subst e0; have h := hh; clear hh
    exact lv_i2s hx hb hdec rfl (go h ls hl)
  | i2c =>
    simp only [okI, Bool.and_eq_true] at hI
    have := Nat.eq_of_beq_eq_true hI.1
    subst this
    obtain ⟨x, q, e0, hh⟩ := pI_e h; clear h; subst e0; have h := hh; clear hh
    exact lv_i2c hx hb hdec rfl (go h ls hl)
  | goto off =>
    simp only [okI, Bool.and_eq_true] at hI
    have := Nat.eq_of_beq_eq_true hI.1
    subst this
    exact lv_goto hx hb hdec (tgt hI.2) (jp h hl)
  | ifCond cc off =>
    simp only [okI, Bool.and_eq_true] at hI
    have := Nat.eq_of_beq_eq_true hI.1
    subst this
    obtain ⟨x, q, e0, hh⟩ := pI_e h; clear h; subst e0; have h := hh; clear hh
    cases cc with
    | eq => exact lv_if_eq hx hb hdec (tgt hI.2) (fun c1 => jp (h.1 c1) hl) (fun c1 => go (h.2 c1) ls hl)
    | ne => exact lv_if_ne hx hb hdec (tgt hI.2) (fun c1 => jp (h.1 c1) hl) (fun c1 => go (h.2 (fun q => q c1)) ls hl)
    | lt => exact lv_if_lt hx hb hdec (tgt hI.2) (fun c1 => jp (h.1 c1) hl) (fun c1 => go (h.2 c1) ls hl)
    | ge => exact lv_if_ge hx hb hdec (tgt hI.2) (fun c1 => jp (h.1 c1) hl) (fun c1 => go (h.2 c1) ls hl)
    | gt => exact lv_if_gt hx hb hdec (tgt hI.2) (fun c1 => jp (h.1 c1) hl) (fun c1 => go (h.2 c1) ls hl)
    | le => exact lv_if_le hx hb hdec (tgt hI.2) (fun c1 => jp (h.1 c1) hl) (fun c1 => go (h.2 c1) ls hl)
  | if_icmp cc off =>
    simp only [okI, Bool.and_eq_true] at hI
    have := Nat.eq_of_beq_eq_true hI.1
    subst this
    obtain ⟨y, r, e0, hh⟩ := pI_e h; clear h; subst e0; have h := hh; clear hh
    obtain ⟨x, q, e0, hh⟩ := pI_e h; clear h; subst e0; have h := hh; clear hh
    cases cc with
    | eq => exact lv_icmp_eq hx hb hdec (tgt hI.2) (fun c1 => jp (h.1 c1) hl) (fun c1 => go (h.2 c1) ls hl)
    | ne => exact lv_icmp_ne hx hb hdec (tgt hI.2) (fun c1 => jp (h.1 c1) hl) (fun c1 => go (h.2 (fun q => q c1)) ls hl)
    | lt => exact lv_icmp_lt hx hb hdec (tgt hI.2) (fun c1 => jp (h.1 c1) hl) (fun c1 => go (h.2 c1) ls hl)
    | ge => exact lv_icmp_ge hx hb hdec (tgt hI.2) (fun c1 => jp (h.1 c1) hl) (fun c1 => go (h.2 c1) ls hl)
    | gt => exact lv_icmp_gt hx hb hdec (tgt hI.2) (fun c1 => jp (h.1 c1) hl) (fun c1 => go (h.2 c1) ls hl)
    | le => exact lv_icmp_le hx hb hdec (tgt hI.2) (fun c1 => jp (h.1 c1) hl) (fun c1 => go (h.2 c1) ls hl)
  | ifnull off =>
    simp only [okI, Bool.and_eq_true] at hI
    have := Nat.eq_of_beq_eq_true hI.1
    subst this
    match st, h with
    | .ref a :: r, h => exact lv_ifnull hx hb hdec (go h ls hl)
    | .null :: r, h => exact lv_ifnullN hx hb hdec (tgt hI.2) (jp h hl)
  | ifnonnull off =>
    simp only [okI, Bool.and_eq_true] at hI
    have := Nat.eq_of_beq_eq_true hI.1
    subst this
    match st, h with
    | .ref a :: r, h => exact lv_ifnonnull hx hb hdec (tgt hI.2) (jp h hl)
    | .null :: r, h => exact lv_ifnonnullN hx hb hdec (go h ls hl)
  | tableswitch df lo hi offs =>
    simp only [okI, Bool.and_eq_true, decide_eq_true_eq, List.all_eq_true] at hI
    obtain ⟨⟨⟨⟨z1, z2⟩, z3⟩, z4⟩, z5⟩ := hI
    obtain ⟨x, q, e0, hh⟩ := pI_e h; clear h; subst e0; have h := hh; clear hh
    obtain ⟨lo, rfl⟩ := Int.eq_ofNat_of_zero_le z3
    rcases tsw_e offs.toList lo (by omega) h with ⟨i, o, a1, a2, a3, a4⟩ | ⟨a1, a2⟩
    · have e1 : x.toInt = ((lo + i : Nat) : Int) := by rw [a3]; exact nI_toInt (by omega)
      have hm := z2 o (List.mem_of_getElem? a2)
      refine lv_tableIn hx hb hdec (by omega) (by omega) (off := o) (tgt := ((pc : Int) + o).toNat) ?_ (by omega) (jp a4 hl)
      rw [e1, show (((lo + i : Nat) : Int) - (lo : Int)).toNat = i by omega, ← Array.getElem?_toList]
      exact a2
    · refine lv_tableOut hx hb hdec ?_ (tgt := ((pc : Int) + df).toNat) (by omega) (jp a2 hl)
      rcases (by omega : x.toInt < (lo : Int) ∨ (lo : Int) ≤ x.toInt) with q1 | q1
      · exact Or.inl q1
      · rcases (by omega : hi < x.toInt ∨ x.toInt ≤ hi) with q2 | q2
        · exact Or.inr q2
        · exfalso
          refine a1 (x.toInt - lo).toNat (by omega) (Int32.toInt_inj.mp ?_)
          rw [nI_toInt (by omega)]
          omega
  | lookupswitch df ps =>
    simp only [okI, Bool.and_eq_true, decide_eq_true_eq, List.all_eq_true] at hI
    obtain ⟨⟨z1, z2⟩, z3⟩ := hI
    obtain ⟨x, q, e0, hh⟩ := pI_e h; clear h; subst e0; have h := hh; clear hh
    obtain ⟨off, e1, e2, e3⟩ := lsw_e (pc := pc) (j := fun t => jm t lv q M) ps.toList df (fun q hq => ⟨(z2 q hq).1.2, (z2 q hq).2, (z2 q hq).1.1⟩) z1 id h
    refine lv_lookup hx hb hdec ?_ e1 (tgt := ((pc : Int) + off).toNat) (by omega) (jp e3 hl)
    rw [List.all_eq_true]
    exact fun q hq => decide_eq_true (z3 q hq)
  | getfield ix => exact ok_getfield hdec hI hnx h p l e s m args below meth c ad ty D B0 H locs ls hFix hB hSt hW hS hl
  | putfield ix => exact ok_putfield hdec hI hnx h p l e s m args below meth c ad ty D B0 H locs ls hFix hB hSt hW hS hl
  | getstatic ix => exact ok_getstatic hdec hI hnx h p l e s m args below meth c ad ty D B0 H locs ls hFix hB hSt hW hS hl
  | invokevirtual ix => exact ok_invokevirtual hdec hI hnx hcall h p l e s m args below meth c ad ty D B0 H locs ls hFix hB hSt hW hS hl
  | invokestatic ix => exact ok_invokestatic hd hdec hI hnx hcall h p l e s m args below meth c ad ty D B0 H locs ls hFix hB hSt hW hS hl
  | iaload =>
    simp only [okI, Bool.and_eq_true] at hI
    have := Nat.eq_of_beq_eq_true hI.1
    subst this
    exact ok_iaload hdec hnx h p l e s m args below meth c ad ty D B0 H locs ls hFix hB hSt hW hS hl
  | baload =>
    simp only [okI, Bool.and_eq_true] at hI
    have := Nat.eq_of_beq_eq_true hI.1
    subst this
    exact ok_baload hdec hnx h p l e s m args below meth c ad ty D B0 H locs ls hFix hB hSt hW hS hl
  | laload =>
    simp only [okI, Bool.and_eq_true] at hI
    have := Nat.eq_of_beq_eq_true hI.1
    subst this
    exact ok_laload hdec hnx h p l e s m args below meth c ad ty D B0 H locs ls hFix hB hSt hW hS hl
  | aaload =>
    simp only [okI, Bool.and_eq_true] at hI
    have := Nat.eq_of_beq_eq_true hI.1
    subst this
    exact ok_aaload hdec hnx h p l e s m args below meth c ad ty D B0 H locs ls hFix hB hSt hW hS hl
  | iastore =>
    simp only [okI, Bool.and_eq_true] at hI
    have := Nat.eq_of_beq_eq_true hI.1
    subst this
    exact ok_iastore hdec hnx h p l e s m args below meth c ad ty D B0 H locs ls hFix hB hSt hW hS hl
  | bastore =>
    simp only [okI, Bool.and_eq_true] at hI
    have := Nat.eq_of_beq_eq_true hI.1
    subst this
    exact ok_bastore hdec hnx h p l e s m args below meth c ad ty D B0 H locs ls hFix hB hSt hW hS hl
  | lastore =>
    simp only [okI, Bool.and_eq_true] at hI
    have := Nat.eq_of_beq_eq_true hI.1
    subst this
    exact ok_lastore hdec hnx h p l e s m args below meth c ad ty D B0 H locs ls hFix hB hSt hW hS hl
  | arraylength =>
    simp only [okI, Bool.and_eq_true] at hI
    have := Nat.eq_of_beq_eq_true hI.1
    subst this
    exact ok_arraylength hdec hnx h p l e s m args below meth c ad ty D B0 H locs ls hFix hB hSt hW hS hl
  | ireturn =>
    simp only [okI, Bool.and_eq_true] at hI
    have := Nat.eq_of_beq_eq_true hI.1
    subst this
    obtain ⟨x, e0, hh⟩ := p1I_e h; clear h; subst e0; have h := hh; clear hh
    obtain ⟨⟨rty, e1, e2⟩, h⟩ := rtk_e h
    exact W.zret hx hb (hr.trans e1) e2 (fun t ht hw => ⟨⟨some (.int x), M, rfl, h, by rw [ht]; exact hW.moved hw.alike⟩, va_S.F hS ht⟩) hS.2.2 hdec hlocks
  | lreturn =>
    simp only [okI, Bool.and_eq_true] at hI
    have := Nat.eq_of_beq_eq_true hI.1
    subst this
    obtain ⟨x, e0, hh⟩ := p1L_e h; clear h; subst e0; have h := hh; clear hh
    obtain ⟨e1, h⟩ := iff1_e h
    exact W.lret hx hb (hr.trans (isLng_e e1)) (fun t ht hw => ⟨⟨some (.long x), M, rfl, h, by rw [ht]; exact hW.moved hw.alike⟩, va_S.F hS ht⟩) hS.2.2 hdec hlocks
  | areturn =>
    simp only [okI, Bool.and_eq_true] at hI
    have := Nat.eq_of_beq_eq_true hI.1
    subst this
    replace h : p1A st (fun v => iff1 (isObj (mi k).2.2.2.1) (Q (some v) M)) := h
    rcases p1A_e h with ⟨x, rfl, hh⟩ | ⟨rfl, hh⟩
    · obtain ⟨e1, h⟩ := iff1_e hh
      obtain ⟨n, e1⟩ := isObj_e e1
      exact W.aret hx hb (hr.trans e1) (Or.inl ⟨n, rfl⟩) (Or.inr ⟨_, rfl⟩) (fun t ht hw => ⟨⟨some (.ref x), M, rfl, h, by rw [ht]; exact hW.moved hw.alike⟩, va_S.F hS ht⟩) hS.2.2 hdec hlocks
    · obtain ⟨e1, h⟩ := iff1_e hh
      obtain ⟨n, e1⟩ := isObj_e e1
      exact W.aret hx hb (hr.trans e1) (Or.inl ⟨n, rfl⟩) (Or.inl rfl) (fun t ht hw => ⟨⟨some .null, M, rfl, h, by rw [ht]; exact hW.moved hw.alike⟩, va_S.F hS ht⟩) hS.2.2 hdec hlocks
  | return_ =>
    simp only [okI, Bool.and_eq_true] at hI
    have := Nat.eq_of_beq_eq_true hI.1
    subst this
    obtain ⟨e0, hh⟩ := p0_e h; clear h; subst e0; have h := hh; clear hh
    obtain ⟨e1, h⟩ := iff1_e h
    exact W.vret hx hb (hr.trans (Option.isNone_iff_eq_none.mp e1)) (fun t ht hw => ⟨⟨none, M, rfl, h, by rw [ht]; exact hW.moved hw.alike⟩, va_S.F hS ht⟩) hS.2.2 hdec hlocks
  | _ => exact False.elim h
end Stp
