/-! a step of the law's machine is a step of the JVM -/
theorem ldD_e {lv : Lv} {i : Nat} {f : UInt64 → Prop} (h : ldD lv i f) : ∃ x, lkp lv i = some (.double x) ∧ f x := by
  unfold ldD at h
  split at h
  · exact ⟨_, by assumption, h⟩
  · cases h
theorem pD_e {st : List Value} {f : UInt64 → List Value → Prop} (h : pD st f) : ∃ x r, st = .double x :: r ∧ f x r := by
  match st, h with
  | .double x :: r, h => exact ⟨x, r, rfl, h⟩
theorem isRef_f {id k : Nat} (h : isRef id (.ref k) = false) : k ≠ id := by
  intro e
  subst e
  have h1 : Nat.beq k k = false := h
  rw [Nat.beq_refl] at h1
  cases h1
theorem cv_up {ad tt : Nat → Nat} {id q : Nat} {v : Value} (hid : 1000 ≤ id) (h : isRef id v = false) : cv (aj ad (fun a => if a = id then q else tt a)) v = cv (aj ad tt) v := by
  cases v with
  | ref k =>
    have hk := isRef_f h
    show Value.ref _ = Value.ref _
    congr 1
    rcases Nat.lt_or_ge k 1000 with g | g
    · rw [aj_lo g, aj_lo g]
    · rw [aj_hi g, aj_hi g, if_neg hk]
  | _ => rfl
theorem freshV_up {ad tt : Nat → Nat} {id q : Nat} (hid : 1000 ≤ id) : ∀ {st : List Value}, freshV id st = true → st.map (cv (aj ad (fun a => if a = id then q else tt a))) = st.map (cv (aj ad tt))
  | [], _ => rfl
  | v :: l, h => by
    unfold freshV at h
    rw [Bool.and_eq_true, Bool.not_eq_true'] at h
    rw [List.map_cons, List.map_cons, cv_up hid h.1, freshV_up hid h.2]
theorem freshL_up {ad tt : Nat → Nat} {id q : Nat} (hid : 1000 ≤ id) : ∀ {lv : Lv}, freshL id lv = true → lv.map (cvp (aj ad (fun a => if a = id then q else tt a))) = lv.map (cvp (aj ad tt))
  | [], _ => rfl
  | v :: l, h => by
    unfold freshL at h
    rw [Bool.and_eq_true, Bool.not_eq_true'] at h
    rw [List.map_cons, List.map_cons, freshL_up hid h.2]
    show (v.1, _) :: _ = (v.1, _) :: _
    rw [cv_up hid h.1]
theorem rtJ_e {rt : Option FieldType} {x : Int32} {f : Prop} (h : rtJ rt x f) : (∃ ty, rt = some ty ∧ narrow ty (.int x) = .int x) ∧ f := by
  unfold rtJ at h
  split at h
  · exact ⟨⟨_, rfl, rfl⟩, h⟩
  · refine ⟨⟨_, rfl, ?_⟩, h.2⟩
    rcases h.1 with rfl | rfl <;> rfl
  · cases h
theorem jxB : jxL.all (fun t => Nat.beq t.2 1001 || Nat.beq t.2 1002 || Nat.beq t.2 1003) = true := by decide +kernel
theorem jxa_e {ix aux : Nat} (h : (jxL.any fun t => Nat.beq t.1 ix && Nat.beq t.2 aux) = true) : aux = 1001 ∨ aux = 1002 ∨ aux = 1003 := by
  obtain ⟨t, h1, h2⟩ := mem_any h
  rw [Bool.and_eq_true] at h2
  have e2 := Nat.eq_of_beq_eq_true h2.2
  have h3 := List.all_eq_true.mp jxB t h1
  simp only [Bool.or_eq_true] at h3
  rw [← e2]
  rcases h3 with (h3 | h3) | h3
  · exact Or.inl (Nat.eq_of_beq_eq_true h3)
  · exact Or.inr (Or.inl (Nat.eq_of_beq_eq_true h3))
  · exact Or.inr (Or.inr (Nat.eq_of_beq_eq_true h3))
section JST
variable {k L : Nat} {xs : Nat → Int32} {p : Program} {l : Launch} {e0 : Env} {R : Room} {s : State} {m : MethodId} {args : Array Value} {below : List Frame} {meth : Method} {c : Code} {ad : Nat → Nat} {ty : Nat → ClassId} {D : va_G} {B0 : Nat × Nat} {A : Nat → Prop} {Zt : State → Prop}
theorem jok_virtual {pc ix aux : Nat} {lv : Lv} {st : List Value} {S : JSt} {nx : List Value → Mem → Prop} {vc : Nat → List Value → Mem → Po → Prop} (F : FixJ k L xs p R s m args meth c ad B0 A) (hdec : decode (jm k).2.1 pc = .ok (.invokevirtual ix, 3)) (hI : (jvL.any fun t => Nat.beq t.1 ix && Nat.beq t.2 aux) = true)
    (hnx : ∀ st' M', nx st' M' → JS k p l e0 R s m args below meth c ad ty D B0 A Zt (pc + 3) lv st' (M', S.2.1, S.2.2)) (hvc : ∀ k' as M Q, vc k' as M Q → Call 250 k' as M Q) (h : jV aux st S.1 nx vc) : JS k p l e0 R s m args below meth c ad ty D B0 A Zt pc lv st S := by
  intro tt H locs ls nC nS hC hSl hB hW hT hS hl
  obtain ⟨hx, hb, hml, hown, hts, hX, hSt, hA1, hA2, hR1, hR2, hk⟩ := id F
  obtain ⟨hP, hK, hD⟩ := id hW
  obtain ⟨hk', hci, hstat, hlink⟩ := jvm_e hI
  unfold jV at h
  obtain ⟨a, r, he, h⟩ := pR_e h
  obtain ⟨h8, hh⟩ := iff1_e h
  clear h
  have h := hh
  clear hh
  simp only [Bool.and_eq_true] at h8
  obtain ⟨⟨h8, h9⟩, h10⟩ := h8
  have h9 := Nat.eq_of_beq_eq_true h9
  subst h9
  have hCall := hvc _ _ _ _ h
  have w3 := (wm_all hk').2.2
  rw [hstat] at w3
  obtain ⟨y1, -⟩ := okY_e hk'
  have hlen : (mi aux).2.2.2.2.2.1 < st.length := by
    rcases Nat.lt_or_ge (mi aux).2.2.2.2.2.1 st.length with q | q
    · exact q
    · rw [List.drop_eq_nil_of_le q] at he; cases he
  have hla : ∃ fs, layK 0 = (0, 9, fs) := ⟨_, rfl⟩
  obtain ⟨fs, hla⟩ := hla
  have hcell : ∃ cell : Cell, H[ad 0]? = some cell ∧ cell.vm.isStatics = false ∧ s.vm.findClass (mi aux).1.cls = some cell.cls := by
    rw [y1, hci]
    exact va_recv hK hP (cf_all (lay0 hla).1).1 (wsA_obj hla)
  have hnum : ((st.take (mi aux).2.2.2.2.2.1).reverse).map (cv (aj ad tt)) = ((st.take (mi aux).2.2.2.2.2.1).reverse).map (cv ad) := by
    rw [List.map_reverse, List.map_reverse, cv_nums h10]
  refine callJ (va_runV (As := (st.take (mi aux).2.2.2.2.2.1).reverse.map (cv ad)) (rest := r.map (cv (aj ad tt))) (b := ad 0) (C := (mi aux).1.cls) ⟨hx, hb, hml, hown, hts⟩ (hCall.2 l ad ty D B0) ⟨callB_C (by omega) (by omega) hk' hts hlink, hts _ w3.1, hts _ w3.2⟩ ⟨blind_of _ ad ty D B0 S.1, hcell, fun U hU hw => ?_⟩ rfl ?_ hl.1 ?_ ?_ hdec ⟨by omega, by omega⟩) hA1 hB hT hS ?_
  · subst hU
    exact ⟨rfl, Nat.le_of_lt (Nat.lt_of_lt_of_le (hD.2 0 _ (wsA_obj hla)).2 hB |> fun q => Nat.lt_of_le_of_lt (hD.2 0 _ (wsA_obj hla)).1 q), hW.moved hw.alike, (((hSt.kept hS.2.1).moved hw).narrow hA1).A⟩
  · rw [List.length_map, List.length_reverse, List.length_take]; omega
  · show st.map (cv (aj ad tt)) = _
    rw [← hnum, ← List.map_reverse, List.reverse_reverse]
    conv => lhs; rw [← List.take_append_drop (mi aux).2.2.2.2.2.1 st, he]
    rw [List.map_append]
    rfl
  · show 2 * 0 + _ ≤ 8
    rw [Nat.mul_zero, Nat.zero_add]
    exact room8_e h8
  · intro v M1 H1 locs1 hq hW1 hB1 hT1 hS1
    obtain ⟨x, rfl, hq, hxn⟩ := numV_e hq
    have := hnx _ _ hq tt H1 locs1 ls nC nS hC hSl hB1 hW1 hT1 hS1 hl
    rw [List.map_cons, cv_num (b := ad) hxn] at this
    exact this
theorem jok_static {pc ix aux : Nat} {lv : Lv} {st : List Value} {S : JSt} {nx : List Value → JSt → Prop} {sc : Nat → List Value → JSt → (Int32 → Mem → Prop) → Prop} (F : FixJ k L xs p R s m args meth c ad B0 A) (hdec : decode (jm k).2.1 pc = .ok (.invokestatic ix, 3))
    (hI : (jsL.any fun t => Nat.beq t.1 ix && Nat.beq t.2 aux) = true ∨ (Nat.ble 1001 aux = true ∧ (jxL.any fun t => Nat.beq t.1 ix && Nat.beq t.2 aux) = true))
    (hnx : ∀ st' S', nx st' S' → JS k p l e0 R s m args below meth c ad ty D B0 A Zt (pc + 3) lv st' S') (hsc : ∀ k' as S' Q, sc k' as S' Q → jcl L xs k k' as S' Q) (h : jS aux st S nx sc) : JS k p l e0 R s m args below meth c ad ty D B0 A Zt pc lv st S := by
  intro tt H locs ls nC nS hC hSl hB hW hT hS hl
  obtain ⟨hx, hb, hml, hown, hts, hX, hSt, hA1, hA2, hR1, hR2, hk⟩ := id F
  unfold jS at h
  rcases hI with hI | ⟨hI1, hI⟩
  · obtain ⟨hk', hlink⟩ := jsm_e hI
    have hlt : Nat.blt aux 1000 = true := Nat.ble_eq_true_of_le (by omega)
    rw [hlt] at h
    obtain ⟨h8, h⟩ := iff1_e h
    simp only [Bool.and_eq_true] at h8
    obtain ⟨⟨h9, h8⟩, h10⟩ := h8
    have h9 := Nat.le_of_ble_eq_true h9
    have hg : ∃ g, S.2.2 = jcost aux + g ∧ sc aux (st.take (jm aux).2.2.2.2).reverse S fun x M1 => nx (.int x :: st.drop (jm aux).2.2.2.2) (M1, S.2.1, g) := by
      have h11 : aux = 11 ∨ jcost aux = 0 := by
        by_cases q : aux = 11
        · exact Or.inl q
        · refine Or.inr ?_
          unfold jcost
          split
          · exact absurd rfl q
          · rfl
      rcases h11 with q | q
      · have e1 : jcost aux = 1 := by rw [q]; rfl
        rw [e1] at h ⊢
        revert h
        cases hs : S.2.2 with
        | zero => intro h; exact h.elim
        | succ g => intro h; exact ⟨g, by omega, h⟩
      · rw [q] at h ⊢
        exact ⟨S.2.2, by omega, h⟩
    obtain ⟨g, eg, h⟩ := hg
    obtain ⟨hlv, T', hsub, hJ⟩ := hsc _ _ _ _ h
    obtain ⟨w1, w2⟩ := jw_all hk'
    have hT' := WT_sub hT hsub
    refine callH (Q1 := fun x M1 => nx (.int x :: st.drop (jm aux).2.2.2.2) (M1, S.2.1, g)) (va_runS (As := (st.take (jm aux).2.2.2.2).reverse.map (cv (aj ad tt))) (rest := (st.drop (jm aux).2.2.2.2).map (cv (aj ad tt))) ⟨hx, hb, hml, hown, hts⟩ (hJ.2 l ad ty D B0 tt H.size) ⟨callB_H hlv hR1 hR2 hk' hts hlink, hts _ w2⟩ ⟨blindJ _ ad ty D B0 tt H.size S.1 T', fun U hU hw => ?_⟩ rfl ?_ hl.1 ?_ ?_ hdec ⟨by omega, by omega⟩) hA1 hA2 hB hT hS ?_
    · subst hU
      have hXk : U.heap[ad 950]? = s.heap[ad 950]? := hS.2.1 _ hX.2.1 hX.2.2.1
      exact ⟨rfl, rfl, hB, hX.2.2.2, Nat.lt_of_lt_of_le hX.2.1 hS.1, (hX.1.kept hXk).moved hw.alike, hW.moved hw.alike, hT'.1, hT'.2.1, hT'.2.2.2, ((hSt.kept hS.2.1).moved hw).narrow (fun q hq => hq.elim (hA1 q) (fun z => hA2 q (Nat.le_trans hS.1 z)))⟩
    · rw [List.length_map, List.length_reverse, List.length_take]; omega
    · show st.map (cv (aj ad tt)) = _
      rw [← List.map_reverse, List.reverse_reverse, ← List.map_append, List.take_append_drop]
    · show 2 * 0 + _ ≤ 8
      rw [Nat.mul_zero, Nat.zero_add]
      exact room8_e h8
    · intro x M1 H1 locs1 hq hW1 hB1 hT1 hS1
      exact hnx _ _ hq tt H1 locs1 ls (nC + jcost aux) (nS + 40 * jcost aux) (by show nC + jcost aux + g ≤ _; omega) (by show nS + 40 * jcost aux + 40 * g ≤ _; omega) hB1 hW1 hT1 hS1 hl
  · have hmls : c.maxLocals = ls.size := hml.trans hl.1.symm
    have hlink := jxm_e hI
    have hge := Nat.le_of_ble_eq_true hI1
    have hlt : Nat.blt aux 1000 = false := by
      cases hb2 : Nat.blt aux 1000 with
      | false => rfl
      | true => exact absurd (blt_lt hb2) (by omega)
    rw [hlt] at h
    have hf : 1 ≤ R.frames := by omega
    have hlo : ∀ {r : List Value} {n : Nat}, room8 r = true → n ≤ 32 → ((r.map (cv (aj ad tt))).map fun v => v.category).sum + n ≤ R.locals := by
      intro r n h8 hn
      have := room8_e (ad := aj ad tt) h8
      omega
    have go : ∀ {st' : List Value}, nx st' S → W p l e0 R s m args below meth c H locs nC nS Zt (F0 m (pc + 3) ls (st'.map (cv (aj ad tt)))) :=
      fun hn => hnx _ _ hn tt H locs ls nC nS hC hSl hB hW hT hS hl
    rcases jxa_e hI with rfl | rfl | rfl
    · obtain ⟨y, r, e9, hh⟩ := pI_e h; clear h; subst e9; have h := hh; clear hh
      obtain ⟨x, q, e9, hh⟩ := pI_e h; clear h; subst e9; have h := hh; clear hh
      obtain ⟨h8, h⟩ := iff1_e h
      exact va_mmax hx hb hmls hown (hts _ hlink) (hts _ wl_max_s) (hts _ wl_iMath) (hts _ wl_max_c) hf (hlo h8 (by omega)) (by omega) (by omega) hdec (go (st' := .int _ :: q) h)
    · obtain ⟨y, r, e9, hh⟩ := pI_e h; clear h; subst e9; have h := hh; clear hh
      obtain ⟨x, q, e9, hh⟩ := pI_e h; clear h; subst e9; have h := hh; clear hh
      obtain ⟨h8, h⟩ := iff1_e h
      exact va_mmin hx hb hmls hown (hts _ hlink) (hts _ wl_min_s) (hts _ wl_iMath) (hts _ wl_min_c) hf (hlo h8 (by omega)) (by omega) (by omega) hdec (go (st' := .int _ :: q) h)
    · obtain ⟨x, q, e9, hh⟩ := pI_e h; clear h; subst e9; have h := hh; clear hh
      obtain ⟨h8, h⟩ := iff1_e h
      exact va_mabs hx hb hmls hown (hts _ hlink) (hts _ wl_abs_s) (hts _ wl_iMath) (hts _ wl_abs_c) hf (hlo h8 (by omega)) (by omega) (by omega) hdec (go (st' := .int _ :: q) h)
end JST
