/-! the law from its entry, by a walk from behind the making of its object -/
theorem dS_0 : decode code 0 = .ok (.new 8, 3) := by decide +kernel
theorem dS_3 : decode code 3 = .ok (.dup, 1) := by decide +kernel
theorem dS_4 : decode code 4 = .ok (.invokespecial 100, 3) := by decide +kernel
theorem dS_7 : decode code 7 = .ok (.astore_n 1, 1) := by decide +kernel
set_option maxHeartbeats 4000000 in
set_option maxRecDepth 100000 in
theorem start_of {p : Program} {e : Jvm.Env} {s : State} {m : MethodId} {below : List Frame} {meth : Method} {c : Code} (l : Launch) {b L : Nat} {xs : Nat → Int32} (C0 : lw_At p s m meth c b L xs) (hJ : ∀ Bd : Nat → Lv → List Value → JSt → Prop, JOk L xs 12 (jcl L xs 12) Bd (fun x _ => x = 1) → JDue Bd → Bd 8 [(1, .ref 0), (0, .ref 950)] [] (M00, [], 1000)) : W p l e room_1 s m #[Value.ref b] below meth c s.heap [] 0 0 (lw_Z below #[Value.ref b] s) (entryFrame m ([Value.ref b] : List Value).toArray 24) := by
  obtain ⟨hx, hb, hr, hml, hown, hts, hX, hbl, hlocks, hgv⟩ := id C0
  have htsG := lwG_hts hts
  have hA : ∀ q : Nat, s.heap.size ≤ q → (fun q : Nat => s.heap.size ≤ q) q := fun _ h => h
  obtain ⟨t1, t2, t4, t5, hSt⟩ := start_st C0
  obtain ⟨D, ty, hK, hK5, hK6⟩ := start_K hts
  have hAO : va_AO "HayRemembers$Shelf" s := va_AO.of (hts (.arrayOver (.object "HayRemembers$Shelf")) (lwT_2 19 rfl))
  have hS : va_S (fun q : Nat => s.heap.size ≤ q) s.heap s.heap [] := va_S.rf
  have hP : va_P D vwCl [] s.heap := fun k q h => by simp at h
  have hD : va_D (fun q : Nat => s.heap.size ≤ q) [] := ⟨fun i j p q h => by simp at h, fun k q h => by simp at h⟩
  have hl := lv_entry ([.ref b]) (n := 24) (Nat.le_of_ble_eq_true rfl)
  rw [lg_entry_eq]
  generalize (lg_sl ([.ref b]) ++ List.replicate (24 - (lg_sl ([.ref b])).length) Slot.unset).toArray = ls at hl ⊢
  have hl : lv_has ls 24 [(0, .ref b)] := hl
  refine va_new (ci := 9) (fs := [.null, .null, .null, .null, .null, .null, .null, .null, .null, .null, .null, .null, .int 0, .int 0, .int 0, .int 0]) (C := RX9) (T := TX9) (N := 16) hx hb htsG uw_9 tyX9 tyX9_ok hown (htsG _ (lwG_1 20 rfl rfl)) (htsG _ (lwG_1 21 rfl rfl)) (htsG _ (lwG_1 1 rfl rfl)) hK hP hD hS hA rfl (dfl_9) (Nat.le_of_ble_eq_true rfl) (Nat.le_of_ble_eq_true rfl) dS_0 (fun qa H hP hD hS => ?_)
  refine lv_dup hx hb dS_3 rfl ?_
  have hPc := hP.sub (ws' := [(qa, .inr (9, [.null, .null, .null, .null, .null, .null, .null, .null, .null, .null, .null, .null, .int 0, .int 0, .int 0, .int 0]))]) [0] rfl
  have hDc := hD.sub (ws' := [(qa, .inr (9, [.null, .null, .null, .null, .null, .null, .null, .null, .null, .null, .null, .null, .int 0, .int 0, .int 0, .int 0]))]) [0] (by decide) rfl
  have hFc := va_free (wc := [(qa, .inr (9, [.null, .null, .null, .null, .null, .null, .null, .null, .null, .null, .null, .null, .int 0, .int 0, .int 0, .int 0]))]) hD hS hA [0] rfl
  refine va_callv (va_runI (As := []) (rest := [.ref qa]) ⟨hx, hb, hml, hown, htsG⟩ (ci_9 l D ty qa H.size) (cwI 0 htsG wIg_9 rfl rfl rfl (htsG _ (lwG_1 1 rfl rfl)) (htsG _ (lwG_1 22 rfl rfl)) (htsG _ (lwG_1 23 rfl rfl)) rfl (by decide +kernel) ⟨Nat.le_of_ble_eq_true rfl, Nat.le_of_ble_eq_true rfl⟩) ⟨fun a U g mk q => by obtain ⟨q0, q1, qP, qK, qD, qA⟩ := q; exact ⟨q0, q1, qP, va_K.moved (u := U) (U := U.calling g mk a) (Vm.Alike.refl U.vm) qK, qD, va_AO.moved (u := U) (U := U.calling g mk a) (Vm.Alike.refl U.vm) qA⟩, fun U hU hW => ⟨rfl, by rw [hU], by rw [hU]; exact hPc, va_K.moved hW.alike hK, hDc.weaken (fun _ _ _ _ => trivial), va_AO.moved hW.alike hAO⟩⟩ rfl rfl hl.1 rfl (lv_room (Nat.le_of_ble_eq_true rfl)) dS_4 ⟨Nat.le_of_ble_eq_true rfl, Nat.le_of_ble_eq_true rfl⟩) hS (fun q _ h => hFc q h) hFc (fun ua t H1 locs ht hvm hw hB hz1 hk1 hS => ?_)
  obtain ⟨hP1, -, hD1⟩ := hB
  rw [ht] at hP1
  obtain ⟨hP, hD⟩ := va_join (wr := []) (w1 := wc_9 ty qa ua) hP hD [0] [] rfl rfl (by decide) (by decide) hk1 hFc hP1 hD1
  generalize H1 = H at hP hS ⊢
  have hP : va_P D vwCl (wc_9 ty qa ua) H := hP
  have hD : va_D (fun q : Nat => s.heap.size ≤ q) (wc_9 ty qa ua) := hD
  refine lv_astore_n (lv' := [(1, .ref qa), (0, .ref b)]) hx hb dS_7 rfl hl (by decide) rfl (fun ls hl => ?_)
  refine W.widen (k := 55) (n := 11903) (Nat.le_of_ble_eq_true rfl) (Nat.le_of_ble_eq_true rfl) ?_
  obtain ⟨hPw, hDw⟩ := wld00 (bb := b) (t1 := t1) (t2 := t2) (t4 := t4) (t5 := t5) hP hD
  have hSt := hSt (adF qa ua b t1 t2 t4 t5) rfl rfl rfl rfl
  have hDi : va_D (inA (s.heap.size, H.size)) (wsA (adF qa ua b t1 t2 t4 t5) ty M00) := hDw.weaken (fun k q hk ha => ⟨ha, (hPw k q hk).lt⟩)
  have e950 : adF qa ua b t1 t2 t4 t5 950 = b := rfl
  have F : FixJ 12 L xs p room_1 s m #[Value.ref b] meth c (adF qa ua b t1 t2 t4 t5) (s.heap.size, H.size) (fun q : Nat => s.heap.size ≤ q) :=
    ⟨hx, hb, hml, hown, htsG, ⟨by rw [e950]; exact hX, by rw [e950]; exact hbl, by rw [e950]; exact Nat.not_le.mpr hbl, by rw [e950]; exact hbl⟩, hSt, fun q hq => hq.1, fun q hq => hq, Nat.le_of_ble_eq_true rfl, Nat.le_of_ble_eq_true rfl, by omega⟩
  have hJ2 := hJ _ (JOk_JS (k := 12) (L := L) (xs := xs) (p := p) (l := l) (e0 := e) (R := room_1) (s := s) (m := m) (below := below) (meth := meth) (c := c) (ad := adF qa ua b t1 t2 t4 t5) (ty := ty) (D := D) (B0 := (s.heap.size, H.size)) (A := fun q : Nat => s.heap.size ≤ q)
    (Zt := lw_Z below #[Value.ref b] s) (Zr := fun x _ => x = 1) F (fun Z pc lv x S hz hdec hrt tt H locs ls nC nS hC hSl hB2 hW2 hT2 hS2 hl2 => by
      obtain ⟨-, hrt⟩ := rtJ_e hrt
      have e1 := hz _ _ hrt
      subst e1
      refine va_forget (fun q hq => hS2.2.2 q hq) ?_
      have hC' : nC + S.2.2 ≤ 600000 := hC
      have hS' : nS + 40 * S.2.2 ≤ 7302250 := hSl
      refine W.widen (k := 600000) (n := 7302250) (by omega) (by omega) ?_
      exact lw_ret hx hb hr hlocks hdec))
    ⟨fun lv n a k f M g h1 h2 h3 h4 h5 => js_multi F hK6 (htsG _ (lwG_4 238 rfl rfl)) (hts _ (lwT_4 239 rfl)) h1 h2 h3 h4 h5, fun pc lv rest S i n h1 h2 h3 h4 h5 => by
      rcases h1 with rfl | rfl | rfl
      · exact js_aaload F hK5 dD_181 h2 h3 h4 h5
      · exact js_aaload F hK5 dD_545 h2 h3 h4 h5
      · exact js_aaload F hK5 dD_562 h2 h3 h4 h5⟩
  have r1 : ∀ t ∈ ([] : Tm), t.2.1 = true → (fun q : Nat => s.heap.size ≤ q) ((fun _ : Nat => 0) t.1) := fun t ht => absurd ht List.not_mem_nil
  have r2 : ∀ t ∈ ([] : Tm), 1000 ≤ t.1 := fun t ht => absurd ht List.not_mem_nil
  have r3 : va_P D vwCl (wsT ty (fun _ => 0) []) H := fun k q h => by simp [wsT] at h
  have r4 : va_D (fun q => H.size ≤ q) (wsT ty (fun _ => 0) []) := ⟨fun i j p q h => by simp [wsT] at h, fun k q h => by simp [wsT] at h⟩
  exact hJ2 (fun _ => 0) H locs ls 55 11903 (Nat.le_of_ble_eq_true rfl) (Nat.le_of_ble_eq_true rfl) (Nat.le_refl _) ⟨hPw, hK, hDi⟩ ⟨r3, r4, r1, r2⟩ hS hl
