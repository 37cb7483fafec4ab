/-! the law's own arrays, and a whole step -/
section JST
variable {k L : Nat} {xs : Nat → Int32} {p : Program} {l : Launch} {e0 : Env} {R : Room} {s : State} {m : MethodId} {args : Array Value} {below : List Frame} {meth : Method} {c : Code} {ad : Nat → Nat} {ty : Nat → ClassId} {D : va_G} {B0 : Nat × Nat} {A : Nat → Prop} {Zt : State → Prop}
theorem ldT_e {T : Tm} {a : Nat} {F : Nat → (Nat → Int32) → Prop} (h : ldT L xs T a F) : (a = 950 ∧ F L xs) ∨ (¬ a = 3153 ∧ ∃ (w : Bool) (n : Nat) (f : Nat → Int32), lkT T a = some (w, n, f) ∧ F n f) := by
  unfold ldT at h
  split at h
  · next hb => exact Or.inl ⟨Nat.eq_of_beq_eq_true hb, h⟩
  · exact h.elim
  · next hb =>
    refine Or.inr ⟨fun e => ?_, h⟩
    subst e
    cases hb
theorem wsT_at {tt : Nat → Nat} {T : Tm} {j : Nat} {x : Nat × Bool × Nat × (Nat → Int32)} (h : T[j]? = some x) : (wsT ty tt T)[j]? = some (tmE ty tt x) := by
  unfold wsT
  rw [List.getElem?_map, h]
  rfl
theorem jok_iaload {pc : Nat} {lv : Lv} {st : List Value} {S : JSt} {nx : List Value → Prop} (F : FixJ k L xs p R s m args meth c ad B0 A) (hdec : decode (jm k).2.1 pc = .ok (.iaload, 1))
    (hnx : ∀ st', nx st' → JS k p l e0 R s m args below meth c ad ty D B0 A Zt (pc + 1) lv st' S) (h : pI st fun i r => pR r fun a q => ldT L xs S.2.1 a fun n f => vp_in i n ∧ nx (.int (f i.toNatClampNeg) :: q)) : JS k p l e0 R s m args below meth c ad ty D B0 A Zt pc lv st S := by
  intro tt H locs ls nC nS hC hSl hB hW hT hS hl
  obtain ⟨hx, hb, hml, hown, hts, hX, hSt, hA1, hA2, hR1, hR2, hk⟩ := id F
  obtain ⟨i, r, e9, hh⟩ := pI_e h; clear h; subst e9; have h := hh; clear hh
  obtain ⟨a, q, e9, hh⟩ := pR_e h; clear h; subst e9; have h := hh; clear hh
  rcases ldT_e h with ⟨ea, hi, h2⟩ | ⟨hne, w, n, f, hlk, hi, h2⟩
  · subst ea
    exact va_sld hx hb hX.1 hX.2.1 hX.2.2.1 hS hi hdec (hnx _ h2 tt H locs ls nC nS hC hSl hB hW hT hS hl)
  · obtain ⟨j, hj⟩ := lkT_i hlk
    have ha : 1000 ≤ a := hT.2.2.2 _ (List.mem_of_getElem? hj)
    show W p l e0 R s m args below meth c H locs nC nS Zt (F0 m pc ls (.int i :: .ref (aj ad tt a) :: q.map (cv (aj ad tt))))
    rw [aj_hi ha]
    exact va_iald hx hb hW.2.1 hT.1 j 0 ((wsT_at hj).trans (by rw [tmE, tmX_i hne])) rfl hi hdec (hnx _ h2 tt H locs ls nC nS hC hSl hB hW hT hS hl)
theorem jok_alen {pc : Nat} {lv : Lv} {st : List Value} {S : JSt} {nx : List Value → Prop} (F : FixJ k L xs p R s m args meth c ad B0 A) (hdec : decode (jm k).2.1 pc = .ok (.arraylength, 1))
    (hnx : ∀ st', nx st' → JS k p l e0 R s m args below meth c ad ty D B0 A Zt (pc + 1) lv st' S) (h : pR st fun a r => ldT L xs S.2.1 a fun n _ => nx (.int (nI n) :: r)) : JS k p l e0 R s m args below meth c ad ty D B0 A Zt pc lv st S := by
  intro tt H locs ls nC nS hC hSl hB hW hT hS hl
  obtain ⟨hx, hb, hml, hown, hts, hX, hSt, hA1, hA2, hR1, hR2, hk⟩ := id F
  obtain ⟨a, q, e9, hh⟩ := pR_e h; clear h; subst e9; have h := hh; clear hh
  rcases ldT_e h with ⟨ea, h2⟩ | ⟨hne, w, n, f, hlk, h2⟩
  · subst ea
    exact va_slen hx hb hX.1 hX.2.1 hX.2.2.1 hS hdec (hnx _ h2 tt H locs ls nC nS hC hSl hB hW hT hS hl)
  · obtain ⟨j, hj⟩ := lkT_i hlk
    have ha : 1000 ≤ a := hT.2.2.2 _ (List.mem_of_getElem? hj)
    show W p l e0 R s m args below meth c H locs nC nS Zt (F0 m pc ls (.ref (aj ad tt a) :: q.map (cv (aj ad tt))))
    rw [aj_hi ha]
    have hwj : (wsT ty tt S.2.1)[j]? = some (tt a, .inl (ty 0, n, .inl f)) := (wsT_at hj).trans (by rw [tmE, tmX_i hne])
    exact va_alen hx hb hW.2.1 hT.1 j 0 hwj rfl rfl hdec (hnx _ h2 tt H locs ls nC nS hC hSl hB hW hT hS hl)
theorem jok_iastore {pc : Nat} {lv : Lv} {st : List Value} {S : JSt} {nx : List Value → JSt → Prop} (F : FixJ k L xs p R s m args meth c ad B0 A) (hdec : decode (jm k).2.1 pc = .ok (.iastore, 1))
    (hnx : ∀ st' S', nx st' S' → JS k p l e0 R s m args below meth c ad ty D B0 A Zt (pc + 1) lv st' S') (h : pI st fun x r => pI r fun i q => pR q fun a z => stT S.2.1 a fun n f => vp_in i n ∧ nx z (S.1, setT S.2.1 a (upd f i.toNatClampNeg x), S.2.2)) : JS k p l e0 R s m args below meth c ad ty D B0 A Zt pc lv st S := by
  intro tt H locs ls nC nS hC hSl hB hW hT hS hl
  obtain ⟨hx, hb, hml, hown, hts, hX, hSt, hA1, hA2, hR1, hR2, hk⟩ := id F
  obtain ⟨x, r, e9, hh⟩ := pI_e h; clear h; subst e9; have h := hh; clear hh
  obtain ⟨i, q, e9, hh⟩ := pI_e h; clear h; subst e9; have h := hh; clear hh
  obtain ⟨a, z, e9, hh⟩ := pR_e h; clear h; subst e9; have h := hh; clear hh
  obtain ⟨hne, n, f, hlk, hi, h⟩ := iff1_e h
  have hne : ¬ a = 3153 := fun e => by subst e; cases hne
  obtain ⟨j, hj, hset⟩ := setT_i (upd f i.toNatClampNeg x) hlk
  rw [hset] at h
  have ha : 1000 ≤ a := hT.2.2.2 _ (List.mem_of_getElem? hj)
  have hAa : A (tt a) := hT.2.2.1 _ (List.mem_of_getElem? hj) rfl
  have hwj : (wsT ty tt S.2.1)[j]? = some (tt a, .inl (ty 0, n, .inl f)) := (wsT_at hj).trans (by rw [tmE, tmX_i hne])
  have hcell : H[tt a]? = some (vp_cell (ty 0) (n, .inl f)) := hT.1 j _ hwj
  have hbh : B0.2 ≤ tt a := hT.2.1.2 j _ hwj
  show W p l e0 R s m args below meth c H locs nC nS Zt (F0 m pc ls (.int x :: .int i :: .ref (aj ad tt a) :: z.map (cv (aj ad tt))))
  rw [aj_hi ha]
  refine W.iast hx hb hcell ((hW.2.1.2 0 _ rfl).1 n (fun j => .int (f j))) (fun q => by cases q) (by show ¬ (i < 0 ∨ (arrV _ _ _).slots.size ≤ _); rw [arrV_size]; exact hi) rfl rfl hdec fun H1 e9 z9 oq => ?_
  have he : va_at D vwCl (tt a, .inl (ty 0, n, .inl (upd f i.toNatClampNeg x))) H1 := by
    show H1[tt a]? = some (vp_cell _ _)
    rw [e9]
    rw [vp_cell_i, vp_cell_i, arrV_store]
    congr 2
    funext q
    by_cases hq : q = i.toNatClampNeg
    · subst hq
      simp [updV, upd]
    · simp [updV, upd, hq]
  have hmap : wsT ty tt (S.2.1.set j (a, true, n, upd f i.toNatClampNeg x)) = (wsT ty tt S.2.1).set j (tt a, .inl (ty 0, n, .inl (upd f i.toNatClampNeg x))) := by
    unfold wsT
    rw [List.map_set, tmE, tmX_i hne]
  have hT1 : WT ty D B0 tt A H1 (S.2.1.set j (a, true, n, upd f i.toNatClampNeg x)) := by
    refine ⟨by rw [hmap]; exact hT.1.set hT.2.1 hwj he oq, by rw [hmap]; exact hT.2.1.set hwj, fun t ht hw => ?_, fun t ht => ?_⟩
    · rcases List.mem_or_eq_of_mem_set ht with ht | ht
      · exact hT.2.2.1 t ht hw
      · subst ht; exact hAa
    · rcases List.mem_or_eq_of_mem_set ht with ht | ht
      · exact hT.2.2.2 t ht
      · subst ht; exact ha
  exact hnx _ _ h tt H1 _ ls nC nS hC hSl (by rw [z9]; exact hB) (Wld_kept hW (fun q _ h2 => oq q (fun z => by rw [z] at h2; exact absurd h2.2 (Nat.not_lt.mpr hbh)))) hT1 (hS.put z9 oq hAa) hl
theorem jok_newarray {pc : Nat} {lv : Lv} {st : List Value} {S : JSt} {nx : List Value → JSt → Prop} (F : FixJ k L xs p R s m args meth c ad B0 A) (hdec : decode (jm k).2.1 pc = .ok (.newarray .int, 2))
    (hnx : ∀ st' S', nx st' S' → JS k p l e0 R s m args below meth c ad ty D B0 A Zt (pc + 2) lv st' S') (h : pI st fun n r => iff1 (freshL (3000 + pc) lv && freshV (3000 + pc) r && !Nat.beq (3000 + pc) 3153) (useG 1 S.2.2 fun g => (¬ n < 0 ∧ n.toNatClampNeg ≤ 30) ∧ nx (.ref (3000 + pc) :: r) (S.1, newT S.2.1 (3000 + pc) n.toNatClampNeg, g))) : JS k p l e0 R s m args below meth c ad ty D B0 A Zt pc lv st S := by
  intro tt H locs ls nC nS hC hSl hB hW hT hS hl
  obtain ⟨hx, hb, hml, hown, hts, hX, hSt, hA1, hA2, hR1, hR2, hk⟩ := id F
  obtain ⟨n, r, e9, hh⟩ := pI_e h; clear h; subst e9; have h := hh; clear hh
  obtain ⟨h8, hh⟩ := iff1_e h; clear h; have h := hh; clear hh
  rw [Bool.and_eq_true, Bool.and_eq_true] at h8
  obtain ⟨h8, h9⟩ := h8
  have h9 : ¬ 3000 + pc = 3153 := fun e => by rw [e] at h9; cases h9
  have hg : ∃ g, S.2.2 = g + 1 ∧ (¬ n < 0 ∧ n.toNatClampNeg ≤ 30) ∧ nx (.ref (3000 + pc) :: r) (S.1, newT S.2.1 (3000 + pc) n.toNatClampNeg, g) := by
    revert h
    cases hs : S.2.2 with
    | zero => intro h; exact h.elim
    | succ g => intro h; exact ⟨g, rfl, h⟩
  obtain ⟨g, eg, ⟨hn0, hn30⟩, hh⟩ := hg
  clear h; have h := hh; clear hh
  refine va_newaK hx hb (hts _ jarr) (atype := .int) rfl hdec rfl hn0 rfl (by show n.toNatClampNeg * 4 ≤ _; omega) (by omega) (by omega) rfl fun H1 cA e1 z1 o1 hAr hNm => ?_
  have hty : cA = ty 0 := by
    have h2 := (hW.2.1.2 0 (ty 0, .int) rfl).2
    exact Option.some.inj (hNm.symm.trans h2)
  subst hty
  have hid : 1000 ≤ 3000 + pc := by omega
  have hsz := hS.1
  have hTd : WT ty D B0 tt A H (dropT (dropT S.2.1 (3000 + pc)) 3153) := WT_sub hT ((dropT_sub _ _).trans (dropT_sub _ _))
  have hTk : WT ty D B0 tt A H1 (dropT (dropT S.2.1 (3000 + pc)) 3153) := WT_kept hTd (fun q h1 _ => o1 q h1)
  have hmap : wsT ty (fun a => if a = 3000 + pc then H.size else tt a) (dropT (dropT S.2.1 (3000 + pc)) 3153) = wsT ty tt (dropT (dropT S.2.1 (3000 + pc)) 3153) := by
    unfold wsT
    apply List.map_congr_left
    intro t ht
    show ((if t.1 = 3000 + pc then H.size else tt t.1, tmX _ _ t) : Nat × va_E) = (tt t.1, tmX _ _ t)
    rw [if_neg (dropT_ne t ((dropT_sub _ _).subset ht)), tmX_i (dropT_ne t ht), tmX_i (dropT_ne t ht)]
  have hT1 : WT ty D B0 (fun a => if a = 3000 + pc then H.size else tt a) A H1 (newT S.2.1 (3000 + pc) n.toNatClampNeg) := by
    have hw : wsT ty (fun a => if a = 3000 + pc then H.size else tt a) (newT S.2.1 (3000 + pc) n.toNatClampNeg) = (H.size, .inl (ty 0, n.toNatClampNeg, .inl (fun _ => 0))) :: wsT ty tt (dropT (dropT S.2.1 (3000 + pc)) 3153) := by
      rw [← hmap]
      show ((if 3000 + pc = 3000 + pc then H.size else _), tmX _ _ _) :: _ = _
      rw [if_pos rfl, tmX_i (t := (3000 + pc, true, n.toNatClampNeg, fun _ => 0)) h9]
      rfl
    refine ⟨?_, ?_, ?_, ?_⟩
    · rw [hw]
      intro j q hj
      cases j with
      | zero =>
        cases hj
        show H1[H.size]? = some (vp_cell _ _)
        rw [vp_cell_i]
        exact e1
      | succ j => exact hTk.1 j q hj
    · rw [hw]
      refine va_D_of (List.pairwise_cons.mpr ⟨fun q hq e => ?_, va_D_pw hTk.2.1⟩) (fun q hq => ?_)
      · obtain ⟨j, hj⟩ := List.getElem?_of_mem hq
        have := (hTd.1 j q hj).lt
        have e : H.size = q.1 := e
        omega
      · rcases List.mem_cons.mp hq with hq | hq
        · subst hq; exact hB
        · obtain ⟨j, hj⟩ := List.getElem?_of_mem hq
          exact hTk.2.1.2 j q hj
    · intro t ht hw9
      rcases List.mem_cons.mp ht with ht | ht
      · subst ht
        show A (if 3000 + pc = 3000 + pc then H.size else _)
        rw [if_pos rfl]
        exact hA2 _ hsz
      · show A (if t.1 = 3000 + pc then H.size else tt t.1)
        rw [if_neg (dropT_ne t ((dropT_sub _ _).subset ht))]
        exact hTd.2.2.1 t ht hw9
    · intro t ht
      rcases List.mem_cons.mp ht with ht | ht
      · subst ht; exact hid
      · exact hTd.2.2.2 t ht
  have hgo := hnx _ _ h (fun a => if a = 3000 + pc then H.size else tt a) H1 locs ls (nC + 1) (nS + n.toNatClampNeg) (by show nC + 1 + g ≤ _; omega) (by show nS + n.toNatClampNeg + 40 * g ≤ _; omega) (by omega) (Wld_kept hW (fun q h1 _ => o1 q h1)) hT1 ⟨by omega, fun q h1 h2 => (o1 q (Nat.lt_of_lt_of_le h1 hsz)).trans (hS.2.1 q h1 h2), hS.2.2⟩ (by rw [freshL_up hid h8.1]; exact hl)
  rw [List.map_cons, freshV_up hid h8.2] at hgo
  have e2 : cv (aj ad (fun a => if a = 3000 + pc then H.size else tt a)) (.ref (3000 + pc)) = .ref H.size := by
    show Value.ref _ = _
    rw [aj_hi hid, if_pos rfl]
  rw [e2] at hgo
  exact hgo
end JST
