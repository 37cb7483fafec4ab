/-! the machine of numbers is sound: a step of it is a step of the JVM -/
theorem pI_e {st : List Value} {f : Int32 → List Value → Prop} (h : pI st f) : ∃ x r, st = .int x :: r ∧ f x r := by
  match st, h with
  | .int x :: r, h => exact ⟨x, r, rfl, h⟩
theorem pL_e {st : List Value} {f : Int64 → List Value → Prop} (h : pL st f) : ∃ x r, st = .long x :: r ∧ f x r := by
  match st, h with
  | .long x :: r, h => exact ⟨x, r, rfl, h⟩
theorem pR_e {st : List Value} {f : Nat → List Value → Prop} (h : pR st f) : ∃ x r, st = .ref x :: r ∧ f x r := by
  match st, h with
  | .ref x :: r, h => exact ⟨x, r, rfl, h⟩
theorem pA_e {st : List Value} {f : Value → List Value → Prop} (h : pA st f) : (∃ x r, st = .ref x :: r ∧ f (.ref x) r) ∨ ∃ r, st = .null :: r ∧ f .null r := by
  match st, h with
  | .ref x :: r, h => exact Or.inl ⟨x, r, rfl, h⟩
  | .null :: r, h => exact Or.inr ⟨r, rfl, h⟩
theorem p1_e {st : List Value} {f : Value → List Value → Prop} (h : p1 st f) : ∃ v r, st = v :: r ∧ f v r ∧ v.category = 1 := by
  match st, h with
  | .int x :: r, h => exact ⟨_, r, rfl, h, rfl⟩
  | .ref x :: r, h => exact ⟨_, r, rfl, h, rfl⟩
  | .null :: r, h => exact ⟨_, r, rfl, h, rfl⟩
theorem ldI_e {lv : Lv} {i : Nat} {f : Int32 → Prop} (h : ldI lv i f) : ∃ x, lkp lv i = some (.int x) ∧ f x := by
  unfold ldI at h
  split at h
  · exact ⟨_, by assumption, h⟩
  · cases h
theorem ldL_e {lv : Lv} {i : Nat} {f : Int64 → Prop} (h : ldL lv i f) : ∃ x, lkp lv i = some (.long x) ∧ f x := by
  unfold ldL at h
  split at h
  · exact ⟨_, by assumption, h⟩
  · cases h
theorem ldA_e {lv : Lv} {i : Nat} {f : Value → Prop} (h : ldA lv i f) : (∃ x, lkp lv i = some (.ref x) ∧ f (.ref x)) ∨ (lkp lv i = some .null ∧ f .null) := by
  unfold ldA at h
  split at h
  · exact Or.inl ⟨_, by assumption, h⟩
  · exact Or.inr ⟨by assumption, h⟩
  · cases h
theorem iff1_e {b : Bool} {p : Prop} (h : iff1 b p) : b = true ∧ p := by
  cases b
  · cases h
  · exact ⟨rfl, h⟩
theorem blt_lt {a b : Nat} (h : Nat.blt a b = true) : a < b := Nat.le_of_ble_eq_true h
theorem lkp_idx {lv : Lv} {i : Nat} {v : Value} (h : lkp lv i = some v) : ∃ k : Nat, lv[k]? = some (i, v) := by
  induction lv with
  | nil => cases h
  | cons q l ih =>
    unfold lkp at h
    split at h
    · next hb =>
      cases h
      exact ⟨0, by rw [List.getElem?_cons_zero, ← Nat.eq_of_beq_eq_true hb]⟩
    · obtain ⟨k, hk⟩ := ih h
      exact ⟨k + 1, by rw [List.getElem?_cons_succ]; exact hk⟩
theorem lkp_map {ad : Nat → Nat} {lv : Lv} {i : Nat} {v : Value} (h : lkp lv i = some v) : ∃ k : Nat, (lv.map (cvp ad))[k]? = some (i, cv ad v) := by
  obtain ⟨k, hk⟩ := lkp_idx h
  exact ⟨k, by rw [List.getElem?_map, hk]; rfl⟩
theorem lkp_at {ad : Nat → Nat} {lv : Lv} {ls : Array Slot} {n i : Nat} {v : Value} (hl : lv_has ls n (lv.map (cvp ad))) (h : lkp lv i = some v) : ls[i]? = some (.val (cv ad v)) := by
  obtain ⟨k, hk⟩ := lkp_map (ad := ad) h
  exact lv_at hl k hk
theorem put1_map (ad : Nat → Nat) (i : Nat) (v : Value) (lv : Lv) : (i, cv ad v) :: (lv.map (cvp ad)).filter (fun q => !(q.1 == i) && !(q.1 + 1 == i && q.2.category == 2)) = (put1 i v lv).map (cvp ad) := by
  simp only [put1, List.map_cons, List.filter_map]
  congr 2
  apply List.filter_congr
  intro q _
  simp [Function.comp, cvp, cv_cat]
theorem put2_map (ad : Nat → Nat) (i : Nat) (v : Value) (lv : Lv) : (i, cv ad v) :: (lv.map (cvp ad)).filter (fun q => !(q.1 == i) && (!(q.1 == i + 1) && !(q.1 + 1 == i && q.2.category == 2))) = (put2 i v lv).map (cvp ad) := by
  simp only [put2, List.map_cons, List.filter_map]
  congr 2
  apply List.filter_congr
  intro q _
  simp [Function.comp, cvp, cv_cat]
theorem getf_e {aux a : Nat} {M : Mem} {f : Value → Prop} (h : getf aux a M f) : (∃ ci fs, layK a = (0, ci, fs) ∧ ci = aux / 100 ∧ aux % 100 < fs.length ∧ f (fval M a (aux % 100) (nth 0 fs (aux % 100)))) ∨ (a = 910 ∧ ((aux = 1101 ∧ f (.ref 911)) ∨ (aux = 1102 ∧ f (.int 0)))) := by
  unfold getf at h
  split at h
  · next ci fs hl =>
    obtain ⟨h1, h2⟩ := iff1_e h
    simp only [Bool.and_eq_true] at h1
    exact Or.inl ⟨ci, fs, hl, Nat.eq_of_beq_eq_true h1.1, blt_lt h1.2, h2⟩
  · next hl =>
    refine Or.inr ⟨layK5 hl, ?_⟩
    cases hb : Nat.beq aux 1101 with
    | true => rw [hb] at h; exact Or.inl ⟨Nat.eq_of_beq_eq_true hb, h⟩
    | false =>
      rw [hb] at h
      cases hb2 : Nat.beq aux 1102 with
      | true => rw [hb2] at h; exact Or.inr ⟨Nat.eq_of_beq_eq_true hb2, h⟩
      | false => rw [hb2] at h; cases h
  · cases h
theorem setf_e {aux a : Nat} {f : Prop} (h : setf aux a f) : ∃ ci fs, layK a = (0, ci, fs) ∧ ci = aux / 100 ∧ aux % 100 < fs.length ∧ nth 1 fs (aux % 100) = 0 ∧ f := by
  unfold setf at h
  split at h
  · next ci fs hl =>
    obtain ⟨h1, h2⟩ := iff1_e h
    simp only [Bool.and_eq_true] at h1
    exact ⟨ci, fs, hl, Nat.eq_of_beq_eq_true h1.1.1, blt_lt h1.1.2, Nat.eq_of_beq_eq_true h1.2, h2⟩
  · cases h
theorem arI_e {t a : Nat} {i : Int32} {M : Mem} {f : Int32 → Prop} (h : arI t a i M f) : (∃ n, layK a = (1, t, [n]) ∧ vp_in i n ∧ f (M.1 a i.toNatClampNeg)) ∨ (∃ n, layK a = (4, t, [n]) ∧ vp_in i n ∧ f ((stc a).getD i.toNatClampNeg 0)) := by
  unfold arI at h
  split at h
  · next hl =>
    obtain ⟨h1, h2⟩ := iff1_e h
    have := Nat.eq_of_beq_eq_true h1
    subst this
    exact Or.inl ⟨_, hl, h2⟩
  · next hl =>
    obtain ⟨h1, h2⟩ := iff1_e h
    have := Nat.eq_of_beq_eq_true h1
    subst this
    exact Or.inr ⟨_, hl, h2⟩
  · cases h
theorem asI_e {t a : Nat} {i : Int32} {f : Prop} (h : asI t a i f) : ∃ n, layK a = (1, t, [n]) ∧ vp_in i n ∧ f := by
  unfold asI at h
  split at h
  · next hl =>
    obtain ⟨h1, h2⟩ := iff1_e h
    have := Nat.eq_of_beq_eq_true h1
    subst this
    exact ⟨_, hl, h2⟩
  · cases h
theorem arL_e {a : Nat} {i : Int32} {f : Prop} (h : arL a i f) : ∃ n, layK a = (2, 3, [n]) ∧ vp_in i n ∧ f := by
  unfold arL at h
  split at h
  · next hl => exact ⟨_, hl, h⟩
  · cases h
theorem arQ_e {a : Nat} {i : Int32} {f : Nat → Prop} (h : arQ a i f) : ∃ n b s, layK a = (3, 4, [n, b, s]) ∧ vp_in i n ∧ f (b + s * i.toNatClampNeg) := by
  unfold arQ at h
  split at h
  · next hl => exact ⟨_, _, _, hl, h⟩
  · cases h
theorem aln_e {a : Nat} {f : Nat → Prop} (h : aln a f) : ∃ n, ((∃ t, layK a = (1, t, [n])) ∨ layK a = (2, 3, [n]) ∨ (∃ b s, layK a = (3, 4, [n, b, s])) ∨ (∃ t, layK a = (4, t, [n]))) ∧ f n := by
  unfold aln at h
  split at h
  · next hl => exact ⟨_, Or.inl ⟨_, hl⟩, h⟩
  · next hl => exact ⟨_, Or.inr (Or.inl hl), h⟩
  · next hl => exact ⟨_, Or.inr (Or.inr (Or.inl ⟨_, _, hl⟩)), h⟩
  · next hl => exact ⟨_, Or.inr (Or.inr (Or.inr ⟨_, hl⟩)), h⟩
  · cases h
theorem recv_e {a o : Nat} {f : Prop} (h : recv a o f) : ((∃ fs, layK a = (0, o, fs)) ∨ (a = 910 ∧ o = 11)) ∧ f := by
  unfold recv at h
  split at h
  · next hl =>
    obtain ⟨h1, h2⟩ := iff1_e h
    have := Nat.eq_of_beq_eq_true h1
    subst this
    exact ⟨Or.inl ⟨_, hl⟩, h2⟩
  · next hl =>
    obtain ⟨h1, h2⟩ := iff1_e h
    exact ⟨Or.inr ⟨layK5 hl, Nat.eq_of_beq_eq_true h1⟩, h2⟩
  · cases h
theorem bok_e {aux : Nat} {x : Int32} {f : Prop} (h : bok aux x f) : (isB (aux / 100) (aux % 100) = true → x = 0 ∨ x = 1) ∧ f := by
  unfold bok at h
  split at h
  · exact ⟨fun _ => h.1, h.2⟩
  · next hb => exact ⟨fun q => (by rw [hb] at q; exact absurd q (by decide)), h⟩
theorem room8_e {r : List Value} {ad : Nat → Nat} (h : room8 r = true) : ((r.map (cv ad)).map fun v => v.category).sum ≤ 8 := by
  have e : (r.map (cv ad)).map (fun v => v.category) = r.map fun v => v.category := by
    rw [List.map_map]
    apply List.map_congr_left
    intro v _
    exact cv_cat ad v
  rw [e]
  exact Nat.le_of_ble_eq_true h
def tyF (c j : Nat) : FieldType := match c with
  | 0 => tyX0 j
  | 1 => tyX1 j
  | 2 => tyX2 j
  | 3 => tyX3 j
  | 4 => tyX4 j
  | 5 => tyX5 j
  | 6 => tyX6 j
  | 7 => tyX7 j
  | 8 => tyX8 j
  | _ => tyX9 j
/-- what is the same for every class of the world -/
def CF (c : Nat) : Prop := vwCl[c]? = some (nmC c, (clN c).2.1, (clN c).2.2) ∧ (∀ w ∈ u_ws (nmC c) (clN c).2.1 (clN c).2.2, w ∈ lwG) ∧
  (∀ j, j < (clN c).2.2 → parseFieldDescriptor ((clN c).2.1 j).2.2.1 = some (tyF c j)) ∧ (∀ a, a < (clN c).2.2 → ∀ b, b < (clN c).2.2 → a ≠ b → ((clN c).2.1 a).2.1 ≠ ((clN c).2.1 b).2.1)
theorem cf_all {c : Nat} (h : c < 10) : CF c := by
  match c, h with
  | 0, _ => exact ⟨rfl, uw_0, tyX0_ok, nmX0⟩
  | 1, _ => exact ⟨rfl, uw_1, tyX1_ok, nmX1⟩
  | 2, _ => exact ⟨rfl, uw_2, tyX2_ok, nmX2⟩
  | 3, _ => exact ⟨rfl, uw_3, tyX3_ok, nmX3⟩
  | 4, _ => exact ⟨rfl, uw_4, tyX4_ok, nmX4⟩
  | 5, _ => exact ⟨rfl, uw_5, tyX5_ok, nmX5⟩
  | 6, _ => exact ⟨rfl, uw_6, tyX6_ok, nmX6⟩
  | 7, _ => exact ⟨rfl, uw_7, tyX7_ok, nmX7⟩
  | 8, _ => exact ⟨rfl, uw_8, tyX8_ok, nmX8⟩
  | 9, _ => exact ⟨rfl, uw_9, tyX9_ok, nmX9⟩
/-- a number's field: no final one, an int or (isB) a boolean -/
def okZ : Bool := (List.range 10).all fun c => (List.range (clN c).2.2).all fun j => match tyF c j with
  | .int => ! ((clN c).2.1 j).2.2.2 && ! isB c j
  | .boolean => ! ((clN c).2.1 j).2.2.2 && isB c j
  | _ => true
theorem okZ_ok : okZ = true := by decide +kernel
/-- where the layout says number, the field is one -/
def okN : Bool := layL.all fun q => match q with
  | (0, ci, fs) => Nat.blt ci 10 && Nat.beq fs.length (clN ci).2.2 && (List.range fs.length).all fun j => match nth 1 fs j with
    | 0 => (match tyF ci j with | .int => true | .boolean => true | _ => false)
    | _ => true
  | _ => true
theorem okN_ok : okN = true := by decide +kernel
theorem lay0 {a ci : Nat} {fs : List Nat} (h : layK a = (0, ci, fs)) : ci < 10 ∧ fs.length = (clN ci).2.2 ∧ ∀ j, j < fs.length → nth 1 fs j = 0 → ((clN ci).2.1 j).2.2.2 = false ∧ ((tyF ci j = .int ∧ isB ci j = false) ∨ (tyF ci j = .boolean ∧ isB ci j = true)) := by
  have hlt := lay_lt' h (by omega)
  have h1 : (0, ci, fs) ∈ layL := by
    rw [lay_lo (show a < 900 from by have : nNC = 55 := rfl; omega)] at h
    rw [← h]
    exact nth_mem (by rw [layL_len]; exact hlt)
  have h2 := List.all_eq_true.mp okN_ok _ h1
  simp only [Bool.and_eq_true, List.all_eq_true, List.mem_range] at h2
  obtain ⟨⟨h3, h4⟩, h5⟩ := h2
  have hc := blt_lt h3
  have hn := Nat.eq_of_beq_eq_true h4
  refine ⟨hc, hn, fun j hj hr => ?_⟩
  have h6 := h5 j hj
  rw [hr] at h6
  have h7 := List.all_eq_true.mp (List.all_eq_true.mp okZ_ok ci (List.mem_range.mpr hc)) j (List.mem_range.mpr (by rw [← hn]; exact hj))
  revert h6 h7
  cases tyF ci j <;> simp (config := { contextual := true })
section Snd
variable {d k : Nat} {Q : Po}
theorem callG {p : Program} {l : Launch} {e : Env} {R : Room} {s : State} {m : MethodId} {args : Array Value} {below : List Frame} {meth : Method} {c : Code} {H : Heap} {locs : List Loc} {Z : State → Prop} {pc : Nat} {ls : Array Slot} {st0 rest : List Value} {a : Array Value}
    {ad : Nat → Nat} {ty : Nat → ClassId} {D : va_G} {B0 : Nat × Nat} {Q1 : Po} (hr : va_Run p l e R s m args below meth c H locs 0 0 0 0 (F0 m pc ls st0) rest (Qcc ad ty D B0 Q1 a) (inA B0)) (hS : va_S (inA B0) s.heap H locs)
    (kk : ∀ (r : Option Value) (M1 : Mem) (H1 : Heap) (locs1 : List Loc), Q1 r M1 → Wld ad ty D B0 s H1 M1 → va_S (inA B0) s.heap H1 locs1 → W p l e R s m args below meth c H1 locs1 0 0 Z (F0 m (pc + 3) ls ((r.map (cv ad)).toList ++ rest))) : W p l e R s m args below meth c H locs 0 0 Z (F0 m pc ls st0) := by
  intro T hT X
  obtain ⟨v, st₀, t, T', L, h0, X', hL, e1, e2, ⟨⟨r, M1, hv, hq, hW⟩, hz, hk⟩, st⟩ := hr T hT X
  cases hv
  rw [h0] at hz hk
  have hal : s.vm.Alike t.vm := by rw [← e2]; exact X'.warmed.alike
  obtain ⟨t2, a1, b1⟩ := kk r M1 T'.heap (locs ++ L) hq (by rw [e1]; exact hW.moved hal.symm)
    ⟨Nat.le_trans hS.1 (by rw [e1]; exact hz), fun q h1 h2 => by rw [e1, hk q (Nat.lt_of_lt_of_le h1 hS.1) h2]; exact hS.2.1 q h1 h2, fun q hq => by
      rcases List.mem_append.mp hq with h | h
      · exact hS.2.2 q h
      · exact hL q h⟩ T' rfl X'
  exact ⟨t2, st t2 a1, b1⟩
theorem wsM_in {k : Nat} (hk : k < 123) : ∀ w ∈ wsM k, w ∈ lwG := fun w h => (List.mem_cons.mp h).elim (fun q => by rw [q]; exact (wm_all hk).1) id
theorem okY_e {k : Nat} (h : k < 123) : (mi k).1.cls = nmC (mi k).2.2.2.2.1 ∧ (mi k).2.2.2.2.1 < 15 ∧ plainName (mi k).1.cls = true ∧ ((mi k).1.cls ≠ "java/lang/invoke/MethodHandle" ∧ (mi k).1.cls ≠ "java/lang/invoke/VarHandle") ∧ (parseMethodDescriptor (mi k).1.desc).map (fun d => d.parameters.length) = some (mi k).2.2.2.2.2.1 := by
  have h1 := okY_all h
  simp only [okY, Bool.and_eq_true, decide_eq_true_eq] at h1
  obtain ⟨⟨⟨⟨⟨h1, h2⟩, h3⟩, h4⟩, h5⟩, h6⟩ := h1
  exact ⟨h1, blt_lt h2, h3, ⟨h4, h5⟩, h6⟩
theorem okM_e {k : Nat} (h : k < 123) : dchk (bys k) (cdo k) = true ∧ (∀ e ∈ cdo k, okI (mi k).2.2.2.2.1 e = true) ∧ chn (cdo k) = true ∧ (mi k).2.2.1 ≤ 20 ∧ (nth (1, 0, .nop, 0, 0) (cdo k) 0).1 = 0 := by
  have h1 := okM_all h
  simp only [okM, Bool.and_eq_true] at h1
  obtain ⟨⟨⟨⟨h1, h2⟩, h3⟩, h4⟩, h5⟩ := h1
  exact ⟨h1, List.all_eq_true.mp h2, h3, Nat.le_of_ble_eq_true h4, Nat.eq_of_beq_eq_true h5⟩
theorem blind_of (as : List Value) (ad : Nat → Nat) (ty : Nat → ClassId) (D : va_G) (B0 : Nat × Nat) (M : Mem) : FrameBlind (va_Pc (as.map (cv ad)) (fun U => B0.1 ≤ U.heap.size ∧ Wld ad ty D B0 U U.heap M ∧ StA ad B0 U U.heap)) := by
  intro a U g mk h
  obtain ⟨h1, h2, h3, h4⟩ := h
  exact ⟨h1, h2, Wld.moved (u := U) (U := U.calling g mk a) (Vm.Alike.refl U.vm) h3, StA.calling g mk a h4⟩
theorem callB_k {s : State} {args : Array Value} {own : String} {index k d : Nat} (hk : k < 123) (hts : ∀ w ∈ lwG, w.before args s = true) (hlink : Cond.methodLink own index (mi k).1 ∈ lwG) :
    CallB (roomD (d + 1)) s args own index (mi k).1 (mi k).2.1 (mi k).2.2.1 (mi k).2.2.2.1 (wsM k) (roomD d) 0 0 (mi k).2.2.2.2.2.1 := by
  obtain ⟨y1, y2, y3, y4, y5⟩ := okY_e hk
  obtain ⟨-, -, -, hml, -⟩ := okM_e hk
  obtain ⟨w1, w2, -⟩ := wm_all hk
  refine ⟨rfl, rfl, Nat.le_refl _, ?_, fun w hw a' U hW => word_at hW (lwG_good (wsM_in hk w hw)) (hts w (wsM_in hk w hw)), List.mem_cons_self, hts _ w1, hts _ w2, y4, fun sig h => ?_, hts _ hlink⟩
  · show 8 + ((mi k).2.2.1 + 11) + 40 * d ≤ 40 * (d + 1)
    omega
  · rw [h] at y5
    exact (Option.some.inj y5).symm
theorem call_of_body {as : List Value} {M : Mem} (hk : k < 123) (hn : Nat.ble (as.map fun v => v.category).sum (mi k).2.2.1 = true) (h : BodyK d k 0 (lv_args 0 as) [] M Q) : Call d k as M Q := by
  refine ⟨hk, fun l ad ty D B0 => ?_⟩
  obtain ⟨y1, y2, y3, y4, y5⟩ := okY_e hk
  refine Met.ofW (cc := (mi k).2.1) (maxL := (mi k).2.2.1) (ret := (mi k).2.2.2.1) y3 rfl ?_
  intro p e s m args below meth c s₁ B hml hv
  obtain ⟨rfl, hsz, hW, hSt⟩ := hv
  have hts := atoms_spec (ws := wsM k) B.pre
  have hown : s.vm.findClass (nmC (mi k).2.2.2.2.1) = some m.cls := by rw [← y1]; exact findClass_of_methodNamed B.named
  have hlen : ∀ vs : List Value, (lg_sl (vs.map (cv ad))).length = (vs.map fun v => v.category).sum := by
    intro vs
    induction vs with
    | nil => rfl
    | cons v vs ih =>
      show (lg_sl (cv ad v :: vs.map (cv ad))).length = _
      have : lg_sl (cv ad v :: vs.map (cv ad)) = lg_sl [cv ad v] ++ lg_sl (vs.map (cv ad)) := by simp [lg_sl]
      rw [this, List.length_append, ih, List.map_cons, List.sum_cons]
      congr 1
      cases v <;> rfl
  have harg : ∀ (vs : List Value) (i : Nat), lv_args i (vs.map (cv ad)) = (lv_args i vs).map (cvp ad) := by
    intro vs
    induction vs with
    | nil => intro i; rfl
    | cons v vs ih =>
      intro i
      show (i, cv ad v) :: lv_args (if (cv ad v).category = 2 then i + 2 else i + 1) (vs.map (cv ad)) = _
      rw [ih, cv_cat]
      rfl
  have hl := lv_entry (as.map (cv ad)) (n := (mi k).2.2.1) (by rw [hlen]; exact Nat.le_of_ble_eq_true hn)
  rw [lg_entry_eq]
  rw [harg] at hl
  exact h p l e s m _ below meth c ad ty D B0 s.heap [] _ ⟨B.exec, B.bytes, B.returns, hml, hown, fun w hw => hts w (List.mem_cons_of_mem _ hw), B.notSynchronized, hk⟩ hsz hSt hW va_S.rf hl
end Snd
