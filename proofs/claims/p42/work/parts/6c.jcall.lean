/-! calls out of the law's methods -/
section JC
variable {k L : Nat} {xs : Nat → Int32} {p : Program} {l : Launch} {e : Env} {R : Room} {s : State} {m : MethodId} {args : Array Value} {below : List Frame} {meth : Method} {c : Code} {ad tt : Nat → Nat} {ty : Nat → ClassId} {D : va_G} {B0 : Nat × Nat} {A : Nat → Prop} {Zt : State → Prop} {H : Heap} {locs : List Loc} {nC nS pc : Nat} {ls : Array Slot} {st0 rest : List Value}
theorem numV_e {v : Option Value} {f : Value → Prop} (h : numV v f) : ∃ x, v = some x ∧ f x ∧ isNum x = true := by
  unfold numV at h
  split at h
  · exact ⟨_, rfl, h, rfl⟩
  · exact ⟨_, rfl, h, rfl⟩
  · cases h
theorem cv_num {a b : Nat → Nat} {v : Value} (h : isNum v = true) : cv a v = cv b v := by
  cases v <;> first | rfl | cases h
theorem cv_nums {a b : Nat → Nat} : ∀ {l : List Value}, allNum l = true → l.map (cv a) = l.map (cv b)
  | [], _ => rfl
  | v :: l, h => by
    unfold allNum at h
    rw [Bool.and_eq_true] at h
    rw [List.map_cons, List.map_cons, cv_num h.1, cv_nums h.2]
/-- a class's call comes back -/
theorem callJ {a : Array Value} {Q1 : Po} {T : Tm} (hr : va_Run p l e R s m args below meth c H locs nC nS 0 0 (F0 m pc ls st0) rest (Qcc ad ty D B0 Q1 a) (inA B0)) (hA : ∀ q, inA B0 q → A q) (hB : B0.2 ≤ H.size) (hT : WT ty D B0 tt A H T) (hS : va_S A s.heap H locs)
    (kk : ∀ (r : Option Value) (M1 : Mem) (H1 : Heap) (locs1 : List Loc), Q1 r M1 → Wld ad ty D B0 s H1 M1 → B0.2 ≤ H1.size → WT ty D B0 tt A H1 T → va_S A s.heap H1 locs1 → W p l e R s m args below meth c H1 locs1 nC nS Zt (F0 m (pc + 3) ls ((r.map (cv ad)).toList ++ rest))) : W p l e R s m args below meth c H locs nC nS Zt (F0 m pc ls st0) := by
  intro T0 hT0 X
  obtain ⟨v, st₀, t, T', L', h0, X', hL, e1, e2, ⟨⟨r, M1, hv, hq, hW⟩, hz, hk⟩, st⟩ := hr T0 hT0 X
  cases hv
  rw [h0] at hz hk
  have hal : s.vm.Alike t.vm := by rw [← e2]; exact X'.warmed.alike
  have hk2 : ∀ q, q < H.size → B0.2 ≤ q → T'.heap[q]? = H[q]? := fun q h1 h2 => by
    rw [e1]
    exact hk q h1 (fun z => absurd z.2 (Nat.not_lt.mpr h2))
  obtain ⟨t2, a1, b1⟩ := kk r M1 T'.heap (locs ++ L') hq (by rw [e1]; exact hW.moved hal.symm) (by rw [e1]; exact Nat.le_trans hB hz) (WT_kept hT hk2)
    ⟨Nat.le_trans hS.1 (by rw [e1]; exact hz), fun q h1 h2 => by rw [e1, hk q (Nat.lt_of_lt_of_le h1 hS.1) (fun z => h2 (hA q z))]; exact hS.2.1 q h1 h2, fun q hq => by
      rcases List.mem_append.mp hq with h | h
      · exact hS.2.2 q h
      · exact hA _ (hL q h)⟩ T' rfl X'
  exact ⟨t2, st t2 a1, b1⟩
/-- a helper's call comes back -/
theorem callH {a : Array Value} {Q1 : Int32 → Mem → Prop} {T : Tm} {mc ms : Nat} (hr : va_Run p l e R s m args below meth c H locs nC nS mc ms (F0 m pc ls st0) rest (QJ ad ty D B0 H.size Q1 a) (jfree B0 H.size)) (hA : ∀ q, inA B0 q → A q) (hA2 : ∀ q, s.heap.size ≤ q → A q) (hB : B0.2 ≤ H.size) (hT : WT ty D B0 tt A H T) (hS : va_S A s.heap H locs)
    (kk : ∀ (x : Int32) (M1 : Mem) (H1 : Heap) (locs1 : List Loc), Q1 x M1 → Wld ad ty D B0 s H1 M1 → B0.2 ≤ H1.size → WT ty D B0 tt A H1 T → va_S A s.heap H1 locs1 → W p l e R s m args below meth c H1 locs1 (nC + mc) (nS + ms) Zt (F0 m (pc + 3) ls (.int x :: rest))) : W p l e R s m args below meth c H locs nC nS Zt (F0 m pc ls st0) := by
  intro T0 hT0 X
  obtain ⟨v, st₀, t, T', L', h0, X', hL, e1, e2, ⟨⟨x, M1, hv, hq, hW⟩, hz, hk⟩, st⟩ := hr T0 hT0 X
  cases hv
  rw [h0] at hz hk
  have hal : s.vm.Alike t.vm := by rw [← e2]; exact X'.warmed.alike
  have hj : ∀ q, jfree B0 H.size q → A q := fun q h => h.elim (hA q) (fun h => hA2 q (Nat.le_trans hS.1 h))
  have hk2 : ∀ q, q < H.size → B0.2 ≤ q → T'.heap[q]? = H[q]? := fun q h1 h2 => by
    rw [e1]
    exact hk q h1 (fun z => z.elim (fun z => absurd z.2 (Nat.not_lt.mpr h2)) (fun z => absurd z (Nat.not_le.mpr h1)))
  obtain ⟨t2, a1, b1⟩ := kk x M1 T'.heap (locs ++ L') hq (by rw [e1]; exact hW.moved hal.symm) (by rw [e1]; exact Nat.le_trans hB hz) (WT_kept hT hk2)
    ⟨Nat.le_trans hS.1 (by rw [e1]; exact hz), fun q h1 h2 => by rw [e1, hk q (Nat.lt_of_lt_of_le h1 hS.1) (fun z => h2 (hj q z))]; exact hS.2.1 q h1 h2, fun q hq => by
      rcases List.mem_append.mp hq with h | h
      · exact hS.2.2 q h
      · exact hj _ (hL q h)⟩ T' rfl X'
  exact ⟨t2, st t2 a1, b1⟩
theorem jvm_e {ix aux : Nat} (h : (jvL.any fun t => Nat.beq t.1 ix && Nat.beq t.2 aux) = true) : aux < 123 ∧ (mi aux).2.2.2.2.1 = 9 ∧ (mi aux).2.2.2.2.2.2 = 0 ∧ Cond.methodLink RJL ix (mi aux).1 ∈ lwG := by
  obtain ⟨t, h1, h2⟩ := mem_any h
  rw [Bool.and_eq_true] at h2
  have e1 := Nat.eq_of_beq_eq_true h2.1
  have e2 := Nat.eq_of_beq_eq_true h2.2
  have h3 := List.all_eq_true.mp jvB t h1
  simp only [Bool.and_eq_true] at h3
  have h4 := jpv_all t h1
  unfold JPV at h4
  rw [← e1, ← e2]
  exact ⟨blt_lt h3.1.1, Nat.eq_of_beq_eq_true h3.1.2, Nat.eq_of_beq_eq_true h3.2, h4⟩
theorem jsm_e {ix aux : Nat} (h : (jsL.any fun t => Nat.beq t.1 ix && Nat.beq t.2 aux) = true) : aux < 12 ∧ Cond.methodLink RJL ix (jm aux).1 ∈ lwG := by
  obtain ⟨t, h1, h2⟩ := mem_any h
  rw [Bool.and_eq_true] at h2
  have e1 := Nat.eq_of_beq_eq_true h2.1
  have e2 := Nat.eq_of_beq_eq_true h2.2
  have h3 := List.all_eq_true.mp jsB t h1
  have h4 := jps_all t h1
  unfold JPS at h4
  rw [← e1, ← e2]
  exact ⟨blt_lt h3, h4⟩
theorem jxm_e {ix aux : Nat} (h : (jxL.any fun t => Nat.beq t.1 ix && Nat.beq t.2 aux) = true) : Cond.methodLink RJL ix (mnm aux) ∈ lwG := by
  obtain ⟨t, h1, h2⟩ := mem_any h
  rw [Bool.and_eq_true] at h2
  have e1 := Nat.eq_of_beq_eq_true h2.1
  have e2 := Nat.eq_of_beq_eq_true h2.2
  have h4 := jpx_all t h1
  unfold JPX at h4
  rw [← e1, ← e2]
  exact h4
theorem callB_C {own : String} {index k' : Nat} (hR1 : 251 ≤ R.frames) (hR2 : 40 * 252 ≤ R.locals) (hk : k' < 123) (hts : ∀ w ∈ lwG, w.before args s = true) (hlink : Cond.methodLink own index (mi k').1 ∈ lwG) :
    CallB R s args own index (mi k').1 (mi k').2.1 (mi k').2.2.1 (mi k').2.2.2.1 (wsM k') (roomD 250) 0 0 (mi k').2.2.2.2.2.1 := by
  obtain ⟨y1, y2, y3, y4, y5⟩ := okY_e hk
  obtain ⟨-, -, -, hml, -⟩ := okM_e hk
  obtain ⟨w1, w2, -⟩ := wm_all hk
  refine ⟨rfl, rfl, ?_, ?_, fun w hw a' U hW => word_at hW (lwG_good (wsM_in hk w hw)) (hts w (wsM_in hk w hw)), List.mem_cons_self, hts _ w1, hts _ w2, y4, fun sig h => ?_, hts _ hlink⟩
  · show 250 + 1 ≤ R.frames
    omega
  · show 8 + ((mi k').2.2.1 + 11) + 40 * 250 ≤ R.locals
    omega
  · rw [h] at y5
    exact (Option.some.inj y5).symm
theorem callB_H {index k' : Nat} (hlv : jlev k' < jlev k) (hR1 : 251 + jlev k ≤ R.frames) (hR2 : 60 * (252 + jlev k) ≤ R.locals) (hk : k' < 12) (hts : ∀ w ∈ lwG, w.before args s = true) (hlink : Cond.methodLink RJL index (jm k').1 ∈ lwG) :
    CallB R s args RJL index (jm k').1 (jm k').2.1 (jm k').2.2.1 (jm k').2.2.2.1 (jws k') (jroom k') (jcost k') (40 * jcost k') (jm k').2.2.2.2 := by
  obtain ⟨y1, y3, y5⟩ := jokY_e (show k' < 13 by omega)
  obtain ⟨-, -, -, hml, -⟩ := jok_e (show k' < 13 by omega)
  obtain ⟨w1, w2⟩ := jw_all hk
  have hc : RJL ≠ "java/lang/invoke/MethodHandle" ∧ RJL ≠ "java/lang/invoke/VarHandle" := by decide
  refine ⟨rfl, rfl, ?_, ?_, fun w hw a' U hW => word_at hW (lwG_good (jws_in hk w hw)) (hts w (jws_in hk w hw)), List.mem_cons_self, hts _ w1, ?_, ?_, fun sig h => ?_, hts _ hlink⟩
  · show 251 + jlev k' + 1 ≤ R.frames
    omega
  · show 8 + ((jm k').2.2.1 + 11) + 60 * (252 + jlev k') ≤ R.locals
    omega
  · rw [y1]; exact hts _ jinit
  · rw [y1]; exact hc
  · rw [h] at y5
    exact (Option.some.inj y5).symm
theorem blindJ (as : List Value) {L : Nat} {xs : Nat → Int32} (ad : Nat → Nat) (ty : Nat → ClassId) (D : va_G) (B0 : Nat × Nat) (tt : Nat → Nat) (sz : Nat) (M : Mem) (T : Tm) : FrameBlind (va_Pc (as.map (cv (aj ad tt))) (PJ L xs ad ty D B0 tt sz M T)) := by
  intro a U g mk h
  obtain ⟨h1, q1, q2, q3, q4, q5, q6, q7, q8, q9, q10⟩ := h
  exact ⟨h1, q1, q2, q3, q4, va_X.moved (u := U) (U := U.calling g mk a) (Vm.Alike.refl U.vm) q5, Wld.moved (u := U) (U := U.calling g mk a) (Vm.Alike.refl U.vm) q6, q7, q8, q9, StP.calling g mk a q10⟩
end JC
