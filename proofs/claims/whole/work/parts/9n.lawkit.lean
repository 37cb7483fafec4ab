/-! the law's walk: steps over both worlds -/
section LAW
variable {p : Program} {l : Launch} {e : Jvm.Env} {s : State} {m : MethodId} {below : List Frame} {meth : Method} {c : Code} {b L : Nat} {xs : Nat → Int32} {ad : Nat → Nat} {ty : Nat → ClassId} {D : va_G} {nC nS : Nat}
/-- the law at pc, with x3 ints read, st on the stack, over the worlds M -/
def LSt (p : Program) (l : Launch) (e : Jvm.Env) (s : State) (m : MethodId) (b : Nat) (below : List Frame) (meth : Method) (c : Code) (ad : Nat → Nat) (ty : Nat → ClassId) (D : va_G) (nC nS : Nat) (x3 : Int32) (pc : Nat) (st : List Value) (M : Mem) : Prop :=
  ∀ (H : Heap) (locs : List Loc) (ls : Array Slot), va_S (fun q : Nat => s.heap.size ≤ q) s.heap H locs → Wld ad ty D s.heap.size s H M → lv_has ls 4 [(0, .ref b), (1, .ref (ad 0)), (2, .ref (ad 55)), (3, .int x3)] → W p l e room_1 s m #[Value.ref b] below meth c H locs nC nS (lw_Z below #[Value.ref b] s) (F0 m pc ls st)
variable {pc : Nat} {st rest : List Value} {M : Mem} {x3 : Int32} {i : Nat}
theorem LS_al1 (C0 : lw_At p s m meth c b L xs) (hd : decode code pc = .ok (.aload_n 1, 1)) (k : LSt p l e s m b below meth c ad ty D nC nS x3 (pc + 1) (.ref (ad 0) :: st) M) : LSt p l e s m b below meth c ad ty D nC nS x3 pc st M :=
  fun H locs ls hS hW hl => lv_aload_n C0.1 C0.2.1 hd rfl (lv_at hl 1 rfl) (k H locs ls hS hW hl)
theorem LS_al2 (C0 : lw_At p s m meth c b L xs) (hd : decode code pc = .ok (.aload_n 2, 1)) (k : LSt p l e s m b below meth c ad ty D nC nS x3 (pc + 1) (.ref (ad 55) :: st) M) : LSt p l e s m b below meth c ad ty D nC nS x3 pc st M :=
  fun H locs ls hS hW hl => lv_aload_n C0.1 C0.2.1 hd rfl (lv_at hl 2 rfl) (k H locs ls hS hW hl)
theorem LS_i2l {x : Int32} (C0 : lw_At p s m meth c b L xs) (hd : decode code pc = .ok (.i2l, 1)) (k : LSt p l e s m b below meth c ad ty D nC nS x3 (pc + 1) (.long x.toInt64 :: st) M) : LSt p l e s m b below meth c ad ty D nC nS x3 pc (.int x :: st) M :=
  fun H locs ls hS hW hl => lv_i2l C0.1 C0.2.1 hd rfl (k H locs ls hS hW hl)
theorem LS_b32 (C0 : lw_At p s m meth c b L xs) (hd : decode code pc = .ok (.bipush 32, 2)) (k : LSt p l e s m b below meth c ad ty D nC nS x3 (pc + 2) (.int 32 :: st) M) : LSt p l e s m b below meth c ad ty D nC nS x3 pc st M :=
  fun H locs ls hS hW hl => lv_bipush C0.1 C0.2.1 hd (by decide) (k H locs ls hS hW hl)
theorem LS_lshl {x : Int64} {y : Int32} (C0 : lw_At p s m meth c b L xs) (hd : decode code pc = .ok (.lshl, 1)) (k : LSt p l e s m b below meth c ad ty D nC nS x3 (pc + 1) (.long (x <<< (y.toInt64 &&& 63)) :: st) M) : LSt p l e s m b below meth c ad ty D nC nS x3 pc (.int y :: .long x :: st) M :=
  fun H locs ls hS hW hl => lv_lshl C0.1 C0.2.1 hd rfl (k H locs ls hS hW hl)
theorem LS_land {x y : Int64} (C0 : lw_At p s m meth c b L xs) (hd : decode code pc = .ok (.land, 1)) (k : LSt p l e s m b below meth c ad ty D nC nS x3 (pc + 1) (.long (x &&& y) :: st) M) : LSt p l e s m b below meth c ad ty D nC nS x3 pc (.long y :: .long x :: st) M :=
  fun H locs ls hS hW hl => lv_land C0.1 C0.2.1 hd (k H locs ls hS hW hl)
theorem LS_lor {x y : Int64} (C0 : lw_At p s m meth c b L xs) (hd : decode code pc = .ok (.lor, 1)) (k : LSt p l e s m b below meth c ad ty D nC nS x3 (pc + 1) (.long (x ||| y) :: st) M) : LSt p l e s m b below meth c ad ty D nC nS x3 pc (.long y :: .long x :: st) M :=
  fun H locs ls hS hW hl => lv_lor C0.1 C0.2.1 hd (k H locs ls hS hW hl)
theorem lwG_hts {args : Array Value} (hts : ∀ w ∈ lw_tbl, w.before args s = true) : ∀ w ∈ lwG, w.before args s = true := fun w h => hts w (List.mem_filter.mp h).1
theorem LS_ldc2 {ix : Nat} {v : Int64} (C0 : lw_At p s m meth c b L xs) (hw : Cond.constantLong R_law ix v ∈ lwG) (hd : decode code pc = .ok (.ldc2_w ix, 3)) (k : LSt p l e s m b below meth c ad ty D nC nS x3 (pc + 3) (.long v :: st) M) : LSt p l e s m b below meth c ad ty D nC nS x3 pc st M :=
  fun H locs ls hS hW hl => lv_ldc2 C0.1 C0.2.1 C0.2.2.2.2.1 (lwG_hts C0.2.2.2.2.2.1 _ hw) hd (k H locs ls hS hW hl)
theorem LS_arg {k : Nat} {kz : Int} (C0 : lw_At p s m meth c b L xs) (hL : L ≤ 3072) (hi : i + 6 ≤ L) (hk : k < 6) (hkz : Int32.ofInt kz = nI k) (d1 : decode code pc = .ok (.aload_n 0, 1)) (d2 : decode code (pc + 1) = .ok (.iload_n 3, 1)) (d3 : decode code (pc + 2) = .ok (.iconst kz, 1)) (d4 : decode code (pc + 3) = .ok (.iadd, 1)) (d5 : decode code (pc + 4) = .ok (.iaload, 1))
    (kk : LSt p l e s m b below meth c ad ty D nC nS (nI i) (pc + 5) (.int (xs (i + k)) :: st) M) : LSt p l e s m b below meth c ad ty D nC nS (nI i) pc st M := by
  obtain ⟨hx, hb, hr, hml, hown, hts, hX, hbl, hlocks, hgv⟩ := C0
  have hbA : ¬ (fun q : Nat => s.heap.size ≤ q) b := Nat.not_le.mpr hbl
  intro H locs ls hS hW hl
  refine lv_aload_n hx hb d1 rfl (lv_at hl 0 rfl) ?_
  refine lv_iload_n hx hb d2 rfl (lv_at hl 3 rfl) ?_
  refine lv_iconst (v := nI k) hx hb d3 hkz ?_
  refine lv_iadd hx hb d4 ?_
  rw [nI_add]
  refine va_sld hx hb hX hbl hbA hS (nI_vp (by omega) (by omega)) d5 ?_
  rw [nI_c (by omega)]
  exact kk H locs ls hS hW hl
theorem LS_ieq {off : Int} {tgt : Nat} {v : Int32} (C0 : lw_At p s m meth c b L xs) (hd : decode code pc = .ok (.if_icmp .eq off, 3)) (ht : (pc : Int) + off = (tgt : Int)) (k : LSt p l e s m b below meth c ad ty D nC nS x3 tgt st M) : LSt p l e s m b below meth c ad ty D nC nS x3 pc (.int v :: .int v :: st) M :=
  fun H locs ls hS hW hl => lv_icmp_eq C0.1 C0.2.1 hd ht (fun _ => k H locs ls hS hW hl) (fun q => absurd rfl q)
theorem lg_self (v : Int64) : lg_cmp v v = 0 := by
  unfold lg_cmp
  simp
theorem LS_leq {off : Int} {tgt : Nat} {v : Int64} (C0 : lw_At p s m meth c b L xs) (hd : decode code pc = .ok (.lcmp, 1)) (hd2 : decode code (pc + 1) = .ok (.ifCond .eq off, 3)) (ht : ((pc + 1 : Nat) : Int) + off = (tgt : Int)) (k : LSt p l e s m b below meth c ad ty D nC nS x3 tgt st M) : LSt p l e s m b below meth c ad ty D nC nS x3 pc (.long v :: .long v :: st) M := by
  intro H locs ls hS hW hl
  refine W.lcmp C0.1 C0.2.1 hd ?_
  rw [lg_self]
  exact lv_if_eq C0.1 C0.2.1 hd2 ht (fun _ => k H locs ls hS hW hl) (fun q => absurd rfl q)
theorem callGL {R : Room} {args : Array Value} {H : Heap} {locs : List Loc} {Z : State → Prop} {ls : Array Slot} {st0 : List Value} {a : Array Value} {B0 : Nat} {Q1 : Po} (hr : va_Run p l e R s m args below meth c H locs nC nS 0 0 (F0 m pc ls st0) rest (Qcc ad ty D B0 Q1 a) (fun q => B0 ≤ q)) (hS : va_S (fun q : Nat => B0 ≤ q) s.heap H locs)
    (kk : ∀ (r : Option Value) (M1 : Mem) (H1 : Heap) (locs1 : List Loc), Q1 r M1 → Wld ad ty D B0 s H1 M1 → va_S (fun q : Nat => B0 ≤ q) s.heap H1 locs1 → W p l e R s m args below meth c H1 locs1 nC nS Z (F0 m (pc + 3) ls ((r.map (cv ad)).toList ++ rest))) : W p l e R s m args below meth c H locs nC nS Z (F0 m pc ls st0) := by
  intro T hT X
  obtain ⟨v, st₀, t, T', L, h0, X', hL, e1, e2, ⟨⟨r, M1, hv, hq, hW⟩, hz, hk⟩, st⟩ := hr T hT X
  cases hv
  rw [h0] at hz hk
  have hal : s.vm.Alike t.vm := by rw [← e2]; exact X'.warmed.alike
  obtain ⟨t2, a1, b1⟩ := kk r M1 T'.heap (locs ++ L) hq (by rw [e1]; exact hW.moved hal.symm)
    ⟨Nat.le_trans hS.1 (by rw [e1]; exact hz), fun q h1 h2 => by rw [e1, hk q (Nat.lt_of_lt_of_le h1 hS.1) h2]; exact hS.2.1 q h1 h2, fun q hq => by
      rcases List.mem_append.mp hq with h | h
      · exact hS.2.2 q h
      · exact hL q h⟩ T' rfl X'
  exact ⟨t2, st t2 a1, b1⟩
theorem callB_L {args : Array Value} {own : String} {index k d : Nat} (hd : d ≤ 400) (hk : k < 283) (hts : ∀ w ∈ lwG, w.before args s = true) (hlink : Cond.methodLink own index (mi k).1 ∈ lwG) :
    CallB room_1 s args own index (mi k).1 (mi k).2.1 (mi k).2.2.1 (mi k).2.2.2.1 (wsM k) (roomD d) 0 0 (mi k).2.2.2.2.2.1 := by
  obtain ⟨y1, y2, y3, y4, y5⟩ := okY_e hk
  obtain ⟨-, -, -, hml, -⟩ := okM_e hk
  obtain ⟨w1, w2, -⟩ := wm_all hk
  refine ⟨rfl, rfl, ?_, ?_, fun w hw a' U hW => word_at hW (lwG_good (wsM_in hk w hw)) (hts w (wsM_in hk w hw)), List.mem_cons_self, hts _ w1, hts _ w2, y4, fun sig h => ?_, hts _ hlink⟩
  · show d + 1 ≤ 2048
    omega
  · show 8 + ((mi k).2.2.1 + 11) + 40 * d ≤ 84000
    omega
  · rw [h] at y5
    exact (Option.some.inj y5).symm
/-- the room so far, and what nobody writes -/
def LK (ad : Nat → Nat) (s : State) (nC nS : Nat) : Prop := StA ad s.heap.size s s.heap ∧ nC ≤ 600000 ∧ nS ≤ 7302250
def pushR (ad : Nat → Nat) (r : Option Value) (rest : List Value) : List Value := match r with
  | some v => cv ad v :: rest
  | none => rest
theorem LS_call {D0 k idx aN ci : Nat} {fs : List Nat} {as : List Value} {Q : Po} (C0 : lw_At p s m meth c b L xs) (hLK : LK ad s nC nS) (hd0 : D0 ≤ 400) (hC : Call D0 k (.ref aN :: as) M Q) (hla : layK aN = (0, ci, fs)) (hci : (mi k).2.2.2.2.1 = ci) (hstat : (mi k).2.2.2.2.2.2 = 0) (hn : as.length = (mi k).2.2.2.2.2.1) (hlink : Cond.methodLink R_law idx (mi k).1 ∈ lwG) (hd : decode code pc = .ok (.invokevirtual idx, 3)) (h8 : (rest.map fun v => v.category).sum ≤ 8)
    (hstk : st = (as.map (cv ad)).reverse ++ .ref (ad aN) :: rest) (kk : ∀ (r : Option Value) (M1 : Mem), Q r M1 → LSt p l e s m b below meth c ad ty D nC nS x3 (pc + 3) (pushR ad r rest) M1) : LSt p l e s m b below meth c ad ty D nC nS x3 pc st M := by
  subst hstk
  obtain ⟨hx, hb, hr, hml, hown, hts, hX, hbl, hlocks, hgv⟩ := C0
  have htsG := lwG_hts hts
  intro H locs ls hS hW hl
  have hk := hC.1
  have w3 := (wm_all hk).2.2
  rw [hstat] at w3
  obtain ⟨y1, -⟩ := okY_e hk
  have hcell : ∃ cell : Cell, H[ad aN]? = some cell ∧ cell.vm.isStatics = false ∧ s.vm.findClass (mi k).1.cls = some cell.cls := by
    rw [y1, hci]
    exact va_recv hW.2.1 hW.1 (cf_all (lay0 hla).1).1 (wsA_obj hla)
  refine callGL (va_runV (As := as.map (cv ad)) (rest := rest) (b := ad aN) (C := (mi k).1.cls) ⟨hx, hb, hml, hown, htsG⟩ (hC.2 l ad ty D s.heap.size) ⟨callB_L hd0 hk htsG hlink, htsG _ w3.1, htsG _ w3.2⟩ ⟨blind_of _ ad ty D s.heap.size M, hcell, fun U hU hw => pre_U (as := .ref aN :: as) (Nat.le_refl _) hLK.1 hW hS hU hw⟩ rfl ?_ hl.1 rfl ?_ hd ⟨hLK.2.1, hLK.2.2⟩) hS ?_
  · rw [List.length_map]; exact hn
  · show 2 * 0 + _ ≤ 8
    rw [Nat.mul_zero, Nat.zero_add]
    exact h8
  · intro r M1 H1 locs1 hq hW1 hS1
    have := kk r M1 hq H1 locs1 ls hS1 hW1 hl
    cases r with
    | none => exact this
    | some v => exact this
end LAW
