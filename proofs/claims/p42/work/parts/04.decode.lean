/-! bytes: a fast check that the rows of part 02 are what decode gives -/
theorem bind_ok {α β : Type} (r : Decoder α) (G : α → Decoder β) {b : ByteArray} {p p1 : Nat} {x : α} (h : r b p = .ok (x, p1)) : (r >>= G) b p = G x b p1 := by
  show Except.bind (r b p) (fun q => G q.1 b q.2) = _
  rw [h]
  rfl
def dpu (i : Instr) : Decoder Instr := Pure.pure i
def du1 (f : Nat → Instr) : Decoder Instr := Reader.u1 >>= fun a => Pure.pure (f a)
def ds1 (f : Int → Instr) : Decoder Instr := Reader.s1 >>= fun a => Pure.pure (f a)
def du2 (f : Nat → Instr) : Decoder Instr := Reader.u2 >>= fun a => Pure.pure (f a)
def ds2 (f : Int → Instr) : Decoder Instr := Reader.s2 >>= fun a => Pure.pure (f a)
def dii : Decoder Instr := Reader.u1 >>= fun a => Reader.s1 >>= fun c => Pure.pure (.iinc a c)
theorem instr_F (pc : Nat) : ∃ F : Nat → Decoder Instr, Decoder.instr pc = (Reader.u1 >>= F) ∧ F 1 = dpu (Instr.aconst_null) ∧ F 2 = dpu (Instr.iconst (-1)) ∧ F 3 = dpu (Instr.iconst 0) ∧ F 4 = dpu (Instr.iconst 1) ∧ F 5 = dpu (Instr.iconst 2) ∧ F 6 = dpu (Instr.iconst 3) ∧ F 7 = dpu (Instr.iconst 4) ∧ F 8 = dpu (Instr.iconst 5) ∧ F 9 = dpu (Instr.lconst 0) ∧ F 10 = dpu (Instr.lconst 1) ∧ F 16 = ds1 (fun a => Instr.bipush a) ∧ F 17 = ds2 (fun a => Instr.sipush a) ∧ F 18 = du1 (fun a => Instr.ldc a) ∧ F 19 = du2 (fun a => Instr.ldc_w a) ∧ F 20 = du2 (fun a => Instr.ldc2_w a) ∧ F 21 = du1 (fun a => Instr.iload a) ∧ F 22 = du1 (fun a => Instr.lload a) ∧ F 25 = du1 (fun a => Instr.aload a) ∧ F 26 = dpu (Instr.iload_n 0) ∧ F 27 = dpu (Instr.iload_n 1) ∧ F 28 = dpu (Instr.iload_n 2) ∧ F 29 = dpu (Instr.iload_n 3) ∧ F 30 = dpu (Instr.lload_n 0) ∧ F 31 = dpu (Instr.lload_n 1) ∧ F 32 = dpu (Instr.lload_n 2) ∧ F 33 = dpu (Instr.lload_n 3) ∧ F 42 = dpu (Instr.aload_n 0) ∧ F 43 = dpu (Instr.aload_n 1) ∧ F 44 = dpu (Instr.aload_n 2) ∧ F 45 = dpu (Instr.aload_n 3) ∧ F 46 = dpu (Instr.iaload) ∧ F 47 = dpu (Instr.laload) ∧ F 50 = dpu (Instr.aaload) ∧ F 51 = dpu (Instr.baload) ∧ F 53 = dpu (Instr.saload) ∧ F 54 = du1 (fun a => Instr.istore a) ∧ F 55 = du1 (fun a => Instr.lstore a) ∧ F 58 = du1 (fun a => Instr.astore a) ∧ F 59 = dpu (Instr.istore_n 0) ∧ F 60 = dpu (Instr.istore_n 1) ∧ F 61 = dpu (Instr.istore_n 2) ∧ F 62 = dpu (Instr.istore_n 3) ∧ F 63 = dpu (Instr.lstore_n 0) ∧ F 64 = dpu (Instr.lstore_n 1) ∧ F 65 = dpu (Instr.lstore_n 2) ∧ F 66 = dpu (Instr.lstore_n 3) ∧ F 75 = dpu (Instr.astore_n 0) ∧ F 76 = dpu (Instr.astore_n 1) ∧ F 77 = dpu (Instr.astore_n 2) ∧ F 78 = dpu (Instr.astore_n 3) ∧ F 79 = dpu (Instr.iastore) ∧ F 80 = dpu (Instr.lastore) ∧ F 84 = dpu (Instr.bastore) ∧ F 86 = dpu (Instr.sastore) ∧ F 87 = dpu (Instr.pop) ∧ F 89 = dpu (Instr.dup) ∧ F 92 = dpu (Instr.dup2) ∧ F 96 = dpu (Instr.iadd) ∧ F 97 = dpu (Instr.ladd) ∧ F 100 = dpu (Instr.isub) ∧ F 101 = dpu (Instr.lsub) ∧ F 104 = dpu (Instr.imul) ∧ F 105 = dpu (Instr.lmul) ∧ F 108 = dpu (Instr.idiv) ∧ F 109 = dpu (Instr.ldiv) ∧ F 112 = dpu (Instr.irem) ∧ F 113 = dpu (Instr.lrem) ∧ F 116 = dpu (Instr.ineg) ∧ F 120 = dpu (Instr.ishl) ∧ F 122 = dpu (Instr.ishr) ∧ F 124 = dpu (Instr.iushr) ∧ F 126 = dpu (Instr.iand) ∧ F 128 = dpu (Instr.ior) ∧ F 130 = dpu (Instr.ixor) ∧ F 132 = dii ∧ F 133 = dpu (Instr.i2l) ∧ F 136 = dpu (Instr.l2i) ∧ F 145 = dpu (Instr.i2b) ∧ F 146 = dpu (Instr.i2c) ∧ F 147 = dpu (Instr.i2s) ∧ F 148 = dpu (Instr.lcmp) ∧ F 153 = ds2 (fun a => Instr.ifCond .eq a) ∧ F 154 = ds2 (fun a => Instr.ifCond .ne a) ∧ F 155 = ds2 (fun a => Instr.ifCond .lt a) ∧ F 156 = ds2 (fun a => Instr.ifCond .ge a) ∧ F 157 = ds2 (fun a => Instr.ifCond .gt a) ∧ F 158 = ds2 (fun a => Instr.ifCond .le a) ∧ F 159 = ds2 (fun a => Instr.if_icmp .eq a) ∧ F 160 = ds2 (fun a => Instr.if_icmp .ne a) ∧ F 161 = ds2 (fun a => Instr.if_icmp .lt a) ∧ F 162 = ds2 (fun a => Instr.if_icmp .ge a) ∧ F 163 = ds2 (fun a => Instr.if_icmp .gt a) ∧ F 164 = ds2 (fun a => Instr.if_icmp .le a) ∧ F 167 = ds2 (fun a => Instr.goto a) ∧ F 172 = dpu (Instr.ireturn) ∧ F 173 = dpu (Instr.lreturn) ∧ F 176 = dpu (Instr.areturn) ∧ F 177 = dpu (Instr.return_) ∧ F 178 = du2 (fun a => Instr.getstatic a) ∧ F 180 = du2 (fun a => Instr.getfield a) ∧ F 181 = du2 (fun a => Instr.putfield a) ∧ F 182 = du2 (fun a => Instr.invokevirtual a) ∧ F 184 = du2 (fun a => Instr.invokestatic a) ∧ F 187 = du2 (fun a => Instr.new a) ∧ F 190 = dpu (Instr.arraylength) ∧ F 198 = ds2 (fun a => Instr.ifnull a) ∧ F 199 = ds2 (fun a => Instr.ifnonnull a) := ⟨_, rfl, rfl, rfl, rfl, rfl, rfl, rfl, rfl, rfl, rfl, rfl, rfl, rfl, rfl, rfl, rfl, rfl, rfl, rfl, rfl, rfl, rfl, rfl, rfl, rfl, rfl, rfl, rfl, rfl, rfl, rfl, rfl, rfl, rfl, rfl, rfl, rfl, rfl, rfl, rfl, rfl, rfl, rfl, rfl, rfl, rfl, rfl, rfl, rfl, rfl, rfl, rfl, rfl, rfl, rfl, rfl, rfl, rfl, rfl, rfl, rfl, rfl, rfl, rfl, rfl, rfl, rfl, rfl, rfl, rfl, rfl, rfl, rfl, rfl, rfl, rfl, rfl, rfl, rfl, rfl, rfl, rfl, rfl, rfl, rfl, rfl, rfl, rfl, rfl, rfl, rfl, rfl, rfl, rfl, rfl, rfl, rfl, rfl, rfl, rfl, rfl, rfl, rfl, rfl, rfl, rfl, rfl, rfl⟩
def At1 (b : ByteArray) (p x : Nat) : Prop := Reader.u1 (ε := DecodeError) b p = .ok (x, p + 1)
theorem at1_of {b : ByteArray} {p x : Nat} (h : (b.data.toList.map UInt8.toNat)[p]? = some x) : At1 b p x := by
  have hp : p < b.data.toList.length := by
    have h1 := (List.getElem?_eq_some_iff.mp h).1
    simpa using h1
  have hs : p < b.size := by
    have h1 : p < b.data.size := by rw [← Array.length_toList]; exact hp
    exact h1
  have hv : (b[p]'hs).toNat = x := by
    rw [List.getElem?_map, List.getElem?_eq_getElem hp] at h
    have h2 := Option.some.inj h
    rw [Array.getElem_toList] at h2
    exact h2
  unfold At1 Reader.u1
  show (dite (p < b.size) (fun h => (do set (p + 1); Pure.pure (b[p]'h).toNat : Reader DecodeError Nat)) (fun _ => throw (HasTruncated.truncated p))) b p = _
  rw [dif_pos hs, ← hv]
  rfl
theorem u2_of {b : ByteArray} {p x y : Nat} (h1 : At1 b p x) (h2 : At1 b (p + 1) y) : Reader.u2 (ε := DecodeError) b p = .ok (x * 256 + y, p + 2) := by
  show (Reader.u1 (ε := DecodeError) >>= fun hi => Reader.u1 >>= fun lo => Pure.pure (hi * 256 + lo)) b p = _
  rw [bind_ok _ _ h1, bind_ok _ _ h2]
  rfl
theorem s1_of {b : ByteArray} {p x : Nat} (h1 : At1 b p x) : Reader.s1 (ε := DecodeError) b p = .ok (Reader.signed 8 x, p + 1) := by
  show Except.bind (Reader.u1 (ε := DecodeError) b p) (fun q => (.ok (Reader.signed 8 q.1, q.2) : Except DecodeError (Int × Nat))) = _
  rw [h1]
  rfl
theorem s2_of {b : ByteArray} {p x y : Nat} (h1 : At1 b p x) (h2 : At1 b (p + 1) y) : Reader.s2 (ε := DecodeError) b p = .ok (Reader.signed 16 (x * 256 + y), p + 2) := by
  show Except.bind (Reader.u2 (ε := DecodeError) b p) (fun q => (.ok (Reader.signed 16 q.1, q.2) : Except DecodeError (Int × Nat))) = _
  rw [u2_of h1 h2]
  rfl
theorem dec_of {b : ByteArray} {pc op n : Nat} {i : Instr} {F : Nat → Decoder Instr} (hF : Decoder.instr pc = (Reader.u1 >>= F)) (h0 : At1 b pc op) (h : F op b (pc + 1) = .ok (i, pc + n)) : decode b pc = .ok (i, n) := by
  have e : Decoder.instr pc b pc = .ok (i, pc + n) := by rw [hF, bind_ok _ _ h0]; exact h
  show Except.bind (Decoder.instr pc b pc) (fun q => (.ok (q.1, q.2 - pc) : Except DecodeError (Instr × Nat))) = _
  rw [e]
  show Except.ok (i, pc + n - pc) = _
  rw [Nat.add_sub_cancel_left]
section Dec
variable {b : ByteArray} {pc op x y : Nat} {F : Nat → Decoder Instr}
theorem dec_p {i : Instr} (hF : Decoder.instr pc = (Reader.u1 >>= F)) (h0 : At1 b pc op) (q : F op = dpu i) : decode b pc = .ok (i, 1) := dec_of hF h0 (by rw [q]; rfl)
theorem dec_u1 {f : Nat → Instr} (hF : Decoder.instr pc = (Reader.u1 >>= F)) (h0 : At1 b pc op) (h1 : At1 b (pc + 1) x) (q : F op = du1 f) : decode b pc = .ok (f x, 2) := dec_of hF h0 (by rw [q, du1, bind_ok _ _ h1]; rfl)
theorem dec_s1 {f : Int → Instr} (hF : Decoder.instr pc = (Reader.u1 >>= F)) (h0 : At1 b pc op) (h1 : At1 b (pc + 1) x) (q : F op = ds1 f) : decode b pc = .ok (f (Reader.signed 8 x), 2) := dec_of hF h0 (by rw [q, ds1, bind_ok _ _ (s1_of h1)]; rfl)
theorem dec_u2 {f : Nat → Instr} (hF : Decoder.instr pc = (Reader.u1 >>= F)) (h0 : At1 b pc op) (h1 : At1 b (pc + 1) x) (h2 : At1 b (pc + 2) y) (q : F op = du2 f) : decode b pc = .ok (f (x * 256 + y), 3) := dec_of hF h0 (by rw [q, du2, bind_ok _ _ (u2_of h1 h2)]; rfl)
theorem dec_s2 {f : Int → Instr} (hF : Decoder.instr pc = (Reader.u1 >>= F)) (h0 : At1 b pc op) (h1 : At1 b (pc + 1) x) (h2 : At1 b (pc + 2) y) (q : F op = ds2 f) : decode b pc = .ok (f (Reader.signed 16 (x * 256 + y)), 3) := dec_of hF h0 (by rw [q, ds2, bind_ok _ _ (s2_of h1 h2)]; rfl)
theorem dec_ii (hF : Decoder.instr pc = (Reader.u1 >>= F)) (h0 : At1 b pc op) (h1 : At1 b (pc + 1) x) (h2 : At1 b (pc + 2) y) (q : F op = dii) : decode b pc = .ok (.iinc x (Reader.signed 8 y), 3) := dec_of hF h0 (by rw [q, dii, bind_ok _ _ h1, bind_ok _ _ (s1_of h2)]; rfl)
end Dec
def c0 (op : Nat) (l : List Nat) : Bool := match l with
  | a :: _ => Nat.beq a op
  | _ => false
def cU1 (op v : Nat) (l : List Nat) : Bool := match l with
  | a :: x :: _ => Nat.beq a op && Nat.beq x v
  | _ => false
def cS1 (op : Nat) (v : Int) (l : List Nat) : Bool := match l with
  | a :: x :: _ => Nat.beq a op && decide (Reader.signed 8 x = v)
  | _ => false
def cU2 (op v : Nat) (l : List Nat) : Bool := match l with
  | a :: x :: y :: _ => Nat.beq a op && Nat.beq (x * 256 + y) v
  | _ => false
def cS2 (op : Nat) (v : Int) (l : List Nat) : Bool := match l with
  | a :: x :: y :: _ => Nat.beq a op && decide (Reader.signed 16 (x * 256 + y) = v)
  | _ => false
def cII (u : Nat) (v : Int) (l : List Nat) : Bool := match l with
  | a :: x :: y :: _ => Nat.beq a 132 && Nat.beq x u && decide (Reader.signed 8 y = v)
  | _ => false
def ck (i : Instr) (l : List Nat) : Bool := match i with
  | .aconst_null => c0 1 l
  | .iconst n => (decide (n = (-1)) && c0 2 l) || (decide (n = 0) && c0 3 l) || (decide (n = 1) && c0 4 l) || (decide (n = 2) && c0 5 l) || (decide (n = 3) && c0 6 l) || (decide (n = 4) && c0 7 l) || (decide (n = 5) && c0 8 l)
  | .lconst n => (decide (n = 0) && c0 9 l) || (decide (n = 1) && c0 10 l)
  | .bipush v => cS1 16 v l
  | .sipush v => cS2 17 v l
  | .ldc v => cU1 18 v l
  | .ldc_w v => cU2 19 v l
  | .ldc2_w v => cU2 20 v l
  | .iload v => cU1 21 v l
  | .lload v => cU1 22 v l
  | .aload v => cU1 25 v l
  | .iload_n n => (decide (n = 0) && c0 26 l) || (decide (n = 1) && c0 27 l) || (decide (n = 2) && c0 28 l) || (decide (n = 3) && c0 29 l)
  | .lload_n n => (decide (n = 0) && c0 30 l) || (decide (n = 1) && c0 31 l) || (decide (n = 2) && c0 32 l) || (decide (n = 3) && c0 33 l)
  | .aload_n n => (decide (n = 0) && c0 42 l) || (decide (n = 1) && c0 43 l) || (decide (n = 2) && c0 44 l) || (decide (n = 3) && c0 45 l)
  | .iaload => c0 46 l
  | .laload => c0 47 l
  | .aaload => c0 50 l
  | .baload => c0 51 l
  | .saload => c0 53 l
  | .istore v => cU1 54 v l
  | .lstore v => cU1 55 v l
  | .astore v => cU1 58 v l
  | .istore_n n => (decide (n = 0) && c0 59 l) || (decide (n = 1) && c0 60 l) || (decide (n = 2) && c0 61 l) || (decide (n = 3) && c0 62 l)
  | .lstore_n n => (decide (n = 0) && c0 63 l) || (decide (n = 1) && c0 64 l) || (decide (n = 2) && c0 65 l) || (decide (n = 3) && c0 66 l)
  | .astore_n n => (decide (n = 0) && c0 75 l) || (decide (n = 1) && c0 76 l) || (decide (n = 2) && c0 77 l) || (decide (n = 3) && c0 78 l)
  | .iastore => c0 79 l
  | .lastore => c0 80 l
  | .bastore => c0 84 l
  | .sastore => c0 86 l
  | .pop => c0 87 l
  | .dup => c0 89 l
  | .dup2 => c0 92 l
  | .iadd => c0 96 l
  | .ladd => c0 97 l
  | .isub => c0 100 l
  | .lsub => c0 101 l
  | .imul => c0 104 l
  | .lmul => c0 105 l
  | .idiv => c0 108 l
  | .ldiv => c0 109 l
  | .irem => c0 112 l
  | .lrem => c0 113 l
  | .ineg => c0 116 l
  | .ishl => c0 120 l
  | .ishr => c0 122 l
  | .iushr => c0 124 l
  | .iand => c0 126 l
  | .ior => c0 128 l
  | .ixor => c0 130 l
  | .iinc u v => cII u v l
  | .i2l => c0 133 l
  | .l2i => c0 136 l
  | .i2b => c0 145 l
  | .i2c => c0 146 l
  | .i2s => c0 147 l
  | .lcmp => c0 148 l
  | .ifCond cc v => match cc with
    | .eq => cS2 153 v l
    | .ne => cS2 154 v l
    | .lt => cS2 155 v l
    | .ge => cS2 156 v l
    | .gt => cS2 157 v l
    | .le => cS2 158 v l
  | .if_icmp cc v => match cc with
    | .eq => cS2 159 v l
    | .ne => cS2 160 v l
    | .lt => cS2 161 v l
    | .ge => cS2 162 v l
    | .gt => cS2 163 v l
    | .le => cS2 164 v l
  | .goto v => cS2 167 v l
  | .ireturn => c0 172 l
  | .lreturn => c0 173 l
  | .areturn => c0 176 l
  | .return_ => c0 177 l
  | .getstatic v => cU2 178 v l
  | .getfield v => cU2 180 v l
  | .putfield v => cU2 181 v l
  | .invokevirtual v => cU2 182 v l
  | .invokestatic v => cU2 184 v l
  | .new v => cU2 187 v l
  | .arraylength => c0 190 l
  | .ifnull v => cS2 198 v l
  | .ifnonnull v => cS2 199 v l
  | _ => false
theorem c0_ok {op : Nat} {l : List Nat} (h : c0 op l = true) : ∃ r, l = op :: r := by
  match l, h with
  | a :: r, h => exact ⟨r, by rw [Nat.eq_of_beq_eq_true h]⟩
theorem cU1_ok {op v : Nat} {l : List Nat} (h : cU1 op v l = true) : ∃ x r, l = op :: x :: r ∧ x = v := by
  match l, h with
  | a :: x :: r, h =>
    simp only [cU1, Bool.and_eq_true] at h
    exact ⟨x, r, by rw [Nat.eq_of_beq_eq_true h.1], Nat.eq_of_beq_eq_true h.2⟩
theorem cS1_ok {op : Nat} {v : Int} {l : List Nat} (h : cS1 op v l = true) : ∃ x r, l = op :: x :: r ∧ Reader.signed 8 x = v := by
  match l, h with
  | a :: x :: r, h =>
    simp only [cS1, Bool.and_eq_true, decide_eq_true_eq] at h
    exact ⟨x, r, by rw [Nat.eq_of_beq_eq_true h.1], h.2⟩
theorem cU2_ok {op v : Nat} {l : List Nat} (h : cU2 op v l = true) : ∃ x y r, l = op :: x :: y :: r ∧ x * 256 + y = v := by
  match l, h with
  | a :: x :: y :: r, h =>
    simp only [cU2, Bool.and_eq_true] at h
    exact ⟨x, y, r, by rw [Nat.eq_of_beq_eq_true h.1], Nat.eq_of_beq_eq_true h.2⟩
theorem cS2_ok {op : Nat} {v : Int} {l : List Nat} (h : cS2 op v l = true) : ∃ x y r, l = op :: x :: y :: r ∧ Reader.signed 16 (x * 256 + y) = v := by
  match l, h with
  | a :: x :: y :: r, h =>
    simp only [cS2, Bool.and_eq_true, decide_eq_true_eq] at h
    exact ⟨x, y, r, by rw [Nat.eq_of_beq_eq_true h.1], h.2⟩
theorem cII_ok {u : Nat} {v : Int} {l : List Nat} (h : cII u v l = true) : ∃ x y r, l = 132 :: x :: y :: r ∧ x = u ∧ Reader.signed 8 y = v := by
  match l, h with
  | a :: x :: y :: r, h =>
    simp only [cII, Bool.and_eq_true, decide_eq_true_eq] at h
    exact ⟨x, y, r, by rw [Nat.eq_of_beq_eq_true h.1.1], Nat.eq_of_beq_eq_true h.1.2, h.2⟩
def ilen (i : Instr) : Nat := match i with
  | .bipush _ => 2
  | .sipush _ => 3
  | .ldc _ => 2
  | .ldc_w _ => 3
  | .ldc2_w _ => 3
  | .iload _ => 2
  | .lload _ => 2
  | .aload _ => 2
  | .istore _ => 2
  | .lstore _ => 2
  | .astore _ => 2
  | .iinc _ _ => 3
  | .ifCond _ _ => 3
  | .if_icmp _ _ => 3
  | .goto _ => 3
  | .getstatic _ => 3
  | .getfield _ => 3
  | .putfield _ => 3
  | .invokevirtual _ => 3
  | .invokestatic _ => 3
  | .new _ => 3
  | .ifnull _ => 3
  | .ifnonnull _ => 3
  | _ => 1
set_option maxHeartbeats 4000000 in
theorem ck_ok {b : ByteArray} {pc : Nat} {i : Instr} {l : List Nat} (hl : ∀ j x, l[j]? = some x → At1 b (pc + j) x) (h : ck i l = true) : decode b pc = .ok (i, ilen i) := by
  obtain ⟨F, hF, q1, q2, q3, q4, q5, q6, q7, q8, q9, q10, q16, q17, q18, q19, q20, q21, q22, q25, q26, q27, q28, q29, q30, q31, q32, q33, q42, q43, q44, q45, q46, q47, q50, q51, q53, q54, q55, q58, q59, q60, q61, q62, q63, q64, q65, q66, q75, q76, q77, q78, q79, q80, q84, q86, q87, q89, q92, q96, q97, q100, q101, q104, q105, q108, q109, q112, q113, q116, q120, q122, q124, q126, q128, q130, q132, q133, q136, q145, q146, q147, q148, q153, q154, q155, q156, q157, q158, q159, q160, q161, q162, q163, q164, q167, q172, q173, q176, q177, q178, q180, q181, q182, q184, q187, q190, q198, q199⟩ := instr_F pc
  cases i with
  | aconst_null =>
    obtain ⟨r, rfl⟩ := c0_ok h
    exact dec_p hF (hl 0 _ rfl) q1
  | iconst n =>
    simp only [ck, Bool.or_eq_true, Bool.and_eq_true, decide_eq_true_eq] at h
    rcases h with ((((((⟨rfl, h⟩ | ⟨rfl, h⟩) | ⟨rfl, h⟩) | ⟨rfl, h⟩) | ⟨rfl, h⟩) | ⟨rfl, h⟩) | ⟨rfl, h⟩)
    · obtain ⟨r, rfl⟩ := c0_ok h
      exact dec_p hF (hl 0 _ rfl) q2
    · obtain ⟨r, rfl⟩ := c0_ok h
      exact dec_p hF (hl 0 _ rfl) q3
    · obtain ⟨r, rfl⟩ := c0_ok h
      exact dec_p hF (hl 0 _ rfl) q4
    · obtain ⟨r, rfl⟩ := c0_ok h
      exact dec_p hF (hl 0 _ rfl) q5
    · obtain ⟨r, rfl⟩ := c0_ok h
      exact dec_p hF (hl 0 _ rfl) q6
    · obtain ⟨r, rfl⟩ := c0_ok h
      exact dec_p hF (hl 0 _ rfl) q7
    · obtain ⟨r, rfl⟩ := c0_ok h
      exact dec_p hF (hl 0 _ rfl) q8
  | lconst n =>
    simp only [ck, Bool.or_eq_true, Bool.and_eq_true, decide_eq_true_eq] at h
    rcases h with (⟨rfl, h⟩ | ⟨rfl, h⟩)
    · obtain ⟨r, rfl⟩ := c0_ok h
      exact dec_p hF (hl 0 _ rfl) q9
    · obtain ⟨r, rfl⟩ := c0_ok h
      exact dec_p hF (hl 0 _ rfl) q10
  | bipush v =>
    obtain ⟨x, r, rfl, rfl⟩ := cS1_ok h
    exact dec_s1 hF (hl 0 _ rfl) (hl 1 _ rfl) q16
  | sipush v =>
    obtain ⟨x, y, r, rfl, rfl⟩ := cS2_ok h
    exact dec_s2 hF (hl 0 _ rfl) (hl 1 _ rfl) (hl 2 _ rfl) q17
  | ldc v =>
    obtain ⟨x, r, rfl, rfl⟩ := cU1_ok h
    exact dec_u1 hF (hl 0 _ rfl) (hl 1 _ rfl) q18
  | ldc_w v =>
    obtain ⟨x, y, r, rfl, rfl⟩ := cU2_ok h
    exact dec_u2 hF (hl 0 _ rfl) (hl 1 _ rfl) (hl 2 _ rfl) q19
  | ldc2_w v =>
    obtain ⟨x, y, r, rfl, rfl⟩ := cU2_ok h
    exact dec_u2 hF (hl 0 _ rfl) (hl 1 _ rfl) (hl 2 _ rfl) q20
  | iload v =>
    obtain ⟨x, r, rfl, rfl⟩ := cU1_ok h
    exact dec_u1 hF (hl 0 _ rfl) (hl 1 _ rfl) q21
  | lload v =>
    obtain ⟨x, r, rfl, rfl⟩ := cU1_ok h
    exact dec_u1 hF (hl 0 _ rfl) (hl 1 _ rfl) q22
  | aload v =>
    obtain ⟨x, r, rfl, rfl⟩ := cU1_ok h
    exact dec_u1 hF (hl 0 _ rfl) (hl 1 _ rfl) q25
  | iload_n n =>
    simp only [ck, Bool.or_eq_true, Bool.and_eq_true, decide_eq_true_eq] at h
    rcases h with (((⟨rfl, h⟩ | ⟨rfl, h⟩) | ⟨rfl, h⟩) | ⟨rfl, h⟩)
    · obtain ⟨r, rfl⟩ := c0_ok h
      exact dec_p hF (hl 0 _ rfl) q26
    · obtain ⟨r, rfl⟩ := c0_ok h
      exact dec_p hF (hl 0 _ rfl) q27
    · obtain ⟨r, rfl⟩ := c0_ok h
      exact dec_p hF (hl 0 _ rfl) q28
    · obtain ⟨r, rfl⟩ := c0_ok h
      exact dec_p hF (hl 0 _ rfl) q29
  | lload_n n =>
    simp only [ck, Bool.or_eq_true, Bool.and_eq_true, decide_eq_true_eq] at h
    rcases h with (((⟨rfl, h⟩ | ⟨rfl, h⟩) | ⟨rfl, h⟩) | ⟨rfl, h⟩)
    · obtain ⟨r, rfl⟩ := c0_ok h
      exact dec_p hF (hl 0 _ rfl) q30
    · obtain ⟨r, rfl⟩ := c0_ok h
      exact dec_p hF (hl 0 _ rfl) q31
    · obtain ⟨r, rfl⟩ := c0_ok h
      exact dec_p hF (hl 0 _ rfl) q32
    · obtain ⟨r, rfl⟩ := c0_ok h
      exact dec_p hF (hl 0 _ rfl) q33
  | aload_n n =>
    simp only [ck, Bool.or_eq_true, Bool.and_eq_true, decide_eq_true_eq] at h
    rcases h with (((⟨rfl, h⟩ | ⟨rfl, h⟩) | ⟨rfl, h⟩) | ⟨rfl, h⟩)
    · obtain ⟨r, rfl⟩ := c0_ok h
      exact dec_p hF (hl 0 _ rfl) q42
    · obtain ⟨r, rfl⟩ := c0_ok h
      exact dec_p hF (hl 0 _ rfl) q43
    · obtain ⟨r, rfl⟩ := c0_ok h
      exact dec_p hF (hl 0 _ rfl) q44
    · obtain ⟨r, rfl⟩ := c0_ok h
      exact dec_p hF (hl 0 _ rfl) q45
  | iaload =>
    obtain ⟨r, rfl⟩ := c0_ok h
    exact dec_p hF (hl 0 _ rfl) q46
  | laload =>
    obtain ⟨r, rfl⟩ := c0_ok h
    exact dec_p hF (hl 0 _ rfl) q47
  | aaload =>
    obtain ⟨r, rfl⟩ := c0_ok h
    exact dec_p hF (hl 0 _ rfl) q50
  | baload =>
    obtain ⟨r, rfl⟩ := c0_ok h
    exact dec_p hF (hl 0 _ rfl) q51
  | saload =>
    obtain ⟨r, rfl⟩ := c0_ok h
    exact dec_p hF (hl 0 _ rfl) q53
  | istore v =>
    obtain ⟨x, r, rfl, rfl⟩ := cU1_ok h
    exact dec_u1 hF (hl 0 _ rfl) (hl 1 _ rfl) q54
  | lstore v =>
    obtain ⟨x, r, rfl, rfl⟩ := cU1_ok h
    exact dec_u1 hF (hl 0 _ rfl) (hl 1 _ rfl) q55
  | astore v =>
    obtain ⟨x, r, rfl, rfl⟩ := cU1_ok h
    exact dec_u1 hF (hl 0 _ rfl) (hl 1 _ rfl) q58
  | istore_n n =>
    simp only [ck, Bool.or_eq_true, Bool.and_eq_true, decide_eq_true_eq] at h
    rcases h with (((⟨rfl, h⟩ | ⟨rfl, h⟩) | ⟨rfl, h⟩) | ⟨rfl, h⟩)
    · obtain ⟨r, rfl⟩ := c0_ok h
      exact dec_p hF (hl 0 _ rfl) q59
    · obtain ⟨r, rfl⟩ := c0_ok h
      exact dec_p hF (hl 0 _ rfl) q60
    · obtain ⟨r, rfl⟩ := c0_ok h
      exact dec_p hF (hl 0 _ rfl) q61
    · obtain ⟨r, rfl⟩ := c0_ok h
      exact dec_p hF (hl 0 _ rfl) q62
  | lstore_n n =>
    simp only [ck, Bool.or_eq_true, Bool.and_eq_true, decide_eq_true_eq] at h
    rcases h with (((⟨rfl, h⟩ | ⟨rfl, h⟩) | ⟨rfl, h⟩) | ⟨rfl, h⟩)
    · obtain ⟨r, rfl⟩ := c0_ok h
      exact dec_p hF (hl 0 _ rfl) q63
    · obtain ⟨r, rfl⟩ := c0_ok h
      exact dec_p hF (hl 0 _ rfl) q64
    · obtain ⟨r, rfl⟩ := c0_ok h
      exact dec_p hF (hl 0 _ rfl) q65
    · obtain ⟨r, rfl⟩ := c0_ok h
      exact dec_p hF (hl 0 _ rfl) q66
  | astore_n n =>
    simp only [ck, Bool.or_eq_true, Bool.and_eq_true, decide_eq_true_eq] at h
    rcases h with (((⟨rfl, h⟩ | ⟨rfl, h⟩) | ⟨rfl, h⟩) | ⟨rfl, h⟩)
    · obtain ⟨r, rfl⟩ := c0_ok h
      exact dec_p hF (hl 0 _ rfl) q75
    · obtain ⟨r, rfl⟩ := c0_ok h
      exact dec_p hF (hl 0 _ rfl) q76
    · obtain ⟨r, rfl⟩ := c0_ok h
      exact dec_p hF (hl 0 _ rfl) q77
    · obtain ⟨r, rfl⟩ := c0_ok h
      exact dec_p hF (hl 0 _ rfl) q78
  | iastore =>
    obtain ⟨r, rfl⟩ := c0_ok h
    exact dec_p hF (hl 0 _ rfl) q79
  | lastore =>
    obtain ⟨r, rfl⟩ := c0_ok h
    exact dec_p hF (hl 0 _ rfl) q80
  | bastore =>
    obtain ⟨r, rfl⟩ := c0_ok h
    exact dec_p hF (hl 0 _ rfl) q84
  | sastore =>
    obtain ⟨r, rfl⟩ := c0_ok h
    exact dec_p hF (hl 0 _ rfl) q86
  | pop =>
    obtain ⟨r, rfl⟩ := c0_ok h
    exact dec_p hF (hl 0 _ rfl) q87
  | dup =>
    obtain ⟨r, rfl⟩ := c0_ok h
    exact dec_p hF (hl 0 _ rfl) q89
  | dup2 =>
    obtain ⟨r, rfl⟩ := c0_ok h
    exact dec_p hF (hl 0 _ rfl) q92
  | iadd =>
    obtain ⟨r, rfl⟩ := c0_ok h
    exact dec_p hF (hl 0 _ rfl) q96
  | ladd =>
    obtain ⟨r, rfl⟩ := c0_ok h
    exact dec_p hF (hl 0 _ rfl) q97
  | isub =>
    obtain ⟨r, rfl⟩ := c0_ok h
    exact dec_p hF (hl 0 _ rfl) q100
  | lsub =>
    obtain ⟨r, rfl⟩ := c0_ok h
    exact dec_p hF (hl 0 _ rfl) q101
  | imul =>
    obtain ⟨r, rfl⟩ := c0_ok h
    exact dec_p hF (hl 0 _ rfl) q104
  | lmul =>
    obtain ⟨r, rfl⟩ := c0_ok h
    exact dec_p hF (hl 0 _ rfl) q105
  | idiv =>
    obtain ⟨r, rfl⟩ := c0_ok h
    exact dec_p hF (hl 0 _ rfl) q108
  | ldiv =>
    obtain ⟨r, rfl⟩ := c0_ok h
    exact dec_p hF (hl 0 _ rfl) q109
  | irem =>
    obtain ⟨r, rfl⟩ := c0_ok h
    exact dec_p hF (hl 0 _ rfl) q112
  | lrem =>
    obtain ⟨r, rfl⟩ := c0_ok h
    exact dec_p hF (hl 0 _ rfl) q113
  | ineg =>
    obtain ⟨r, rfl⟩ := c0_ok h
    exact dec_p hF (hl 0 _ rfl) q116
  | ishl =>
    obtain ⟨r, rfl⟩ := c0_ok h
    exact dec_p hF (hl 0 _ rfl) q120
  | ishr =>
    obtain ⟨r, rfl⟩ := c0_ok h
    exact dec_p hF (hl 0 _ rfl) q122
  | iushr =>
    obtain ⟨r, rfl⟩ := c0_ok h
    exact dec_p hF (hl 0 _ rfl) q124
  | iand =>
    obtain ⟨r, rfl⟩ := c0_ok h
    exact dec_p hF (hl 0 _ rfl) q126
  | ior =>
    obtain ⟨r, rfl⟩ := c0_ok h
    exact dec_p hF (hl 0 _ rfl) q128
  | ixor =>
    obtain ⟨r, rfl⟩ := c0_ok h
    exact dec_p hF (hl 0 _ rfl) q130
  | iinc u v =>
    obtain ⟨x, y, r, rfl, rfl, rfl⟩ := cII_ok h
    exact dec_ii hF (hl 0 _ rfl) (hl 1 _ rfl) (hl 2 _ rfl) q132
  | i2l =>
    obtain ⟨r, rfl⟩ := c0_ok h
    exact dec_p hF (hl 0 _ rfl) q133
  | l2i =>
    obtain ⟨r, rfl⟩ := c0_ok h
    exact dec_p hF (hl 0 _ rfl) q136
  | i2b =>
    obtain ⟨r, rfl⟩ := c0_ok h
    exact dec_p hF (hl 0 _ rfl) q145
  | i2c =>
    obtain ⟨r, rfl⟩ := c0_ok h
    exact dec_p hF (hl 0 _ rfl) q146
  | i2s =>
    obtain ⟨r, rfl⟩ := c0_ok h
    exact dec_p hF (hl 0 _ rfl) q147
  | lcmp =>
    obtain ⟨r, rfl⟩ := c0_ok h
    exact dec_p hF (hl 0 _ rfl) q148
  | ifCond cc v =>
    cases cc with
    | eq =>
      obtain ⟨x, y, r, rfl, rfl⟩ := cS2_ok h
      exact dec_s2 hF (hl 0 _ rfl) (hl 1 _ rfl) (hl 2 _ rfl) q153
    | ne =>
      obtain ⟨x, y, r, rfl, rfl⟩ := cS2_ok h
      exact dec_s2 hF (hl 0 _ rfl) (hl 1 _ rfl) (hl 2 _ rfl) q154
    | lt =>
      obtain ⟨x, y, r, rfl, rfl⟩ := cS2_ok h
      exact dec_s2 hF (hl 0 _ rfl) (hl 1 _ rfl) (hl 2 _ rfl) q155
    | ge =>
      obtain ⟨x, y, r, rfl, rfl⟩ := cS2_ok h
      exact dec_s2 hF (hl 0 _ rfl) (hl 1 _ rfl) (hl 2 _ rfl) q156
    | gt =>
      obtain ⟨x, y, r, rfl, rfl⟩ := cS2_ok h
      exact dec_s2 hF (hl 0 _ rfl) (hl 1 _ rfl) (hl 2 _ rfl) q157
    | le =>
      obtain ⟨x, y, r, rfl, rfl⟩ := cS2_ok h
      exact dec_s2 hF (hl 0 _ rfl) (hl 1 _ rfl) (hl 2 _ rfl) q158
  | if_icmp cc v =>
    cases cc with
    | eq =>
      obtain ⟨x, y, r, rfl, rfl⟩ := cS2_ok h
      exact dec_s2 hF (hl 0 _ rfl) (hl 1 _ rfl) (hl 2 _ rfl) q159
    | ne =>
      obtain ⟨x, y, r, rfl, rfl⟩ := cS2_ok h
      exact dec_s2 hF (hl 0 _ rfl) (hl 1 _ rfl) (hl 2 _ rfl) q160
    | lt =>
      obtain ⟨x, y, r, rfl, rfl⟩ := cS2_ok h
      exact dec_s2 hF (hl 0 _ rfl) (hl 1 _ rfl) (hl 2 _ rfl) q161
    | ge =>
      obtain ⟨x, y, r, rfl, rfl⟩ := cS2_ok h
      exact dec_s2 hF (hl 0 _ rfl) (hl 1 _ rfl) (hl 2 _ rfl) q162
    | gt =>
      obtain ⟨x, y, r, rfl, rfl⟩ := cS2_ok h
      exact dec_s2 hF (hl 0 _ rfl) (hl 1 _ rfl) (hl 2 _ rfl) q163
    | le =>
      obtain ⟨x, y, r, rfl, rfl⟩ := cS2_ok h
      exact dec_s2 hF (hl 0 _ rfl) (hl 1 _ rfl) (hl 2 _ rfl) q164
  | goto v =>
    obtain ⟨x, y, r, rfl, rfl⟩ := cS2_ok h
    exact dec_s2 hF (hl 0 _ rfl) (hl 1 _ rfl) (hl 2 _ rfl) q167
  | ireturn =>
    obtain ⟨r, rfl⟩ := c0_ok h
    exact dec_p hF (hl 0 _ rfl) q172
  | lreturn =>
    obtain ⟨r, rfl⟩ := c0_ok h
    exact dec_p hF (hl 0 _ rfl) q173
  | areturn =>
    obtain ⟨r, rfl⟩ := c0_ok h
    exact dec_p hF (hl 0 _ rfl) q176
  | return_ =>
    obtain ⟨r, rfl⟩ := c0_ok h
    exact dec_p hF (hl 0 _ rfl) q177
  | getstatic v =>
    obtain ⟨x, y, r, rfl, rfl⟩ := cU2_ok h
    exact dec_u2 hF (hl 0 _ rfl) (hl 1 _ rfl) (hl 2 _ rfl) q178
  | getfield v =>
    obtain ⟨x, y, r, rfl, rfl⟩ := cU2_ok h
    exact dec_u2 hF (hl 0 _ rfl) (hl 1 _ rfl) (hl 2 _ rfl) q180
  | putfield v =>
    obtain ⟨x, y, r, rfl, rfl⟩ := cU2_ok h
    exact dec_u2 hF (hl 0 _ rfl) (hl 1 _ rfl) (hl 2 _ rfl) q181
  | invokevirtual v =>
    obtain ⟨x, y, r, rfl, rfl⟩ := cU2_ok h
    exact dec_u2 hF (hl 0 _ rfl) (hl 1 _ rfl) (hl 2 _ rfl) q182
  | invokestatic v =>
    obtain ⟨x, y, r, rfl, rfl⟩ := cU2_ok h
    exact dec_u2 hF (hl 0 _ rfl) (hl 1 _ rfl) (hl 2 _ rfl) q184
  | new v =>
    obtain ⟨x, y, r, rfl, rfl⟩ := cU2_ok h
    exact dec_u2 hF (hl 0 _ rfl) (hl 1 _ rfl) (hl 2 _ rfl) q187
  | arraylength =>
    obtain ⟨r, rfl⟩ := c0_ok h
    exact dec_p hF (hl 0 _ rfl) q190
  | ifnull v =>
    obtain ⟨x, y, r, rfl, rfl⟩ := cS2_ok h
    exact dec_s2 hF (hl 0 _ rfl) (hl 1 _ rfl) (hl 2 _ rfl) q198
  | ifnonnull v =>
    obtain ⟨x, y, r, rfl, rfl⟩ := cS2_ok h
    exact dec_s2 hF (hl 0 _ rfl) (hl 1 _ rfl) (hl 2 _ rfl) q199
  | _ => cases h
