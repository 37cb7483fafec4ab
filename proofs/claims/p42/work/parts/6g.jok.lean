/-! runs of the law's rows, and what a walk gives -/
section JRUN
variable {k L : Nat} {xs : Nat → Int32} {p : Program} {l : Launch} {e0 : Env} {R : Room} {s : State} {m : MethodId} {args : Array Value} {below : List Frame} {meth : Method} {c : Code} {ad : Nat → Nat} {ty : Nat → ClassId} {D : va_G} {B0 : Nat × Nat} {A : Nat → Prop} {Zt : State → Prop}
def Sj (k : Nat) (here : List Ent) : Prop := (∀ e ∈ here, e ∈ jdo k) ∧ chn here = true ∧ ∀ e l, here = e :: l → jdchk ((jbys k).drop e.1) here = true
theorem Sj_tail {e : Ent} {l : List Ent} (h : Sj k (e :: l)) : Sj k l := by
  obtain ⟨h1, h2, h3⟩ := h
  obtain ⟨c1, c2⟩ := chn_tail h2
  refine ⟨fun x hx => h1 x (List.mem_cons_of_mem _ hx), c1, fun e' l' q => ?_⟩
  have := h3 e l rfl
  unfold jdchk at this
  rw [Bool.and_eq_true, List.drop_drop, ← c2 e' l' q] at this
  exact this.2
theorem Sj_all (h : k < 13) : Sj k (jdo k) := by
  obtain ⟨h1, -, h3, -, h5⟩ := jok_e h
  refine ⟨fun _ q => q, h3, fun e l q => ?_⟩
  rw [q] at h5
  have h5 : e.1 = 0 := h5
  rw [h5]
  exact h1
theorem Sj_seek {t : Nat} : ∀ {l : List Ent}, Sj k l → Sj k (seekK l t)
  | [], h => h
  | e :: l, h => by
    unfold seekK
    split
    · exact h
    · exact Sj_seek (Sj_tail h)
theorem jlen_e (hk : k < 13) {e : Ent} (he : e ∈ jdo k) : jlen e = true := List.all_eq_true.mp (List.all_eq_true.mp jlen_all k (List.mem_range.mpr hk)) e he
theorem Sj_dec (hk : k < 13) {e : Ent} {l : List Ent} (h : Sj k (e :: l)) : decode (jm k).2.1 e.1 = .ok (e.2.2.1, e.2.2.2.1) ∧ jokI e = true := by
  obtain ⟨h1, -, h3⟩ := h
  have hm := h1 e List.mem_cons_self
  have hI := (jok_e hk).2.1 e hm
  refine ⟨?_, hI⟩
  have hd := h3 e l rfl
  unfold jdchk at hd
  rw [Bool.and_eq_true, Bool.or_eq_true] at hd
  cases hs : jhard e.2.2.1 with
  | true =>
    have := List.all_eq_true.mp (List.all_eq_true.mp jokH_all k (List.mem_range.mpr hk)) e hm
    rw [hs] at this
    exact of_decide_eq_true this
  | false =>
    have hck : ck e.2.2.1 ((jbys k).drop e.1) = true := hd.1.elim (fun q => by rw [hs] at q; cases q) id
    have := ck_ok (b := (jm k).2.1) (pc := e.1) (l := (jbys k).drop e.1) (fun j x hj => at1_of (by rw [List.getElem?_drop] at hj; exact hj)) hck
    rw [this]
    have hlen : e.2.2.2.1 = ilen e.2.2.1 := by
      unfold jokI at hI
      split at hI
      all_goals first
        | (next q => rw [q]; rw [Bool.and_eq_true] at hI; exact Nat.eq_of_beq_eq_true hI.1)
        | (rw [hs, Bool.false_or] at hI; exact Nat.eq_of_beq_eq_true hI)
    rw [hlen]
/-- the machine's words, held to what they mean here -/
def JH (k : Nat) (L : Nat) (xs : Nat → Int32) (p : Program) (l : Launch) (e0 : Env) (R : Room) (s : State) (m : MethodId) (args : Array Value) (below : List Frame) (meth : Method) (c : Code) (ad : Nat → Nat) (ty : Nat → ClassId) (D : va_G) (B0 : Nat × Nat) (A : Nat → Prop) (Zt : State → Prop)
    (B : Nat → Lv → List Value → JSt → Prop) (vc : Nat → List Value → Mem → Po → Prop) (sc : Nat → List Value → JSt → (Int32 → Mem → Prop) → Prop) (Z : Int32 → JSt → Prop) : Prop :=
  (∀ pc lv st S, B pc lv st S → JS k p l e0 R s m args below meth c ad ty D B0 A Zt pc lv st S) ∧ (∀ k' as M Q, vc k' as M Q → Call 250 k' as M Q) ∧ (∀ k' as S' Q, sc k' as S' Q → jcl L xs k k' as S' Q) ∧
  (∀ (pc : Nat) (lv : Lv) (x : Int32) (S : JSt), decode (jm k).2.1 pc = .ok (.ireturn, 1) → rtJ (jm k).2.2.2.1 x (Z x S) → JS k p l e0 R s m args below meth c ad ty D B0 A Zt pc lv [.int x] S)
theorem jpN_ok {B : Nat → Lv → List Value → JSt → Prop} {vc : Nat → List Value → Mem → Po → Prop} {sc : Nat → List Value → JSt → (Int32 → Mem → Prop) → Prop} {Z : Int32 → JSt → Prop} (F : FixJ k L xs p R s m args meth c ad B0 A) (hJ : JH k L xs p l e0 R s m args below meth c ad ty D B0 A Zt B vc sc Z) :
    ∀ (n : Nat) (here : List Ent) (lv : Lv) (st : List Value) (S : JSt), Sj k here → jpN L xs k B vc sc Z n here lv st S → ∃ e q, here = e :: q ∧ JS k p l e0 R s m args below meth c ad ty D B0 A Zt e.1 lv st S := by
  have hk : k < 13 := F.2.2.2.2.2.2.2.2.2.2.2
  intro n
  induction n with
  | zero => intro here lv st S _ h; exact h.elim
  | succ n ih =>
    intro here lv st S hS h
    cases here with
    | nil => exact h.elim
    | cons e q =>
      refine ⟨e, q, rfl, ?_⟩
      unfold jpN at h
      dsimp only at h
      split at h
      · obtain ⟨hdec, hI⟩ := Sj_dec hk hS
        refine wpJ_ok F hdec hI (fun _ => jlen_e hk (hS.1 e List.mem_cons_self)) (fun lv st S w => ?_) (fun t lv st S w => ?_) hJ.2.1 hJ.2.2.1 hJ.2.2.2 h
        · obtain ⟨e', l', h1, h2⟩ := ih q lv st S (Sj_tail hS) w
          rw [(chn_tail hS.2.1).2 e' l' h1] at h2
          exact h2
        · obtain ⟨e', l', h1, h2⟩ := ih _ lv st S (Sj_seek (Sj_all hk)) w
          rw [seek_e h1] at h2
          exact h2
      · exact hJ.1 _ _ _ _ h
theorem jpS_ok {B : Nat → Lv → List Value → JSt → Prop} {vc : Nat → List Value → Mem → Po → Prop} {sc : Nat → List Value → JSt → (Int32 → Mem → Prop) → Prop} {Z : Int32 → JSt → Prop} (F : FixJ k L xs p R s m args meth c ad B0 A) (hJ : JH k L xs p l e0 R s m args below meth c ad ty D B0 A Zt B vc sc Z)
    {n pc : Nat} {lv : Lv} {st : List Value} {S : JSt} (h : jpS L xs k B vc sc Z n (seekK (jdo k) pc) lv st S) : JS k p l e0 R s m args below meth c ad ty D B0 A Zt pc lv st S := by
  have hk : k < 13 := F.2.2.2.2.2.2.2.2.2.2.2
  have hS : Sj k (seekK (jdo k) pc) := Sj_seek (Sj_all hk)
  unfold jpS at h
  split at h
  · exact h.elim
  · next e q he =>
    rw [he] at hS
    obtain ⟨hdec, hI⟩ := Sj_dec hk hS
    rw [← seek_e he]
    refine wpJ_ok F hdec hI (fun _ => jlen_e hk (hS.1 e List.mem_cons_self)) (fun lv st S w => ?_) (fun t lv st S w => ?_) hJ.2.1 hJ.2.2.1 hJ.2.2.2 h
    · obtain ⟨e', l', h1, h2⟩ := jpN_ok F hJ n q lv st S (Sj_tail hS) w
      rw [(chn_tail hS.2.1).2 e' l' h1] at h2
      exact h2
    · obtain ⟨e', l', h1, h2⟩ := jpN_ok F hJ n _ lv st S (Sj_seek (Sj_all hk)) w
      rw [seek_e h1] at h2
      exact h2
theorem lv_has_sub {ls : Array Slot} {n : Nat} {f : Nat × Value → Nat × Value} {lv lv' : Lv} (h : lv_has ls n (lv.map f)) (hs : subL lv lv') : lv_has ls n (lv'.map f) := by
  refine ⟨h.1, h.2.1, fun q hq => ?_⟩
  obtain ⟨⟨i, v⟩, h1, rfl⟩ := List.mem_map.mp hq
  exact h.2.2 _ (List.mem_map.mpr ⟨(i, v), hs i v h1, rfl⟩)
theorem jcl_mono {k' : Nat} {as : List Value} {S : JSt} {Q1 Q2 : Int32 → Mem → Prop} (h : jcl L xs k k' as S Q1) (hq : ∀ x M', Q1 x M' → Q2 x M') : jcl L xs k k' as S Q2 := by
  obtain ⟨h0, T', h1, h2, h3⟩ := h
  refine ⟨h0, T', h1, h2, fun l ad ty D B0 tt sz => ?_⟩
  have h4 := h3 l ad ty D B0 tt sz
  intro p e a1 a2 a3 s m args below a4 a5 a6 a7
  obtain ⟨n, o, b1, b2, b3, ⟨⟨x, M1, c1, c2, c3⟩, c4⟩, b5⟩ := h4 p e a1 a2 a3 s m args below a4 a5 a6 a7
  exact ⟨n, o, b1, b2, b3, ⟨⟨x, M1, c1, hq _ _ c2, c3⟩, c4⟩, b5⟩
/-- a place in the law's own body: the walk's closure -/
theorem JOk_JS {Zr : Int32 → JSt → Prop} (F : FixJ k L xs p R s m args meth c ad B0 A)
    (hZ : ∀ (Z : Int32 → JSt → Prop) (pc : Nat) (lv : Lv) (x : Int32) (S : JSt), (∀ x S, Z x S → Zr x S) → decode (jm k).2.1 pc = .ok (.ireturn, 1) → rtJ (jm k).2.2.2.1 x (Z x S) → JS k p l e0 R s m args below meth c ad ty D B0 A Zt pc lv [.int x] S) :
    JOk L xs k (jcl L xs k) (JS k p l e0 R s m args below meth c ad ty D B0 A Zt) Zr := by
  refine ⟨fun n pc lv st S h => ?_, fun pc lv lv' st M T T' g hs ht h => ?_⟩
  · refine jpS_ok F (B := JS k p l e0 R s m args below meth c ad ty D B0 A Zt) (vc := Call 250) (sc := jcl L xs k) (Z := Zr) ⟨fun _ _ _ _ w => w, fun _ _ _ _ w => w, fun _ _ _ _ w => w, fun pc lv x S w1 w2 => hZ Zr pc lv x S (fun _ _ w => w) w1 w2⟩ (h _ _ _ _ (fun _ _ _ _ w => w) (fun _ _ _ _ _ w1 w2 => Call_mono w1 w2) (fun _ _ _ _ _ w1 w2 => jcl_mono w1 w2) (fun _ _ w => w))
  · intro tt H locs ls nC nS hC hSl hB hW hT hS hl
    exact h tt H locs ls nC nS hC hSl hB hW (WT_sub hT ht) hS (lv_has_sub hl hs)
end JRUN
