/-! runs of a method's rows: from the entry or a loop's head to the next head, a call or a return -/
def wpN (k : Nat) (B : Nat → Lv → List Value → Mem → Prop) (Cl : Nat → List Value → Mem → Po → Prop) (Z : Po) : Nat → List Ent → Lv → List Value → Mem → Prop
  | 0, _, _, _, _ => False
  | n + 1, here, lv, st, M => match here with
    | [] => False
    | e :: l => match e.2.1 with
      | 0 => wpI (mi k).2.2.2.1 (mi k).2.2.1 e lv st M Z (wpN k B Cl Z n l) (fun t => wpN k B Cl Z n (seekK (cdo k) t)) Cl
      | _ => B e.1 lv st M
/-- from a loop's head on -/
def wpS (k : Nat) (B : Nat → Lv → List Value → Mem → Prop) (Cl : Nat → List Value → Mem → Po → Prop) (Z : Po) (n : Nat) (here : List Ent) (lv : Lv) (st : List Value) (M : Mem) : Prop := match here with
  | [] => False
  | e :: l => wpI (mi k).2.2.2.1 (mi k).2.2.1 e lv st M Z (wpN k B Cl Z n l) (fun t => wpN k B Cl Z n (seekK (cdo k) t)) Cl
def Sf (k : Nat) (here : List Ent) : Prop := (∀ e ∈ here, e ∈ cdo k) ∧ chn here = true ∧ ∀ e l, here = e :: l → dchk ((bys k).drop e.1) here = true
theorem chn_tail {e : Ent} {l : List Ent} (h : chn (e :: l) = true) : chn l = true ∧ ∀ e' l', l = e' :: l' → e'.1 = e.1 + e.2.2.2.1 := by
  cases l with
  | nil => exact ⟨rfl, fun _ _ h => by cases h⟩
  | cons e' l' =>
    unfold chn at h
    rw [Bool.and_eq_true] at h
    exact ⟨h.2, fun _ _ q => by cases q; exact Nat.eq_of_beq_eq_true h.1⟩
theorem Sf_tail {k : Nat} {e : Ent} {l : List Ent} (h : Sf k (e :: l)) : Sf k l := by
  obtain ⟨h1, h2, h3⟩ := h
  obtain ⟨c1, c2⟩ := chn_tail h2
  refine ⟨fun x hx => h1 x (List.mem_cons_of_mem _ hx), c1, fun e' l' q => ?_⟩
  have := h3 e l rfl
  unfold dchk at this
  rw [Bool.and_eq_true, List.drop_drop, ← c2 e' l' q] at this
  exact this.2
theorem Sf_all {k : Nat} (h : k < 123) : Sf k (cdo k) := by
  obtain ⟨h1, -, h3, -, h5⟩ := okM_e h
  refine ⟨fun _ q => q, h3, fun e l q => ?_⟩
  rw [q] at h5
  have h5 : e.1 = 0 := h5
  rw [h5]
  exact h1
theorem Sf_seek {k t : Nat} : ∀ {l : List Ent}, Sf k l → Sf k (seekK l t)
  | [], h => h
  | e :: l, h => by
    unfold seekK
    split
    · exact h
    · exact Sf_seek (Sf_tail h)
theorem seek_e {t : Nat} {e : Ent} {r : List Ent} : ∀ {l : List Ent}, seekK l t = e :: r → e.1 = t
  | [], h => by cases h
  | x :: l, h => by
    unfold seekK at h
    split at h
    · next hb => cases h; exact Nat.eq_of_beq_eq_true hb
    · exact seek_e h
theorem Sf_dec {k : Nat} (hk : k < 123) {e : Ent} {l : List Ent} (h : Sf k (e :: l)) : decode (mi k).2.1 e.1 = .ok (e.2.2.1, e.2.2.2.1) ∧ okI (mi k).2.2.2.2.1 e = true := by
  obtain ⟨h1, -, h3⟩ := h
  have hm := h1 e List.mem_cons_self
  have hI := (okM_e hk).2.1 e hm
  refine ⟨?_, hI⟩
  have hd := h3 e l rfl
  unfold dchk at hd
  rw [Bool.and_eq_true, Bool.or_eq_true] at hd
  cases hs : isSw e.2.2.1 with
  | true =>
    have := List.all_eq_true.mp (okSw_all hk) e hm
    rw [hs] at this
    exact of_decide_eq_true this
  | false =>
    have hck : ck e.2.2.1 ((bys k).drop e.1) = true := hd.1.elim (fun q => by rw [hs] at q; cases q) id
    have := ck_ok (b := (mi k).2.1) (pc := e.1) (l := (bys k).drop e.1) (fun j x hj => at1_of (by rw [List.getElem?_drop] at hj; exact hj)) hck
    rw [this]
    have hlen : e.2.2.2.1 = ilen e.2.2.1 := by
      unfold okI at hI
      split at hI
      · next q => rw [q] at hs; cases hs
      · next q => rw [q] at hs; cases hs
      · rw [Bool.and_eq_true] at hI; exact Nat.eq_of_beq_eq_true hI.1
    rw [hlen]
section Run
variable {d k : Nat} {B : Nat → Lv → List Value → Mem → Prop} {Cl : Nat → List Value → Mem → Po → Prop} {Z : Po}
theorem wpN_ok (hk : k < 123) (hd : 0 < d) (hB : ∀ pc lv st M, B pc lv st M → BodyK d k pc lv st M Z) (hC : ∀ k' as M Q', Cl k' as M Q' → ∃ d', d = d' + 1 ∧ Call d' k' as M Q') :
    ∀ (n : Nat) (here : List Ent) (lv : Lv) (st : List Value) (M : Mem), Sf k here → wpN k B Cl Z n here lv st M → ∃ e l, here = e :: l ∧ BodyK d k e.1 lv st M Z := by
  intro n
  induction n with
  | zero => intro here lv st M _ h; exact h.elim
  | succ n ih =>
    intro here lv st M hS h
    cases here with
    | nil => exact h.elim
    | cons e l =>
      refine ⟨e, l, rfl, ?_⟩
      unfold wpN at h
      dsimp only at h
      split at h
      · obtain ⟨hdec, hI⟩ := Sf_dec hk hS
        refine wpI_ok hdec hI (fun lv st M q => ?_) (fun t lv st M q => ?_) hC hd h
        · obtain ⟨e', l', h1, h2⟩ := ih l lv st M (Sf_tail hS) q
          rw [(chn_tail hS.2.1).2 e' l' h1] at h2
          exact h2
        · obtain ⟨e', l', h1, h2⟩ := ih _ lv st M (Sf_seek (Sf_all hk)) q
          rw [seek_e h1] at h2
          exact h2
      · exact hB _ _ _ _ h
theorem wpS_ok (hk : k < 123) (hd : 0 < d) (hB : ∀ pc lv st M, B pc lv st M → BodyK d k pc lv st M Z) (hC : ∀ k' as M Q', Cl k' as M Q' → ∃ d', d = d' + 1 ∧ Call d' k' as M Q')
    {n pc : Nat} {lv : Lv} {st : List Value} {M : Mem} (h : wpS k B Cl Z n (seekK (cdo k) pc) lv st M) : BodyK d k pc lv st M Z := by
  have hS : Sf k (seekK (cdo k) pc) := Sf_seek (Sf_all hk)
  unfold wpS at h
  split at h
  · exact h.elim
  · next e l he =>
    rw [he] at hS
    obtain ⟨hdec, hI⟩ := Sf_dec hk hS
    rw [← seek_e he]
    refine wpI_ok hdec hI (fun lv st M q => ?_) (fun t lv st M q => ?_) hC hd h
    · obtain ⟨e', l', h1, h2⟩ := wpN_ok hk hd hB hC n l lv st M (Sf_tail hS) q
      rw [(chn_tail hS.2.1).2 e' l' h1] at h2
      exact h2
    · obtain ⟨e', l', h1, h2⟩ := wpN_ok hk hd hB hC n _ lv st M (Sf_seek (Sf_all hk)) q
      rw [seek_e h1] at h2
      exact h2
theorem Qcc_mono {ad : Nat → Nat} {ty : Nat → ClassId} {D : va_G} {B0 : Nat × Nat} {Q Q' : Po} (hQ : ∀ r M, Q r M → Q' r M) {a : Array Value} {s : State} {o : Outcome} {t : State} (h : Qcc ad ty D B0 Q a s o t) : Qcc ad ty D B0 Q' a s o t := by
  obtain ⟨⟨r, M1, h1, h2, h3⟩, h4⟩ := h
  exact ⟨⟨r, M1, h1, hQ _ _ h2, h3⟩, h4⟩
theorem Call_mono {as : List Value} {M : Mem} {Q Q' : Po} (h : Call d k as M Q) (hQ : ∀ r M, Q r M → Q' r M) : Call d k as M Q' := by
  refine ⟨h.1, fun l ad ty D B0 => ?_⟩
  have h2 := h.2 l ad ty D B0
  intro p e a1 a2 a3 s m args below a4 a5 a6 a7
  obtain ⟨n, o, b1, b2, b3, b4, b5⟩ := h2 p e a1 a2 a3 s m args below a4 a5 a6 a7
  exact ⟨n, o, b1, b2, b3, Qcc_mono hQ b4, b5⟩
theorem Body_mono {pc : Nat} {lv : Lv} {st : List Value} {M : Mem} {Q Q' : Po} (h : BodyK d k pc lv st M Q) (hQ : ∀ r M, Q r M → Q' r M) : BodyK d k pc lv st M Q' := by
  intro p l e s m args below meth c ad ty D B0 H locs ls a1 a2 a3 a4 a5 a6 T b1 b2
  obtain ⟨t, c1, o, c2, c3, c4, c5⟩ := h p l e s m args below meth c ad ty D B0 H locs ls a1 a2 a3 a4 a5 a6 T b1 b2
  exact ⟨t, c1, o, c2, c3, Qcc_mono hQ c4, c5⟩
/-- a method's body from a place on, its calls one level down; B, Cl, Z are opaque to the walk -/
theorem body_run {Q : Po} {pc : Nat} {lv : Lv} {st : List Value} {M : Mem} (n : Nat) (hk : Nat.blt k 123 = true)
    (h : ∀ (B : Nat → Lv → List Value → Mem → Prop) (Cl : Nat → List Value → Mem → Po → Prop) (Z : Po), (∀ r M, Q r M → Z r M) → (∀ pc lv st M, BodyK (d + 1) k pc lv st M Q → B pc lv st M) → (∀ k' as M (Q1 Q2 : Po), Call d k' as M Q1 → (∀ r M', Q1 r M' → Q2 r M') → Cl k' as M Q2) → wpS k B Cl Z n (seekK (cdo k) pc) lv st M) : BodyK (d + 1) k pc lv st M Q :=
  wpS_ok (B := fun pc lv st M => BodyK (d + 1) k pc lv st M Q) (Cl := Call d) (blt_lt hk) (Nat.succ_pos d) (fun _ _ _ _ q => q) (fun _ _ _ _ q => ⟨d, rfl, q⟩) (h _ _ _ (fun _ _ q => q) (fun _ _ _ _ q => q) (fun _ _ _ _ _ q1 q2 => Call_mono q1 q2))
theorem call_run {Q : Po} {as : List Value} {M : Mem} (n : Nat) (hk : Nat.blt k 123 = true) (hn : Nat.ble (as.map fun v => v.category).sum (mi k).2.2.1 = true)
    (h : ∀ (B : Nat → Lv → List Value → Mem → Prop) (Cl : Nat → List Value → Mem → Po → Prop) (Z : Po), (∀ r M, Q r M → Z r M) → (∀ pc lv st M, BodyK (d + 1) k pc lv st M Q → B pc lv st M) → (∀ k' as M (Q1 Q2 : Po), Call d k' as M Q1 → (∀ r M', Q1 r M' → Q2 r M') → Cl k' as M Q2) → wpS k B Cl Z n (seekK (cdo k) 0) (lv_args 0 as) [] M) : Call (d + 1) k as M Q :=
  call_of_body (blt_lt hk) hn (body_run n hk h)
end Run
