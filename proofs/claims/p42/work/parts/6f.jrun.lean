/-! a step, a run -/
def jlen (e : Ent) : Bool := match e.2.2.1 with
  | .newarray .int => Nat.beq e.2.2.2.1 2
  | .newarray _ => false
  | .l2d => Nat.beq e.2.2.2.1 1
  | .ddiv => Nat.beq e.2.2.2.1 1
  | .dadd => Nat.beq e.2.2.2.1 1
  | .dcmp _ => Nat.beq e.2.2.2.1 1
  | .dconst _ => Nat.beq e.2.2.2.1 1
  | .dload _ => Nat.beq e.2.2.2.1 2
  | .dstore _ => Nat.beq e.2.2.2.1 2
  | _ => true
theorem jlen_all : (List.range 13).all (fun k => (jdo k).all jlen) = true := by decide +kernel
set_option maxHeartbeats 8000000 in
set_option maxRecDepth 20000 in
theorem wpJ_ok {k L : Nat} {xs : Nat → Int32} {p : Program} {l : Launch} {e0 : Env} {R : Room} {s : State} {m : MethodId} {args : Array Value} {below : List Frame} {meth : Method} {c : Code} {ad : Nat → Nat} {ty : Nat → ClassId} {D : va_G} {B0 : Nat × Nat} {A : Nat → Prop} {Zt : State → Prop}
    {e : Ent} {lv : Lv} {st : List Value} {S : JSt} {Z : Int32 → JSt → Prop} {nx : Lv → List Value → JSt → Prop} {jp : Nat → Lv → List Value → JSt → Prop} {vc : Nat → List Value → Mem → Po → Prop} {sc : Nat → List Value → JSt → (Int32 → Mem → Prop) → Prop}
    (F : FixJ k L xs p R s m args meth c ad B0 A) (hdec : decode (jm k).2.1 e.1 = .ok (e.2.2.1, e.2.2.2.1)) (hI : jokI e = true) (hLen : jhard e.2.2.1 = true → jlen e = true)
    (hnx : ∀ lv st S, nx lv st S → JS k p l e0 R s m args below meth c ad ty D B0 A Zt (e.1 + e.2.2.2.1) lv st S) (hjp : ∀ t lv st S, jp t lv st S → JS k p l e0 R s m args below meth c ad ty D B0 A Zt t lv st S)
    (hvc : ∀ k' as M Q, vc k' as M Q → Call 250 k' as M Q) (hsc : ∀ k' as S' Q, sc k' as S' Q → jcl L xs k k' as S' Q)
    (hZ : ∀ (pc : Nat) (lv : Lv) (x : Int32) (S : JSt), decode (jm k).2.1 pc = .ok (.ireturn, 1) → rtJ (jm k).2.2.2.1 x (Z x S) → JS k p l e0 R s m args below meth c ad ty D B0 A Zt pc lv [.int x] S)
    (h : wpJ L xs (jm k).2.2.2.1 (jm k).2.2.1 e lv st S Z nx jp vc sc) : JS k p l e0 R s m args below meth c ad ty D B0 A Zt e.1 lv st S := by
  obtain ⟨pc, cut, i, len, aux⟩ := e
  dsimp only at hdec hnx hLen
  intro tt H locs ls nC nS hC hSl hB hW hT hS hl
  obtain ⟨hx, hb, hml, hown, hts, hX, hSt, hA1, hA2, hR1, hR2, hk⟩ := id F
  have hlen : ls.size = (jm k).2.2.1 := hl.1
  have go : ∀ {lv' : Lv} {st' : List Value}, nx lv' st' S → ∀ ls', lv_has ls' (jm k).2.2.1 (lv'.map (cvp (aj ad tt))) → W p l e0 R s m args below meth c H locs nC nS Zt (F0 m (pc + len) ls' (st'.map (cv (aj ad tt)))) :=
    fun hn ls' hl' => hnx _ _ _ hn tt H locs ls' nC nS hC hSl hB hW hT hS hl'
  have jq : ∀ {t : Nat} {lv' : Lv} {st' : List Value}, jp t lv' st' S → lv_has ls (jm k).2.2.1 (lv'.map (cvp (aj ad tt))) → W p l e0 R s m args below meth c H locs nC nS Zt (F0 m t ls (st'.map (cv (aj ad tt)))) :=
    fun hn hl' => hjp _ _ _ _ hn tt H locs ls nC nS hC hSl hB hW hT hS hl'
  have tgt : ∀ {off : Int}, okT (pc, cut, i, len, aux) off = true → (pc : Int) + off = (aux : Int) := fun h => of_decide_eq_true h
  cases i with
  | iconst n =>
    simp only [jokI, Bool.and_eq_true, decide_eq_true_eq] at hI
    have := Nat.eq_of_beq_eq_true hI.1
    subst this
    exact lv_iconst hx hb hdec hI.2 (go h ls hl)
  | bipush n =>
    simp only [jokI, Bool.and_eq_true, decide_eq_true_eq] at hI
    have := Nat.eq_of_beq_eq_true hI.1
    subst this
    exact lv_bipush hx hb hdec hI.2 (go h ls hl)
  | sipush n =>
    simp only [jokI, Bool.and_eq_true, decide_eq_true_eq] at hI
    have := Nat.eq_of_beq_eq_true hI.1
    subst this
    exact lv_sipush hx hb hdec hI.2 (go h ls hl)
  | ldc ix =>
    simp only [jokI, Bool.and_eq_true] at hI
    have := Nat.eq_of_beq_eq_true hI.1
    subst this
    have e2 := Nat.eq_of_beq_eq_true hI.2
    subst e2
    exact lv_ldc hx hb hown (hts _ jk_16) hdec (go h ls hl)
  | ldc2_w ix =>
    simp only [jokI, Bool.and_eq_true] at hI
    have := Nat.eq_of_beq_eq_true hI.1
    subst this
    have e2 := Nat.eq_of_beq_eq_true hI.2
    subst e2
    exact lv_ldc2d hx hb hown (hts _ jcd_154) hdec (go h ls hl)
  | iload i =>
    simp only [jokI, jhard, Bool.and_eq_true, Bool.false_or, ilen] at hI
    have := Nat.eq_of_beq_eq_true hI
    subst this
    obtain ⟨x, h1, h⟩ := ldI_e h
    exact lv_iload hx hb hdec (lkp_at hl h1) (go h ls hl)
  | iload_n i =>
    simp only [jokI, jhard, Bool.and_eq_true, Bool.false_or, ilen] at hI
    have := Nat.eq_of_beq_eq_true hI
    subst this
    obtain ⟨x, h1, h⟩ := ldI_e h
    exact lv_iload_n hx hb hdec rfl (lkp_at hl h1) (go h ls hl)
  | aload i =>
    simp only [jokI, jhard, Bool.and_eq_true, Bool.false_or, ilen] at hI
    have := Nat.eq_of_beq_eq_true hI
    subst this
    replace h : ldA lv i (fun v => nx lv (v :: st) S) := h
    rcases ldA_e h with ⟨x, h1, h⟩ | ⟨h1, h⟩
    · exact lv_aload hx hb hdec (lkp_at hl h1) (go h ls hl)
    · exact lv_aloadN hx hb hdec (lkp_at hl h1) (go h ls hl)
  | aload_n i =>
    simp only [jokI, jhard, Bool.and_eq_true, Bool.false_or, ilen] at hI
    have := Nat.eq_of_beq_eq_true hI
    subst this
    replace h : ldA lv i (fun v => nx lv (v :: st) S) := h
    rcases ldA_e h with ⟨x, h1, h⟩ | ⟨h1, h⟩
    · exact lv_aload_n hx hb hdec rfl (lkp_at hl h1) (go h ls hl)
    · exact lv_aload_nN hx hb hdec rfl (lkp_at hl h1) (go h ls hl)
  | istore i =>
    simp only [jokI, jhard, Bool.and_eq_true, Bool.false_or, ilen] at hI
    have := Nat.eq_of_beq_eq_true hI
    subst this
    obtain ⟨x, r, e9, hh⟩ := pI_e h; clear h; subst e9; have h := hh; clear hh
    obtain ⟨h1, h⟩ := iff1_e h
    exact lv_istore hx hb hdec hl (blt_lt h1) (put1_map (aj ad tt) i (.int x) lv) (fun ls' hl' => go h ls' hl')
  | istore_n i =>
    simp only [jokI, jhard, Bool.and_eq_true, Bool.false_or, ilen] at hI
    have := Nat.eq_of_beq_eq_true hI
    subst this
    obtain ⟨x, r, e9, hh⟩ := pI_e h; clear h; subst e9; have h := hh; clear hh
    obtain ⟨h1, h⟩ := iff1_e h
    exact lv_istore_n hx hb hdec rfl hl (blt_lt h1) (put1_map (aj ad tt) i (.int x) lv) (fun ls' hl' => go h ls' hl')
  | astore i =>
    simp only [jokI, jhard, Bool.and_eq_true, Bool.false_or, ilen] at hI
    have := Nat.eq_of_beq_eq_true hI
    subst this
    replace h : pA st (fun v r => iff1 (Nat.blt i (jm k).2.2.1) (nx (put1 i v lv) r S)) := h
    rcases pA_e h with ⟨x, r, rfl, hh⟩ | ⟨r, rfl, hh⟩
    · obtain ⟨h1, h⟩ := iff1_e hh
      exact lv_astore hx hb hdec hl (blt_lt h1) (put1_map (aj ad tt) i (.ref x) lv) (fun ls' hl' => go h ls' hl')
    · obtain ⟨h1, h⟩ := iff1_e hh
      exact lv_astoreN hx hb hdec hl (blt_lt h1) (put1_map (aj ad tt) i .null lv) (fun ls' hl' => go h ls' hl')
  | astore_n i =>
    simp only [jokI, jhard, Bool.and_eq_true, Bool.false_or, ilen] at hI
    have := Nat.eq_of_beq_eq_true hI
    subst this
    replace h : pA st (fun v r => iff1 (Nat.blt i (jm k).2.2.1) (nx (put1 i v lv) r S)) := h
    rcases pA_e h with ⟨x, r, rfl, hh⟩ | ⟨r, rfl, hh⟩
    · obtain ⟨h1, h⟩ := iff1_e hh
      exact lv_astore_n hx hb hdec rfl hl (blt_lt h1) (put1_map (aj ad tt) i (.ref x) lv) (fun ls' hl' => go h ls' hl')
    · obtain ⟨h1, h⟩ := iff1_e hh
      exact lv_astore_nN hx hb hdec rfl hl (blt_lt h1) (put1_map (aj ad tt) i .null lv) (fun ls' hl' => go h ls' hl')
  | iinc i n =>
    simp only [jokI, Bool.and_eq_true, decide_eq_true_eq] at hI
    have := Nat.eq_of_beq_eq_true hI.1
    subst this
    obtain ⟨x, h1, h⟩ := ldI_e h
    obtain ⟨h2, h⟩ := iff1_e h
    obtain ⟨kk, hkk⟩ := lkp_map (ad := aj ad tt) h1
    exact lv_iinc hx hb hdec hl hkk (by rw [hI.2]) (blt_lt h2) (put1_map (aj ad tt) i (.int (x + cI n)) lv) (fun ls' hl' => go h ls' hl')
  | dup =>
    simp only [jokI, jhard, Bool.and_eq_true, Bool.false_or, ilen] at hI
    have := Nat.eq_of_beq_eq_true hI
    subst this
    replace h : p1 st (fun v r => nx lv (v :: v :: r) S) := h
    obtain ⟨v, r, e9, hh, hc⟩ := p1_e h; clear h; subst e9; have h := hh; clear hh
    exact lv_dup hx hb hdec (by rw [cv_cat]; exact hc) (go h ls hl)
  | iadd =>
    simp only [jokI, jhard, Bool.and_eq_true, Bool.false_or, ilen] at hI
    have := Nat.eq_of_beq_eq_true hI
    subst this
    obtain ⟨y, r, e9, hh⟩ := pI_e h; clear h; subst e9; have h := hh; clear hh
    obtain ⟨x, q, e9, hh⟩ := pI_e h; clear h; subst e9; have h := hh; clear hh
    exact lv_iadd hx hb hdec (go h ls hl)
  | isub =>
    simp only [jokI, jhard, Bool.and_eq_true, Bool.false_or, ilen] at hI
    have := Nat.eq_of_beq_eq_true hI
    subst this
    obtain ⟨y, r, e9, hh⟩ := pI_e h; clear h; subst e9; have h := hh; clear hh
    obtain ⟨x, q, e9, hh⟩ := pI_e h; clear h; subst e9; have h := hh; clear hh
    exact lv_isub hx hb hdec (go h ls hl)
  | imul =>
    simp only [jokI, jhard, Bool.and_eq_true, Bool.false_or, ilen] at hI
    have := Nat.eq_of_beq_eq_true hI
    subst this
    obtain ⟨y, r, e9, hh⟩ := pI_e h; clear h; subst e9; have h := hh; clear hh
    obtain ⟨x, q, e9, hh⟩ := pI_e h; clear h; subst e9; have h := hh; clear hh
    exact lv_imul hx hb hdec (go h ls hl)
  | iand =>
    simp only [jokI, jhard, Bool.and_eq_true, Bool.false_or, ilen] at hI
    have := Nat.eq_of_beq_eq_true hI
    subst this
    obtain ⟨y, r, e9, hh⟩ := pI_e h; clear h; subst e9; have h := hh; clear hh
    obtain ⟨x, q, e9, hh⟩ := pI_e h; clear h; subst e9; have h := hh; clear hh
    exact lv_iand hx hb hdec (go h ls hl)
  | ior =>
    simp only [jokI, jhard, Bool.and_eq_true, Bool.false_or, ilen] at hI
    have := Nat.eq_of_beq_eq_true hI
    subst this
    obtain ⟨y, r, e9, hh⟩ := pI_e h; clear h; subst e9; have h := hh; clear hh
    obtain ⟨x, q, e9, hh⟩ := pI_e h; clear h; subst e9; have h := hh; clear hh
    exact lv_ior hx hb hdec (go h ls hl)
  | ishl =>
    simp only [jokI, jhard, Bool.and_eq_true, Bool.false_or, ilen] at hI
    have := Nat.eq_of_beq_eq_true hI
    subst this
    obtain ⟨y, r, e9, hh⟩ := pI_e h; clear h; subst e9; have h := hh; clear hh
    obtain ⟨x, q, e9, hh⟩ := pI_e h; clear h; subst e9; have h := hh; clear hh
    exact lv_ishl hx hb hdec (go h ls hl)
  | ishr =>
    simp only [jokI, jhard, Bool.and_eq_true, Bool.false_or, ilen] at hI
    have := Nat.eq_of_beq_eq_true hI
    subst this
    obtain ⟨y, r, e9, hh⟩ := pI_e h; clear h; subst e9; have h := hh; clear hh
    obtain ⟨x, q, e9, hh⟩ := pI_e h; clear h; subst e9; have h := hh; clear hh
    exact lv_ishr hx hb hdec (go h ls hl)
  | idiv =>
    simp only [jokI, jhard, Bool.and_eq_true, Bool.false_or, ilen] at hI
    have := Nat.eq_of_beq_eq_true hI
    subst this
    obtain ⟨y, r, e9, hh⟩ := pI_e h; clear h; subst e9; have h := hh; clear hh
    obtain ⟨x, q, e9, hne, hh⟩ := pI_e h; clear h; subst e9; have h := hh; clear hh
    exact lv_idiv hx hb hdec hne (go h ls hl)
  | irem =>
    simp only [jokI, jhard, Bool.and_eq_true, Bool.false_or, ilen] at hI
    have := Nat.eq_of_beq_eq_true hI
    subst this
    obtain ⟨y, r, e9, hh⟩ := pI_e h; clear h; subst e9; have h := hh; clear hh
    obtain ⟨x, q, e9, hne, hh⟩ := pI_e h; clear h; subst e9; have h := hh; clear hh
    exact lv_irem hx hb hdec hne (go h ls hl)
  | i2l =>
    simp only [jokI, jhard, Bool.and_eq_true, Bool.false_or, ilen] at hI
    have := Nat.eq_of_beq_eq_true hI
    subst this
    obtain ⟨x, q, e9, hh⟩ := pI_e h; clear h; subst e9; have h := hh; clear hh
    exact lv_i2l hx hb hdec rfl (go h ls hl)
  | goto off =>
    simp only [jokI, Bool.and_eq_true] at hI
    have := Nat.eq_of_beq_eq_true hI.1
    subst this
    exact lv_goto hx hb hdec (tgt hI.2) (jq h hl)
  | ifCond cc off =>
    simp only [jokI, Bool.and_eq_true] at hI
    have := Nat.eq_of_beq_eq_true hI.1
    subst this
    obtain ⟨x, q, e9, hh⟩ := pI_e h; clear h; subst e9; have h := hh; clear hh
    cases cc with
    | eq => exact lv_if_eq hx hb hdec (tgt hI.2) (fun c1 => jq (h.1 c1) hl) (fun c1 => go (h.2 c1) ls hl)
    | ne => exact lv_if_ne hx hb hdec (tgt hI.2) (fun c1 => jq (h.1 c1) hl) (fun c1 => go (h.2 (fun q => q c1)) ls hl)
    | lt => exact lv_if_lt hx hb hdec (tgt hI.2) (fun c1 => jq (h.1 c1) hl) (fun c1 => go (h.2 c1) ls hl)
    | ge => exact lv_if_ge hx hb hdec (tgt hI.2) (fun c1 => jq (h.1 c1) hl) (fun c1 => go (h.2 c1) ls hl)
    | gt => exact lv_if_gt hx hb hdec (tgt hI.2) (fun c1 => jq (h.1 c1) hl) (fun c1 => go (h.2 c1) ls hl)
    | le => exact lv_if_le hx hb hdec (tgt hI.2) (fun c1 => jq (h.1 c1) hl) (fun c1 => go (h.2 c1) ls hl)
  | if_icmp cc off =>
    simp only [jokI, Bool.and_eq_true] at hI
    have := Nat.eq_of_beq_eq_true hI.1
    subst this
    obtain ⟨y, r, e9, hh⟩ := pI_e h; clear h; subst e9; have h := hh; clear hh
    obtain ⟨x, q, e9, hh⟩ := pI_e h; clear h; subst e9; have h := hh; clear hh
    cases cc with
    | eq => exact lv_icmp_eq hx hb hdec (tgt hI.2) (fun c1 => jq (h.1 c1) hl) (fun c1 => go (h.2 c1) ls hl)
    | ne => exact lv_icmp_ne hx hb hdec (tgt hI.2) (fun c1 => jq (h.1 c1) hl) (fun c1 => go (h.2 (fun q => q c1)) ls hl)
    | lt => exact lv_icmp_lt hx hb hdec (tgt hI.2) (fun c1 => jq (h.1 c1) hl) (fun c1 => go (h.2 c1) ls hl)
    | ge => exact lv_icmp_ge hx hb hdec (tgt hI.2) (fun c1 => jq (h.1 c1) hl) (fun c1 => go (h.2 c1) ls hl)
    | gt => exact lv_icmp_gt hx hb hdec (tgt hI.2) (fun c1 => jq (h.1 c1) hl) (fun c1 => go (h.2 c1) ls hl)
    | le => exact lv_icmp_le hx hb hdec (tgt hI.2) (fun c1 => jq (h.1 c1) hl) (fun c1 => go (h.2 c1) ls hl)
  | iaload =>
    simp only [jokI, jhard, Bool.and_eq_true, Bool.false_or, ilen] at hI
    have := Nat.eq_of_beq_eq_true hI
    subst this
    exact jok_iaload (nx := fun st' => nx lv st' S) F hdec (fun st' q => hnx _ _ _ q) h tt H locs ls nC nS hC hSl hB hW hT hS hl
  | arraylength =>
    simp only [jokI, jhard, Bool.and_eq_true, Bool.false_or, ilen] at hI
    have := Nat.eq_of_beq_eq_true hI
    subst this
    exact jok_alen (nx := fun st' => nx lv st' S) F hdec (fun st' q => hnx _ _ _ q) h tt H locs ls nC nS hC hSl hB hW hT hS hl
  | iastore =>
    simp only [jokI, jhard, Bool.and_eq_true, Bool.false_or, ilen] at hI
    have := Nat.eq_of_beq_eq_true hI
    subst this
    exact jok_iastore (nx := fun st' S' => nx lv st' S') F hdec (fun st' S' q => hnx _ _ _ q) h tt H locs ls nC nS hC hSl hB hW hT hS hl
  | newarray a =>
    cases a with
    | int =>
      have hlen2 : len = 2 := Nat.eq_of_beq_eq_true (hLen rfl)
      subst hlen2
      exact jok_newarray (nx := fun st' S' => nx lv st' S') F hdec (fun st' S' q => hnx _ _ _ q) h tt H locs ls nC nS hC hSl hB hW hT hS hl
    | _ => cases hLen rfl
  | l2d =>
    have hlen1 : len = 1 := Nat.eq_of_beq_eq_true (hLen rfl)
    subst hlen1
    obtain ⟨x, q, e9, hh⟩ := pL_e h; clear h; subst e9; have h := hh; clear hh
    exact lv_l2d hx hb hdec (go h ls hl)
  | ddiv =>
    have hlen1 : len = 1 := Nat.eq_of_beq_eq_true (hLen rfl)
    subst hlen1
    obtain ⟨y, r, e9, hh⟩ := pD_e h; clear h; subst e9; have h := hh; clear hh
    obtain ⟨x, q, e9, hne, hh⟩ := pD_e h; clear h; subst e9; have h := hh; clear hh
    exact lv_ddiv hx hb hdec hne (go h ls hl)
  | dadd =>
    have hlen1 : len = 1 := Nat.eq_of_beq_eq_true (hLen rfl)
    subst hlen1
    obtain ⟨y, r, e9, hh⟩ := pD_e h; clear h; subst e9; have h := hh; clear hh
    obtain ⟨x, q, e9, hne, hh⟩ := pD_e h; clear h; subst e9; have h := hh; clear hh
    exact lv_dadd hx hb hdec hne (go h ls hl)
  | dcmp op =>
    have hlen1 : len = 1 := Nat.eq_of_beq_eq_true (hLen rfl)
    subst hlen1
    obtain ⟨y, r, e9, hh⟩ := pD_e h; clear h; subst e9; have h := hh; clear hh
    obtain ⟨x, q, e9, hh⟩ := pD_e h; clear h; subst e9; have h := hh; clear hh
    exact lv_dcmp hx hb hdec (go h ls hl)
  | dconst n =>
    have hlen1 : len = 1 := Nat.eq_of_beq_eq_true (hLen rfl)
    subst hlen1
    match n, h, hdec with
    | ⟨0, _⟩, h, hdec => exact lv_dconst0 hx hb hdec (go h ls hl)
    | ⟨1, _⟩, h, hdec => exact lv_dconst1 hx hb hdec (go h ls hl)
  | dload i =>
    have hlen1 : len = 2 := Nat.eq_of_beq_eq_true (hLen rfl)
    subst hlen1
    obtain ⟨x, h1, h⟩ := ldD_e h
    exact lv_dload hx hb hdec (lkp_at hl h1) (go h ls hl)
  | dstore i =>
    have hlen1 : len = 2 := Nat.eq_of_beq_eq_true (hLen rfl)
    subst hlen1
    obtain ⟨x, r, e9, hh⟩ := pD_e h; clear h; subst e9; have h := hh; clear hh
    obtain ⟨h1, h⟩ := iff1_e h
    exact lv_dstore hx hb hdec hl (blt_lt h1) (put2_map (aj ad tt) i (.double x) lv) (fun ls' hl' => go h ls' hl')
  | invokevirtual ix =>
    simp only [jokI, Bool.and_eq_true] at hI
    have := Nat.eq_of_beq_eq_true hI.1
    subst this
    exact jok_virtual F hdec hI.2 (fun st' M' q => hnx _ _ _ q) hvc h tt H locs ls nC nS hC hSl hB hW hT hS hl
  | invokestatic ix =>
    simp only [jokI, Bool.and_eq_true, Bool.or_eq_true] at hI
    have := Nat.eq_of_beq_eq_true hI.1
    subst this
    exact jok_static F hdec hI.2 (fun st' S' q => hnx _ _ _ q) hsc h tt H locs ls nC nS hC hSl hB hW hT hS hl
  | ireturn =>
    simp only [jokI, jhard, Bool.and_eq_true, Bool.false_or, ilen] at hI
    have := Nat.eq_of_beq_eq_true hI
    subst this
    obtain ⟨x, e9, hh⟩ := p1I_e h; clear h; subst e9; have h := hh; clear hh
    exact hZ pc lv x S hdec h tt H locs ls nC nS hC hSl hB hW hT hS hl
  | _ => exact False.elim h
