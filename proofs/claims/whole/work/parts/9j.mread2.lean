/-! the reference's reader: operands, levels -/
def MP (M' : Mem) (t : List Nat) (a o : Nat) (code : List Nat) (r : PR) : Prop := (∃ cs, r.2 = some cs ∧ MR M' t r.1 o (code ++ cs)) ∨ ((r.2 = none ∨ dgt t r.1) ∧ ∃ n, MFlt M' t r.1 n ∧ n + a ≤ code.length + r.1 + 1)
def bdP (M' : Mem) (t : List Nat) (a : Nat) (code : List Nat) (r : PR) : Prop := (r.2 = none ∨ dgt t r.1) ∧ ∃ n, MFlt M' t r.1 n ∧ n + a ≤ code.length + r.1 + 1
def MQr (M : Mem) (t : List Nat) (a o : Nat) (code : List Nat) (r : PR) : Po := fun v M' => v = none ∧ FrE M M' ∧ MP M' t a o code r
/-- level m, with n steps of depth left -/
def SM (t : List Nat) (n m : Nat) : Prop := ∀ (D o a : Nat) (code : List Nat) (M : Mem), n + 6 ≤ D → o ≤ 6 → need m o ≤ n → MR M t a o code → code.length ≤ a → Call D (190 - m) [.ref 55] M (MQr M t a o code (pz t n m o a))
theorem rd_fl {M : Mem} {t : List Nat} {p n : Nat} (h : MFlt M t p n) : cnd .ge (M.1 55 18) 0 := by
  rw [h.2.2.2.1, c_ge, nI_v (by have := h.2.2.1; have := h.1.2.1; omega), t0]
  omega
theorem rd_nf {M : Mem} {t code : List Nat} {a o : Nat} (h : MR M t a o code) : ¬ cnd .ge (M.1 55 18) 0 := by
  rw [h.2.2.2.1, c_ge, kv_m1, t0]
  omega
theorem rd_lt {M : Mem} {t code : List Nat} {a o : Nat} (h : MR M t a o code) : cnd .lt (M.1 55 18) 0 := by
  rw [h.2.2.2.1, c_lt, kv_m1, t0]
  omega
theorem rd_nl {M : Mem} {t : List Nat} {p n : Nat} (h : MFlt M t p n) : ¬ cnd .lt (M.1 55 18) 0 := by
  rw [h.2.2.2.1, c_lt, nI_v (by have := h.2.2.1; have := h.1.2.1; omega), t0]
  omega
theorem lv_dgt {t : List Nat} {p m : Nat} (h : dgt t p) (hm : m < 9) : ∀ c, t[p]? = some c → ¬ lvO c = m := by
  obtain ⟨x, hx, h1, h2⟩ := h
  intro c hc
  rw [hx] at hc
  cases hc
  unfold lvO
  repeat' split
  all_goals omega
theorem lv_4 {c : Nat} : lvO c = 4 ↔ (c = 42 ∨ c = 47 ∨ c = 37) := by
  unfold lvO
  repeat' split
  all_goals omega
theorem lv_3 {c : Nat} : lvO c = 3 ↔ (c = 43 ∨ c = 45) := by
  unfold lvO
  repeat' split
  all_goals omega
theorem lv_2 {c : Nat} : lvO c = 2 ↔ (c = 60 ∨ c = 61 ∨ c = 62) := by
  unfold lvO
  repeat' split
  all_goals omega
theorem lv_1 {c : Nat} : lvO c = 1 ↔ c = 38 := by
  unfold lvO
  repeat' split
  all_goals omega
theorem lv_0 {c : Nat} : lvO c = 0 ↔ c = 124 := by
  unfold lvO
  repeat' split
  all_goals omega
theorem lp_stop {t : List Nat} {f : Nat → PR} {m k p : Nat} {cs : List Nat} (h : ∀ c, t[p]? = some c → ¬ lvO c = m) : lp t f m k p cs = (p, some cs) := by
  cases k with
  | zero => rfl
  | succ k =>
    unfold lp
    split
    · next c hc => rw [if_neg (h c hc)]
    · rfl
theorem lp_go {t : List Nat} {f : Nat → PR} {m k p c : Nat} {cs : List Nat} (hc : t[p]? = some c) (h : lvO c = m) : lp t f m (k + 1) p cs = (match f (p + 1) with
        | (q, some ds) => lp t f m k q (cs ++ ds ++ [10010 + c])
        | (q, none) => (q, none)) := by
  rw [lp, hc]
  exact if_pos h
theorem pz_lv {t : List Nat} {n m o a : Nat} (hm : m < 5) : pz t (n + 1) m o a = (match pz t n (m + 1) o a with
      | (p, none) => (p, none)
      | (p, some cs) => lp t (pz t n (m + 1) o) m (if m = 2 then 1 else 120) p cs) := by
  rw [pz, if_pos hm] <;> rfl
section PZ5
variable {t : List Nat} {n o a c : Nat}
theorem pz5_dgt (h : dgt t a) : pz t (n + 1) 5 o a = ((dg t 4 a 0).1, some [(dg t 4 a 0).2]) := by
  obtain ⟨c, hc, h1⟩ := h
  rw [pz, if_neg (by omega), hc]
  exact if_pos h1
theorem pz5_none (hc : t[a]? = none) : pz t (n + 1) 5 o a = (a, none) := by
  rw [pz, if_neg (by omega), hc]
theorem pz5_0 (hc : t[a]? = some c) : pz t (n + 1) 5 o a = (if 48 ≤ c ∧ c ≤ 57 then ((dg t 4 a 0).1, some [(dg t 4 a 0).2])
        else if 0 ≤ fnd c 6 0 then (a + 1, some [10000 + (fnd c 6 0).toNat])
        else if c = 33 ∨ c = 45 then (if o < 6 then (match pz t n 5 (o + 1) (a + 1) with
          | (p, some cs) => (p, some (cs ++ [if c = 33 then 10043 else 10136]))
          | (p, none) => (p, none)) else (a, none))
        else if c = 40 then (if o < 6 then (match pz t n 0 (o + 1) (a + 1) with
          | (p, some cs) => if t[p]? = some 41 then (p + 1, some cs) else (p, none)
          | (p, none) => (p, none)) else (a, none))
        else (a, none)) := by
  rw [pz, if_neg (by omega), hc] <;> rfl
theorem fnd_no {c : Nat} (h : ¬ (97 ≤ c ∧ c ≤ 109)) : ¬ 0 ≤ fnd c 6 0 := fun q => h (fnd_c c 6 0 (by omega) q)
theorem pz5_nm (hc : t[a]? = some c) (hf : 0 ≤ fnd c 6 0) : pz t (n + 1) 5 o a = (a + 1, some [10000 + (fnd c 6 0).toNat]) := by
  have := fnd_c c 6 0 (by omega) hf
  rw [pz5_0 hc, if_neg (by omega), if_pos hf]
theorem pz5_un (hc : t[a]? = some c) (h : c = 33 ∨ c = 45) : pz t (n + 1) 5 o a = (if o < 6 then ((pz t n 5 (o + 1) (a + 1)).1, (pz t n 5 (o + 1) (a + 1)).2.map (fun cs => cs ++ [if c = 33 then 10043 else 10136])) else (a, none)) := by
  rw [pz5_0 hc, if_neg (by omega), if_neg (fnd_no (by omega)), if_pos h]
  by_cases z : o < 6
  · rw [if_pos z, if_pos z]
    cases hr : pz t n 5 (o + 1) (a + 1) with
    | mk p oc => cases oc <;> rfl
  · rw [if_neg z, if_neg z]
def brk (t : List Nat) (p : Nat) : Option (List Nat) → PR
  | some cs => if t[p]? = some 41 then (p + 1, some cs) else (p, none)
  | none => (p, none)
theorem pz5_br (hc : t[a]? = some 40) : pz t (n + 1) 5 o a = (if o < 6 then brk t (pz t n 0 (o + 1) (a + 1)).1 (pz t n 0 (o + 1) (a + 1)).2 else (a, none)) := by
  rw [pz5_0 hc, if_neg (by omega), if_neg (fnd_no (by omega)), if_neg (by omega), if_pos rfl]
  by_cases z : o < 6
  · rw [if_pos z, if_pos z]
    cases hr : pz t n 0 (o + 1) (a + 1) with
    | mk p oc => cases oc <;> rfl
  · rw [if_neg z, if_neg z]
theorem pz5_bad (hd : ¬ dgt t a) (hf : ∀ c, t[a]? = some c → ¬ 0 ≤ fnd c 6 0 ∧ ¬ c = 33 ∧ ¬ c = 45 ∧ ¬ c = 40) : pz t (n + 1) 5 o a = (a, none) := by
  cases hc : t[a]? with
  | none => exact pz5_none hc
  | some c =>
    obtain ⟨h1, h2, h3, h4⟩ := hf c hc
    rw [pz5_0 hc, if_neg (fun q => hd ⟨c, hc, q⟩), if_neg h1, if_neg (by omega), if_neg h4]
end PZ5
theorem nm_rng (z : Int) : -1 ≤ nmZ z ∧ nmZ z ≤ 5 := by
  unfold nmZ
  repeat' split
  all_goals omega
theorem m_addP {d a o c : Nat} {code : List Nat} {r : PR} {w v : Int32} {M : Mem} {t : List Nat} (hr : MP M t a o code r) (hf : fine t a [] r) (ht : t.length ≤ 120) (hca : code.length ≤ a) (hc : c < 128) (hx : actN (10010 + c) = c ∧ withN (10010 + c) = 0) (hw : w = nI c) (hv : v = cI 0) :
    Call (d + 1) 181 [.ref 55, .int w, .int v] M (fun u M' => u = none ∧ FrE M M' ∧ ((∃ cs, r.2 = some cs ∧ MR M' t r.1 o (code ++ cs ++ [10010 + c])) ∨ ((r.2 = none ∨ dgt t r.1) ∧ ∃ n, MFlt M' t r.1 n ∧ n + a ≤ code.length + r.1 + 2))) := by
  obtain ⟨f1, f2, f3⟩ := hf
  rcases hr with ⟨cs, e, g⟩ | ⟨e, n, g, gn⟩
  · have := (f3 cs e).1
    rw [List.length_nil] at this
    refine Call_mono (m_addS (c := 10010 + c) g (by rw [List.length_append]; omega) (by rw [hx.1]; exact hc) (by rw [hx.1]; exact hw) (by rw [hx.2]; exact hv)) (fun u M' q => ⟨q.1, q.2.2, Or.inl ⟨cs, e, q.2.1⟩⟩)
  · subst hw
    refine Call_mono (m_addF g (by omega) hc) (fun u M' q => ⟨q.1, q.2.2, Or.inr ⟨e, n + 1, q.2.1, by omega⟩⟩)
theorem act_sg {c : Nat} (h : lvO c < 5) : actN (10010 + c) = c ∧ withN (10010 + c) = 0 ∧ c < 128 := by
  unfold lvO at h
  unfold actN withN
  (repeat' split at h) <;> refine ⟨?_, ?_, ?_⟩ <;> (repeat' split) <;> omega
section LEV
variable {t : List Nat}
theorem rf_185 {d p n : Nat} {M : Mem} (h : MFlt M t p n) : BodyK (d + 1) 186 4 [(0, .ref 55)] [] M (fun v M' => v = none ∧ M' = M) := by
  refine body_run 400 rfl (fun B Cl Z hZ hB hC => ?_)
  (conv => whnf); refine ⟨fun b => ?_, fun b => ?_⟩
  · conv => whnf
    exact hZ _ _ ⟨rfl, rfl⟩
  · exact absurd (rd_fl h) b
theorem lo_185 {n d o a : Nat} {code : List Nat} (hL : SM t n 5) (hd : n ≤ d) (ho : o ≤ 6) (hn : need 4 o ≤ n + 1) (hca : code.length ≤ a) : ∀ (k p : Nat) (cs : List Nat) (M : Mem), 120 ≤ k + p → MR M t p o (code ++ cs) → cs.length + a ≤ p →
    BodyK (d + 7) 186 4 [(0, .ref 55)] [] M (MQr M t a o code (lp t (pz t n 5 o) 4 k p cs)) := by
  intro k
  induction k with
  | zero => 
    intro p cs M hk h hp
    have h120 := h.1.2.1
    have hle := h.2.2.1
    have hx : t[p]? = none := List.getElem?_eq_none (by omega)
    have ez : (lkI t p).toInt = -1 := by rw [lk_v h.1.2.2, lk_n hx]
    refine body_run 400 rfl (fun B Cl Z hZ hB hC => ?_)
    (conv => whnf); refine ⟨fun b => ?_, fun b => ?_⟩
    · exact absurd b (rd_nf h)
    (conv => whnf); refine ret_k hC (m_look h.1 h.2.1 hle) ?_
    (conv => whnf); refine ⟨fun g => ?_, fun g => ?_⟩
    · replace g : cnd .eq (lkI t p) (cI 42) := g
      rw [c_eq, ez, kv_42] at g
      omega
    (conv => whnf); refine ret_k hC (m_look h.1 h.2.1 hle) ?_
    (conv => whnf); refine ⟨fun g => ?_, fun g => ?_⟩
    · replace g : cnd .eq (lkI t p) (cI 47) := g
      rw [c_eq, ez, kv_47] at g
      omega
    (conv => whnf); refine ret_k hC (m_look h.1 h.2.1 hle) ?_
    (conv => whnf); refine ⟨fun g => ?_, fun g => ?_⟩
    · conv => whnf
      exact hZ _ _ ⟨rfl, FrE_refl, Or.inl ⟨cs, rfl, h⟩⟩
    · replace g : ¬ cnd .ne (lkI t p) (cI 37) := g
      rw [c_ne, ez, kv_37] at g
      omega
  | succ k ih =>
    intro p cs M hk h hp
    have h120 := h.1.2.1
    have hle := h.2.2.1
    have ez := lk_v (a := p) h.1.2.2
    have hcl : code.length + cs.length ≤ p := by omega
    have go : ∀ c, t[p]? = some c → lvO c = 4 → ∀ M1, MQr (mI M 55 17 (nI (p + 1))) t (p + 1) o (code ++ cs) (pz t n 5 o (p + 1)) none M1 → ∀ M2, FrE M1 M2 → ((∃ ds, (pz t n 5 o (p + 1)).2 = some ds ∧ MR M2 t (pz t n 5 o (p + 1)).1 o (code ++ cs ++ ds ++ [10010 + c])) ∨ (((pz t n 5 o (p + 1)).2 = none ∨ dgt t (pz t n 5 o (p + 1)).1) ∧ ∃ n1, MFlt M2 t (pz t n 5 o (p + 1)).1 n1 ∧ n1 + (p + 1) ≤ (code ++ cs).length + (pz t n 5 o (p + 1)).1 + 2)) →
        BodyK (d + 7) 186 4 [(0, .ref 55)] [] M2 (MQr M t a o code (lp t (pz t n 5 o) 4 (k + 1) p cs)) := by
      intro c hc hl M1 r M2 f2 h2
      have hpl := (List.getElem?_eq_some_iff.mp hc).1
      have hf := pz_fine (t := t) n 5 o (p + 1) hpl
      have hF : FrE M M2 := FrE_trans (FrE_1 (by decide)) (FrE_trans r.2.1 f2)
      rw [lp_go hc hl]
      cases hr : pz t n 5 o (p + 1) with
      | mk q oc =>
        rw [hr] at h2 hf
        obtain ⟨g1, g2, g3⟩ := hf
        rcases h2 with ⟨ds, e, h3⟩ | ⟨e, n1, h3, h4⟩
        · cases (show oc = some ds from e)
          have g4 := (g3 ds rfl).1
          simp only [List.length_nil] at g1 g2 g4
          refine Body_mono (ih q (cs ++ ds ++ [10010 + c]) M2 (by omega) ?_ ?_) (fun v M' z => ⟨z.1, FrE_trans hF z.2.1, z.2.2⟩)
          · simp only [List.append_assoc] at h3 ⊢
            exact h3
          · simp only [List.length_append, List.length_singleton]
            omega
        · rw [List.length_append] at h4
          replace h4 : n1 + (p + 1) ≤ code.length + cs.length + q + 2 := h4
          refine Body_mono (rf_185 h3) (fun v M' z => ?_)
          obtain ⟨rfl, e0⟩ := z
          rw [e0]
          refine ⟨rfl, hF, Or.inr ?_⟩
          cases oc with
          | none => exact ⟨Or.inl rfl, n1, h3, by show n1 + a ≤ code.length + q + 1; omega⟩
          | some ds =>
            have hdg : dgt t q := e.resolve_left (fun y => by cases y)
            show bdP M2 t a code (lp t (pz t n 5 o) 4 k q (cs ++ ds ++ [10010 + c]))
            rw [lp_stop (lv_dgt hdg (by omega))]
            exact ⟨Or.inr hdg, n1, h3, by show n1 + a ≤ code.length + q + 1; omega⟩
    refine body_run 400 rfl (fun B Cl Z hZ hB hC => ?_)
    (conv => whnf); refine ⟨fun b => ?_, fun b => ?_⟩
    · exact absurd b (rd_nf h)
    have gg : ∀ c, t[p]? = some c → lvO c = 4 → ∀ m3, wpN 186 B Cl Z (m3 + 60) (seekK (cdo 186) 38) [(0, .ref 55)] [] M := by
      intro c hc hl m3
      have hpl := (List.getElem?_eq_some_iff.mp hc).1
      have hs := act_sg (c := c) (by omega)
      have hf := pz_fine (t := t) n 5 o (p + 1) hpl
      have h17 := h.2.1
      have el : lkI t p = nI c := by unfold lkI; rw [hc]; exact nI_b hs.2.2
      (conv => whnf); refine ret_k hC (m_look h.1 h.2.1 hle) ?_
      (conv => whnf)
      simp only [Nat.reduceMod, h17, nI_i1]
      refine hC _ _ _ _ _ (hL _ o (p + 1) (code ++ cs) _ (by omega) ho (by unfold need at hn ⊢; omega) (MR_at h hpl) (by rw [List.length_append]; omega)) (fun v M1 r => ?_)
      obtain rfl := r.1
      (conv => whnf)
      refine hC _ _ _ _ _ (m_addP (c := c) r.2.2 hf h120 (by rw [List.length_append]; omega) hs.2.2 ⟨hs.1, hs.2.1⟩ el rfl) (fun v M2 q => ?_)
      obtain ⟨rfl, q2, q3⟩ := q
      (conv => whnf)
      exact hB _ _ _ _ (Body_lv (go c hc hl M1 r M2 q2 q3) ⟨rfl, trivial⟩)
    (conv => whnf); refine ret_k hC (m_look h.1 h.2.1 hle) ?_
    (conv => whnf); refine ⟨fun g0 => ?_, fun g0 => ?_⟩
    · replace g0 : cnd .eq (lkI t p) (cI 42) := g0
      rw [c_eq, ez, kv_42] at g0
      exact gg 42 ((lk_k (t := t) (a := p) (k := 42) (by decide)).mp g0) (by decide) _
    replace g0 : ¬ cnd .eq (lkI t p) (cI 42) := g0
    rw [c_eq, ez, kv_42] at g0
    have g0 := (not_congr (lk_k (t := t) (a := p) (k := 42) (by decide))).mp g0
    (conv => whnf); refine ret_k hC (m_look h.1 h.2.1 hle) ?_
    (conv => whnf); refine ⟨fun g1 => ?_, fun g1 => ?_⟩
    · replace g1 : cnd .eq (lkI t p) (cI 47) := g1
      rw [c_eq, ez, kv_47] at g1
      exact gg 47 ((lk_k (t := t) (a := p) (k := 47) (by decide)).mp g1) (by decide) _
    replace g1 : ¬ cnd .eq (lkI t p) (cI 47) := g1
    rw [c_eq, ez, kv_47] at g1
    have g1 := (not_congr (lk_k (t := t) (a := p) (k := 47) (by decide))).mp g1
    (conv => whnf); refine ret_k hC (m_look h.1 h.2.1 hle) ?_
    (conv => whnf); refine ⟨fun g2 => ?_, fun g2 => ?_⟩
    · replace g2 : cnd .ne (lkI t p) (cI 37) := g2
      rw [c_ne, ez, kv_37] at g2
      have g2 := (not_congr (lk_k (t := t) (a := p) (k := 37) (by decide))).mp g2
      conv => whnf
      refine hZ _ _ ⟨rfl, FrE_refl, ?_⟩
      rw [lp_stop (fun c hc hl => ?_)]
      · exact Or.inl ⟨cs, rfl, h⟩
      · rcases lv_4.mp hl with rfl | rfl | rfl
        · exact g0 hc
        · exact g1 hc
        · exact g2 hc
    · replace g2 : ¬ cnd .ne (lkI t p) (cI 37) := g2
      rw [c_ne, ez, kv_37] at g2
      exact gg 37 ((lk_k (t := t) (a := p) (k := 37) (by decide)).mp (Classical.not_not.mp g2)) (by decide) _
theorem ml_185 {n : Nat} (hL : SM t n 5) : SM t (n + 1) 4 := by
  intro D o a code M hD ho hn h hl
  obtain ⟨d, rfl⟩ : ∃ d, D = d + 7 := ⟨D - 7, by omega⟩
  have h120 := h.1.2.1
  have hle := h.2.2.1
  have hf := pz_fine (t := t) n 5 o a hle
  show Call (d + 7) 186 _ _ _
  rw [pz_lv (by omega), if_neg (by omega)]
  refine call_run 400 rfl rfl (fun B Cl Z hZ hB hC => ?_)
  (conv => whnf)
  refine hC _ _ _ _ _ (hL _ o a code M (by omega) ho (by unfold need at hn ⊢; omega) h hl) (fun v M1 r => ?_)
  obtain ⟨rfl, r2, r3⟩ := r
  (conv => whnf)
  cases hr : pz t n 5 o a with
  | mk p oc =>
    rw [hr] at r3 hf hZ hB
    obtain ⟨g1, g2, g3⟩ := hf
    rcases r3 with ⟨cs, e, r4⟩ | ⟨e, n1, r4, r5⟩
    · cases (show oc = some cs from e)
      have g4 := (g3 cs rfl).1
      simp only [List.length_nil] at g1 g2 g4
      exact hB _ _ _ _ (Body_lv (Body_mono (lo_185 hL (by omega) ho hn hl 120 p cs M1 (by omega) r4 (by omega)) (fun v M' z => ⟨z.1, FrE_trans r2 z.2.1, z.2.2⟩)) ⟨rfl, trivial⟩)
    · refine hB _ _ _ _ (Body_lv (Body_mono (rf_185 r4) (fun v M' z => ?_)) ⟨rfl, trivial⟩)
      obtain ⟨rfl, e0⟩ := z
      rw [e0]
      refine ⟨rfl, r2, Or.inr ?_⟩
      cases oc with
      | none => exact ⟨Or.inl rfl, n1, r4, r5⟩
      | some cs =>
        have hdg : dgt t p := e.resolve_left (fun y => by cases y)
        show bdP M1 t a code (lp t (pz t n 5 o) 4 120 p cs)
        rw [lp_stop (lv_dgt hdg (by omega))]
        exact ⟨Or.inr hdg, n1, r4, r5⟩
theorem rf_186 {d p n : Nat} {M : Mem} (h : MFlt M t p n) : BodyK (d + 1) 187 4 [(0, .ref 55)] [] M (fun v M' => v = none ∧ M' = M) := by
  refine body_run 400 rfl (fun B Cl Z hZ hB hC => ?_)
  (conv => whnf); refine ⟨fun b => ?_, fun b => ?_⟩
  · conv => whnf
    exact hZ _ _ ⟨rfl, rfl⟩
  · exact absurd (rd_fl h) b
theorem lo_186 {n d o a : Nat} {code : List Nat} (hL : SM t n 4) (hd : n ≤ d) (ho : o ≤ 6) (hn : need 3 o ≤ n + 1) (hca : code.length ≤ a) : ∀ (k p : Nat) (cs : List Nat) (M : Mem), 120 ≤ k + p → MR M t p o (code ++ cs) → cs.length + a ≤ p →
    BodyK (d + 7) 187 4 [(0, .ref 55)] [] M (MQr M t a o code (lp t (pz t n 4 o) 3 k p cs)) := by
  intro k
  induction k with
  | zero => 
    intro p cs M hk h hp
    have h120 := h.1.2.1
    have hle := h.2.2.1
    have hx : t[p]? = none := List.getElem?_eq_none (by omega)
    have ez : (lkI t p).toInt = -1 := by rw [lk_v h.1.2.2, lk_n hx]
    refine body_run 400 rfl (fun B Cl Z hZ hB hC => ?_)
    (conv => whnf); refine ⟨fun b => ?_, fun b => ?_⟩
    · exact absurd b (rd_nf h)
    (conv => whnf); refine ret_k hC (m_look h.1 h.2.1 hle) ?_
    (conv => whnf); refine ⟨fun g => ?_, fun g => ?_⟩
    · replace g : cnd .eq (lkI t p) (cI 43) := g
      rw [c_eq, ez, kv_43] at g
      omega
    (conv => whnf); refine ret_k hC (m_look h.1 h.2.1 hle) ?_
    (conv => whnf); refine ⟨fun g => ?_, fun g => ?_⟩
    · conv => whnf
      exact hZ _ _ ⟨rfl, FrE_refl, Or.inl ⟨cs, rfl, h⟩⟩
    · replace g : ¬ cnd .ne (lkI t p) (cI 45) := g
      rw [c_ne, ez, kv_45] at g
      omega
  | succ k ih =>
    intro p cs M hk h hp
    have h120 := h.1.2.1
    have hle := h.2.2.1
    have ez := lk_v (a := p) h.1.2.2
    have hcl : code.length + cs.length ≤ p := by omega
    have go : ∀ c, t[p]? = some c → lvO c = 3 → ∀ M1, MQr (mI M 55 17 (nI (p + 1))) t (p + 1) o (code ++ cs) (pz t n 4 o (p + 1)) none M1 → ∀ M2, FrE M1 M2 → ((∃ ds, (pz t n 4 o (p + 1)).2 = some ds ∧ MR M2 t (pz t n 4 o (p + 1)).1 o (code ++ cs ++ ds ++ [10010 + c])) ∨ (((pz t n 4 o (p + 1)).2 = none ∨ dgt t (pz t n 4 o (p + 1)).1) ∧ ∃ n1, MFlt M2 t (pz t n 4 o (p + 1)).1 n1 ∧ n1 + (p + 1) ≤ (code ++ cs).length + (pz t n 4 o (p + 1)).1 + 2)) →
        BodyK (d + 7) 187 4 [(0, .ref 55)] [] M2 (MQr M t a o code (lp t (pz t n 4 o) 3 (k + 1) p cs)) := by
      intro c hc hl M1 r M2 f2 h2
      have hpl := (List.getElem?_eq_some_iff.mp hc).1
      have hf := pz_fine (t := t) n 4 o (p + 1) hpl
      have hF : FrE M M2 := FrE_trans (FrE_1 (by decide)) (FrE_trans r.2.1 f2)
      rw [lp_go hc hl]
      cases hr : pz t n 4 o (p + 1) with
      | mk q oc =>
        rw [hr] at h2 hf
        obtain ⟨g1, g2, g3⟩ := hf
        rcases h2 with ⟨ds, e, h3⟩ | ⟨e, n1, h3, h4⟩
        · cases (show oc = some ds from e)
          have g4 := (g3 ds rfl).1
          simp only [List.length_nil] at g1 g2 g4
          refine Body_mono (ih q (cs ++ ds ++ [10010 + c]) M2 (by omega) ?_ ?_) (fun v M' z => ⟨z.1, FrE_trans hF z.2.1, z.2.2⟩)
          · simp only [List.append_assoc] at h3 ⊢
            exact h3
          · simp only [List.length_append, List.length_singleton]
            omega
        · rw [List.length_append] at h4
          replace h4 : n1 + (p + 1) ≤ code.length + cs.length + q + 2 := h4
          refine Body_mono (rf_186 h3) (fun v M' z => ?_)
          obtain ⟨rfl, e0⟩ := z
          rw [e0]
          refine ⟨rfl, hF, Or.inr ?_⟩
          cases oc with
          | none => exact ⟨Or.inl rfl, n1, h3, by show n1 + a ≤ code.length + q + 1; omega⟩
          | some ds =>
            have hdg : dgt t q := e.resolve_left (fun y => by cases y)
            show bdP M2 t a code (lp t (pz t n 4 o) 3 k q (cs ++ ds ++ [10010 + c]))
            rw [lp_stop (lv_dgt hdg (by omega))]
            exact ⟨Or.inr hdg, n1, h3, by show n1 + a ≤ code.length + q + 1; omega⟩
    refine body_run 400 rfl (fun B Cl Z hZ hB hC => ?_)
    (conv => whnf); refine ⟨fun b => ?_, fun b => ?_⟩
    · exact absurd b (rd_nf h)
    have gg : ∀ c, t[p]? = some c → lvO c = 3 → ∀ m3, wpN 187 B Cl Z (m3 + 60) (seekK (cdo 187) 29) [(0, .ref 55)] [] M := by
      intro c hc hl m3
      have hpl := (List.getElem?_eq_some_iff.mp hc).1
      have hs := act_sg (c := c) (by omega)
      have hf := pz_fine (t := t) n 4 o (p + 1) hpl
      have h17 := h.2.1
      have el : lkI t p = nI c := by unfold lkI; rw [hc]; exact nI_b hs.2.2
      (conv => whnf); refine ret_k hC (m_look h.1 h.2.1 hle) ?_
      (conv => whnf)
      simp only [Nat.reduceMod, h17, nI_i1]
      refine hC _ _ _ _ _ (hL _ o (p + 1) (code ++ cs) _ (by omega) ho (by unfold need at hn ⊢; omega) (MR_at h hpl) (by rw [List.length_append]; omega)) (fun v M1 r => ?_)
      obtain rfl := r.1
      (conv => whnf)
      refine hC _ _ _ _ _ (m_addP (c := c) r.2.2 hf h120 (by rw [List.length_append]; omega) hs.2.2 ⟨hs.1, hs.2.1⟩ el rfl) (fun v M2 q => ?_)
      obtain ⟨rfl, q2, q3⟩ := q
      (conv => whnf)
      exact hB _ _ _ _ (Body_lv (go c hc hl M1 r M2 q2 q3) ⟨rfl, trivial⟩)
    (conv => whnf); refine ret_k hC (m_look h.1 h.2.1 hle) ?_
    (conv => whnf); refine ⟨fun g0 => ?_, fun g0 => ?_⟩
    · replace g0 : cnd .eq (lkI t p) (cI 43) := g0
      rw [c_eq, ez, kv_43] at g0
      exact gg 43 ((lk_k (t := t) (a := p) (k := 43) (by decide)).mp g0) (by decide) _
    replace g0 : ¬ cnd .eq (lkI t p) (cI 43) := g0
    rw [c_eq, ez, kv_43] at g0
    have g0 := (not_congr (lk_k (t := t) (a := p) (k := 43) (by decide))).mp g0
    (conv => whnf); refine ret_k hC (m_look h.1 h.2.1 hle) ?_
    (conv => whnf); refine ⟨fun g1 => ?_, fun g1 => ?_⟩
    · replace g1 : cnd .ne (lkI t p) (cI 45) := g1
      rw [c_ne, ez, kv_45] at g1
      have g1 := (not_congr (lk_k (t := t) (a := p) (k := 45) (by decide))).mp g1
      conv => whnf
      refine hZ _ _ ⟨rfl, FrE_refl, ?_⟩
      rw [lp_stop (fun c hc hl => ?_)]
      · exact Or.inl ⟨cs, rfl, h⟩
      · rcases lv_3.mp hl with rfl | rfl
        · exact g0 hc
        · exact g1 hc
    · replace g1 : ¬ cnd .ne (lkI t p) (cI 45) := g1
      rw [c_ne, ez, kv_45] at g1
      exact gg 45 ((lk_k (t := t) (a := p) (k := 45) (by decide)).mp (Classical.not_not.mp g1)) (by decide) _
theorem ml_186 {n : Nat} (hL : SM t n 4) : SM t (n + 1) 3 := by
  intro D o a code M hD ho hn h hl
  obtain ⟨d, rfl⟩ : ∃ d, D = d + 7 := ⟨D - 7, by omega⟩
  have h120 := h.1.2.1
  have hle := h.2.2.1
  have hf := pz_fine (t := t) n 4 o a hle
  show Call (d + 7) 187 _ _ _
  rw [pz_lv (by omega), if_neg (by omega)]
  refine call_run 400 rfl rfl (fun B Cl Z hZ hB hC => ?_)
  (conv => whnf)
  refine hC _ _ _ _ _ (hL _ o a code M (by omega) ho (by unfold need at hn ⊢; omega) h hl) (fun v M1 r => ?_)
  obtain ⟨rfl, r2, r3⟩ := r
  (conv => whnf)
  cases hr : pz t n 4 o a with
  | mk p oc =>
    rw [hr] at r3 hf hZ hB
    obtain ⟨g1, g2, g3⟩ := hf
    rcases r3 with ⟨cs, e, r4⟩ | ⟨e, n1, r4, r5⟩
    · cases (show oc = some cs from e)
      have g4 := (g3 cs rfl).1
      simp only [List.length_nil] at g1 g2 g4
      exact hB _ _ _ _ (Body_lv (Body_mono (lo_186 hL (by omega) ho hn hl 120 p cs M1 (by omega) r4 (by omega)) (fun v M' z => ⟨z.1, FrE_trans r2 z.2.1, z.2.2⟩)) ⟨rfl, trivial⟩)
    · refine hB _ _ _ _ (Body_lv (Body_mono (rf_186 r4) (fun v M' z => ?_)) ⟨rfl, trivial⟩)
      obtain ⟨rfl, e0⟩ := z
      rw [e0]
      refine ⟨rfl, r2, Or.inr ?_⟩
      cases oc with
      | none => exact ⟨Or.inl rfl, n1, r4, r5⟩
      | some cs =>
        have hdg : dgt t p := e.resolve_left (fun y => by cases y)
        show bdP M1 t a code (lp t (pz t n 4 o) 3 120 p cs)
        rw [lp_stop (lv_dgt hdg (by omega))]
        exact ⟨Or.inr hdg, n1, r4, r5⟩
theorem rf_188 {d p n : Nat} {M : Mem} (h : MFlt M t p n) : BodyK (d + 1) 189 4 [(0, .ref 55)] [] M (fun v M' => v = none ∧ M' = M) := by
  refine body_run 400 rfl (fun B Cl Z hZ hB hC => ?_)
  (conv => whnf); refine ⟨fun b => ?_, fun b => ?_⟩
  · conv => whnf
    exact hZ _ _ ⟨rfl, rfl⟩
  · exact absurd (rd_fl h) b
theorem lo_188 {n d o a : Nat} {code : List Nat} (hL : SM t n 2) (hd : n ≤ d) (ho : o ≤ 6) (hn : need 1 o ≤ n + 1) (hca : code.length ≤ a) : ∀ (k p : Nat) (cs : List Nat) (M : Mem), 120 ≤ k + p → MR M t p o (code ++ cs) → cs.length + a ≤ p →
    BodyK (d + 7) 189 4 [(0, .ref 55)] [] M (MQr M t a o code (lp t (pz t n 2 o) 1 k p cs)) := by
  intro k
  induction k with
  | zero => 
    intro p cs M hk h hp
    have h120 := h.1.2.1
    have hle := h.2.2.1
    have hx : t[p]? = none := List.getElem?_eq_none (by omega)
    have ez : (lkI t p).toInt = -1 := by rw [lk_v h.1.2.2, lk_n hx]
    refine body_run 400 rfl (fun B Cl Z hZ hB hC => ?_)
    (conv => whnf); refine ⟨fun b => ?_, fun b => ?_⟩
    · exact absurd b (rd_nf h)
    (conv => whnf); refine ret_k hC (m_look h.1 h.2.1 hle) ?_
    (conv => whnf); refine ⟨fun g => ?_, fun g => ?_⟩
    · conv => whnf
      exact hZ _ _ ⟨rfl, FrE_refl, Or.inl ⟨cs, rfl, h⟩⟩
    · replace g : ¬ cnd .ne (lkI t p) (cI 38) := g
      rw [c_ne, ez, kv_38] at g
      omega
  | succ k ih =>
    intro p cs M hk h hp
    have h120 := h.1.2.1
    have hle := h.2.2.1
    have ez := lk_v (a := p) h.1.2.2
    have hcl : code.length + cs.length ≤ p := by omega
    have go : ∀ c, t[p]? = some c → lvO c = 1 → ∀ M1, MQr (mI M 55 17 (nI (p + 1))) t (p + 1) o (code ++ cs) (pz t n 2 o (p + 1)) none M1 → ∀ M2, FrE M1 M2 → ((∃ ds, (pz t n 2 o (p + 1)).2 = some ds ∧ MR M2 t (pz t n 2 o (p + 1)).1 o (code ++ cs ++ ds ++ [10010 + c])) ∨ (((pz t n 2 o (p + 1)).2 = none ∨ dgt t (pz t n 2 o (p + 1)).1) ∧ ∃ n1, MFlt M2 t (pz t n 2 o (p + 1)).1 n1 ∧ n1 + (p + 1) ≤ (code ++ cs).length + (pz t n 2 o (p + 1)).1 + 2)) →
        BodyK (d + 7) 189 4 [(0, .ref 55)] [] M2 (MQr M t a o code (lp t (pz t n 2 o) 1 (k + 1) p cs)) := by
      intro c hc hl M1 r M2 f2 h2
      have hpl := (List.getElem?_eq_some_iff.mp hc).1
      have hf := pz_fine (t := t) n 2 o (p + 1) hpl
      have hF : FrE M M2 := FrE_trans (FrE_1 (by decide)) (FrE_trans r.2.1 f2)
      rw [lp_go hc hl]
      cases hr : pz t n 2 o (p + 1) with
      | mk q oc =>
        rw [hr] at h2 hf
        obtain ⟨g1, g2, g3⟩ := hf
        rcases h2 with ⟨ds, e, h3⟩ | ⟨e, n1, h3, h4⟩
        · cases (show oc = some ds from e)
          have g4 := (g3 ds rfl).1
          simp only [List.length_nil] at g1 g2 g4
          refine Body_mono (ih q (cs ++ ds ++ [10010 + c]) M2 (by omega) ?_ ?_) (fun v M' z => ⟨z.1, FrE_trans hF z.2.1, z.2.2⟩)
          · simp only [List.append_assoc] at h3 ⊢
            exact h3
          · simp only [List.length_append, List.length_singleton]
            omega
        · rw [List.length_append] at h4
          replace h4 : n1 + (p + 1) ≤ code.length + cs.length + q + 2 := h4
          refine Body_mono (rf_188 h3) (fun v M' z => ?_)
          obtain ⟨rfl, e0⟩ := z
          rw [e0]
          refine ⟨rfl, hF, Or.inr ?_⟩
          cases oc with
          | none => exact ⟨Or.inl rfl, n1, h3, by show n1 + a ≤ code.length + q + 1; omega⟩
          | some ds =>
            have hdg : dgt t q := e.resolve_left (fun y => by cases y)
            show bdP M2 t a code (lp t (pz t n 2 o) 1 k q (cs ++ ds ++ [10010 + c]))
            rw [lp_stop (lv_dgt hdg (by omega))]
            exact ⟨Or.inr hdg, n1, h3, by show n1 + a ≤ code.length + q + 1; omega⟩
    refine body_run 400 rfl (fun B Cl Z hZ hB hC => ?_)
    (conv => whnf); refine ⟨fun b => ?_, fun b => ?_⟩
    · exact absurd b (rd_nf h)
    (conv => whnf); refine ret_k hC (m_look h.1 h.2.1 hle) ?_
    (conv => whnf); refine ⟨fun g => ?_, fun g => ?_⟩
    · replace g : cnd .ne (lkI t p) (cI 38) := g
      rw [c_ne, ez, kv_38] at g
      have g := (not_congr (lk_k (t := t) (a := p) (k := 38) (by decide))).mp g
      conv => whnf
      refine hZ _ _ ⟨rfl, FrE_refl, ?_⟩
      rw [lp_stop (fun c hc hl => g (by rw [hc, lv_1.mp hl]))]
      exact Or.inl ⟨cs, rfl, h⟩
    · replace g : ¬ cnd .ne (lkI t p) (cI 38) := g
      rw [c_ne, ez, kv_38] at g
      have hc := (lk_k (t := t) (a := p) (k := 38) (by decide)).mp (Classical.not_not.mp g)
      have hpl := (List.getElem?_eq_some_iff.mp hc).1
      have hl : lvO 38 = 1 := by decide
      have hs := act_sg (c := 38) (by decide)
      have hf := pz_fine (t := t) n 2 o (p + 1) hpl
      have h17 := h.2.1
      (conv => whnf)
      simp only [Nat.reduceMod, h17, nI_i1]
      refine hC _ _ _ _ _ (hL _ o (p + 1) (code ++ cs) _ (by omega) ho (by unfold need at hn ⊢; omega) (MR_at h hpl) (by rw [List.length_append]; omega)) (fun v M1 r => ?_)
      obtain rfl := r.1
      (conv => whnf)
      refine hC _ _ _ _ _ (m_addP (c := 38) r.2.2 hf h120 (by rw [List.length_append]; omega) hs.2.2 ⟨hs.1, hs.2.1⟩ rfl rfl) (fun v M2 q => ?_)
      obtain ⟨rfl, q2, q3⟩ := q
      (conv => whnf)
      exact hB _ _ _ _ (go 38 hc hl M1 r M2 q2 q3)
theorem ml_188 {n : Nat} (hL : SM t n 2) : SM t (n + 1) 1 := by
  intro D o a code M hD ho hn h hl
  obtain ⟨d, rfl⟩ : ∃ d, D = d + 7 := ⟨D - 7, by omega⟩
  have h120 := h.1.2.1
  have hle := h.2.2.1
  have hf := pz_fine (t := t) n 2 o a hle
  show Call (d + 7) 189 _ _ _
  rw [pz_lv (by omega), if_neg (by omega)]
  refine call_run 400 rfl rfl (fun B Cl Z hZ hB hC => ?_)
  (conv => whnf)
  refine hC _ _ _ _ _ (hL _ o a code M (by omega) ho (by unfold need at hn ⊢; omega) h hl) (fun v M1 r => ?_)
  obtain ⟨rfl, r2, r3⟩ := r
  (conv => whnf)
  cases hr : pz t n 2 o a with
  | mk p oc =>
    rw [hr] at r3 hf hZ hB
    obtain ⟨g1, g2, g3⟩ := hf
    rcases r3 with ⟨cs, e, r4⟩ | ⟨e, n1, r4, r5⟩
    · cases (show oc = some cs from e)
      have g4 := (g3 cs rfl).1
      simp only [List.length_nil] at g1 g2 g4
      exact hB _ _ _ _ (Body_lv (Body_mono (lo_188 hL (by omega) ho hn hl 120 p cs M1 (by omega) r4 (by omega)) (fun v M' z => ⟨z.1, FrE_trans r2 z.2.1, z.2.2⟩)) ⟨rfl, trivial⟩)
    · refine hB _ _ _ _ (Body_lv (Body_mono (rf_188 r4) (fun v M' z => ?_)) ⟨rfl, trivial⟩)
      obtain ⟨rfl, e0⟩ := z
      rw [e0]
      refine ⟨rfl, r2, Or.inr ?_⟩
      cases oc with
      | none => exact ⟨Or.inl rfl, n1, r4, r5⟩
      | some cs =>
        have hdg : dgt t p := e.resolve_left (fun y => by cases y)
        show bdP M1 t a code (lp t (pz t n 2 o) 1 120 p cs)
        rw [lp_stop (lv_dgt hdg (by omega))]
        exact ⟨Or.inr hdg, n1, r4, r5⟩
theorem rf_189 {d p n : Nat} {M : Mem} (h : MFlt M t p n) : BodyK (d + 1) 190 4 [(0, .ref 55)] [] M (fun v M' => v = none ∧ M' = M) := by
  refine body_run 400 rfl (fun B Cl Z hZ hB hC => ?_)
  (conv => whnf); refine ⟨fun b => ?_, fun b => ?_⟩
  · conv => whnf
    exact hZ _ _ ⟨rfl, rfl⟩
  · exact absurd (rd_fl h) b
theorem lo_189 {n d o a : Nat} {code : List Nat} (hL : SM t n 1) (hd : n ≤ d) (ho : o ≤ 6) (hn : need 0 o ≤ n + 1) (hca : code.length ≤ a) : ∀ (k p : Nat) (cs : List Nat) (M : Mem), 120 ≤ k + p → MR M t p o (code ++ cs) → cs.length + a ≤ p →
    BodyK (d + 7) 190 4 [(0, .ref 55)] [] M (MQr M t a o code (lp t (pz t n 1 o) 0 k p cs)) := by
  intro k
  induction k with
  | zero => 
    intro p cs M hk h hp
    have h120 := h.1.2.1
    have hle := h.2.2.1
    have hx : t[p]? = none := List.getElem?_eq_none (by omega)
    have ez : (lkI t p).toInt = -1 := by rw [lk_v h.1.2.2, lk_n hx]
    refine body_run 400 rfl (fun B Cl Z hZ hB hC => ?_)
    (conv => whnf); refine ⟨fun b => ?_, fun b => ?_⟩
    · exact absurd b (rd_nf h)
    (conv => whnf); refine ret_k hC (m_look h.1 h.2.1 hle) ?_
    (conv => whnf); refine ⟨fun g => ?_, fun g => ?_⟩
    · conv => whnf
      exact hZ _ _ ⟨rfl, FrE_refl, Or.inl ⟨cs, rfl, h⟩⟩
    · replace g : ¬ cnd .ne (lkI t p) (cI 124) := g
      rw [c_ne, ez, kv_124] at g
      omega
  | succ k ih =>
    intro p cs M hk h hp
    have h120 := h.1.2.1
    have hle := h.2.2.1
    have ez := lk_v (a := p) h.1.2.2
    have hcl : code.length + cs.length ≤ p := by omega
    have go : ∀ c, t[p]? = some c → lvO c = 0 → ∀ M1, MQr (mI M 55 17 (nI (p + 1))) t (p + 1) o (code ++ cs) (pz t n 1 o (p + 1)) none M1 → ∀ M2, FrE M1 M2 → ((∃ ds, (pz t n 1 o (p + 1)).2 = some ds ∧ MR M2 t (pz t n 1 o (p + 1)).1 o (code ++ cs ++ ds ++ [10010 + c])) ∨ (((pz t n 1 o (p + 1)).2 = none ∨ dgt t (pz t n 1 o (p + 1)).1) ∧ ∃ n1, MFlt M2 t (pz t n 1 o (p + 1)).1 n1 ∧ n1 + (p + 1) ≤ (code ++ cs).length + (pz t n 1 o (p + 1)).1 + 2)) →
        BodyK (d + 7) 190 4 [(0, .ref 55)] [] M2 (MQr M t a o code (lp t (pz t n 1 o) 0 (k + 1) p cs)) := by
      intro c hc hl M1 r M2 f2 h2
      have hpl := (List.getElem?_eq_some_iff.mp hc).1
      have hf := pz_fine (t := t) n 1 o (p + 1) hpl
      have hF : FrE M M2 := FrE_trans (FrE_1 (by decide)) (FrE_trans r.2.1 f2)
      rw [lp_go hc hl]
      cases hr : pz t n 1 o (p + 1) with
      | mk q oc =>
        rw [hr] at h2 hf
        obtain ⟨g1, g2, g3⟩ := hf
        rcases h2 with ⟨ds, e, h3⟩ | ⟨e, n1, h3, h4⟩
        · cases (show oc = some ds from e)
          have g4 := (g3 ds rfl).1
          simp only [List.length_nil] at g1 g2 g4
          refine Body_mono (ih q (cs ++ ds ++ [10010 + c]) M2 (by omega) ?_ ?_) (fun v M' z => ⟨z.1, FrE_trans hF z.2.1, z.2.2⟩)
          · simp only [List.append_assoc] at h3 ⊢
            exact h3
          · simp only [List.length_append, List.length_singleton]
            omega
        · rw [List.length_append] at h4
          replace h4 : n1 + (p + 1) ≤ code.length + cs.length + q + 2 := h4
          refine Body_mono (rf_189 h3) (fun v M' z => ?_)
          obtain ⟨rfl, e0⟩ := z
          rw [e0]
          refine ⟨rfl, hF, Or.inr ?_⟩
          cases oc with
          | none => exact ⟨Or.inl rfl, n1, h3, by show n1 + a ≤ code.length + q + 1; omega⟩
          | some ds =>
            have hdg : dgt t q := e.resolve_left (fun y => by cases y)
            show bdP M2 t a code (lp t (pz t n 1 o) 0 k q (cs ++ ds ++ [10010 + c]))
            rw [lp_stop (lv_dgt hdg (by omega))]
            exact ⟨Or.inr hdg, n1, h3, by show n1 + a ≤ code.length + q + 1; omega⟩
    refine body_run 400 rfl (fun B Cl Z hZ hB hC => ?_)
    (conv => whnf); refine ⟨fun b => ?_, fun b => ?_⟩
    · exact absurd b (rd_nf h)
    (conv => whnf); refine ret_k hC (m_look h.1 h.2.1 hle) ?_
    (conv => whnf); refine ⟨fun g => ?_, fun g => ?_⟩
    · replace g : cnd .ne (lkI t p) (cI 124) := g
      rw [c_ne, ez, kv_124] at g
      have g := (not_congr (lk_k (t := t) (a := p) (k := 124) (by decide))).mp g
      conv => whnf
      refine hZ _ _ ⟨rfl, FrE_refl, ?_⟩
      rw [lp_stop (fun c hc hl => g (by rw [hc, lv_0.mp hl]))]
      exact Or.inl ⟨cs, rfl, h⟩
    · replace g : ¬ cnd .ne (lkI t p) (cI 124) := g
      rw [c_ne, ez, kv_124] at g
      have hc := (lk_k (t := t) (a := p) (k := 124) (by decide)).mp (Classical.not_not.mp g)
      have hpl := (List.getElem?_eq_some_iff.mp hc).1
      have hl : lvO 124 = 0 := by decide
      have hs := act_sg (c := 124) (by decide)
      have hf := pz_fine (t := t) n 1 o (p + 1) hpl
      have h17 := h.2.1
      (conv => whnf)
      simp only [Nat.reduceMod, h17, nI_i1]
      refine hC _ _ _ _ _ (hL _ o (p + 1) (code ++ cs) _ (by omega) ho (by unfold need at hn ⊢; omega) (MR_at h hpl) (by rw [List.length_append]; omega)) (fun v M1 r => ?_)
      obtain rfl := r.1
      (conv => whnf)
      refine hC _ _ _ _ _ (m_addP (c := 124) r.2.2 hf h120 (by rw [List.length_append]; omega) hs.2.2 ⟨hs.1, hs.2.1⟩ rfl rfl) (fun v M2 q => ?_)
      obtain ⟨rfl, q2, q3⟩ := q
      (conv => whnf)
      exact hB _ _ _ _ (go 124 hc hl M1 r M2 q2 q3)
theorem ml_189 {n : Nat} (hL : SM t n 1) : SM t (n + 1) 0 := by
  intro D o a code M hD ho hn h hl
  obtain ⟨d, rfl⟩ : ∃ d, D = d + 7 := ⟨D - 7, by omega⟩
  have h120 := h.1.2.1
  have hle := h.2.2.1
  have hf := pz_fine (t := t) n 1 o a hle
  show Call (d + 7) 190 _ _ _
  rw [pz_lv (by omega), if_neg (by omega)]
  refine call_run 400 rfl rfl (fun B Cl Z hZ hB hC => ?_)
  (conv => whnf)
  refine hC _ _ _ _ _ (hL _ o a code M (by omega) ho (by unfold need at hn ⊢; omega) h hl) (fun v M1 r => ?_)
  obtain ⟨rfl, r2, r3⟩ := r
  (conv => whnf)
  cases hr : pz t n 1 o a with
  | mk p oc =>
    rw [hr] at r3 hf hZ hB
    obtain ⟨g1, g2, g3⟩ := hf
    rcases r3 with ⟨cs, e, r4⟩ | ⟨e, n1, r4, r5⟩
    · cases (show oc = some cs from e)
      have g4 := (g3 cs rfl).1
      simp only [List.length_nil] at g1 g2 g4
      exact hB _ _ _ _ (Body_lv (Body_mono (lo_189 hL (by omega) ho hn hl 120 p cs M1 (by omega) r4 (by omega)) (fun v M' z => ⟨z.1, FrE_trans r2 z.2.1, z.2.2⟩)) ⟨rfl, trivial⟩)
    · refine hB _ _ _ _ (Body_lv (Body_mono (rf_189 r4) (fun v M' z => ?_)) ⟨rfl, trivial⟩)
      obtain ⟨rfl, e0⟩ := z
      rw [e0]
      refine ⟨rfl, r2, Or.inr ?_⟩
      cases oc with
      | none => exact ⟨Or.inl rfl, n1, r4, r5⟩
      | some cs =>
        have hdg : dgt t p := e.resolve_left (fun y => by cases y)
        show bdP M1 t a code (lp t (pz t n 1 o) 0 120 p cs)
        rw [lp_stop (lv_dgt hdg (by omega))]
        exact ⟨Or.inr hdg, n1, r4, r5⟩
theorem ml_187 {n : Nat} (hL : SM t n 3) : SM t (n + 1) 2 := by
  intro D o a code M hD ho hn h hl
  obtain ⟨d, rfl⟩ : ∃ d, D = d + 7 := ⟨D - 7, by omega⟩
  have h120 := h.1.2.1
  have hle := h.2.2.1
  have hf := pz_fine (t := t) n 3 o a hle
  show Call (d + 7) 188 _ _ _
  rw [pz_lv (by omega), if_pos rfl]
  refine call_run 400 rfl rfl (fun B Cl Z hZ hB hC => ?_)
  (conv => whnf)
  refine hC _ _ _ _ _ (hL _ o a code M (by omega) ho (by unfold need at hn ⊢; omega) h hl) (fun v M1 r => ?_)
  obtain ⟨rfl, r2, r3⟩ := r
  cases hr : pz t n 3 o a with
  | mk p oc =>
    rw [hr] at r3 hf
    rw [hr] at hZ
    obtain ⟨g1, g2, g3⟩ := hf
    rcases r3 with ⟨cs, e, r4⟩ | ⟨e, n1, r4, r5⟩
    · cases (show oc = some cs from e)
      have g4 := (g3 cs rfl).1
      simp only [List.length_nil] at g1 g2 g4
      have ez := lk_v (a := p) r4.1.2.2
      (conv => whnf); refine ret_k hC (m_look r4.1 r4.2.1 r4.2.2.1) ?_
      (conv => whnf); refine ⟨fun b => ?_, fun b => ?_⟩
      · exact absurd b (rd_nf r4)
      have gg : ∀ c, t[p]? = some c → lvO c = 2 → ∀ m3, wpN 188 B Cl Z (m3 + 60) (seekK (cdo 188) 35) (put1 1 (.int (lkI t p)) (lv_args 0 [.ref 55])) [] M1 := by
        intro c hc hlv m3
        have hpl := (List.getElem?_eq_some_iff.mp hc).1
        have hs := act_sg (c := c) (by omega)
        have hf2 := pz_fine (t := t) n 3 o (p + 1) hpl
        have h17 := r4.2.1
        have el : lkI t p = nI c := by unfold lkI; rw [hc]; exact nI_b hs.2.2
        (conv => whnf)
        simp only [Nat.reduceMod, h17, nI_i1]
        refine hC _ _ _ _ _ (hL _ o (p + 1) (code ++ cs) _ (by omega) ho (by unfold need at hn ⊢; omega) (MR_at r4 hpl) (by rw [List.length_append]; omega)) (fun v M2 u => ?_)
        obtain ⟨rfl, u2, u3⟩ := u
        (conv => whnf)
        refine hC _ _ _ _ _ (m_addP (c := c) u3 hf2 h120 (by rw [List.length_append]; omega) hs.2.2 ⟨hs.1, hs.2.1⟩ el rfl) (fun v M3 q => ?_)
        obtain ⟨rfl, q2, q3⟩ := q
        conv => whnf
        refine hZ _ _ ⟨rfl, FrE_trans r2 (FrE_trans (FrE_1 (by decide)) (FrE_trans u2 q2)), ?_⟩
        show MP M3 t a o code (lp t _ 2 1 p cs)
        rw [lp_go hc hlv]
        cases hr2 : pz t n 3 o (p + 1) with
        | mk q oc =>
          rw [hr2] at q3
          rcases q3 with ⟨ds, e, q4⟩ | ⟨e, n2, q4, q5⟩
          · cases (show oc = some ds from e)
            refine Or.inl ⟨cs ++ ds ++ [10010 + c], rfl, ?_⟩
            simp only [List.append_assoc] at q4 ⊢
            exact q4
          · rw [List.length_append] at q5
            replace q5 : n2 + (p + 1) ≤ code.length + cs.length + q + 2 := q5
            refine Or.inr ?_
            cases oc with
            | none => exact ⟨Or.inl rfl, n2, q4, by show n2 + a ≤ code.length + q + 1; omega⟩
            | some ds => exact ⟨Or.inr (e.resolve_left (fun y => by cases y)), n2, q4, by show n2 + a ≤ code.length + q + 1; omega⟩
      (conv => whnf); refine ⟨fun x0 => ?_, fun x0 => ?_⟩
      · replace x0 : cnd .eq (lkI t p) (cI 60) := x0
        rw [c_eq, ez, kv_60] at x0
        exact gg 60 ((lk_k (t := t) (a := p) (k := 60) (by decide)).mp x0) (by decide) _
      replace x0 : ¬ cnd .eq (lkI t p) (cI 60) := x0
      rw [c_eq, ez, kv_60] at x0
      have x0 := (not_congr (lk_k (t := t) (a := p) (k := 60) (by decide))).mp x0
      (conv => whnf); refine ⟨fun x1 => ?_, fun x1 => ?_⟩
      · replace x1 : cnd .eq (lkI t p) (cI 61) := x1
        rw [c_eq, ez, kv_61] at x1
        exact gg 61 ((lk_k (t := t) (a := p) (k := 61) (by decide)).mp x1) (by decide) _
      replace x1 : ¬ cnd .eq (lkI t p) (cI 61) := x1
      rw [c_eq, ez, kv_61] at x1
      have x1 := (not_congr (lk_k (t := t) (a := p) (k := 61) (by decide))).mp x1
      (conv => whnf); refine ⟨fun x2 => ?_, fun x2 => ?_⟩
      · replace x2 : cnd .eq (lkI t p) (cI 62) := x2
        rw [c_eq, ez, kv_62] at x2
        exact gg 62 ((lk_k (t := t) (a := p) (k := 62) (by decide)).mp x2) (by decide) _
      replace x2 : ¬ cnd .eq (lkI t p) (cI 62) := x2
      rw [c_eq, ez, kv_62] at x2
      have x2 := (not_congr (lk_k (t := t) (a := p) (k := 62) (by decide))).mp x2
      conv => whnf
      refine hZ _ _ ⟨rfl, r2, ?_⟩
      show MP M1 t a o code (lp t _ 2 1 p cs)
      rw [lp_stop (fun c hc hlv => ?_)]
      · exact Or.inl ⟨cs, rfl, r4⟩
      · rcases lv_2.mp hlv with rfl | rfl | rfl
        · exact x0 hc
        · exact x1 hc
        · exact x2 hc
    · (conv => whnf); refine ret_k hC (m_look r4.1 r4.2.1 r4.2.2.1) ?_
      (conv => whnf); refine ⟨fun b => ?_, fun b => ?_⟩
      · conv => whnf
        refine hZ _ _ ⟨rfl, r2, Or.inr ?_⟩
        cases oc with
        | none => exact ⟨Or.inl rfl, n1, r4, r5⟩
        | some cs =>
          have hdg : dgt t p := e.resolve_left (fun y => by cases y)
          show bdP M1 t a code (lp t (pz t n 3 o) 2 1 p cs)
          rw [lp_stop (lv_dgt hdg (by omega))]
          exact ⟨Or.inr hdg, n1, r4, r5⟩
      · exact absurd (rd_fl r4) b
theorem ml_184 {n : Nat} (hO : SM t n 5) (hL : SM t n 0) : SM t (n + 1) 5 := by
  intro D o a code M hD ho hn h hl
  obtain ⟨d, rfl⟩ : ∃ d, D = d + 7 := ⟨D - 7, by omega⟩
  have ht := h.1.2.2
  have h120 := h.1.2.1
  have hle := h.2.2.1
  have h17 := h.2.1
  have ez := lk_v (a := a) ht
  have en : (cI (nmZ (lkI t a).toInt)).toInt = nmZ (lkZ t a) := by
    have := nm_rng (lkZ t a)
    rw [ez]
    exact cI_v (by omega) (by omega)
  have enf : ∀ c, t[a]? = some c → nmZ (lkZ t a) = fnd c 6 0 := fun c hc => by rw [lk_s hc]; exact nm_fnd (ht a c hc)
  show Call (d + 7) 185 _ _ _
  refine call_run 400 rfl rfl (fun B Cl Z hZ hB hC => ?_)
  (conv => whnf); refine ret_k hC (m_look h.1 h17 hle) ?_
  (conv => whnf); refine ret_k hC (m_nameOf) ?_
  (conv => whnf); refine ⟨fun b => ?_, fun b => ?_⟩
  · replace b : cnd .lt (cI (nmZ (lkI t a).toInt)) 0 := b
    rw [c_lt, en, t0] at b
    have un : ∀ c, t[a]? = some c → (c = 33 ∨ c = 45) → ∀ m3, wpN 185 B Cl Z (m3 + 80) (seekK (cdo 185) 46) (put1 1 (.int (lkI t a)) (lv_args 0 [.ref 55])) [] M := by
      intro c hc hcc m3
      have hal := (List.getElem?_eq_some_iff.mp hc).1
      have ec : lkZ t a = (c : Int) := (lk_k (by omega)).mpr hc
      rw [pz5_un hc hcc] at hZ
      (conv => whnf)
      refine hC _ _ _ _ _ (m_opens h ho hal) (fun v M1 q => ?_)
      obtain ⟨q1, ⟨q2, rfl, q3⟩ | ⟨q2, rfl, q3⟩⟩ := q
      · rw [if_neg (by omega)] at hZ
        (conv => whnf); refine ⟨fun y => absurd y (by rw [c_ne]; decide), fun _ => ?_⟩
        conv => whnf
        exact hZ _ _ ⟨rfl, q1, Or.inr ⟨Or.inl rfl, code.length, q3, by show code.length + a ≤ code.length + a + 1; omega⟩⟩
      · rw [if_pos q2] at hZ
        (conv => whnf); refine ⟨fun _ => ?_, fun y => absurd (show cnd .ne (cI 1) 0 by rw [c_ne]; decide) y⟩
        (conv => whnf)
        refine hC _ _ _ _ _ (hO _ (o + 1) (a + 1) code M1 (by omega) (by omega) (by unfold need at hn ⊢; omega) q3 (by omega)) (fun v M2 r => ?_)
        obtain ⟨rfl, r2, r3⟩ := r
        have hf := pz_fine (t := t) n 5 (o + 1) (a + 1) hal
        cases hr : pz t n 5 (o + 1) (a + 1) with
        | mk p oc =>
          rw [hr] at r3 hf hZ
          obtain ⟨g1, g2, g3⟩ := hf
          rcases r3 with ⟨cs, e, r4⟩ | ⟨e, n1, r4, r5⟩
          · cases (show oc = some cs from e)
            have g4 := (g3 cs rfl).1
            simp only [List.length_nil] at g1 g2 g4
            have h19 := r4.2.2.2.2.1
            have e19 : nI (o + 1) - cI 1 = nI o := nI_sub (a := o + 1) (b := 1) (by omega)
            (conv => whnf)
            refine ⟨fun g => ?_, fun g => ?_⟩
            · replace g : cnd .ne (lkI t a) (cI 33) := g
              rw [c_ne, ez, kv_33, ec] at g
              (conv => whnf)
              simp only [Nat.reduceMod, h19, e19]
              refine hC _ _ _ _ _ (m_addS (c := 10136) (MR_op r4) (by rw [List.length_append]; omega) (by decide) rfl rfl) (fun v M3 u => ?_)
              obtain ⟨rfl, u2, u3⟩ := u
              conv => whnf
              refine hZ _ _ ⟨rfl, FrE_trans q1 (FrE_trans r2 (FrE_trans (FrE_1 (by decide)) u3)), Or.inl ⟨_, rfl, ?_⟩⟩
              rw [if_neg (by omega), ← List.append_assoc]
              exact u2
            · replace g : ¬ cnd .ne (lkI t a) (cI 33) := g
              rw [c_ne, ez, kv_33, ec] at g
              (conv => whnf)
              simp only [Nat.reduceMod, h19, e19]
              refine hC _ _ _ _ _ (m_addS (c := 10043) (MR_op r4) (by rw [List.length_append]; omega) (by decide) rfl rfl) (fun v M3 u => ?_)
              obtain ⟨rfl, u2, u3⟩ := u
              conv => whnf
              refine hZ _ _ ⟨rfl, FrE_trans q1 (FrE_trans r2 (FrE_trans (FrE_1 (by decide)) u3)), Or.inl ⟨_, rfl, ?_⟩⟩
              rw [if_pos (by omega), ← List.append_assoc]
              exact u2
          · replace r5 : n1 + (a + 1) ≤ code.length + p + 1 := r5
            have g1 : a + 1 ≤ p := g1
            have g2 : p ≤ t.length := g2
            have hbad : (oc.map (fun cs => cs ++ [if c = 33 then 10043 else 10136])) = none ∨ dgt t p := e.imp_left (fun y => by rw [show oc = none from y]; rfl)
            (conv => whnf)
            refine ⟨fun g => ?_, fun g => ?_⟩
            · (conv => whnf)
              refine hC _ _ _ _ _ (m_addF (w := 4) (MF_op r4) (by omega) (by decide)) (fun v M3 u => ?_)
              obtain ⟨rfl, u2, u3⟩ := u
              conv => whnf
              exact hZ _ _ ⟨rfl, FrE_trans q1 (FrE_trans r2 (FrE_trans (FrE_1 (by decide)) u3)), Or.inr ⟨hbad, n1 + 1, u2, by show n1 + 1 + a ≤ code.length + p + 1; omega⟩⟩
            · (conv => whnf)
              refine hC _ _ _ _ _ (m_addF (w := 3) (MF_op r4) (by omega) (by decide)) (fun v M3 u => ?_)
              obtain ⟨rfl, u2, u3⟩ := u
              conv => whnf
              exact hZ _ _ ⟨rfl, FrE_trans q1 (FrE_trans r2 (FrE_trans (FrE_1 (by decide)) u3)), Or.inr ⟨hbad, n1 + 1, u2, by show n1 + 1 + a ≤ code.length + p + 1; omega⟩⟩
    (conv => whnf); refine ⟨fun x0 => ?_, fun x0 => ?_⟩
    · replace x0 : cnd .eq (lkI t a) (cI 33) := x0
      rw [c_eq, ez, kv_33] at x0
      exact un 33 ((lk_k (t := t) (a := a) (k := 33) (by decide)).mp x0) (Or.inl rfl) _
    replace x0 : ¬ cnd .eq (lkI t a) (cI 33) := x0
    rw [c_eq, ez, kv_33] at x0
    have x0 := (not_congr (lk_k (t := t) (a := a) (k := 33) (by decide))).mp x0
    (conv => whnf); refine ⟨fun x1 => ?_, fun x1 => ?_⟩
    case' refine_2 =>
      replace x1 : ¬ cnd .ne (lkI t a) (cI 45) := x1
      rw [c_ne, ez, kv_45] at x1
      exact un 45 ((lk_k (t := t) (a := a) (k := 45) (by decide)).mp (Classical.not_not.mp x1)) (Or.inr rfl) _
    replace x1 : cnd .ne (lkI t a) (cI 45) := x1
    rw [c_ne, ez, kv_45] at x1
    have x1 := (not_congr (lk_k (t := t) (a := a) (k := 45) (by decide))).mp x1
    (conv => whnf); refine ⟨fun x2 => ?_, fun x2 => ?_⟩
    · replace x2 : cnd .ne (lkI t a) (cI 40) := x2
      rw [c_ne, ez, kv_40] at x2
      have x2 := (not_congr (lk_k (t := t) (a := a) (k := 40) (by decide))).mp x2
      (conv => whnf)
      refine hC _ _ _ _ _ (m_figure h (by omega)) (fun v M1 q => ?_)
      obtain ⟨rfl, q2, q3⟩ := q
      conv => whnf
      refine hZ _ _ ⟨rfl, q2, ?_⟩
      rcases q3 with ⟨q4, q5⟩ | ⟨q4, q5⟩
      · rw [pz5_dgt (Classical.not_not.mp q4)]
        exact Or.inl ⟨_, rfl, q5⟩
      · by_cases z : dgt t a
        · have q6 := q4.resolve_left (fun y => y z)
          have := dg_le (t := t) 4 a 0 hle
          rw [pz5_dgt z]
          exact Or.inr ⟨Or.inr q6, code.length + 1, q5, by show code.length + 1 + a ≤ code.length + (dg t 4 a 0).1 + 1; omega⟩
        · rw [dg_stop z] at q5
          rw [pz5_bad z (fun c hc => ⟨by rw [← enf c hc]; omega, fun y => x0 (by rw [hc, y]), fun y => x1 (by rw [hc, y]), fun y => x2 (by rw [hc, y])⟩)]
          exact Or.inr ⟨Or.inl rfl, code.length + 1, q5, by show code.length + 1 + a ≤ code.length + a + 1; omega⟩
    · replace x2 : ¬ cnd .ne (lkI t a) (cI 40) := x2
      rw [c_ne, ez, kv_40] at x2
      have hc := (lk_k (t := t) (a := a) (k := 40) (by decide)).mp (Classical.not_not.mp x2)
      have hal := (List.getElem?_eq_some_iff.mp hc).1
      rw [pz5_br hc] at hZ
      (conv => whnf)
      refine hC _ _ _ _ _ (m_opens h ho hal) (fun v M1 q => ?_)
      obtain ⟨q1, ⟨q2, rfl, q3⟩ | ⟨q2, rfl, q3⟩⟩ := q
      · rw [if_neg (by omega)] at hZ
        (conv => whnf); refine ⟨fun y => absurd y (by rw [c_ne]; decide), fun _ => ?_⟩
        conv => whnf
        exact hZ _ _ ⟨rfl, q1, Or.inr ⟨Or.inl rfl, code.length, q3, by show code.length + a ≤ code.length + a + 1; omega⟩⟩
      · rw [if_pos q2] at hZ
        (conv => whnf); refine ⟨fun _ => ?_, fun y => absurd (show cnd .ne (cI 1) 0 by rw [c_ne]; decide) y⟩
        (conv => whnf)
        refine hC _ _ _ _ _ (hL _ (o + 1) (a + 1) code M1 (by omega) (by omega) (by unfold need at hn ⊢; omega) q3 (by omega)) (fun v M2 r => ?_)
        obtain ⟨rfl, r2, r3⟩ := r
        have hf := pz_fine (t := t) n 0 (o + 1) (a + 1) hal
        cases hr : pz t n 0 (o + 1) (a + 1) with
        | mk p oc =>
          rw [hr] at r3 hf hZ
          obtain ⟨g1, g2, g3⟩ := hf
          have g1 : a + 1 ≤ p := g1
          have g2 : p ≤ t.length := g2
          rcases r3 with ⟨cs, e, r4⟩ | ⟨e, n1, r4, r5⟩
          · cases (show oc = some cs from e)
            have g4 := (g3 cs rfl).1
            simp only [List.length_nil] at g4
            have h17' := r4.2.1
            have h19 := r4.2.2.2.2.1
            have e19 : nI (o + 1) - cI 1 = nI o := nI_sub (a := o + 1) (b := 1) (by omega)
            replace r4 : MR M2 t p (o + 1) (code ++ cs) := r4
            replace h17' : M2.1 55 17 = nI p := h17'
            (conv => whnf); refine ⟨fun f => ?_, fun f => ?_⟩
            case' refine_2 => exact absurd (rd_lt r4) f
            (conv => whnf); refine ret_k hC (m_look r4.1 h17' r4.2.2.1) ?_
            (conv => whnf); refine ⟨fun f2 => ?_, fun f2 => ?_⟩
            · replace f2 : cnd .eq (lkI t p) (cI 41) := f2
              rw [c_eq, lk_v ht, kv_41] at f2
              have hx := (lk_k (t := t) (a := p) (k := 41) (by decide)).mp f2
              have hpl := (List.getElem?_eq_some_iff.mp hx).1
              conv => whnf
              show Z none (mI (mI M2 55 17 (M2.1 55 17 + cI 1)) 55 19 (M2.1 55 19 - cI 1))
              rw [h17', h19, nI_i1, e19]
              refine hZ _ _ ⟨rfl, FrE_trans q1 (FrE_trans r2 (FrE_s (FrE_1 (by decide)) (by decide))), ?_⟩
              show MP _ t a o code (if t[p]? = some 41 then (p + 1, some cs) else (p, none))
              rw [if_pos hx]
              exact Or.inl ⟨cs, rfl, MR_op (MR_at r4 hpl)⟩
            · replace f2 : ¬ cnd .eq (lkI t p) (cI 41) := f2
              rw [c_eq, lk_v ht, kv_41] at f2
              have hx := (not_congr (lk_k (t := t) (a := p) (k := 41) (by decide))).mp f2
              (conv => whnf)
              refine hC _ _ _ _ _ (m_wrong r4) (fun v M3 u => ?_)
              obtain ⟨rfl, u2, u3⟩ := u
              conv => whnf
              refine hZ _ _ ⟨rfl, FrE_trans q1 (FrE_trans r2 u3), ?_⟩
              show MP _ t a o code (if t[p]? = some 41 then (p + 1, some cs) else (p, none))
              rw [if_neg hx]
              exact Or.inr ⟨Or.inl rfl, _, u2, by rw [List.length_append]; show code.length + cs.length + a ≤ code.length + p + 1; omega⟩
          · replace r5 : n1 + (a + 1) ≤ code.length + p + 1 := r5
            (conv => whnf); refine ⟨fun f => ?_, fun f => ?_⟩
            · exact absurd f (rd_nl r4)
            conv => whnf
            refine hZ _ _ ⟨rfl, FrE_trans q1 r2, ?_⟩
            have : brk t p oc = (p, none) := by
              cases oc with
              | none => rfl
              | some cs =>
                obtain ⟨x, hx, x1, x2⟩ : dgt t p := e.resolve_left (fun y => by cases y)
                exact if_neg (fun y => by rw [hx] at y; cases y; omega)
            show MP _ t a o code (brk t p oc)
            rw [this]
            exact Or.inr ⟨Or.inl rfl, n1, r4, by show n1 + a ≤ code.length + p + 1; omega⟩
  · replace b : ¬ cnd .lt (cI (nmZ (lkI t a).toInt)) 0 := b
    rw [c_lt, en, t0] at b
    cases hc : t[a]? with
    | none =>
      rw [lk_n hc] at b
      exact absurd (show nmZ (-1) < 0 by decide) b
    | some c =>
      have hal := (List.getElem?_eq_some_iff.mp hc).1
      have hn1 := enf c hc
      rw [hn1] at b
      have hr := fnd_rng c 6 0 (by omega)
      obtain ⟨w, hw⟩ := Int.eq_ofNat_of_zero_le (show 0 ≤ fnd c 6 0 by omega)
      rw [pz5_nm hc (by omega), hw] at hZ
      have ew : cI (nmZ (lkI t a).toInt) = nI w := by rw [ez, hn1, hw]; rfl
      have hw6 : w < 6 := by omega
      (conv => whnf); refine ret_k hC (m_nameOf) ?_
      (conv => whnf)
      have a2 : actN (10000 + w) = 2 := by unfold actN; rw [if_neg (by omega), if_pos (by omega)]
      have a3 : withN (10000 + w) = w := by unfold withN; rw [if_neg (by omega), if_pos (by omega)]; omega
      refine hC _ _ _ _ _ (m_addS (c := 10000 + w) h (by omega) (by rw [a2]; decide) (by rw [a2]; rfl) (by rw [a3]; exact ew)) (fun v M1 q => ?_)
      obtain ⟨rfl, q2, q3⟩ := q
      have h17' := q2.2.1
      conv => whnf
      show Z none (mI M1 55 17 (M1.1 55 17 + cI 1))
      rw [h17', nI_i1]
      exact hZ _ _ ⟨rfl, FrE_trans q3 (FrE_1 (by decide)), Or.inl ⟨_, rfl, MR_at q2 (by omega)⟩⟩
theorem ml_all : ∀ (n m : Nat), m ≤ 5 → SM t n m
  | 0, m, hm => fun D o a code M hD ho hn h hl => by unfold need at hn; omega
  | n + 1, m, hm => by
    have ih := ml_all n
    match m, hm with
    | 0, _ => exact ml_189 (ih 1 (by omega))
    | 1, _ => exact ml_188 (ih 2 (by omega))
    | 2, _ => exact ml_187 (ih 3 (by omega))
    | 3, _ => exact ml_186 (ih 4 (by omega))
    | 4, _ => exact ml_185 (ih 5 (by omega))
    | 5, _ => exact ml_184 (ih 5 (by omega)) (ih 0 (by omega))
end LEV
