/-! the reference's cells hold the state -/
def chOk (rk : Rk) (g : List AChg) (n : Nat) : Prop := n ≤ g.length ∧ g.length ≤ 40 ∧ ∀ (i : Nat) (a : AChg), g[i]? = some a → a.1 < 8 ∧ okV a.1 a.2.2.1 ∧ okV a.1 a.2.2.2 ∧ (if a.1 ≤ 3 then (∀ p, a.2.1 = some p → p % 16 < hgt rk (p / 16)) else ∃ p, a.2.1 = some p ∧ (if a.1 = 7 then p < 8 else p = 0))
def imOk (im : Option (Rk × (Nat → Int32) × Nat)) (rk : Rk) : Prop := match im with
  | none => True
  | some (irk, _, dy) => okR irk ∧ irk.length ≤ rk.length ∧ dy ≤ 99
def shB (x : Shf) : Prop := match x with
  | some (.inr (t, l)) => t < 5 ∧ l.length ≤ 60
  | _ => True
def inv (s : St) : Prop := okR (sK s) ∧ lawOk s ∧ numOk s ∧ (∀ i, i < 6 → okSh (sKs s) (sSh s i) ∧ shB (sSh s i)) ∧ ((sKs s).length ≤ 50 ∧ ∀ (i k : Nat), (sKs s)[i]? = some k → k < 8) ∧ (sTr s).length ≤ 24 ∧ ((sTp s).length ≤ 120 ∧ ∀ (i c : Nat), (sTp s)[i]? = some c → c < 256) ∧ chOk (sK s) (sCg s) (sN s) ∧ imOk (sIm s) (sK s)
theorem RC.inv {c : Nat} {M : Mem} {s : St} (h : RC c M s) : inv s := by
  obtain ⟨h1, h2, h3, h4, h5, h6, h7, h8, h9, h10, h11, h12, h13⟩ := h
  refine ⟨h1.ok, h3, h4, fun i hi => ⟨h12 i hi, ?_⟩, ⟨h9.2.1, fun i k q => (h9.2.2 i k q).2⟩, h10.2.1, ⟨h8.2.1, fun i c q => (h8.2.2 i c q).2⟩, ?_, ?_⟩
  · have := h11 i hi
    revert this
    unfold shB
    rcases sSh s i with _ | b | ⟨t, l⟩
    · intro _; trivial
    · intro _; trivial
    · intro q; exact ⟨q.2.2.1, q.2.2.2.2.1⟩
  · obtain ⟨cs, nm, ev, a1, a2, a3, a4, a5, a6, a7⟩ := h13
    refine ⟨by rw [← a6]; exact a1.2.2.1, by rw [← a6]; exact a1.2.2.2.1, fun i a ha => ?_⟩
    have hlt : i < cs.length := by
      rw [a6]
      rcases Nat.lt_or_ge i (sCg s).length with z | z
      · exact z
      · rw [List.getElem?_eq_none z] at ha; cases ha
    obtain ⟨b1, b2, b3, b4, b5, b6, b7⟩ := a7 i _ a (List.getElem?_eq_getElem hlt) ha
    refine ⟨b4, b5, b6, ?_⟩
    split
    · next z =>
      rw [if_pos z] at b7
      intro p hp
      rw [hp] at b7
      exact b7.1
    · next z =>
      rw [if_neg z] at b7
      obtain ⟨p, p1, p2, p3⟩ := b7
      exact ⟨p, p1, p3⟩
  · match sIm s, h7 with
    | none, _ => trivial
    | some (irk, de, dy), h7 => exact ⟨h7.2.1.ok, h7.2.2.1, h7.2.2.2.2.2⟩
/-- a step's act and number -/
def actN (c : Nat) : Nat := if c < 10000 then 1 else if c < 10010 then 2 else if c = 10043 then 3 else if c = 10136 then 4 else c - 10010
def withN (c : Nat) : Nat := if c < 10000 then c else if c < 10010 then c - 10000 else 0
def StpR (M : Mem) (b : Nat) (cs : List Nat) : Prop := ∀ i c, cs[i]? = some c → M.1 68 (b + i) = nI (actN c) ∧ M.1 69 (b + i) = nI (withN c)
def LnR (M : Mem) (u : Nat) : List Ln → Nat → Nat → Prop
  | [], _, _ => True
  | (ts, vs) :: ls, k, p => StpR M (130 * u + p) ts ∧ M.1 71 (61 * u + k) = nI (p + ts.length) ∧ StpR M (130 * u + (p + ts.length)) vs ∧ M.1 72 (61 * u + k) = nI (p + ts.length + vs.length) ∧ LnR M u ls (k + 1) (p + ts.length + vs.length)
def lnL (ls : List Ln) : Nat := match ls with
  | [] => 0
  | (ts, vs) :: ls => ts.length + vs.length + lnL ls
/-- the steps are numbers, names and signs -/
def sgC (c : Nat) : Prop := c < 10006 ∨ c = 10043 ∨ c = 10136 ∨ (10047 ≤ c ∧ c < 10140 ∧ ¬ c = 10069 ∧ ¬ c = 10073)
def sgT (ls : List Ln) : Prop := ∀ l ∈ ls, (∀ c ∈ l.1, sgC c) ∧ ∀ c ∈ l.2, sgC c
def RTm (M : Mem) (u : Nat) (ls : List Ln) : Prop := M.1 70 u = nI ls.length ∧ ls.length ≤ 61 ∧ (lnL ls ≤ 130 ∧ sgT ls) ∧ LnR M u ls 0 0
def RMn (M : Mem) (s : St) : Prop := M.1 61 0 = nI (sCo s) ∧ M.1 61 1 = nI (sSt s) ∧ M.1 61 2 = nI (sDy s) ∧ ∀ w, w < 8 → M.1 62 w = nI (sDo s w)
def RMl (M : Mem) (o : Option (List Ln)) : Prop := match o with
  | none => M.1 55 28 = 0
  | some ls => M.1 55 28 = 1 ∧ RTm M 0 ls
def RMi (M : Mem) (im : Option (Rk × (Nat → Int32) × Nat)) : Prop := match im with
  | none => M.1 55 49 = 0
  | some (irk, de, dy) => M.1 55 49 = 1 ∧ M.1 55 50 = nI irk.length ∧ M.1 55 51 = nI dy ∧ YM M 87 irk ∧ ∀ i, i < 5 → M.1 92 i = de i
def RMt (M : Mem) (t : List Nat) : Prop := M.1 55 16 = nI t.length ∧ ∀ i c, t[i]? = some c → M.1 67 i = (nI c).toInt8.toInt32
def RMb (M : Mem) (ks : List Nat) : Prop := M.1 55 58 = nI ks.length ∧ ∀ i k, ks[i]? = some k → M.1 93 i = nI k
def RMr (M : Mem) (tr : List Nat) : Prop := M.1 55 60 = nI tr.length ∧ ∀ i c, tr[i]? = some c → M.1 94 i = nI c
def RMs1 (M : Mem) (i : Nat) (x : Shf) : Prop := match x with
  | none => M.1 95 i = cI (-1)
  | some (.inl b) => M.1 95 i = nI b
  | some (.inr (t, l)) => M.1 95 i = cI (-2) - nI t ∧ M.1 96 i = nI l.length ∧ ∀ j x, l[j]? = some x → M.2 97 (60 * i + j) = x
def cgA (a : AChg) : Int32 := match a.2.1 with
  | some p => nI p
  | none => cI (-1)
def RMc (M : Mem) (g : List AChg) (n : Nat) : Prop := M.1 55 9 = nI n ∧ M.1 55 10 = nI (g.length - n) ∧ ∀ i a, g[i]? = some a → M.1 63 i = nI a.1 ∧ M.1 64 i = cgA a ∧ M.1 65 i = nI a.2.2.1 ∧ M.1 66 i = nI a.2.2.2
def RM (M : Mem) (s : St) : Prop := RMk M (sK s) ∧ RMn M s ∧ RMl M (sL s) ∧ (∀ i, i < 5 → M.1 86 i = sDe s i) ∧ RMi M (sIm s) ∧ RMt M (sTp s) ∧ RMb M (sKs s) ∧ RMr M (sTr s) ∧ (∀ i, i < 6 → RMs1 M i (sSh s i)) ∧ RMc M (sCg s) (sN s)
theorem StpR_fr {M M' : Mem} {b : Nat} {cs : List Nat} (h : StpR M b cs) (h1 : M'.1 68 = M.1 68) (h2 : M'.1 69 = M.1 69) : StpR M' b cs := by unfold StpR at h ⊢; rw [h1, h2]; exact h
theorem LnR_fr {M M' : Mem} {u : Nat} (h1 : M'.1 68 = M.1 68) (h2 : M'.1 69 = M.1 69) (h3 : M'.1 71 = M.1 71) (h4 : M'.1 72 = M.1 72) : ∀ (ls : List Ln) (k p : Nat), LnR M u ls k p → LnR M' u ls k p
  | [], _, _, _ => trivial
  | (ts, vs) :: ls, k, p, h => ⟨StpR_fr h.1 h1 h2, by rw [h3]; exact h.2.1, StpR_fr h.2.2.1 h1 h2, by rw [h4]; exact h.2.2.2.1, LnR_fr h1 h2 h3 h4 ls _ _ h.2.2.2.2⟩
theorem RTm_fr {M M' : Mem} {u : Nat} {ls : List Ln} (h : RTm M u ls) (h0 : M'.1 70 = M.1 70) (h1 : M'.1 68 = M.1 68) (h2 : M'.1 69 = M.1 69) (h3 : M'.1 71 = M.1 71) (h4 : M'.1 72 = M.1 72) : RTm M' u ls :=
  ⟨by rw [h0]; exact h.1, h.2.1, h.2.2.1, LnR_fr h1 h2 h3 h4 ls 0 0 h.2.2.2⟩
theorem RMk_fr {M M' : Mem} {rk : Rk} {A J : List Nat} (h : RMk M rk) (hf : FrM A J M M') (ha : (A.contains 56 || A.contains 57 || A.contains 58 || A.contains 59 || A.contains 60) = false) (hj : J.contains 1 = false) : RMk M' rk := by
  simp only [Bool.or_eq_false_iff] at ha
  have e : ∀ a, Nat.beq a 55 = false → A.contains a = false → M'.1 a = M.1 a := fun a h55 h => FrM_1 hf a (by rw [List.contains_cons, h, Bool.or_false]; exact beq_false_of_ne (fun z => by subst z; cases h55))
  exact ⟨by rw [FrM_j hf 1 hj]; exact h.1, YM_fr h.2 (e 56 rfl ha.1.1.1.1) (e 57 rfl ha.1.1.1.2) (e 58 rfl ha.1.1.2) (e 59 rfl ha.1.2) (e 60 rfl ha.2)⟩
theorem RMn_e {M M' : Mem} {s : St} (h : RMn M s) (h1 : M'.1 61 = M.1 61) (h2 : M'.1 62 = M.1 62) : RMn M' s := by unfold RMn at h ⊢; rw [h1, h2]; exact h
theorem RMl_e {M M' : Mem} {o : Option (List Ln)} (h : RMl M o) (h0 : M'.1 70 = M.1 70) (h1 : M'.1 68 = M.1 68) (h2 : M'.1 69 = M.1 69) (h3 : M'.1 71 = M.1 71) (h4 : M'.1 72 = M.1 72) (h5 : M'.1 55 28 = M.1 55 28) : RMl M' o := by
  match o, h with
  | none, h => exact h5.trans h
  | some ls, h => exact ⟨h5.trans h.1, RTm_fr h.2 h0 h1 h2 h3 h4⟩
theorem RMi_e {M M' : Mem} {im : Option (Rk × (Nat → Int32) × Nat)} (h : RMi M im) (h1 : M'.1 87 = M.1 87) (h2 : M'.1 88 = M.1 88) (h3 : M'.1 89 = M.1 89) (h4 : M'.1 90 = M.1 90) (h5 : M'.1 91 = M.1 91) (h6 : M'.1 92 = M.1 92) (h7 : ∀ j, (j = 49 ∨ j = 50 ∨ j = 51) → M'.1 55 j = M.1 55 j) : RMi M' im := by
  match im, h with
  | none, h => exact (h7 49 (by simp)).trans h
  | some (irk, de, dy), h => exact ⟨(h7 49 (by simp)).trans h.1, (h7 50 (by simp)).trans h.2.1, (h7 51 (by simp)).trans h.2.2.1, YM_fr h.2.2.2.1 h1 h2 h3 h4 h5, fun i hi => by rw [h6]; exact h.2.2.2.2 i hi⟩
theorem RMs_e {M M' : Mem} {i : Nat} {x : Shf} (h : RMs1 M i x) (h1 : M'.1 95 = M.1 95) (h2 : M'.1 96 = M.1 96) (h3 : M'.2 97 = M.2 97) : RMs1 M' i x := by
  match x, h with
  | none, h => exact (congrFun h1 i).trans h
  | some (.inl b), h => exact (congrFun h1 i).trans h
  | some (.inr (t, l)), h => exact ⟨(congrFun h1 i).trans h.1, (congrFun h2 i).trans h.2.1, fun j x q => by rw [h3]; exact h.2.2 j x q⟩
def XM : List Nat := [73, 74, 75, 76, 77, 78, 79, 80, 81, 82, 83, 84, 85, 98]
def XJ : List Nat := [34, 35, 36, 37, 38, 41, 42, 47]
def kpM (a : Nat) : Bool := decide (56 ≤ a) && !XM.contains a
/-- cells that hold nothing between calls -/
theorem RM_e {M M' : Mem} {s : St} (h : RM M s) (e : ∀ a, kpM a = true → M'.1 a = M.1 a) (e2 : M'.2 97 = M.2 97) (ej : ∀ j, XJ.contains j = false → M'.1 55 j = M.1 55 j) : RM M' s := by
  obtain ⟨h1, h2, h3, h4, h5, h6, h7, h8, h9, h10⟩ := h
  refine ⟨⟨by rw [ej 1 (by decide)]; exact h1.1, YM_fr h1.2 (e 56 (by decide)) (e 57 (by decide)) (e 58 (by decide)) (e 59 (by decide)) (e 60 (by decide))⟩, RMn_e h2 (e 61 (by decide)) (e 62 (by decide)), RMl_e h3 (e 70 (by decide)) (e 68 (by decide)) (e 69 (by decide)) (e 71 (by decide)) (e 72 (by decide)) (ej 28 (by decide)), fun i hi => by rw [e 86 (by decide)]; exact h4 i hi, RMi_e h5 (e 87 (by decide)) (e 88 (by decide)) (e 89 (by decide)) (e 90 (by decide)) (e 91 (by decide)) (e 92 (by decide)) (fun j hj => ?_), ?_, ?_, ?_, fun i hi => RMs_e (h9 i hi) (e 95 (by decide)) (e 96 (by decide)) e2, ?_⟩
  · rcases hj with rfl | rfl | rfl
    · exact ej 49 (by decide)
    · exact ej 50 (by decide)
    · exact ej 51 (by decide)
  · unfold RMt at h6 ⊢; rw [ej 16 (by decide), e 67 (by decide)]; exact h6
  · unfold RMb at h7 ⊢; rw [ej 58 (by decide), e 93 (by decide)]; exact h7
  · unfold RMr at h8 ⊢; rw [ej 60 (by decide), e 94 (by decide)]; exact h8
  · unfold RMc at h10 ⊢; rw [ej 9 (by decide), ej 10 (by decide), e 63 (by decide), e 64 (by decide), e 65 (by decide), e 66 (by decide)]; exact h10
theorem RM_x {M M' : Mem} {s : St} (h : RM M s) (hf : FrM XM XJ M M') : RM M' s := by
  refine RM_e h (fun a ha => ?_) (FrM_2 hf 97 (by decide)) (fun j q => FrM_j hf j q)
  unfold kpM at ha
  rw [Bool.and_eq_true, Bool.not_eq_true'] at ha
  have h56 := of_decide_eq_true ha.1
  exact hf.1.1 a (fun z => by
    rcases List.mem_cons.mp z with rfl | z
    · omega
    · have := List.contains_iff_mem.mpr z
      rw [ha.2] at this
      cases this)
/-- the class's calls leave the reference -/
theorem RM_fr {M M' : Mem} {s : St} (h : RM M s) (hf : Fr CA M M') : RM M' s := by
  refine RM_e h (fun a ha => ?_) (hf.2 97 (fun q => by have := List.mem_range.mp q; omega)) (fun j _ => by rw [hf.1 55 (fun q => by have := List.mem_range.mp q; omega)])
  unfold kpM at ha
  rw [Bool.and_eq_true] at ha
  have h56 := of_decide_eq_true ha.1
  exact hf.1 a (fun q => by have := List.mem_range.mp q; omega)
def MA : List Nat := (List.range 44).map (fun i => 55 + i)
theorem RC_frM {c : Nat} {M M' : Mem} {s : St} (h : RC c M s) (hf : Fr MA M M') : RC c M' s := by
  obtain ⟨h1, h2, h3, h4, h5, h6, h7, h8, h9, h10, h11, h12, h13⟩ := h
  have e : ∀ a, MA.contains a = false → M'.1 a = M.1 a := fun a ha => Fr_1 hf a ha
  refine ⟨RY_fr h1 hf (by decide), RE_fr h2 hf (by decide), h3, h4, by rw [e 0 (by decide)]; exact h5, fun i hi => by rw [e 53 (by decide)]; exact h6 i hi, RIm_fr h7 hf (by decide), ?_, ?_, ?_, RS_all h11 hf (by decide), h12, RNm_fr h13 (e 6 (by decide)) (e 41 (by decide)) (by rw [e 0 (by decide)]) (e 12 (by decide))⟩
  · exact RT0_fr (A := []) h8 (by rw [e 2 (by decide)]) (e 39 (by decide))
  · exact RK_fr h9 (by rw [e 7 (by decide)]) (e 42 (by decide))
  · exact RT_e h10 (by rw [e 7 (by decide)]) (e 43 (by decide))
/-- the reference's answer and the state behind it -/
def QP (M : Mem) (v : Value) (s : St) : Po := fun r M' => r = some v ∧ RM M' s ∧ Fr MA M M'
theorem MA_x {M M' : Mem} (h : FrM XM XJ M M') : Fr MA M M' := Fr_sub h.1 (by decide)
theorem QP_same {M M' : Mem} {v : Value} {s : St} (h : RM M s) (hf : FrM XM XJ M M') : QP M v s (some v) M' := ⟨rfl, RM_x h hf, MA_x hf⟩
theorem QP_v {M M' : Mem} {u v : Value} {s : St} (h : RM M s) (hf : FrM XM XJ M M') (e : u = v) : QP M v s (some u) M' := by subst e; exact QP_same h hf
/-- a step that leaves most of it -/
theorem RM_st {M M' : Mem} {s s' : St} {A J : List Nat} (h : RM M s) (hf : FrM A J M M') (hk : RMk M' (sK s')) (hn : RMn M' s') (hd : ∀ i, i < 5 → M'.1 86 i = sDe s' i) (hi : RMi M' (sIm s')) (ht : RMt M' (sTp s')) (hb : RMb M' (sKs s')) (hr : RMr M' (sTr s')) (hs : ∀ i, i < 6 → RMs1 M' i (sSh s' i)) (hc : RMc M' (sCg s') (sN s')) (hl : RMl M' (sL s')) : RM M' s' :=
  ⟨hk, hn, hl, hd, hi, ht, hb, hr, hs, hc⟩
theorem m_led {d : Nat} {M : Mem} {s : St} {x : Int32} (h : RM M s) : Call (d + 2) 242 [.ref 55, .int x] M (QP M (.int (aLed s x)) s) := by
  refine call_run 400 rfl rfl (fun B Cl Z hZ hB hC => ?_)
  (conv => whnf); refine ret_k hC (m_in) ?_
  (conv => whnf); refine ⟨fun a => ?_, fun a => ?_⟩
  · rw [b2_z, kv_0, kv_4] at a
    have e9 : aLed s x = cI (-1) := if_neg (by omega)
    rw [e9] at hZ
    conv => whnf
    exact hZ _ _ (QP_same h FrM_refl)
  · rw [b2_z, kv_0, kv_4] at a
    have a := Classical.not_not.mp a
    obtain ⟨i, rfl, ei, hi⟩ := to_nI (x := x) (by omega)
    have e9 : aLed s (nI i) = sDe s i := by
      unfold aLed
      rw [if_pos (by omega), ei]
      rfl
    rw [e9] at hZ
    (conv => whnf)
    refine ⟨nI_vp (by omega) (by decide), ?_⟩
    conv => whnf
    rw [nI_c hi]
    refine hZ _ _ ?_
    rw [h.2.2.2.1 i (by omega)]
    exact QP_same h FrM_refl
theorem m_trace {d : Nat} {M : Mem} {s : St} {x : Int32} (h : RM M s) (hv : inv s) : Call (d + 1) 247 [.ref 55, .int x] M (QP M (.int (aTrace s x)) s) := by
  have h24 := hv.2.2.2.2.2.1
  have hr := h.2.2.2.2.2.2.2.1
  have e := nI_v (n := (sTr s).length) (by omega)
  refine call_run 400 rfl rfl (fun B Cl Z hZ hB hC => ?_)
  (conv => whnf); refine ⟨fun a => ?_, fun a => ?_⟩
  · simp only [c_lt, c_gt, c_le, c_ge, c_eq, c_ne, b2_z, b2_nz, b2_i, Classical.not_not, t0, t1, Nat.reduceMod, Nat.reduceDiv, Int.reduceAdd, Int.reduceNeg, Nat.reduceAdd, kv_m1, kv_24, kc_24] at a
    have e9 : aTrace s x = cI (-1) := if_neg (by omega)
    rw [e9] at hZ
    conv => whnf
    exact hZ _ _ (QP_same h FrM_refl)
  simp only [c_lt, c_gt, c_le, c_ge, c_eq, c_ne, b2_z, b2_nz, b2_i, Classical.not_not, t0, t1, Nat.reduceMod, Nat.reduceDiv, Int.reduceAdd, Int.reduceNeg, Nat.reduceAdd, kv_m1, kv_24, kc_24] at a
  obtain ⟨i, rfl, ei, hi⟩ := to_nI (x := x) (by omega)
  (conv => whnf); refine ⟨fun b => ?_, fun b => ?_⟩
  · replace b : cnd .ge (nI i) (M.1 55 60) := b
    rw [hr.1, c_ge, e, ei] at b
    have e9 : aTrace s (nI i) = cI (-1) := if_neg (by omega)
    rw [e9] at hZ
    conv => whnf
    exact hZ _ _ (QP_same h FrM_refl)
  replace b : ¬ cnd .ge (nI i) (M.1 55 60) := b
  rw [hr.1, c_ge, e, ei] at b
  (conv => whnf); refine ⟨fun g => ?_, fun g => ?_⟩
  · simp only [c_lt, c_gt, c_le, c_ge, c_eq, c_ne, b2_z, b2_nz, b2_i, Classical.not_not, t0, t1, Nat.reduceMod, Nat.reduceDiv, Int.reduceAdd, Int.reduceNeg, Nat.reduceAdd, kv_m1, kv_24, kc_24, ei] at g
    omega
  · simp only [c_lt, c_gt, c_le, c_ge, c_eq, c_ne, b2_z, b2_nz, b2_i, Classical.not_not, t0, t1, Nat.reduceMod, Nat.reduceDiv, Int.reduceAdd, Int.reduceNeg, Nat.reduceAdd, kv_m1, kv_24, kc_24, ei] at g
    have e9 : aTrace s (nI i) = nI ((sTr s).getD i 0) := by
      unfold aTrace
      rw [if_pos (by omega), ei]
      rfl
    rw [e9] at hZ
    (conv => whnf)
    refine ⟨nI_vp (by omega) (by decide), ?_⟩
    conv => whnf
    rw [nI_c hi]
    refine hZ _ _ ?_
    rw [hr.2 i _ (at_get (by omega))]
    exact QP_same h FrM_refl
