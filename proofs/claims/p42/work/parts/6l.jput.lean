/-! put: a row on a shelf, from an array of the law's -/
theorem rowAt {s : St} {i t n : Nat} (hi : i < 6) (ht : t ≤ 4) (hn : n ≤ 60) : aRow s (nI i) (nI t) (nI n) = (cI 1, wSh s (upD (sSh s) i (some (.inr (t, List.replicate n 0))))) := by
  unfold aRow
  rw [nI_v (by omega), nI_v (n := t) (by omega), nI_v (n := n) (by omega), if_pos (by omega), if_neg (by omega)]
  rfl
theorem putAt {s : St} {i t j : Nat} {l : List Int64} {v : Int64} (hi : i < 6) (hs : sSh s i = some (.inr (t, l))) (hj : j < l.length) (hl : l.length ≤ 60) (hv : nrw t v = v) : aPut s (nI i) (nI j) v = (cI 1, wSh s (upD (sSh s) i (some (.inr (t, l.set j v))))) := by
  unfold aPut
  rw [nI_v (n := i) (by omega), nI_v (n := j) (by omega), if_pos (by omega), Int.toNat_natCast, hs]
  show (if _ then _ else _) = _
  rw [if_pos (by omega), Int.toNat_natCast, hv]
theorem upD_up {α : Type} (f : Nat → α) (i : Nat) (u v : α) : upD (upD f i u) i v = upD f i v := by
  funext j
  unfold upD
  split <;> rfl
/-- the row as far as it is written -/
def pfx (vs : List Int64) (j : Nat) : List Int64 := vs.take j ++ List.replicate (vs.length - j) 0
theorem pfx_len {vs : List Int64} {j : Nat} (h : j ≤ vs.length) : (pfx vs j).length = vs.length := by
  unfold pfx
  rw [List.length_append, List.length_take, List.length_replicate]
  omega
theorem pfx_set {vs : List Int64} {j : Nat} {v : Int64} (h : vs[j]? = some v) : (pfx vs j).set j v = pfx vs (j + 1) := by
  have hj : j < vs.length := (List.getElem?_eq_some_iff.mp h).1
  apply List.ext_getElem?
  intro i
  have hl : (vs.take j).length = j := by rw [List.length_take]; omega
  have hl2 : (vs.take (j + 1)).length = j + 1 := by rw [List.length_take]; omega
  by_cases e : i = j
  · subst e
    rw [List.getElem?_set_self (by rw [pfx_len (by omega)]; exact hj)]
    unfold pfx
    rw [List.getElem?_append_left (by omega), List.getElem?_take_of_lt (by omega), h]
  · rw [List.getElem?_set_ne (Ne.symm e)]
    unfold pfx
    rcases Nat.lt_or_ge i j with q | q
    · rw [List.getElem?_append_left (by omega), List.getElem?_append_left (by omega), List.getElem?_take_of_lt q, List.getElem?_take_of_lt (by omega)]
    · rw [List.getElem?_append_right (by omega), List.getElem?_append_right (by omega), hl, hl2]
      rcases Nat.lt_or_ge i vs.length with q2 | q2
      · rw [List.getElem?_replicate, List.getElem?_replicate, if_pos (by omega), if_pos (by omega)]
      · rw [List.getElem?_replicate, List.getElem?_replicate, if_neg (by omega), if_neg (by omega)]
theorem js_put {L : Nat} {xs : Nat → Int32} {M : Mem} {s : St} {a i t : Nat} {w : Bool} {f : Nat → Int32} {vs : List Int64} {g : Nat} (hR : RX (vs.length + 2 + g) M s) (hvs : vs.length ≤ 12) (hi : i < 6) (ht : t ≤ 4) (hf : ∀ j v, vs[j]? = some v → (f j).toInt64 = v) (hn : ∀ v ∈ vs, nrw t v = v) (ha : 1000 ≤ a) (ha2 : ¬ a = 3153) :
    JCall L xs 10 [.ref 0, .int (nI i), .int (nI t), .ref a] M [(a, w, vs.length, f)] (fun x M' => x = 1 ∧ RX g M' (wSh s (upD (sSh s) i (some (.inr (t, vs)))))) := by
  have en := nI_v (n := vs.length) (by omega)
  have hne : Nat.beq a 950 = false := by
    cases hq : Nat.beq a 950 with
    | false => rfl
    | true => have := Nat.eq_of_beq_eq_true hq; omega
  have hne2 : Nat.beq a 3153 = false := by
    cases hq : Nat.beq a 3153 with
    | false => rfl
    | true => exact absurd (Nat.eq_of_beq_eq_true hq) ha2
  have hlk : lkT [(a, false, vs.length, f)] a = some (false, vs.length, f) := by unfold lkT; rw [Nat.beq_refl]
  refine jcall_of rfl rfl (fun Bd H => ?_)
  have loop : ∀ (m j : Nat) (M : Mem), j + m = vs.length → RX (m + 1 + g) M (wSh s (upD (sSh s) i (some (.inr (t, pfx vs j))))) → Bd 17 [(0, .ref 0), (1, .int (nI i)), (2, .int (nI t)), (3, .ref a), (4, .int (nI j))] [] (M, [(a, false, vs.length, f)], 0) := by
    intro m
    induction m with
    | zero =>
      intro j M hj hR
      have ej := nI_v (n := j) (by omega)
      refine H.1 400 _ _ _ _ (fun B vc sc Z hBB hV hS hZ => ?_)
      (conv => whnf)
      rw [hne, hne2]
      refine ⟨false, vs.length, f, hlk, ?_⟩
      (conv => whnf); refine ⟨fun q => ?_, fun q => ?_⟩
      · conv => whnf
        refine ⟨Or.inr rfl, hZ _ _ ⟨rfl, ?_⟩⟩
        have e : pfx vs j = vs := by
          unfold pfx
          rw [List.take_of_length_le (by omega), show vs.length - j = 0 by omega]
          exact List.append_nil _
        rw [e] at hR
        exact RX_le hR (by omega)
      · simp only [c_lt, c_gt, c_le, c_ge, c_eq, c_ne, b2_z, b2_nz, b2_i, Classical.not_not, t0, t1, Nat.reduceMod, Nat.reduceDiv, Int.reduceAdd, Int.reduceNeg, Nat.reduceAdd, kv_0, kv_1, kc_0, kc_1] at q
        rw [ej, en] at q
        omega
    | succ m ih =>
      intro j M hj hR
      have ej := nI_v (n := j) (by omega)
      obtain ⟨v, hv9⟩ : ∃ v, vs[j]? = some v := ⟨_, List.getElem?_eq_getElem (by omega)⟩
      refine H.1 400 _ _ _ _ (fun B vc sc Z hBB hV hS hZ => ?_)
      (conv => whnf)
      rw [hne, hne2]
      refine ⟨false, vs.length, f, hlk, ?_⟩
      (conv => whnf); refine ⟨fun q => ?_, fun q => ?_⟩
      · simp only [c_lt, c_gt, c_le, c_ge, c_eq, c_ne, b2_z, b2_nz, b2_i, Classical.not_not, t0, t1, Nat.reduceMod, Nat.reduceDiv, Int.reduceAdd, Int.reduceNeg, Nat.reduceAdd, kv_0, kv_1, kc_0, kc_1] at q
        rw [ej, en] at q
        omega
      · (conv => whnf)
        rw [hne, hne2]
        refine ⟨false, vs.length, f, hlk, nI_vp (by omega) (by omega), ?_⟩
        rw [nI_c (by omega)]
        (conv => whnf)
        rw [hf j v hv9]
        (conv => whnf); refine hV _ _ _ _ _ (v_put (g := m + 1 + g) (RX_le hR (by omega))) (fun r M' e => ?_); obtain ⟨rfl, hR⟩ := e
        have e2 := putAt (s := wSh s (upD (sSh s) i (some (.inr (t, pfx vs j))))) (i := i) (t := t) (j := j) (l := pfx vs j) (v := v) hi (by show upD _ _ _ _ = _; unfold upD; rw [if_pos rfl]) (by rw [pfx_len (by omega)]; omega) (by rw [pfx_len (by omega)]; omega) (hn v (List.mem_of_getElem? hv9))
        rw [pfx_set hv9] at e2
        replace e2 : _ = (cI 1, wSh s (upD (upD (sSh s) i (some (.inr (t, pfx vs j)))) i (some (.inr (t, pfx vs (j + 1)))))) := e2
        rw [upD_up] at e2
        rw [e2] at hR ⊢
        have e3 : nI j + cI 1 = nI (j + 1) := nI_add j 1
        (conv => whnf); refine ⟨fun q2 => ?_, fun q2 => ?_⟩
        · (conv => whnf)
          rw [e3]
          refine hBB _ _ _ _ (Jsub H _ _ ?_ (List.Sublist.refl _) (ih (j + 1) _ (by omega) hR))
          exact sL_cons rfl (sL_cons rfl (sL_cons rfl (sL_cons rfl (sL_cons rfl sL_nil))))
        · exact absurd rfl q2
  refine H.1 400 _ _ _ _ (fun B vc sc Z hBB hV hS hZ => ?_)
  (conv => whnf)
  rw [hne, hne2]
  refine ⟨false, vs.length, f, hlk, ?_⟩
  (conv => whnf); refine hV _ _ _ _ _ (v_row (g := vs.length + 1 + g) (RX_le hR (by omega))) (fun r M' e => ?_); obtain ⟨rfl, hR⟩ := e
  rw [rowAt hi ht (by omega)] at hR ⊢
  (conv => whnf); refine ⟨fun q2 => ?_, fun q2 => ?_⟩
  · conv => whnf
    have e : pfx vs 0 = List.replicate vs.length 0 := rfl
    have h0 := loop vs.length 0 M' (by omega) (by rw [e]; exact hR)
    refine hBB _ _ _ _ (Jsub H _ _ ?_ (List.Sublist.refl _) h0)
    exact sL_cons rfl (sL_cons rfl (sL_cons rfl (sL_cons rfl (sL_cons rfl sL_nil))))
  · exact absurd rfl q2
