/-! the law: hours laid in the order told -/
theorem wst_up {g : List Nat → Int32} {pth : List Nat} : ∀ (j k : Nat), (wst g pth k).toInt ≤ (wst g pth (k + j)).toInt
  | 0, k => Int.le_refl _
  | j + 1, k => by
    have h := wst_up (g := g) (pth := pth) j k
    have e : (wst g pth (k + (j + 1))).toInt = (if (wst g pth (k + j)).toInt < (g (pth.take (k + j + 1))).toInt then (g (pth.take (k + j + 1))).toInt else (wst g pth (k + j)).toInt) := max_v
    rw [e]
    split <;> omega
theorem wst_ge {g : List Nat → Int32} {pth : List Nat} {k n : Nat} (h : k < n) : (g (pth.take (k + 1))).toInt ≤ (wst g pth n).toInt := by
  have h1 := wst_up (g := g) (pth := pth) (n - (k + 1)) (k + 1)
  rw [show k + 1 + (n - (k + 1)) = n by omega] at h1
  have e : (wst g pth (k + 1)).toInt = (if (wst g pth k).toInt < (g (pth.take (k + 1))).toInt then (g (pth.take (k + 1))).toInt else (wst g pth k).toInt) := max_v
  rw [e] at h1
  split at h1 <;> omega
theorem nl_64 : ∀ y, y < 1000 → (nI y).toInt64 = lN y := by decide +kernel
theorem nrw_1 : ∀ y, y < 1000 → nrw 1 (lN y) = lN y := by decide +kernel
/-- an hour -/
def okH (v : Int32) : Prop := ∃ y : Nat, v = nI y ∧ hrZ (y : Int)
/-- the hours as they lie on the shelf -/
def hvL (h : Nat) (ys : Nat → Nat) : List Int64 := (List.range h).map (fun j => lN (ys j))
theorem hvL_len {h : Nat} {ys : Nat → Nat} : (hvL h ys).length = h := by unfold hvL; rw [List.length_map, List.length_range]
theorem hvL_at {h j : Nat} {ys : Nat → Nat} {v : Int64} (hj : (hvL h ys)[j]? = some v) : j < h ∧ v = lN (ys j) := by
  have h1 : j < (hvL h ys).length := (List.getElem?_eq_some_iff.mp hj).1
  rw [hvL_len] at h1
  unfold hvL at hj
  rw [List.getElem?_map, List.getElem?_range h1] at hj
  exact ⟨h1, (Option.some.inj hj).symm⟩
theorem hrs_all : ∀ (n : Nat) (l : List Int64), l.length ≤ n → (∀ v ∈ l, hrZ v.toInt) → hrs n l = l.length
  | 0, l, h, _ => by
    have : l = [] := List.length_eq_zero_iff.mp (by omega)
    rw [this]
    rfl
  | n + 1, [], _, _ => rfl
  | n + 1, x :: l, h, hv => by
    rw [List.length_cons] at h
    show (if hrZ x.toInt then hrs n l + 1 else 0) = l.length + 1
    rw [if_pos (hv x List.mem_cons_self), hrs_all n l (by omega) (fun v hv2 => hv v (List.mem_cons_of_mem _ hv2))]
theorem hv_ok {h : Nat} {ys : Nat → Nat} (hy : ∀ j, j < h → hrZ (ys j : Int)) : ∀ v ∈ hvL h ys, hrZ v.toInt := by
  intro v hv
  obtain ⟨j, hj⟩ := List.getElem?_of_mem hv
  obtain ⟨h1, rfl⟩ := hvL_at hj
  rw [l_v (by have := (hy j h1).2.1; omega)]
  exact hy j h1
/-- the rick's layers and the hours behind them -/
def lsH (rk0 : Rk) (r h : Nat) (ys : Nat → Nat) : List Lyr := rk0.getD r [] ++ hrL h (hvL h ys)
theorem lsH_take {rk0 : Rk} {r h : Nat} {ys : Nat → Nat} : (lsH rk0 r h ys).take (hgt rk0 r) = rk0.getD r [] := by
  unfold lsH hgt
  rw [List.take_append_of_le_length (Nat.le_refl _), List.take_length]
theorem lsH_hL {rk0 : Rk} {r h p : Nat} {ys : Nat → Nat} (hy : ∀ j, j < h → hrZ (ys j : Int)) (hp : p < h) : hL (lsH rk0 r h ys) (hgt rk0 r) p = lyN (ys p) := by
  unfold hL lsH hgt
  rw [List.getD_eq_getElem?_getD, List.getElem?_append_right (by omega), show (rk0.getD r []).length + p - (rk0.getD r []).length = p by omega]
  have e : (hrL h (hvL h ys))[p]? = some (lyN (ys p)) := by
    unfold hrL
    rw [List.getElem?_map, List.getElem?_take_of_lt hp]
    unfold hvL
    rw [List.getElem?_map, List.getElem?_range hp]
    show some (lyN (lN (ys p)).toInt.toNat) = _
    rw [l_v (by have := (hy p hp).2.1; omega), Int.toNat_natCast]
  rw [e]
  rfl
theorem order_a {s : St} {r h : Nat} {ys : Nat → Nat} (hr : r < (sK s).length) (h4 : (sK s).length ≤ 4) (hh : h ≤ 4) (hs : sSh s 1 = some (.inr (1, hvL h ys))) (hy : ∀ j, j < h → hrZ (ys j : Int)) (k : Int32) (hk : -1 ≤ k.toInt ∧ k.toInt < (h : Int)) :
    aOrder s (cI 1) (nI r) k = if 12 < hgt (sK s) r + h then cI (-2) else if (dres (envS s) (lsH (sK s) r h ys) (hgt (sK s) r) h).1 ≤ (envS s).2.2.1 then (if k.toInt < 0 then (dres (envS s) (lsH (sK s) r h ys) (hgt (sK s) r) h).1 else nI ((dres (envS s) (lsH (sK s) r h ys) (hgt (sK s) r) h).2.getD k.toInt.toNat 0)) else cI (-2) := by
  have hl := hrs_all 12 (hvL h ys) (by rw [hvL_len]; omega) (hv_ok hy)
  rw [hvL_len] at hl
  unfold aOrder
  rw [kv_1, nI_v (n := r) (by omega), if_pos (by omega), Int.toNat_natCast]
  have e1 : ((1 : Int)).toNat = 1 := rfl
  have e2 : rowL (some (.inr (1, hvL h ys))) 1 = some (hvL h ys) := rfl
  rw [e1, hs, e2]
  show (if 7 < hrs 12 (hvL h ys) then _ else _) = _
  rw [hl, if_neg (by omega)]
  by_cases q : 12 < hgt (sK s) r + h
  · rw [if_pos (Or.inl q), if_pos q]
  · rw [if_neg (by omega), if_neg q]
    rfl
/-- the rick behind k of the hours, laid in the order told -/
def Laid (E : EnvK) (rk0 : Rk) (de0 : Nat → Int32) (r h : Nat) (ys : Nat → Nat) (path : List Nat) (k : Nat) (s : St) : Prop := Away E rk0 de0 s ∧ (sK s).getD r [] = (lsH rk0 r h ys).take (hgt rk0 r) ++ (path.take k).map (hL (lsH rk0 r h ys) (hgt rk0 r))
theorem laid_0 {E : EnvK} {rk0 : Rk} {de0 : Nat → Int32} {r h : Nat} {ys : Nat → Nat} {path : List Nat} {s : St} (hB : Base E rk0 de0 s) : Laid E rk0 de0 r h ys path 0 s := by
  refine ⟨hB.away, ?_⟩
  rw [hB.1, List.take_zero, lsH_take]
  exact (List.append_nil _).symm
theorem laid_s {E : EnvK} {rk0 : Rk} {de0 : Nat → Int32} {r h k p : Nat} {ys : Nat → Nat} {path : List Nat} {s : St} (hr : r < rk0.length) (h4 : rk0.length ≤ 4) (hy : ∀ j, j < h → hrZ (ys j : Int)) (hL0 : Laid E rk0 de0 r h ys path k s) (hk : path[k]? = some p) (hp : p < h) (hl : path.length = h) (hroom : hgt rk0 r + h ≤ 12) :
    (aLay s (nI r) (nI (ys p))).1 = nI (hgt rk0 r + k) ∧ Laid E rk0 de0 r h ys path (k + 1) (aLay s (nI r) (nI (ys p))).2 ∧ lM E (sK (aLay s (nI r) (nI (ys p))).2) r = gP E (lsH rk0 r h ys) (hgt rk0 r) (path.take (k + 1)) ∧
    maxI (absI (aLean (aLay s (nI r) (nI (ys p))).2 (nI r) (cI 0))) (absI (aLean (aLay s (nI r) (nI (ys p))).2 (nI r) (cI 1))) = gP E (lsH rk0 r h ys) (hgt rk0 r) (path.take (k + 1)) ∧
    aLean (aLay s (nI r) (nI (ys p))).2 (nI r) (cI 2) = b2 (gP E (lsH rk0 r h ys) (hgt rk0 r) (path.take (k + 1)) ≤ E.2.2.1) := by
  obtain ⟨a1, a2⟩ := hL0
  have hkl : k < path.length := (List.getElem?_eq_some_iff.mp hk).1
  have hb : (lsH rk0 r h ys).take (hgt rk0 r) = rk0.getD r [] := lsH_take
  have hbl : hgt rk0 r ≤ (lsH rk0 r h ys).length := by
    unfold lsH hgt
    rw [List.length_append]
    omega
  have hh : hgt (sK s) r = hgt rk0 r + k := by
    have : hgt (sK s) r = ((sK s).getD r []).length := rfl
    rw [this, a2, hb, List.length_append, List.length_map, List.length_take, Nat.min_eq_left (by omega)]
    rfl
  have hlen : (sK s).length = rk0.length := a1.2.2
  obtain ⟨e1, e2, e3⟩ := lay_ok (s := s) (r := r) (x := ys p) a1 (by omega) (by omega) (hy p hp) (by omega)
  have hK : (sK (aLay s (nI r) (nI (ys p))).2).getD r [] = (lsH rk0 r h ys).take (hgt rk0 r) ++ (path.take (k + 1)).map (hL (lsH rk0 r h ys) (hgt rk0 r)) := by
    rw [e3, put_get (by omega), a2, take_snoc hk, List.map_append, List.append_assoc]
    congr 1
    show _ ++ [_] = _ ++ [hL _ _ p]
    rw [lsH_hL hy hp]
  have hM := lM_path (E := E) hK hbl
  have hl2 : (sK (aLay s (nI r) (nI (ys p))).2).length = rk0.length := e2.2.2
  refine ⟨by rw [e1, hh], ⟨e2, hK⟩, hM, ?_, ?_⟩
  · rw [lean_x (by omega) (by omega), lean_y (by omega) (by omega), e2.1, ← hM]
    rfl
  · rw [lean_s (by omega) (by omega), e2.1, hM]
