/-! the worlds of the law's two objects; the law from its entry -/
def pmL : List Nat := [0, 1, 6, 17, 18, 24, 35, 37, 23, 25, 9, 10, 11, 12, 13, 14, 15, 16, 19, 20, 21, 22, 43, 44, 45, 46, 47, 48, 49, 50, 51, 52, 53, 54, 40, 2, 3, 4, 5, 7, 8, 36, 38, 39, 26, 27, 28, 29, 30, 31, 32, 33, 34, 41, 42]
def adF (qa : Nat) (ua : Nat → Nat) (bb t1 t2 t4 t5 : Nat) : Nat → Nat := fun a => match Nat.blt a 900, Nat.beq a 950 with
  | true, _ => nth 0 [qa, ua 0, ua 5, ua 16, ua 17, ua 23, ua 34, ua 36, ua 22, ua 24, ua 8, ua 9, ua 10, ua 11, ua 12, ua 13, ua 14, ua 15, ua 18, ua 19, ua 20, ua 21, ua 42, ua 43, ua 44, ua 45, ua 46, ua 47, ua 48, ua 49, ua 50, ua 51, ua 52, ua 53, ua 39, ua 1, ua 2, ua 3, ua 4, ua 6, ua 7, ua 35, ua 37, ua 38, ua 25, ua 26, ua 27, ua 28, ua 29, ua 30, ua 31, ua 32, ua 33, ua 40, ua 41] a
  | false, true => bb
  | false, false => nth 0 [t1, t2, 0, 0, 0, 0, 0, 0, 0, 0, t4, t5] (a - 900)
theorem pmL_inj : (List.range 55).all (fun k => (List.range 55).all fun k' => decide (nth 0 pmL k = nth 0 pmL k' → k = k')) = true := by decide +kernel
theorem Wld_of {W : va_W} {D : va_G} {A : Nat → Prop} {H : Heap} {ad : Nat → Nat} {ty : Nat → ClassId} {M : Mem} (hP : va_P D vwCl W H) (hD : va_D A W) (h : ∀ k, k < 55 → ∃ e, W[nth 0 pmL k]? = some (ad k, e) ∧ (va_at D vwCl (ad k, e) H → va_at D vwCl (ad k, cont ad ty M k) H)) : va_P D vwCl (wsA ad ty M) H ∧ va_D A (wsA ad ty M) := by
  have hlen : ∀ (k : Nat) (q : Nat × va_E), (wsA ad ty M)[k]? = some q → k < 55 ∧ q = (ad k, cont ad ty M k) := by
    intro k q hq
    have hk : k < nNC := by
      have := (List.getElem?_eq_some_iff.mp hq).1
      simpa [wsA] using this
    rw [wsA_at hk] at hq
    exact ⟨hk, (Option.some.inj hq).symm⟩
  refine ⟨fun k q hq => ?_, fun i j p q hp hq e => ?_, fun k q hq => ?_⟩
  · obtain ⟨hk, rfl⟩ := hlen k q hq
    obtain ⟨e, h1, h2⟩ := h k hk
    exact h2 (hP _ _ h1)
  · obtain ⟨hi, rfl⟩ := hlen i p hp
    obtain ⟨hj, rfl⟩ := hlen j q hq
    obtain ⟨e1, h1, -⟩ := h i hi
    obtain ⟨e2, h2, -⟩ := h j hj
    have := hD.1 _ _ _ _ h1 h2 e
    have h3 := List.all_eq_true.mp (List.all_eq_true.mp pmL_inj i (List.mem_range.mpr hi)) j (List.mem_range.mpr hj)
    exact of_decide_eq_true h3 this
  · obtain ⟨hk, rfl⟩ := hlen k q hq
    obtain ⟨e, h1, h2⟩ := h k hk
    exact hD.2 _ (ad k, e) h1
theorem cell_q {cA : ClassId} {n : Nat} {f g : Nat → Option Nat} (h : ∀ j, j < n → f j = g j) : vp_cell cA (n, .inr (.inr (.inr (.inr f)))) = vp_cell cA (n, .inr (.inr (.inr (.inr g)))) := by
  rw [vp_cell_q, vp_cell_q]
  unfold arrV
  congr 2
  funext j
  show va_rf (f j.val) = va_rf (g j.val)
  rw [h j.val j.isLt]
def cfr (ad : Nat → Nat) (M : Mem) (a : Nat) : Nat → List Nat → List Value
  | _, [] => []
  | j, r :: fs => cv ad (fval M a j r) :: cfr ad M a (j + 1) fs
theorem cfr_at {ad : Nat → Nat} {M : Mem} {a : Nat} : ∀ (fs : List Nat) (j k : Nat), (cfr ad M a j fs)[k]? = fs[k]?.map (fun r => cv ad (fval M a (j + k) r))
  | [], _, _ => rfl
  | r :: fs, j, 0 => rfl
  | r :: fs, j, k + 1 => by
    show (cfr ad M a (j + 1) fs)[k]? = fs[k]?.map _
    rw [cfr_at fs (j + 1) k, show j + 1 + k = j + (k + 1) by omega]
theorem cfs_r {ad : Nat → Nat} {M : Mem} {a : Nat} {fs : List Nat} : cfs ad M a fs = cfr ad M a 0 fs := by
  apply List.ext_getElem?
  intro k
  rw [cfr_at]
  simp [cfs, List.getElem?_mapIdx]
theorem cont_o {ad : Nat → Nat} {ty : Nat → ClassId} {M : Mem} {a ci : Nat} {fs : List Nat} (h : layK a = (0, ci, fs)) : cont ad ty M a = .inr (ci, cfr ad M a 0 fs) := by
  rw [← cfs_r]
  simp only [cont, h]
def WlP (D : va_G) (H : Heap) (ty : Nat → ClassId) (qa : Nat) (ua : Nat → Nat) (bb t1 t2 t4 t5 : Nat) (k : Nat) : Prop := ∃ e, (wc_9 ty qa ua)[nth 0 pmL k]? = some (adF qa ua bb t1 t2 t4 t5 k, e) ∧ (va_at D vwCl (adF qa ua bb t1 t2 t4 t5 k, e) H → va_at D vwCl (adF qa ua bb t1 t2 t4 t5 k, cont (adF qa ua bb t1 t2 t4 t5) ty M00 k) H)
section WL
variable {D : va_G} {H : Heap} {ty : Nat → ClassId} {qa bb t1 t2 t4 t5 : Nat} {ua : Nat → Nat}
theorem wl_0 : WlP D H ty qa ua bb t1 t2 t4 t5 0 := ⟨_, rfl, fun h => by rw [cont_o (show layK 0 = (0, 9, [2, 3, 11, 15, 4, 5, 6, 7, 8, 35, 54, 55, 0, 0, 0, 0]) from rfl)]; exact h⟩
theorem wl_1 : WlP D H ty qa ua bb t1 t2 t4 t5 1 := ⟨_, rfl, fun h => by rw [cont_o (show layK 1 = (0, 2, [0, 0, 36, 37, 0, 38, 39]) from rfl)]; exact h⟩
theorem wl_2 : WlP D H ty qa ua bb t1 t2 t4 t5 2 := ⟨_, rfl, fun h => by rw [cont_o (show layK 2 = (0, 3, [40, 0, 41, 0, 0, 0]) from rfl)]; exact h⟩
theorem wl_3 : WlP D H ty qa ua bb t1 t2 t4 t5 3 := ⟨_, rfl, fun h => by rw [cont_o (show layK 3 = (0, 4, [0, 0]) from rfl)]; exact h⟩
theorem wl_4 : WlP D H ty qa ua bb t1 t2 t4 t5 4 := ⟨_, rfl, fun h => by rw [cont_o (show layK 4 = (0, 7, [19, 0, 0, 0, 0, 0, 2, 9]) from rfl)]; exact h⟩
theorem wl_5 : WlP D H ty qa ua bb t1 t2 t4 t5 5 := ⟨_, rfl, fun h => by rw [cont_o (show layK 5 = (0, 5, [0, 0, 2, 10, 45, 0, 0, 46, 47, 48, 49, 50, 51, 52, 53]) from rfl)]; exact h⟩
theorem wl_6 : WlP D H ty qa ua bb t1 t2 t4 t5 6 := ⟨_, rfl, fun h => by rw [cont_o (show layK 6 = (0, 1, [42, 0, 0]) from rfl)]; exact h⟩
theorem wl_7 : WlP D H ty qa ua bb t1 t2 t4 t5 7 := ⟨_, rfl, fun h => by rw [cont_o (show layK 7 = (0, 0, [43, 0, 44, 0, 0, 0]) from rfl)]; exact h⟩
theorem wl_8 : WlP D H ty qa ua bb t1 t2 t4 t5 8 := ⟨_, rfl, fun h => by rw [cont_o (show layK 8 = (0, 4, [0, 0]) from rfl)]; exact h⟩
theorem wl_9 : WlP D H ty qa ua bb t1 t2 t4 t5 9 := ⟨_, rfl, fun h => by rw [cont_o (show layK 9 = (0, 4, [0, 0]) from rfl)]; exact h⟩
theorem wl_10 : WlP D H ty qa ua bb t1 t2 t4 t5 10 := ⟨_, rfl, fun h => by rw [cont_o (show layK 10 = (0, 8, [0, 12, 13, 14]) from rfl)]; exact h⟩
theorem wl_11 : WlP D H ty qa ua bb t1 t2 t4 t5 11 := ⟨_, rfl, id⟩
theorem wl_12 : WlP D H ty qa ua bb t1 t2 t4 t5 12 := ⟨_, rfl, id⟩
theorem wl_13 : WlP D H ty qa ua bb t1 t2 t4 t5 13 := ⟨_, rfl, id⟩
theorem wl_14 : WlP D H ty qa ua bb t1 t2 t4 t5 14 := ⟨_, rfl, fun h => by rw [cont_o (show layK 14 = (0, 8, [0, 16, 17, 18]) from rfl)]; exact h⟩
theorem wl_15 : WlP D H ty qa ua bb t1 t2 t4 t5 15 := ⟨_, rfl, id⟩
theorem wl_16 : WlP D H ty qa ua bb t1 t2 t4 t5 16 := ⟨_, rfl, id⟩
theorem wl_17 : WlP D H ty qa ua bb t1 t2 t4 t5 17 := ⟨_, rfl, id⟩
theorem wl_18 : WlP D H ty qa ua bb t1 t2 t4 t5 18 := ⟨_, rfl, fun h => by rw [cont_o (show layK 18 = (0, 8, [0, 20, 21, 22]) from rfl)]; exact h⟩
theorem wl_19 : WlP D H ty qa ua bb t1 t2 t4 t5 19 := ⟨_, rfl, id⟩
theorem wl_20 : WlP D H ty qa ua bb t1 t2 t4 t5 20 := ⟨_, rfl, id⟩
theorem wl_21 : WlP D H ty qa ua bb t1 t2 t4 t5 21 := ⟨_, rfl, id⟩
theorem wl_22 : WlP D H ty qa ua bb t1 t2 t4 t5 22 := ⟨_, rfl, fun h => by rw [cont_o (show layK 22 = (0, 6, [0, 0, 0, 0, 24]) from rfl)]; exact h⟩
theorem wl_23 : WlP D H ty qa ua bb t1 t2 t4 t5 23 := ⟨_, rfl, id⟩
theorem wl_24 : WlP D H ty qa ua bb t1 t2 t4 t5 24 := ⟨_, rfl, fun h => by rw [cont_o (show layK 24 = (0, 6, [0, 0, 0, 0, 26]) from rfl)]; exact h⟩
theorem wl_25 : WlP D H ty qa ua bb t1 t2 t4 t5 25 := ⟨_, rfl, id⟩
theorem wl_26 : WlP D H ty qa ua bb t1 t2 t4 t5 26 := ⟨_, rfl, fun h => by rw [cont_o (show layK 26 = (0, 6, [0, 0, 0, 0, 28]) from rfl)]; exact h⟩
theorem wl_27 : WlP D H ty qa ua bb t1 t2 t4 t5 27 := ⟨_, rfl, id⟩
theorem wl_28 : WlP D H ty qa ua bb t1 t2 t4 t5 28 := ⟨_, rfl, fun h => by rw [cont_o (show layK 28 = (0, 6, [0, 0, 0, 0, 30]) from rfl)]; exact h⟩
theorem wl_29 : WlP D H ty qa ua bb t1 t2 t4 t5 29 := ⟨_, rfl, id⟩
theorem wl_30 : WlP D H ty qa ua bb t1 t2 t4 t5 30 := ⟨_, rfl, fun h => by rw [cont_o (show layK 30 = (0, 6, [0, 0, 0, 0, 32]) from rfl)]; exact h⟩
theorem wl_31 : WlP D H ty qa ua bb t1 t2 t4 t5 31 := ⟨_, rfl, id⟩
theorem wl_32 : WlP D H ty qa ua bb t1 t2 t4 t5 32 := ⟨_, rfl, fun h => by rw [cont_o (show layK 32 = (0, 6, [0, 0, 0, 0, 34]) from rfl)]; exact h⟩
theorem wl_33 : WlP D H ty qa ua bb t1 t2 t4 t5 33 := ⟨_, rfl, id⟩
theorem wl_34 : WlP D H ty qa ua bb t1 t2 t4 t5 34 := ⟨_, rfl, fun h => by
  refine Eq.trans h (congrArg some (cell_q (fun j hj => ?_)))
  match j, hj with
  | 0, _ => rfl
  | 1, _ => rfl
  | 2, _ => rfl
  | 3, _ => rfl
  | 4, _ => rfl
  | 5, _ => rfl
  ⟩
theorem wl_35 : WlP D H ty qa ua bb t1 t2 t4 t5 35 := ⟨_, rfl, id⟩
theorem wl_36 : WlP D H ty qa ua bb t1 t2 t4 t5 36 := ⟨_, rfl, id⟩
theorem wl_37 : WlP D H ty qa ua bb t1 t2 t4 t5 37 := ⟨_, rfl, id⟩
theorem wl_38 : WlP D H ty qa ua bb t1 t2 t4 t5 38 := ⟨_, rfl, id⟩
theorem wl_39 : WlP D H ty qa ua bb t1 t2 t4 t5 39 := ⟨_, rfl, id⟩
theorem wl_40 : WlP D H ty qa ua bb t1 t2 t4 t5 40 := ⟨_, rfl, id⟩
theorem wl_41 : WlP D H ty qa ua bb t1 t2 t4 t5 41 := ⟨_, rfl, id⟩
theorem wl_42 : WlP D H ty qa ua bb t1 t2 t4 t5 42 := ⟨_, rfl, id⟩
theorem wl_43 : WlP D H ty qa ua bb t1 t2 t4 t5 43 := ⟨_, rfl, id⟩
theorem wl_44 : WlP D H ty qa ua bb t1 t2 t4 t5 44 := ⟨_, rfl, id⟩
theorem wl_45 : WlP D H ty qa ua bb t1 t2 t4 t5 45 := ⟨_, rfl, id⟩
theorem wl_46 : WlP D H ty qa ua bb t1 t2 t4 t5 46 := ⟨_, rfl, id⟩
theorem wl_47 : WlP D H ty qa ua bb t1 t2 t4 t5 47 := ⟨_, rfl, id⟩
theorem wl_48 : WlP D H ty qa ua bb t1 t2 t4 t5 48 := ⟨_, rfl, id⟩
theorem wl_49 : WlP D H ty qa ua bb t1 t2 t4 t5 49 := ⟨_, rfl, id⟩
theorem wl_50 : WlP D H ty qa ua bb t1 t2 t4 t5 50 := ⟨_, rfl, id⟩
theorem wl_51 : WlP D H ty qa ua bb t1 t2 t4 t5 51 := ⟨_, rfl, id⟩
theorem wl_52 : WlP D H ty qa ua bb t1 t2 t4 t5 52 := ⟨_, rfl, id⟩
theorem wl_53 : WlP D H ty qa ua bb t1 t2 t4 t5 53 := ⟨_, rfl, id⟩
theorem wl_54 : WlP D H ty qa ua bb t1 t2 t4 t5 54 := ⟨_, rfl, id⟩
set_option maxRecDepth 100000 in
theorem wl_all : ∀ k ∈ List.range 55, WlP D H ty qa ua bb t1 t2 t4 t5 k := fm wl_0 (fm wl_1 (fm wl_2 (fm wl_3 (fm wl_4 (fm wl_5 (fm wl_6 (fm wl_7 (fm wl_8 (fm wl_9 (fm wl_10 (fm wl_11 (fm wl_12 (fm wl_13 (fm wl_14 (fm wl_15 (fm wl_16 (fm wl_17 (fm wl_18 (fm wl_19 (fm wl_20 (fm wl_21 (fm wl_22 (fm wl_23 (fm wl_24 (fm wl_25 (fm wl_26 (fm wl_27 (fm wl_28 (fm wl_29 (fm wl_30 (fm wl_31 (fm wl_32 (fm wl_33 (fm wl_34 (fm wl_35 (fm wl_36 (fm wl_37 (fm wl_38 (fm wl_39 (fm wl_40 (fm wl_41 (fm wl_42 (fm wl_43 (fm wl_44 (fm wl_45 (fm wl_46 (fm wl_47 (fm wl_48 (fm wl_49 (fm wl_50 (fm wl_51 (fm wl_52 (fm wl_53 (fm wl_54 (fmn)))))))))))))))))))))))))))))))))))))))))))))))))))))))
theorem wld00 {A : Nat → Prop} (hP : va_P D vwCl (wc_9 ty qa ua) H) (hD : va_D A (wc_9 ty qa ua)) : va_P D vwCl (wsA (adF qa ua bb t1 t2 t4 t5) ty M00) H ∧ va_D A (wsA (adF qa ua bb t1 t2 t4 t5) ty M00) :=
  Wld_of hP hD (fun k hk => wl_all k (List.mem_range.mpr hk))
end WL
