/-! the reference: a layer laid in thought, and taken off -/
def NW : List Nat := [75, 76, 77, 78, 79]
theorem okR_put {w : Rk} {r : Nat} {q : Lyr} (ho : okR w) (hr : r < w.length) (hh : hgt w r < 12) (hq : okL q) : okR (put w r q) := by
  refine ⟨by rw [put_len]; exact ho.1, fun r' => ?_, fun r' l' q' hq' => ?_⟩
  · rw [hgt_put hr]
    have := ho.2.1 r'
    split <;> omega
  · rcases put_at hr hq' with ⟨-, -, rfl⟩ | ⟨z, -⟩
    · exact hq
    · exact ho.2.2 r' l' q' z
theorem put_old {w : Rk} {r r' l : Nat} {q q' : Lyr} (hr : r < w.length) (h : (w.getD r' [])[l]? = some q') : ((put w r q).getD r' [])[l]? = some q' := by
  unfold put
  rw [getD_set hr]
  split
  · next z =>
    subst z
    have : l < (w.getD r' []).length := ly_lt h
    rw [List.getElem?_append_left this]
    exact h
  · exact h
theorem YM_un {M : Mem} {w : Rk} {r : Nat} {q : Lyr} (h : YM M 75 (put w r q)) (hr : r < w.length) : YM (mI M 75 r (M.1 75 r - cI 1)) 75 w := by
  intro r' hr'
  have hp := h r' (by rw [put_len]; exact hr')
  refine ⟨?_, fun l q' hq' j hj => ?_⟩
  · rw [mI_at]
    have h1 := (h r (by rw [put_len]; exact hr)).1
    rw [hgt_put hr, if_pos rfl] at h1
    by_cases z : r' = r
    · rw [if_pos ⟨rfl, z⟩, h1, z]
      exact nI_sub (b := 1) (by omega)
    · rw [if_neg (fun y => z y.2), hp.1, hgt_put hr, if_neg z]
  · rw [mI_ne _ _ _ (by omega)]
    exact hp.2 l q' (put_old hr hq') j hj
theorem m_layOn {d r w f m : Nat} {M : Mem} {rk : Rk} (h : YM M 75 rk) (ho : okR rk) (hr : r < rk.length) (hh : hgt rk r < 12) : Call (d + 1) 208 [.ref 55, .int (nI r), .int (nI w), .int (nI f), .int (nI m)] M (fun v M' => v = none ∧ FrM NW [] M M' ∧ YM M' 75 (put rk r (w, f, m, 0))) := by
  have hl := ho.1
  have eP : cI 12 * nI r + nI (hgt rk r) = nI (12 * r + hgt rk r) := by rw [show cI 12 = nI 12 from rfl, nI_mul, nI_add]
  have hm := (h r hr).1
  have vp : vp_in (cI 12 * nI r + M.1 75 (nI r).toNatClampNeg) 48 := by rw [nI_c (by omega), hm, eP]; exact nI_vp (by omega) (by decide)
  have vr : vp_in (nI r) 4 := nI_vp (by omega) (by decide)
  refine call_run 400 rfl rfl (fun B Cl Z hZ hB hC => ?_)
  (conv => whnf)
  refine ⟨vr, ?_⟩
  (conv => whnf)
  refine ⟨vp, ?_⟩
  (conv => whnf)
  refine ⟨vp, ?_⟩
  (conv => whnf)
  refine ⟨vp, ?_⟩
  (conv => whnf)
  refine ⟨vp, ?_⟩
  (conv => whnf)
  refine ⟨vr, ?_⟩
  (conv => whnf)
  refine ⟨vr, ?_⟩
  conv => whnf
  rw [nI_c (n := r) (by omega), hm, eP, nI_c (n := 12 * r + hgt rk r) (by omega)]
  show Z none (mI (mI (mI (mI (mI M 76 (12 * r + hgt rk r) (nI w)) 77 (12 * r + hgt rk r) (nI f)) 78 (12 * r + hgt rk r) (nI m)) 79 (12 * r + hgt rk r) (cI 0)) 75 r (M.1 75 r + cI 1))
  generalize hM : (mI (mI (mI (mI (mI M 76 (12 * r + hgt rk r) (nI w)) 77 (12 * r + hgt rk r) (nI f)) 78 (12 * r + hgt rk r) (nI m)) 79 (12 * r + hgt rk r) (cI 0)) 75 r (M.1 75 r + cI 1)) = M1
  have hf : FrM NW [] M M1 := by
    rw [← hM]
    exact FrM_a (FrM_a (FrM_a (FrM_a (FrM_a FrM_refl (by decide) (by decide)) (by decide) (by decide)) (by decide) (by decide)) (by decide) (by decide)) (by decide) (by decide)
  have e75 : M1.1 75 = upd (M.1 75) r (M.1 75 r + cI 1) := by rw [← hM]; rfl
  have e4 : ∀ j, j < 4 → M1.1 (75 + 1 + j) = upd (M.1 (75 + 1 + j)) (12 * r + hgt rk r) (nI (lyF (w, f, m, 0) j)) := by
    intro j hj
    rw [← hM]
    match j, hj with
    | 0, _ => rfl
    | 1, _ => rfl
    | 2, _ => rfl
    | 3, _ => rfl
  refine hZ _ _ ⟨rfl, hf, fun r' hr' => ⟨?_, fun l q hq j hj => ?_⟩⟩
  · rw [put_len] at hr'
    rw [e75, hgt_put hr]
    unfold upd
    split
    · next z => rw [hm]; exact nI_1 _
    · exact (h r' hr').1
  · have hq2 := put_at hr hq
    rw [e4 j hj]
    unfold upd
    rcases hq2 with ⟨rfl, rfl, rfl⟩ | ⟨q1, q2⟩
    · rw [if_pos rfl]
    · have b1 := ho.2.1 r'
      rw [if_neg (fun z => by
        have : r' = r := by omega
        subst this
        omega)]
      exact (h r' (hgt_lt q2)).2 l q q1 j hj
theorem m_isHour {d : Nat} {M : Mem} {x : Int32} : Call (d + 3) 217 [.int x] M (RV (some (.int (b2 (hrZ x.toInt)))) M) := by
  refine call_run 400 rfl rfl (fun B Cl Z hZ hB hC => ?_)
  (conv => whnf); refine ⟨fun a => ?_, fun a => ?_⟩
  · simp only [c_lt, c_gt, c_le, c_ge, c_eq, c_ne, b2_z, b2_nz, b2_i, Classical.not_not, t0, t1, Nat.reduceMod, Nat.reduceDiv, Int.reduceAdd, Int.reduceNeg, Nat.reduceAdd, kv_0, kv_1, kv_10, kv_100, kc_0, kc_1, kc_10, kc_100] at a
    conv => whnf
    refine ⟨Or.inl rfl, hZ _ _ ⟨v_eq (b2_f (fun z => ?_)).symm, rfl⟩⟩
    unfold hrZ at z
    omega
  simp only [c_lt, c_gt, c_le, c_ge, c_eq, c_ne, b2_z, b2_nz, b2_i, Classical.not_not, t0, t1, Nat.reduceMod, Nat.reduceDiv, Int.reduceAdd, Int.reduceNeg, Nat.reduceAdd, kv_0, kv_1, kv_10, kv_100, kc_0, kc_1, kc_10, kc_100] at a
  obtain ⟨n, rfl, en, hn⟩ := to_nI (x := x) (by omega)
  have y1 : nI n / cI 10 = nI (n / 10) := nI_div (b := 10) hn (by decide)
  have y2 : nI (n / 10) - nI (n / 10) / cI 10 * cI 10 = nI (n / 10 % 10) := nI_rem (b := 10) (by omega) (by decide)
  have y3 : nI n / cI 100 = nI (n / 100) := nI_div (b := 100) hn (by decide)
  have y4 : nI n - nI n / cI 10 * cI 10 = nI (n % 10) := nI_rem (b := 10) hn (by decide)
  have f1 := nI_v (n := n / 10 % 10) (by omega)
  have f2 := nI_v (n := n / 100) (by omega)
  have f3 := nI_v (n := n % 10) (by omega)
  rw [y1] at y4
  have hz : hrZ (nI n).toInt ↔ lyZ ((n / 10 % 10 : Nat) : Int) ((n / 100 : Nat) : Int) ((n % 10 : Nat) : Int) := by
    rw [en]
    unfold hrZ lyZ
    rw [show ((n : Int)).toNat = n from rfl]
    omega
  (conv => whnf)
  refine ⟨by decide, ?_⟩
  (conv => whnf)
  refine ⟨by decide, ?_⟩
  (conv => whnf)
  refine ⟨by decide, ?_⟩
  (conv => whnf)
  refine ⟨by decide, ?_⟩
  (conv => whnf)
  rw [y1, y2, y3, y4]
  refine ret_k hC (m_areLayer) ?_
  rw [f1, f2, f3]
  (conv => whnf); refine ⟨fun g => ?_, fun g => ?_⟩
  · rw [b2_z, ← hz] at g
    conv => whnf
    exact ⟨Or.inl rfl, hZ _ _ ⟨v_eq (b2_f g).symm, rfl⟩⟩
  · rw [b2_z, ← hz] at g
    conv => whnf
    exact ⟨Or.inr rfl, hZ _ _ ⟨v_eq (b2_t (Classical.not_not.mp g)).symm, rfl⟩⟩
