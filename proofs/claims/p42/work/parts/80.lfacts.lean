/-! the law: the state that it comes back to; what calls answer there -/
/-- as it stood when the image was made -/
def Base (E : EnvK) (rk0 : Rk) (de0 : Nat → Int32) (s : St) : Prop := sK s = rk0 ∧ envS s = E ∧ sDy s = 0 ∧ sIm s = some (rk0, de0, 0)
/-- gone on from there, so that back comes back -/
def Away (E : EnvK) (rk0 : Rk) (de0 : Nat → Int32) (s : St) : Prop := envS s = E ∧ sIm s = some (rk0, de0, 0) ∧ (sK s).length = rk0.length
theorem Base.away {E : EnvK} {rk0 : Rk} {de0 : Nat → Int32} {s : St} (h : Base E rk0 de0 s) : Away E rk0 de0 s := ⟨h.2.1, h.2.2.2, by rw [h.1]⟩
theorem back_at {E : EnvK} {rk0 : Rk} {de0 : Nat → Int32} {s : St} (h : Away E rk0 de0 s) : (aBack s).1 = nI 0 ∧ Base E rk0 de0 (aBack s).2 ∧ sDe (aBack s).2 = de0 ∧ sSh (aBack s).2 = sSh s := by
  obtain ⟨h1, h2, h3⟩ := h
  have e : aBack s = (nI 0, backS s rk0 de0 0) := by
    unfold aBack
    rw [h2]
  rw [e]
  refine ⟨rfl, ⟨?_, h1, rfl, h2⟩, rfl, rfl⟩
  show bkR rk0 (sK s).length = rk0
  unfold bkR
  rw [h3, Nat.sub_self]
  exact List.append_nil _
theorem lean_x {s : St} {r : Nat} (h : r < (sK s).length) (h4 : (sK s).length ≤ 4) : aLean s (nI r) (cI 0) = lX (envS s) (sK s) r := by
  unfold aLean
  rw [nI_v (n := r) (by omega), kv_0, if_pos (by omega), if_pos rfl, Int.toNat_natCast]
theorem lean_y {s : St} {r : Nat} (h : r < (sK s).length) (h4 : (sK s).length ≤ 4) : aLean s (nI r) (cI 1) = lY (envS s) (sK s) r := by
  unfold aLean
  rw [nI_v (n := r) (by omega), kv_1, if_pos (by omega), if_neg (by omega), if_pos rfl, Int.toNat_natCast]
theorem lean_s {s : St} {r : Nat} (h : r < (sK s).length) (h4 : (sK s).length ≤ 4) : aLean s (nI r) (cI 2) = b2 (lM (envS s) (sK s) r ≤ (envS s).2.2.1) := by
  unfold aLean
  rw [nI_v (n := r) (by omega), kv_2, if_pos (by omega), if_neg (by omega), if_neg (by omega), Int.toNat_natCast]
theorem of_h {s : St} {r : Nat} (h : r < (sK s).length) (h4 : (sK s).length ≤ 4) : aOf s (nI r) (cI 8) = nI (hgt (sK s) r) := by
  unfold aOf
  rw [kv_8, if_pos rfl, nI_v (n := r) (by omega), if_pos (by omega), Int.toNat_natCast]
/-- laying an hour -/
theorem lay_ok {E : EnvK} {rk0 : Rk} {de0 : Nat → Int32} {s : St} {r x : Nat} (ha : Away E rk0 de0 s) (hr : r < (sK s).length) (h4 : (sK s).length ≤ 4) (hx : hrZ (x : Int)) (hh : hgt (sK s) r < 12) :
    (aLay s (nI r) (nI x)).1 = nI (hgt (sK s) r) ∧ Away E rk0 de0 (aLay s (nI r) (nI x)).2 ∧ sK (aLay s (nI r) (nI x)).2 = put (sK s) r (lyN x) := by
  rw [lay_at hr h4 hx hh]
  refine ⟨rfl, ⟨ha.1, ha.2.1, ?_⟩, rfl⟩
  show (put (sK s) r (lyN x)).length = _
  rw [put_l]
  exact ha.2.2
theorem way5 {w : Nat} (h : w < 8) : hrZ ((500 + 10 * w : Nat) : Int) ∧ lyN (500 + 10 * w) = (w, 5, 0, 0) := by
  refine ⟨⟨by omega, by omega, ?_, ?_⟩, ?_⟩
  · rw [Int.toNat_natCast]; omega
  · rw [Int.toNat_natCast]; omega
  · unfold lyN
    rw [show (500 + 10 * w) / 10 % 10 = w by omega, show (500 + 10 * w) / 100 = 5 by omega, show (500 + 10 * w) % 10 = 0 by omega]
theorem turns_0 {s : St} {r : Nat} (h : r < (sK s).length) (h4 : (sK s).length ≤ 4) (hh : hgt (sK s) r < 12) : aByTurns s (nI r) (cI 1) (cI 0) = (tres (envS s) ((sK s).getD r []) 1).1 := by
  unfold aByTurns
  rw [nI_v (n := r) (by omega), kv_1, kv_0, if_pos (by omega), Int.toNat_natCast, if_neg (by show ¬ 12 < hgt (sK s) r + 1; omega), if_pos rfl]
  rfl
theorem turns_1 {s : St} {r : Nat} (h : r < (sK s).length) (h4 : (sK s).length ≤ 4) (hh : hgt (sK s) r < 12) : aByTurns s (nI r) (cI 1) (cI 1) = nI (tres (envS s) ((sK s).getD r []) 1).2 := by
  unfold aByTurns
  rw [nI_v (n := r) (by omega), kv_1, if_pos (by omega), Int.toNat_natCast, if_neg (by show ¬ 12 < hgt (sK s) r + 1; omega), if_neg (by omega)]
  rfl
theorem turns_f {s : St} {r : Nat} (h : r < (sK s).length) (h4 : (sK s).length ≤ 4) (hh : hgt (sK s) r = 12) : aByTurns s (nI r) (cI 1) (cI 0) = cI (-2) := by
  unfold aByTurns
  rw [nI_v (n := r) (by omega), kv_1, kv_0, if_pos (by omega), Int.toNat_natCast, if_pos (by show 12 < hgt (sK s) r + 1; omega)]
