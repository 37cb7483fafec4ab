/-! built -/
theorem min4 {n : Nat} (h : n ≤ 4) : (if nI n < cI 4 then nI n else cI 4) = nI n := by
  have e1 := nI_v (n := n) (by omega)
  by_cases q : nI n < cI 4
  · rw [if_pos q]
  · rw [if_neg q]
    rw [Int32.lt_iff_toInt_lt, e1, kv_4] at q
    rw [cn_4]
    congr 1
    omega
/-- what is known of the state that the law begins with -/
def BF (s : St) (n st : Nat) : Prop := (sK s).length = n ∧ sSt s = st ∧ sDe s 1 = 0 ∧ sDe s 2 = 0 ∧ sDe s 3 = 0 ∧ sDy s = 0
theorem one_co {s : St} {w : Int} (hw : w = 4 ∨ w = 5) : oneA s (cI 0) (cI w) = some (if w = 4 then sCo s else sSt s) := by
  rcases hw with rfl | rfl
  · rfl
  · rfl
theorem one_do {s : St} {w : Nat} (hw : w < 8) : oneA s (nI w) (cI 7) = some (sDo s w) := by
  unfold oneA
  rw [kv_7, if_neg (by omega), if_pos rfl, nI_v (by omega), if_pos (by omega), Int.toNat_natCast]
theorem mend_co {s : St} {n st v : Nat} (hB : BT s n st 0) (hc : sCo s = 0) (hv : v ≤ 9) : (aMend s (cI 0) (cI 4) (nI v)).1 = nI 0 ∧ BT (aMend s (cI 0) (cI 4) (nI v)).2 n st 0 := by
  have e := mend_at (v := nI v) (one_co (s := s) (w := 4) (Or.inl rfl)) ⟨by rw [nI_v (by omega)]; omega, by rw [kv_4, nI_v (by omega), Int.toNat_natCast]; show v ≤ 9; omega⟩
  rw [if_pos rfl, hc] at e
  rw [e]
  refine ⟨rfl, ?_⟩
  show BT (if _ then _ else _) _ _ _
  split
  · exact hB
  · exact hB
theorem mend_st {s : St} {n v : Nat} (hB : BT s n 20 0) (hv : v ≤ 99) : (aMend s (cI 0) (cI 5) (nI v)).1 = nI 20 ∧ BT (aMend s (cI 0) (cI 5) (nI v)).2 n v 0 := by
  have e := mend_at (v := nI v) (one_co (s := s) (w := 5) (Or.inr rfl)) ⟨by rw [nI_v (by omega)]; omega, by rw [kv_5, nI_v (by omega), Int.toNat_natCast]; show v ≤ 99; omega⟩
  have e5 : (if (5 : Int) = 4 then sCo s else sSt s) = 20 := hB.2.1
  rw [e5] at e
  rw [e]
  refine ⟨rfl, ?_⟩
  show BT (if _ then _ else _) _ _ _
  rw [nI_v (by omega), Int.toNat_natCast]
  split
  · next h => subst h; exact hB
  · obtain ⟨b1, b2, b3⟩ := hB
    exact ⟨b1, by show (mendS s 5 (cI 0).toInt.toNat 20 v).2.1.2.2.1 = v; rfl, b3⟩
theorem mend_do {s : St} {n st w v : Nat} (hB : BT s n st w) (hw : w < 8) (hv : 1 ≤ v ∧ v ≤ 9) : (aMend s (nI w) (cI 7) (nI v)).1 = nI 9 ∧ BT (aMend s (nI w) (cI 7) (nI v)).2 n st (w + 1) := by
  have e := mend_at (v := nI v) (one_do (s := s) hw) ⟨by rw [nI_v (by omega)]; omega, by rw [kv_7, nI_v (by omega), Int.toNat_natCast]; show 1 ≤ v ∧ v ≤ 9; omega⟩
  obtain ⟨b1, b2, b3, b4, b5, b6, b7, b8⟩ := hB
  rw [b8 w (Nat.le_refl _) hw] at e
  rw [e]
  refine ⟨rfl, ?_⟩
  show BT (if _ then _ else _) _ _ _
  rw [nI_v (by omega), Int.toNat_natCast]
  split
  · exact ⟨b1, b2, b3, b4, b5, b6, b7, fun w' h1 h2 => b8 w' (by omega) h2⟩
  · refine ⟨b1, b2, b3, b4, b5, b6, b7, fun w' h1 h2 => ?_⟩
    have e7 : sDo (mendS s (cI 7).toInt.toNat (nI w).toInt.toNat 9 v) w' = upD (sDo s) (nI w).toInt.toNat v w' := rfl
    rw [e7, nI_v (by omega), Int.toNat_natCast]
    unfold upD
    rw [if_neg (by omega)]
    exact b8 w' (by omega) h2
/-- the first i of the text, in an array of 26 -/
def fA : Nat → Nat → Int32
  | 0 => fun _ => 0
  | i + 1 => upd (fA i) i (nI (txL.getD i 0))
theorem fA_at : ∀ i, i < 26 → fA 26 i = nI (txL.getD i 0) := by decide +kernel
theorem fB_ok : ∀ (i b : Nat), txL[i]? = some b → fA 26 i = nI b := by
  intro i b h
  obtain ⟨h1, h2⟩ := List.getElem?_eq_some_iff.mp h
  rw [fA_at i h1, List.getD_eq_getElem?_getD, h]
  rfl
theorem txG (g : Nat) : txL.length + 2 + (5 + g) = 33 + g := by
  show 26 + 2 + (5 + g) = _
  omega
theorem txR {g : Nat} {M : Mem} {s : St} (h : RX (40 + g) M s) : RX (txL.length + 2 + (5 + g)) M s := RX_le h (by rw [txG]; omega)
theorem jc_of1 {L : Nat} {xs : Nat → Int32} {k0 k : Nat} {as : List Value} {S : JSt} {Q : Int32 → Mem → Prop} {t : Nat × Bool × Nat × (Nat → Int32)} (h : JCall L xs k as S.1 [t] Q) (ht : subT S.2.1 [t]) (hl : Nat.blt (jlev k) (jlev k0) = true) : jcl L xs k0 k as S Q := ⟨blt_lt hl, [t], ht, h⟩
set_option maxHeartbeats 4000000 in
set_option maxRecDepth 10000 in
theorem js_built {L : Nat} {xs : Nat → Int32} {M : Mem} {s : St} {g : Nat} (hL : L ≤ 260) (hR : RX (200 + g) M s) (hB : BT s 0 20 0) (hc : sCo s = 0) : JCall L xs 11 [.ref 0, .ref 950] M [] (fun x M' => x = 1 ∧ ∃ s1, RX g M' s1 ∧ BF s1 (cN L xs 0 % 5) (sN0 L xs)) := by
  refine jcall_of rfl rfl (fun Bd H => ?_)
  have hst := sN0_le (L := L) (xs := xs)
  have text : ∀ (M : Mem) (s : St), RX (40 + g) M s → BT s (cN L xs 0 % 5) (sN0 L xs) 8 → Bd 184 [(0, .ref 0), (1, .ref 950), (2, .int (nI 8))] [.ref 3182] (M, [(3182, true, 26, fun _ => 0)], 0) := by
    intro M s hR hB
    have e0 : Bd 334 [(0, .ref 0), (1, .ref 950), (2, .int (nI 8))] [.ref 3182] (M, [(3182, true, 26, fA 26)], 0) := by
      refine H.1 400 _ _ _ _ (fun B vc sc Z hBB hV hS hZ => ?_)
      (conv => whnf)
      refine ⟨true, 26, fA 26, rfl, ?_⟩
      (conv => whnf)
      refine hS 9 [.ref 0, .ref 3182, .int (nI txL.length)] (M, [(3182, true, 26, fA 26)], 0) _ _ (jc_of1 (S := (M, [(3182, true, 26, fA 26)], 0)) (js_tell (s := s) (a := 3182) (w := true) (f := fA 26) (bs := txL) (g := 5 + g) (txR hR) (by decide) (by decide) fB_ok hB.2.2.2.2.2.2.1 (by omega) (by omega)) (List.Sublist.refl _) rfl) (fun x M' e => ?_)
      obtain ⟨rfl, hR⟩ := e
      (conv => whnf); refine ⟨fun q3 => ?_, fun q3 => ?_⟩
      · exact absurd q3 (show ¬ (1 : Int32) = 0 by decide)
      · (conv => whnf); refine hV _ _ _ _ _ (v_law (g := 4 + g) (RX_le hR (by omega))) (fun r M' e => ?_); obtain ⟨rfl, hR⟩ := e
        obtain ⟨e1, ls, e2⟩ := law_at (s := wTp s txL) rfl
        rw [e1]
        rw [e2] at hR
        (conv => whnf); refine ⟨fun q4 => ?_, fun q4 => ?_⟩
        · exact absurd rfl q4
        · conv => whnf
          exact ⟨Or.inr rfl, hZ _ _ ⟨rfl, _, RX_le hR (by omega), hB.1, hB.2.1, hB.2.2.1, hB.2.2.2.1, hB.2.2.2.2.1, hB.2.2.2.2.2.1⟩⟩
    have e1 : Bd 328 [(0, .ref 0), (1, .ref 950), (2, .int (nI 8))] [.ref 3182] (M, [(3182, true, 26, fA 25)], 0) := by
      refine H.1 400 _ _ _ _ (fun B vc sc Z hBB hV hS hZ => ?_)
      (conv => whnf); refine ⟨_, _, rfl, nI_vp (c := 25) (by decide) (by decide), ?_⟩
      exact hBB _ _ _ _ e0
    have e2 : Bd 322 [(0, .ref 0), (1, .ref 950), (2, .int (nI 8))] [.ref 3182] (M, [(3182, true, 26, fA 24)], 0) := by
      refine H.1 400 _ _ _ _ (fun B vc sc Z hBB hV hS hZ => ?_)
      (conv => whnf); refine ⟨_, _, rfl, nI_vp (c := 24) (by decide) (by decide), ?_⟩
      exact hBB _ _ _ _ e1
    have e3 : Bd 316 [(0, .ref 0), (1, .ref 950), (2, .int (nI 8))] [.ref 3182] (M, [(3182, true, 26, fA 23)], 0) := by
      refine H.1 400 _ _ _ _ (fun B vc sc Z hBB hV hS hZ => ?_)
      (conv => whnf); refine ⟨_, _, rfl, nI_vp (c := 23) (by decide) (by decide), ?_⟩
      exact hBB _ _ _ _ e2
    have e4 : Bd 310 [(0, .ref 0), (1, .ref 950), (2, .int (nI 8))] [.ref 3182] (M, [(3182, true, 26, fA 22)], 0) := by
      refine H.1 400 _ _ _ _ (fun B vc sc Z hBB hV hS hZ => ?_)
      (conv => whnf); refine ⟨_, _, rfl, nI_vp (c := 22) (by decide) (by decide), ?_⟩
      exact hBB _ _ _ _ e3
    have e5 : Bd 304 [(0, .ref 0), (1, .ref 950), (2, .int (nI 8))] [.ref 3182] (M, [(3182, true, 26, fA 21)], 0) := by
      refine H.1 400 _ _ _ _ (fun B vc sc Z hBB hV hS hZ => ?_)
      (conv => whnf); refine ⟨_, _, rfl, nI_vp (c := 21) (by decide) (by decide), ?_⟩
      exact hBB _ _ _ _ e4
    have e6 : Bd 298 [(0, .ref 0), (1, .ref 950), (2, .int (nI 8))] [.ref 3182] (M, [(3182, true, 26, fA 20)], 0) := by
      refine H.1 400 _ _ _ _ (fun B vc sc Z hBB hV hS hZ => ?_)
      (conv => whnf); refine ⟨_, _, rfl, nI_vp (c := 20) (by decide) (by decide), ?_⟩
      exact hBB _ _ _ _ e5
    have e7 : Bd 292 [(0, .ref 0), (1, .ref 950), (2, .int (nI 8))] [.ref 3182] (M, [(3182, true, 26, fA 19)], 0) := by
      refine H.1 400 _ _ _ _ (fun B vc sc Z hBB hV hS hZ => ?_)
      (conv => whnf); refine ⟨_, _, rfl, nI_vp (c := 19) (by decide) (by decide), ?_⟩
      exact hBB _ _ _ _ e6
    have e8 : Bd 286 [(0, .ref 0), (1, .ref 950), (2, .int (nI 8))] [.ref 3182] (M, [(3182, true, 26, fA 18)], 0) := by
      refine H.1 400 _ _ _ _ (fun B vc sc Z hBB hV hS hZ => ?_)
      (conv => whnf); refine ⟨_, _, rfl, nI_vp (c := 18) (by decide) (by decide), ?_⟩
      exact hBB _ _ _ _ e7
    have e9 : Bd 280 [(0, .ref 0), (1, .ref 950), (2, .int (nI 8))] [.ref 3182] (M, [(3182, true, 26, fA 17)], 0) := by
      refine H.1 400 _ _ _ _ (fun B vc sc Z hBB hV hS hZ => ?_)
      (conv => whnf); refine ⟨_, _, rfl, nI_vp (c := 17) (by decide) (by decide), ?_⟩
      exact hBB _ _ _ _ e8
    have e10 : Bd 274 [(0, .ref 0), (1, .ref 950), (2, .int (nI 8))] [.ref 3182] (M, [(3182, true, 26, fA 16)], 0) := by
      refine H.1 400 _ _ _ _ (fun B vc sc Z hBB hV hS hZ => ?_)
      (conv => whnf); refine ⟨_, _, rfl, nI_vp (c := 16) (by decide) (by decide), ?_⟩
      exact hBB _ _ _ _ e9
    have e11 : Bd 268 [(0, .ref 0), (1, .ref 950), (2, .int (nI 8))] [.ref 3182] (M, [(3182, true, 26, fA 15)], 0) := by
      refine H.1 400 _ _ _ _ (fun B vc sc Z hBB hV hS hZ => ?_)
      (conv => whnf); refine ⟨_, _, rfl, nI_vp (c := 15) (by decide) (by decide), ?_⟩
      exact hBB _ _ _ _ e10
    have e12 : Bd 262 [(0, .ref 0), (1, .ref 950), (2, .int (nI 8))] [.ref 3182] (M, [(3182, true, 26, fA 14)], 0) := by
      refine H.1 400 _ _ _ _ (fun B vc sc Z hBB hV hS hZ => ?_)
      (conv => whnf); refine ⟨_, _, rfl, nI_vp (c := 14) (by decide) (by decide), ?_⟩
      exact hBB _ _ _ _ e11
    have e13 : Bd 256 [(0, .ref 0), (1, .ref 950), (2, .int (nI 8))] [.ref 3182] (M, [(3182, true, 26, fA 13)], 0) := by
      refine H.1 400 _ _ _ _ (fun B vc sc Z hBB hV hS hZ => ?_)
      (conv => whnf); refine ⟨_, _, rfl, nI_vp (c := 13) (by decide) (by decide), ?_⟩
      exact hBB _ _ _ _ e12
    have e14 : Bd 250 [(0, .ref 0), (1, .ref 950), (2, .int (nI 8))] [.ref 3182] (M, [(3182, true, 26, fA 12)], 0) := by
      refine H.1 400 _ _ _ _ (fun B vc sc Z hBB hV hS hZ => ?_)
      (conv => whnf); refine ⟨_, _, rfl, nI_vp (c := 12) (by decide) (by decide), ?_⟩
      exact hBB _ _ _ _ e13
    have e15 : Bd 244 [(0, .ref 0), (1, .ref 950), (2, .int (nI 8))] [.ref 3182] (M, [(3182, true, 26, fA 11)], 0) := by
      refine H.1 400 _ _ _ _ (fun B vc sc Z hBB hV hS hZ => ?_)
      (conv => whnf); refine ⟨_, _, rfl, nI_vp (c := 11) (by decide) (by decide), ?_⟩
      exact hBB _ _ _ _ e14
    have e16 : Bd 238 [(0, .ref 0), (1, .ref 950), (2, .int (nI 8))] [.ref 3182] (M, [(3182, true, 26, fA 10)], 0) := by
      refine H.1 400 _ _ _ _ (fun B vc sc Z hBB hV hS hZ => ?_)
      (conv => whnf); refine ⟨_, _, rfl, nI_vp (c := 10) (by decide) (by decide), ?_⟩
      exact hBB _ _ _ _ e15
    have e17 : Bd 232 [(0, .ref 0), (1, .ref 950), (2, .int (nI 8))] [.ref 3182] (M, [(3182, true, 26, fA 9)], 0) := by
      refine H.1 400 _ _ _ _ (fun B vc sc Z hBB hV hS hZ => ?_)
      (conv => whnf); refine ⟨_, _, rfl, nI_vp (c := 9) (by decide) (by decide), ?_⟩
      exact hBB _ _ _ _ e16
    have e18 : Bd 226 [(0, .ref 0), (1, .ref 950), (2, .int (nI 8))] [.ref 3182] (M, [(3182, true, 26, fA 8)], 0) := by
      refine H.1 400 _ _ _ _ (fun B vc sc Z hBB hV hS hZ => ?_)
      (conv => whnf); refine ⟨_, _, rfl, nI_vp (c := 8) (by decide) (by decide), ?_⟩
      exact hBB _ _ _ _ e17
    have e19 : Bd 220 [(0, .ref 0), (1, .ref 950), (2, .int (nI 8))] [.ref 3182] (M, [(3182, true, 26, fA 7)], 0) := by
      refine H.1 400 _ _ _ _ (fun B vc sc Z hBB hV hS hZ => ?_)
      (conv => whnf); refine ⟨_, _, rfl, nI_vp (c := 7) (by decide) (by decide), ?_⟩
      exact hBB _ _ _ _ e18
    have e20 : Bd 214 [(0, .ref 0), (1, .ref 950), (2, .int (nI 8))] [.ref 3182] (M, [(3182, true, 26, fA 6)], 0) := by
      refine H.1 400 _ _ _ _ (fun B vc sc Z hBB hV hS hZ => ?_)
      (conv => whnf); refine ⟨_, _, rfl, nI_vp (c := 6) (by decide) (by decide), ?_⟩
      exact hBB _ _ _ _ e19
    have e21 : Bd 209 [(0, .ref 0), (1, .ref 950), (2, .int (nI 8))] [.ref 3182] (M, [(3182, true, 26, fA 5)], 0) := by
      refine H.1 400 _ _ _ _ (fun B vc sc Z hBB hV hS hZ => ?_)
      (conv => whnf); refine ⟨_, _, rfl, nI_vp (c := 5) (by decide) (by decide), ?_⟩
      exact hBB _ _ _ _ e20
    have e22 : Bd 204 [(0, .ref 0), (1, .ref 950), (2, .int (nI 8))] [.ref 3182] (M, [(3182, true, 26, fA 4)], 0) := by
      refine H.1 400 _ _ _ _ (fun B vc sc Z hBB hV hS hZ => ?_)
      (conv => whnf); refine ⟨_, _, rfl, nI_vp (c := 4) (by decide) (by decide), ?_⟩
      exact hBB _ _ _ _ e21
    have e23 : Bd 199 [(0, .ref 0), (1, .ref 950), (2, .int (nI 8))] [.ref 3182] (M, [(3182, true, 26, fA 3)], 0) := by
      refine H.1 400 _ _ _ _ (fun B vc sc Z hBB hV hS hZ => ?_)
      (conv => whnf); refine ⟨_, _, rfl, nI_vp (c := 3) (by decide) (by decide), ?_⟩
      exact hBB _ _ _ _ e22
    have e24 : Bd 194 [(0, .ref 0), (1, .ref 950), (2, .int (nI 8))] [.ref 3182] (M, [(3182, true, 26, fA 2)], 0) := by
      refine H.1 400 _ _ _ _ (fun B vc sc Z hBB hV hS hZ => ?_)
      (conv => whnf); refine ⟨_, _, rfl, nI_vp (c := 2) (by decide) (by decide), ?_⟩
      exact hBB _ _ _ _ e23
    have e25 : Bd 189 [(0, .ref 0), (1, .ref 950), (2, .int (nI 8))] [.ref 3182] (M, [(3182, true, 26, fA 1)], 0) := by
      refine H.1 400 _ _ _ _ (fun B vc sc Z hBB hV hS hZ => ?_)
      (conv => whnf); refine ⟨_, _, rfl, nI_vp (c := 1) (by decide) (by decide), ?_⟩
      exact hBB _ _ _ _ e24
    have e26 : Bd 184 [(0, .ref 0), (1, .ref 950), (2, .int (nI 8))] [.ref 3182] (M, [(3182, true, 26, fA 0)], 0) := by
      refine H.1 400 _ _ _ _ (fun B vc sc Z hBB hV hS hZ => ?_)
      (conv => whnf); refine ⟨_, _, rfl, nI_vp (c := 0) (by decide) (by decide), ?_⟩
      exact hBB _ _ _ _ e25
    exact e26
  have doors : ∀ (m w : Nat) (M : Mem) (s : St), w + m = 8 → RX (m + 40 + g) M s → BT s (cN L xs 0 % 5) (sN0 L xs) w → Bd 140 [(0, .ref 0), (1, .ref 950), (2, .int (nI w))] [] (M, [], 1) := by
    intro m
    induction m with
    | zero =>
      intro w M s hw hR hB
      obtain rfl : w = 8 := by omega
      have ew := nI_v (n := 8) (by omega)
      refine H.1 400 _ _ _ _ (fun B vc sc Z hBB hV hS hZ => ?_)
      (conv => whnf); refine ⟨fun q => ?_, fun q => ?_⟩
      · (conv => whnf); refine hS _ _ _ _ _ (jc_of (js_hasLaw hL) rfl) (fun x M' e => ?_); obtain ⟨hx, rfl⟩ := e
        (conv => whnf); refine ⟨fun q2 => ?_, fun q2 => ?_⟩
        · (conv => whnf)
          refine ⟨⟨by decide, by decide⟩, ?_⟩
          exact hBB _ _ _ _ (text _ s (RX_le hR (by omega)) hB)
        · conv => whnf
          exact ⟨Or.inr rfl, hZ _ _ ⟨rfl, s, RX_le hR (by omega), hB.1, hB.2.1, hB.2.2.1, hB.2.2.2.1, hB.2.2.2.2.1, hB.2.2.2.2.2.1⟩⟩
      · simp only [c_lt, c_gt, c_le, c_ge, c_eq, c_ne, b2_z, b2_nz, b2_i, Classical.not_not, t0, t1, Nat.reduceMod, Nat.reduceDiv, Int.reduceAdd, Int.reduceNeg, Nat.reduceAdd, kv_0, kv_1, kv_2, kv_3, kv_4, kv_5, kv_6, kv_7, kv_8, kv_9, kv_10, kv_11, kv_12, kv_13, kv_14, kv_15, kv_16, kv_17, kv_18, kv_19, kv_20, kv_21, kv_22, kv_23, kv_24, kv_25, kv_26, kv_37, kv_40, kv_41, kv_42, kv_43, kv_45, kv_47, kv_48, kv_50, kv_51, kv_52, kv_61, kv_97, kv_99, kv_100, kv_102, kv_107, kv_108, kv_109, kc_0, kc_1, kc_2, kc_3, kc_4, kc_5, kc_6, kc_7, kc_8, kc_9, kc_10, kc_11, kc_12, kc_13, kc_14, kc_15, kc_16, kc_17, kc_18, kc_19, kc_20, kc_21, kc_22, kc_23, kc_24, kc_25, kc_26, kc_37, kc_40, kc_41, kc_42, kc_43, kc_45, kc_47, kc_48, kc_50, kc_51, kc_52, kc_61, kc_97, kc_99, kc_100, kc_102, kc_107, kc_108, kc_109] at q
        rw [ew] at q
        omega
    | succ m ih =>
      intro w M s hw hR hB
      have ew := nI_v (n := w) (by omega)
      refine H.1 400 _ _ _ _ (fun B vc sc Z hBB hV hS hZ => ?_)
      (conv => whnf); refine ⟨fun q => ?_, fun q => ?_⟩
      · simp only [c_lt, c_gt, c_le, c_ge, c_eq, c_ne, b2_z, b2_nz, b2_i, Classical.not_not, t0, t1, Nat.reduceMod, Nat.reduceDiv, Int.reduceAdd, Int.reduceNeg, Nat.reduceAdd, kv_0, kv_1, kv_2, kv_3, kv_4, kv_5, kv_6, kv_7, kv_8, kv_9, kv_10, kv_11, kv_12, kv_13, kv_14, kv_15, kv_16, kv_17, kv_18, kv_19, kv_20, kv_21, kv_22, kv_23, kv_24, kv_25, kv_26, kv_37, kv_40, kv_41, kv_42, kv_43, kv_45, kv_47, kv_48, kv_50, kv_51, kv_52, kv_61, kv_97, kv_99, kv_100, kv_102, kv_107, kv_108, kv_109, kc_0, kc_1, kc_2, kc_3, kc_4, kc_5, kc_6, kc_7, kc_8, kc_9, kc_10, kc_11, kc_12, kc_13, kc_14, kc_15, kc_16, kc_17, kc_18, kc_19, kc_20, kc_21, kc_22, kc_23, kc_24, kc_25, kc_26, kc_37, kc_40, kc_41, kc_42, kc_43, kc_45, kc_47, kc_48, kc_50, kc_51, kc_52, kc_61, kc_97, kc_99, kc_100, kc_102, kc_107, kc_108, kc_109] at q
        rw [ew] at q
        omega
      · (conv => whnf); refine hS _ _ _ _ _ (jc_of (js_door (w := w) hL (by omega)) rfl) (fun x M' e => ?_); obtain ⟨⟨v, rfl, hv1, hv2⟩, rfl⟩ := e
        (conv => whnf); refine hV _ _ _ _ _ (v_mend (g := m + 40 + g) (RX_le hR (by omega))) (fun r M' e => ?_); obtain ⟨rfl, hR⟩ := e
        obtain ⟨e1, e2⟩ := mend_do (v := v) hB (by omega) ⟨hv1, hv2⟩
        rw [e1]
        have e3 : nI w + cI 1 = nI (w + 1) := nI_add w 1
        (conv => whnf); refine ⟨fun q2 => ?_, fun q2 => ?_⟩
        · (conv => whnf)
          rw [e3]
          exact hBB _ _ _ _ (Jsub H _ _ (sL_cons rfl (sL_cons rfl (sL_cons rfl sL_nil))) (List.Sublist.refl _) (ih (w + 1) _ _ (by omega) hR e2))
        · exact absurd rfl q2
  have numbers : ∀ (M : Mem) (s : St), RX (60 + g) M s → BT s (cN L xs 0 % 5) 20 0 → sCo s = 0 → ∀ (r : Int32), r.toInt = ((cN L xs 0 % 5 : Nat) : Int) → Bd 2 [(0, .ref 0), (1, .ref 950), (2, .int r)] [] (M, [], 1) := by
    intro M s hR hB hc r hr
    have e1 := nI_v (n := cN L xs 0 % 5) (by omega)
    refine H.1 400 _ _ _ _ (fun B vc sc Z hBB hV hS hZ => ?_)
    (conv => whnf); refine hS _ _ _ _ _ (jc_of (js_ricks hL) rfl) (fun x M' e => ?_); obtain ⟨rfl, rfl⟩ := e
    (conv => whnf)
    rw [min4 (by omega)]
    refine ⟨fun q => ?_, fun q => ?_⟩
    · (conv => whnf); refine hS _ _ _ _ _ (jc_of (js_cold hL) rfl) (fun x M' e => ?_); obtain ⟨⟨v, rfl, hv⟩, rfl⟩ := e
      (conv => whnf); refine hV _ _ _ _ _ (v_mend (g := 59 + g) (RX_le hR (by omega))) (fun r M' e => ?_); obtain ⟨rfl, hR⟩ := e
      obtain ⟨e2, e3⟩ := mend_co (v := v) hB hc hv
      rw [e2]
      (conv => whnf); refine ⟨fun q2 => ?_, fun q2 => ?_⟩
      · exact absurd rfl q2
      · (conv => whnf); refine hS _ _ _ _ _ (jc_of (js_stand hL) rfl) (fun x M' e => ?_); obtain ⟨rfl, rfl⟩ := e
        (conv => whnf); refine hV _ _ _ _ _ (v_mend (g := 58 + g) (RX_le hR (by omega))) (fun r M' e => ?_); obtain ⟨rfl, hR⟩ := e
        obtain ⟨e4, e5⟩ := mend_st e3 hst
        rw [e4]
        (conv => whnf); refine ⟨fun q3 => ?_, fun q3 => ?_⟩
        · conv => whnf
          have h0 := doors 8 0 _ _ (by omega) (RX_le hR (by omega)) e5
          exact hBB _ _ _ _ (Jsub H _ _ (sL_cons rfl (sL_cons rfl (sL_cons rfl sL_nil))) (List.Sublist.refl _) h0)
        · exact absurd rfl q3
    · simp only [c_lt, c_gt, c_le, c_ge, c_eq, c_ne, b2_z, b2_nz, b2_i, Classical.not_not, t0, t1, Nat.reduceMod, Nat.reduceDiv, Int.reduceAdd, Int.reduceNeg, Nat.reduceAdd, kv_0, kv_1, kv_2, kv_3, kv_4, kv_5, kv_6, kv_7, kv_8, kv_9, kv_10, kv_11, kv_12, kv_13, kv_14, kv_15, kv_16, kv_17, kv_18, kv_19, kv_20, kv_21, kv_22, kv_23, kv_24, kv_25, kv_26, kv_37, kv_40, kv_41, kv_42, kv_43, kv_45, kv_47, kv_48, kv_50, kv_51, kv_52, kv_61, kv_97, kv_99, kv_100, kv_102, kv_107, kv_108, kv_109, kc_0, kc_1, kc_2, kc_3, kc_4, kc_5, kc_6, kc_7, kc_8, kc_9, kc_10, kc_11, kc_12, kc_13, kc_14, kc_15, kc_16, kc_17, kc_18, kc_19, kc_20, kc_21, kc_22, kc_23, kc_24, kc_25, kc_26, kc_37, kc_40, kc_41, kc_42, kc_43, kc_45, kc_47, kc_48, kc_50, kc_51, kc_52, kc_61, kc_97, kc_99, kc_100, kc_102, kc_107, kc_108, kc_109] at q
      rw [hr, e1] at q
      omega
  have hours : ∀ (r G : Nat), r < 4 → (∀ (M : Mem) (s : St), RX G M s → BT s (r + 1) 20 0 → sCo s = 0 → Bd 2 [(0, .ref 0), (1, .ref 950), (2, .int (nI (r + 1)))] [] (M, [], 1)) →
      ∀ (m k : Nat) (M : Mem) (s : St), k + m = mN L xs r → RX (2 * m + G) M s → BT s (r + 1) 20 0 → sCo s = 0 → hgt (sK s) r = k → Bd 26 [(0, .ref 0), (1, .ref 950), (2, .int (nI r)), (3, .int (nI k))] [] (M, [], 1) := by
    intro r G hr next m
    have hmN := (mN_i (L := L) (xs := xs) (r := r)).2
    have en := nI_v (n := mN L xs r) (by omega)
    have er : nI r + cI 1 = nI (r + 1) := nI_add r 1
    induction m with
    | zero =>
      intro k M s hk hR hB hc hh
      have ek := nI_v (n := k) (by omega)
      refine H.1 400 _ _ _ _ (fun B vc sc Z hBB hV hS hZ => ?_)
      (conv => whnf); refine hS _ _ _ _ _ (jc_of (js_many (r := r) hL hr) rfl) (fun x M' e => ?_); obtain ⟨rfl, rfl⟩ := e
      (conv => whnf); refine ⟨fun q => ?_, fun q => ?_⟩
      · (conv => whnf)
        rw [er]
        exact hBB _ _ _ _ (Jsub H _ _ (sL_cons rfl (sL_cons rfl (sL_cons rfl sL_nil))) (List.Sublist.refl _) (next _ _ (RX_le hR (by omega)) hB hc))
      · simp only [c_lt, c_gt, c_le, c_ge, c_eq, c_ne, b2_z, b2_nz, b2_i, Classical.not_not, t0, t1, Nat.reduceMod, Nat.reduceDiv, Int.reduceAdd, Int.reduceNeg, Nat.reduceAdd, kv_0, kv_1, kv_2, kv_3, kv_4, kv_5, kv_6, kv_7, kv_8, kv_9, kv_10, kv_11, kv_12, kv_13, kv_14, kv_15, kv_16, kv_17, kv_18, kv_19, kv_20, kv_21, kv_22, kv_23, kv_24, kv_25, kv_26, kv_37, kv_40, kv_41, kv_42, kv_43, kv_45, kv_47, kv_48, kv_50, kv_51, kv_52, kv_61, kv_97, kv_99, kv_100, kv_102, kv_107, kv_108, kv_109, kc_0, kc_1, kc_2, kc_3, kc_4, kc_5, kc_6, kc_7, kc_8, kc_9, kc_10, kc_11, kc_12, kc_13, kc_14, kc_15, kc_16, kc_17, kc_18, kc_19, kc_20, kc_21, kc_22, kc_23, kc_24, kc_25, kc_26, kc_37, kc_40, kc_41, kc_42, kc_43, kc_45, kc_47, kc_48, kc_50, kc_51, kc_52, kc_61, kc_97, kc_99, kc_100, kc_102, kc_107, kc_108, kc_109] at q
        rw [ek, en] at q
        omega
    | succ m ih =>
      intro k M s hk hR hB hc hh
      have ek := nI_v (n := k) (by omega)
      refine H.1 400 _ _ _ _ (fun B vc sc Z hBB hV hS hZ => ?_)
      (conv => whnf); refine hS _ _ _ _ _ (jc_of (js_many (r := r) hL hr) rfl) (fun x M' e => ?_); obtain ⟨rfl, rfl⟩ := e
      (conv => whnf); refine ⟨fun q => ?_, fun q => ?_⟩
      · simp only [c_lt, c_gt, c_le, c_ge, c_eq, c_ne, b2_z, b2_nz, b2_i, Classical.not_not, t0, t1, Nat.reduceMod, Nat.reduceDiv, Int.reduceAdd, Int.reduceNeg, Nat.reduceAdd, kv_0, kv_1, kv_2, kv_3, kv_4, kv_5, kv_6, kv_7, kv_8, kv_9, kv_10, kv_11, kv_12, kv_13, kv_14, kv_15, kv_16, kv_17, kv_18, kv_19, kv_20, kv_21, kv_22, kv_23, kv_24, kv_25, kv_26, kv_37, kv_40, kv_41, kv_42, kv_43, kv_45, kv_47, kv_48, kv_50, kv_51, kv_52, kv_61, kv_97, kv_99, kv_100, kv_102, kv_107, kv_108, kv_109, kc_0, kc_1, kc_2, kc_3, kc_4, kc_5, kc_6, kc_7, kc_8, kc_9, kc_10, kc_11, kc_12, kc_13, kc_14, kc_15, kc_16, kc_17, kc_18, kc_19, kc_20, kc_21, kc_22, kc_23, kc_24, kc_25, kc_26, kc_37, kc_40, kc_41, kc_42, kc_43, kc_45, kc_47, kc_48, kc_50, kc_51, kc_52, kc_61, kc_97, kc_99, kc_100, kc_102, kc_107, kc_108, kc_109] at q
        rw [ek, en] at q
        omega
      · (conv => whnf); refine hS _ _ _ _ _ (jc_of (js_layer (r := r) (k := k) (what := 1) hL hr (by omega) (by omega)) rfl) (fun x M' e => ?_); obtain ⟨⟨f, rfl, -, hf, -, -⟩, rfl⟩ := e
        (conv => whnf); refine hS _ _ _ _ _ (jc_of (js_layer (r := r) (k := k) (what := 0) hL hr (by omega) (by omega)) rfl) (fun x M' e => ?_); obtain ⟨⟨w, rfl, hw, -, -, -⟩, rfl⟩ := e
        (conv => whnf); refine hS _ _ _ _ _ (jc_of (js_layer (r := r) (k := k) (what := 2) hL hr (by omega) (by omega)) rfl) (fun x M' e => ?_); obtain ⟨⟨mk, rfl, -, -, hm, -⟩, rfl⟩ := e
        (conv => whnf)
        rw [cn_100, cn_10, nI_mul, nI_mul, nI_add, nI_add]
        refine hV _ _ _ _ _ (v_lay (g := 2 * m + 1 + G) (RX_le hR (by omega))) (fun v M' e => ?_)
        obtain ⟨rfl, hR⟩ := e
        have hk9 : k < 10 := by omega
        have z1 := (lay_step (g := 0) (M := M') hB hc hr hh hk9 (hf rfl) (hw rfl) (hm rfl) (a := 0) (by omega)).1
        rw [z1]
        (conv => whnf)
        refine ⟨fun q2 => absurd rfl q2, fun q2 => ?_⟩
        (conv => whnf); refine hS _ _ _ _ _ (jc_of (js_layer (r := r) (k := k) (what := 3) hL hr hk9 (by omega)) rfl) (fun x M' e => ?_); obtain ⟨⟨a, rfl, -, -, -, ha⟩, rfl⟩ := e
        (conv => whnf)
        rw [cn_16, nI_mul, nI_add]
        refine hV _ _ _ _ _ (v_mend (g := 2 * m + G) (RX_le hR (by omega))) (fun v M' e => ?_)
        obtain ⟨rfl, hR⟩ := e
        obtain ⟨-, z2, z3, z4, z5⟩ := lay_step (g := 0) (M := M') hB hc hr hh hk9 (hf rfl) (hw rfl) (hm rfl) (ha rfl)
        rw [z2]
        have e3 : nI k + cI 1 = nI (k + 1) := nI_add k 1
        (conv => whnf); refine ⟨fun q3 => ?_, fun q3 => ?_⟩
        · (conv => whnf)
          rw [e3]
          exact hBB _ _ _ _ (Jsub H _ _ (sL_cons rfl (sL_cons rfl (sL_cons rfl (sL_cons rfl sL_nil)))) (List.Sublist.refl _) (ih (k + 1) _ _ (by omega) hR z3 z4 z5))
        · exact absurd rfl q3
  have ricks : ∀ (m r : Nat) (M : Mem) (s : St), r + m = cN L xs 0 % 5 → RX (21 * m + 60 + g) M s → BT s r 20 0 → sCo s = 0 → Bd 2 [(0, .ref 0), (1, .ref 950), (2, .int (nI r))] [] (M, [], 1) := by
    intro m
    induction m with
    | zero =>
      intro r M s hr hR hB hc
      have er := nI_v (n := r) (by omega)
      obtain rfl : r = cN L xs 0 % 5 := by omega
      exact numbers M s (RX_le hR (by omega)) hB hc _ er
    | succ m ih =>
      intro r M s hr hR hB hc
      have er := nI_v (n := r) (by omega)
      have e1 := nI_v (n := cN L xs 0 % 5) (by omega)
      have hmN := (mN_i (L := L) (xs := xs) (r := r)).2
      refine H.1 400 _ _ _ _ (fun B vc sc Z hBB hV hS hZ => ?_)
      (conv => whnf); refine hS _ _ _ _ _ (jc_of (js_ricks hL) rfl) (fun x M' e => ?_); obtain ⟨rfl, rfl⟩ := e
      (conv => whnf)
      rw [min4 (by omega)]
      refine ⟨fun q => ?_, fun q => ?_⟩
      · simp only [c_lt, c_gt, c_le, c_ge, c_eq, c_ne, b2_z, b2_nz, b2_i, Classical.not_not, t0, t1, Nat.reduceMod, Nat.reduceDiv, Int.reduceAdd, Int.reduceNeg, Nat.reduceAdd, kv_0, kv_1, kv_2, kv_3, kv_4, kv_5, kv_6, kv_7, kv_8, kv_9, kv_10, kv_11, kv_12, kv_13, kv_14, kv_15, kv_16, kv_17, kv_18, kv_19, kv_20, kv_21, kv_22, kv_23, kv_24, kv_25, kv_26, kv_37, kv_40, kv_41, kv_42, kv_43, kv_45, kv_47, kv_48, kv_50, kv_51, kv_52, kv_61, kv_97, kv_99, kv_100, kv_102, kv_107, kv_108, kv_109, kc_0, kc_1, kc_2, kc_3, kc_4, kc_5, kc_6, kc_7, kc_8, kc_9, kc_10, kc_11, kc_12, kc_13, kc_14, kc_15, kc_16, kc_17, kc_18, kc_19, kc_20, kc_21, kc_22, kc_23, kc_24, kc_25, kc_26, kc_37, kc_40, kc_41, kc_42, kc_43, kc_45, kc_47, kc_48, kc_50, kc_51, kc_52, kc_61, kc_97, kc_99, kc_100, kc_102, kc_107, kc_108, kc_109] at q
        rw [er, e1] at q
        omega
      · have h4 : ¬ (sK s).length = 4 := by rw [hB.1]; omega
        (conv => whnf); refine hV _ _ _ _ _ (v_rick (g := 21 * m + 20 + 60 + g) (RX_le hR (by omega)) h4) (fun r M' e => ?_); obtain ⟨rfl, hR⟩ := e
        rw [hB.1]
        (conv => whnf); refine ⟨fun q2 => ?_, fun q2 => ?_⟩
        · (conv => whnf)
          refine hBB _ _ _ _ (Jsub H _ _ (sL_cons rfl (sL_cons rfl (sL_cons rfl (sL_cons rfl sL_nil)))) (List.Sublist.refl _) (hours r (21 * m + 60 + g) (by omega) (fun M s h1 h2 h3 => ih (r + 1) M s (by omega) h1 h2 h3) (mN L xs r) 0 _ _ (by omega) (RX_le hR (by omega)) ?_ hc ?_))
          · obtain ⟨b1, b2⟩ := hB
            exact ⟨by show (sK s ++ [[]]).length = _; rw [List.length_append, b1]; rfl, b2⟩
          · show hgt (sK s ++ [[]]) r = 0
            unfold hgt
            rw [List.getD_eq_getElem?_getD, List.getElem?_append_right (by rw [hB.1]; exact Nat.le_refl _), hB.1, Nat.sub_self]
            rfl
        · exact absurd rfl q2
  refine H.1 400 _ _ _ _ (fun B vc sc Z hBB hV hS hZ => ?_)
  conv => whnf
  exact hBB _ _ _ _ (Jsub H _ _ (sL_cons rfl (sL_cons rfl (sL_cons rfl sL_nil))) (List.Sublist.refl _) (ricks (cN L xs 0 % 5) 0 _ _ (by omega) (RX_le hR (by omega)) hB hc))
