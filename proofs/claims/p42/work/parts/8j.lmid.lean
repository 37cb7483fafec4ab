/-! the law's first part: cuts told, image made, winters in thought -/
theorem kw_24 : (cI 24).toInt = 24 := by decide +kernel
theorem rowL_at {s : St} {vs : List Int64} (h : sSh s 0 = some (.inr (0, vs))) : rowL (sSh s 0) 0 = some vs := by
  rw [h]
  show (if (0 : Nat) = 0 then some vs else none) = some vs
  exact if_pos rfl
theorem winter_w {s : St} {vs : List Int64} (h : sSh s 0 = some (.inr (0, vs))) (hl : vs.length ≤ 24) {w : Nat} (hw : w ≤ 4) : aWinter s (cI 0) (cI 24) (nI w) = wnt (wrun (envS s) vs 0 (w0 (sK s))) (w : Int) := by
  unfold aWinter
  rw [kv_0, kw_24, nI_v (n := w) (by omega), if_pos (by omega)]
  have e := rowL_at h
  show (match rowL (sSh s 0) 0 with | some l => wnt (wrun (envS s) (l.take 24) 0 (w0 (sK s))) (w : Int) | none => rfu (sSh s 0) 0) = _
  rw [e]
  show wnt (wrun (envS s) (vs.take 24) 0 (w0 (sK s))) (w : Int) = _
  rw [List.take_of_length_le hl]
theorem leanThen_w {s : St} {vs : List Int64} (h : sSh s 0 = some (.inr (0, vs))) (hl : vs.length ≤ 24) {r w : Nat} (h4 : (sK s).length ≤ 4) (hr : r < (sK s).length) (hw : w < 2) : aLeanThen s (cI 0) (cI 24) (nI r) (nI w) = if w = 0 then lX (envS s) (wrun (envS s) vs 0 (w0 (sK s))).1 r else lY (envS s) (wrun (envS s) vs 0 (w0 (sK s))).1 r := by
  unfold aLeanThen
  rw [kv_0, kw_24, nI_v (n := w) (by omega), nI_v (n := r) (by omega), if_pos (by omega)]
  have e := rowL_at h
  show (match rowL (sSh s 0) 0 with | some l => if (w : Int) = 0 then lX (envS s) (wrun (envS s) (l.take 24) 0 (w0 (sK s))).1 r else lY (envS s) (wrun (envS s) (l.take 24) 0 (w0 (sK s))).1 r | none => voidI) = _
  rw [e]
  show (if (w : Int) = 0 then lX (envS s) (wrun (envS s) (vs.take 24) 0 (w0 (sK s))).1 r else lY (envS s) (wrun (envS s) (vs.take 24) 0 (w0 (sK s))).1 r) = _
  rw [List.take_of_length_le hl]
  by_cases e : w = 0
  · rw [if_pos (by omega), if_pos e]
  · rw [if_neg (by omega), if_neg e]
def yL (yf : Nat → Nat) (len : Nat) : List Int64 := (List.range len).map (fun j => lN (yf j))
theorem yL_len {yf : Nat → Nat} {len : Nat} : (yL yf len).length = len := by
  unfold yL
  rw [List.length_map, List.length_range]
theorem yL_at {yf : Nat → Nat} {len j : Nat} {v : Int64} (h : (yL yf len)[j]? = some v) : j < len ∧ v = lN (yf j) := by
  have h1 : j < (yL yf len).length := (List.getElem?_eq_some_iff.mp h).1
  rw [yL_len] at h1
  unfold yL at h
  rw [List.getElem?_map, List.getElem?_range h1] at h
  exact ⟨h1, (Option.some.inj h).symm⟩
theorem yL_drop {yf : Nat → Nat} {len j : Nat} (h : j < len) : (yL yf len).drop j = lN (yf j) :: (yL yf len).drop (j + 1) := by
  rw [List.drop_eq_getElem_cons (by rw [yL_len]; exact h)]
  congr 1
  unfold yL
  simp
section LAW
variable {L : Nat} {xs : Nat → Int32} {Bd : Nat → Lv → List Value → JSt → Prop}
set_option maxRecDepth 100000 in
set_option maxHeartbeats 4000000 in
theorem seg_mid (H : JOk L xs 12 (jcl L xs 12) Bd (fun x _ => x = 1)) (hD : JDue Bd) (hL : L ≤ 260) {len n st g : Nat} {yf : Nat → Nat} {fv : Nat → Int32} {M : Mem} {s : St} (hlen : len ≤ 10) (hfy : ∀ j, j < len → fv j = nI (yf j) ∧ yf j < 64 ∧ yf j / 16 < n ∧ yf j % 16 < 6) (hB : BF s n st) (hst : st ≤ 99) (hR : RX 3000 M s) (hg : 50 ≤ g) :
    Bd 91 [(0, .ref 950), (1, .ref 0), (2, .int (nI n)), (3, .int (nI st)), (4, .ref 3038)] [] (M, [(3038, true, len, fv)], g) := by
  obtain ⟨g, rfl⟩ : ∃ g', g = g' + 5 := ⟨g - 5, by omega⟩
  obtain ⟨h4, h12, hok, hnum⟩ := hR.ok
  obtain ⟨b1, b2, b3, b4, b5, b6⟩ := hB
  have hput := js_put (L := L) (xs := xs) (M := M) (s := s) (a := 3038) (i := 0) (t := 0) (w := true) (f := fv) (vs := yL yf len) (g := 2900) (RX_le hR (by rw [yL_len]; omega)) (by rw [yL_len]; omega) (by omega) (by omega) (fun j v hj => by
      obtain ⟨h1, rfl⟩ := yL_at hj
      obtain ⟨h2, h3, -, -⟩ := hfy j h1
      rw [h2]
      exact nl_64b _ h3) (fun v hv => by
      obtain ⟨j, hj⟩ := List.getElem?_of_mem hv
      obtain ⟨h1, rfl⟩ := yL_at hj
      exact nrw_b0 _ (hfy j h1).2.1) (by omega) (by omega)
  rw [yL_len] at hput
  have hbase : Base (envS s) (sK s) (sDe s) (aImage (wSh s (upD (sSh s) 0 (some (.inr (0, yL yf len)))))) := by
    refine ⟨rfl, rfl, b6, ?_⟩
    show some (sK s, sDe s, sDy s) = _
    rw [b6]
  have hde : sDe (aImage (wSh s (upD (sSh s) 0 (some (.inr (0, yL yf len)))))) = sDe s := rfl
  have hsh : sSh (aImage (wSh s (upD (sSh s) 0 (some (.inr (0, yL yf len)))))) 0 = some (.inr (0, yL yf len)) := by
    exact if_pos (e := sSh s 0) (show (0 : Nat) = 0 from rfl)
  have hst3 : nI st = (envS s).2.2.1 := by rw [← b2]; rfl
  have hE : 0 ≤ (envS s).2.2.1.toInt ∧ (envS s).2.2.1.toInt ≤ 99 := by
    rw [← hst3, nI_v (by omega)]
    omega
  refine H.1 400 _ _ _ _ (fun B vc sc Z hBB hV hS hZ => ?_)
  (conv => whnf)
  refine hS 10 [.ref 0, .int (nI 0), .int (nI 0), .ref 3038] (M, [(3038, true, len, fv)], g + 5) _ _ (jc_of1 (S := (M, [(3038, true, len, fv)], g + 5)) hput (List.Sublist.refl _) rfl) (fun x M' e => ?_)
  obtain ⟨rfl, hR⟩ := e
  (conv => whnf)
  refine ⟨fun q => absurd (show (1 : Int32) = 0 from q) (by decide), fun _ => ?_⟩
  (conv => whnf); refine hV _ _ _ _ _ (v_image (g := 2899) hR) (fun r M' e => ?_); obtain ⟨rfl, hR⟩ := e
  rw [show sDy (wSh s (upD (sSh s) 0 (some (.inr (0, yL yf len))))) = 0 from b6]
  (conv => whnf)
  refine ⟨fun _ => ?_, fun q => absurd rfl q⟩
  generalize aImage (wSh s (upD (sSh s) 0 (some (.inr (0, yL yf len))))) = s3 at hR hbase hde hsh
  have hW : ∀ w : Nat, w ≤ 4 → aWinter s3 (cI 0) (cI 24) (nI w) = wnt (wrun (envS s) (yL yf len) 0 (w0 (sK s))) (w : Int) := fun w hw => by
    rw [winter_w hsh (by rw [yL_len]; omega) hw, hbase.1, hbase.2.1]
  have hLT : ∀ r w, r < n → w < 2 → aLeanThen s3 (cI 0) (cI 24) (nI r) (nI w) = (fun r w => if w = 0 then lX (envS s) (wrun (envS s) (yL yf len) 0 (w0 (sK s))).1 r else lY (envS s) (wrun (envS s) (yL yf len) 0 (w0 (sK s))).1 r) r w := fun r w hr hw => by
    rw [leanThen_w hsh (by rw [yL_len]; omega) (by rw [hbase.1]; exact h4) (by rw [hbase.1, b1]; exact hr) hw, hbase.1, hbase.2.1]
  generalize hWd : wrun (envS s) (yL yf len) 0 (w0 (sK s)) = W at hW hLT
  have hw0 : aWinter s3 (cI 0) (cI 24) (cI 0) = W.2.1 := hW 0 (by omega)
  have hw1 : aWinter s3 (cI 0) (cI 24) (cI 1) = W.2.2.1 := hW 1 (by omega)
  have hw2 : aWinter s3 (cI 0) (cI 24) (cI 2) = W.2.2.2.1 := hW 2 (by omega)
  have hw3 : aWinter s3 (cI 0) (cI 24) (cI 3) = W.2.2.2.2.1 := hW 3 (by omega)
  have l0 : aLed s3 (cI 0) = sDe s 0 := by unfold aLed; rw [kv_0, if_pos (by omega), hde]; rfl
  subst b1
  have deed : ∀ M fd, RX 2880 M s3 → (∀ i, i < (sK s).length → ∀ j, j < 2 → fd i j = (fun r w => if w = 0 then lX (envS s) W.1 r else lY (envS s) W.1 r) i j) → Bd 208 (lvF (sK s).length (nI st) W.2.1 W.2.2.1 W.2.2.2.1 W.2.2.2.2.1) [] (M, dueT (sK s).length fd ++ [(3038, true, len, fv)], g) := by
    intro M fd hR hfd
    refine H.1 400 _ _ _ _ (fun B vc sc Z hBB hV hS hZ => ?_)
    (conv => whnf); refine hV _ _ _ _ _ (v_led (g := 2879) hR) (fun r M' e => ?_); obtain ⟨rfl, hR⟩ := e
    rw [l0]
    (conv => whnf)
    have hdd := seg_deed H (E := envS s) (rk0 := sK s) (de0 := sDe s) h4 (G := 2700) (g := g) (len := len) (yf := yf) (fv := fv) (T := dueT (sK s).length fd ++ [(3038, true, len, fv)]) (vs := yL yf len) (W := W) (v3 := nI st) (v10 := sDe s 0) hlen hfy (fun j hj => yL_drop hj) yL_len (lk_v h4) (fun M s9 c3 hR hw => ?_) len 0 M' s3 (w0 (sK s)) 0 (by omega) (RX_le hR (by omega)) ?_ (by rw [List.drop_zero]; exact hWd)
    · exact hBB _ _ _ _ (Jsub H _ _ (sL_cons rfl (sL_cons rfl (sL_cons rfl (sL_cons rfl (sL_cons rfl (sL_cons rfl (sL_cons rfl (sL_cons rfl (sL_cons rfl (sL_cons rfl (sL_cons rfl (sL_cons rfl (sL_cons rfl (sL_nil)))))))))))))) (List.Sublist.refl _) hdd)
    · obtain ⟨a1, a2, a3, a4, a5, a6, a7, a8, a9⟩ := id hw
      refine Jsub H _ _ (sL_cons rfl (sL_cons rfl (sL_cons rfl (sL_cons rfl (sL_cons rfl (sL_cons rfl (sL_cons rfl (sL_cons rfl (sL_cons rfl (sL_cons rfl (sL_nil))))))))))) (List.Sublist.refl _) (seg_led H (G := 2696) (n := (sK s).length) (c3 := c3) (v3 := nI st) (v5 := W.2.1) (v6 := W.2.2.1) (v7 := W.2.2.2.1) (v10 := sDe s 0) (T := dueT (sK s).length fd ++ [(3038, true, len, fv)]) (g := g) a3 a4 a5 a6 (by omega) ?_ (RX_le hR (by omega)) (fun M hR => ?_))
      · rcases a8 with ⟨z1, z2⟩ | ⟨z1, j, z2, z3⟩
        · rw [z1, kv_m2]; omega
        · rw [z3, nI_v (by omega)]; omega
      · refine seg_cmp H hD (E := envS s) (rk0 := sK s) (de0 := sDe s) h4 (G := 2600) (v3 := nI st) (s := s9) a1 (fun r hr => ?_) (fun r hr => ?_) (fun M hR => ?_) (sK s).length 0 M (by omega) (RX_le hR (by omega))
        · rw [a2, hfd r hr 0 (by omega)]; rfl
        · rw [a2, hfd r hr 1 (by omega)]; rfl
        · rw [hst3]
          exact seg_end H hL h4 h12 hok hE b3 (RX_le hR (by omega)) a1 (by omega)
    · exact ⟨hbase.away, hbase.1, by rw [hde], by rw [hde]; exact b3, by rw [hde]; exact b4, by rw [hde]; exact b5, Nat.le_refl _, Or.inl ⟨rfl, rfl⟩, Or.inl rfl⟩
  (conv => whnf); refine hV _ _ _ _ _ (v_winter (g := 2898) hR) (fun r M' e => ?_); obtain ⟨rfl, hR⟩ := e
  rw [hw0]
  (conv => whnf); refine hV _ _ _ _ _ (v_winter (g := 2897) hR) (fun r M' e => ?_); obtain ⟨rfl, hR⟩ := e
  rw [hw1]
  (conv => whnf); refine hV _ _ _ _ _ (v_winter (g := 2896) hR) (fun r M' e => ?_); obtain ⟨rfl, hR⟩ := e
  rw [hw2]
  (conv => whnf); refine hV _ _ _ _ _ (v_winter (g := 2895) hR) (fun r M' e => ?_); obtain ⟨rfl, hR⟩ := e
  rw [hw3]
  (conv => whnf)
  refine hBB _ _ _ _ (hD.1 _ (sK s).length 3038 len fv _ g h4 rfl (by omega) (by omega) ?_)
  refine H.1 400 _ _ _ _ (fun B vc sc Z hBB hV hS hZ => ?_)
  (conv => whnf)
  have h7 := seg_due H hD (s := s3) (n := (sK s).length) (g := g) (G := 2880) (R := [(3038, true, len, fv)]) (v3 := nI st) (v5 := W.2.1) (v6 := W.2.2.1) (v7 := W.2.2.2.1) (v8 := W.2.2.2.2.1) h4 hLT (fun M fd hR hfd => deed M fd (RX_le hR (by omega)) hfd) (sK s).length 0 M' (fun _ _ => 0) (by omega) (RX_le hR (by omega)) (fun i hi => absurd hi (Nat.not_lt_zero _))
  exact hBB _ _ _ _ (Jsub H _ _ (sL_cons rfl (sL_cons rfl (sL_cons rfl (sL_cons rfl (sL_cons rfl (sL_cons rfl (sL_cons rfl (sL_cons rfl (sL_cons rfl (sL_cons rfl (sL_cons rfl (sL_nil)))))))))))) (List.Sublist.refl _) h7)
end LAW
