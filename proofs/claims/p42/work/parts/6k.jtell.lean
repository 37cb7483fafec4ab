/-! the class's state, with room for g more calls; tell, put -/
def RX (g : Nat) (M : Mem) (s : St) : Prop := ∃ c, c + 60 * g ≤ 900000 ∧ RC c M s
theorem RX_le {g g' : Nat} {M : Mem} {s : St} (h : RX g M s) (hg : g' ≤ g) : RX g' M s := by
  obtain ⟨c, h1, h2⟩ := h
  exact ⟨c, by omega, h2⟩
theorem RX_call {g k : Nat} {as : List Value} {M : Mem} {s s' : St} {v : Value} (hR : RX (g + 1) M s) (h : ∀ c, c < 900000 → RC c M s → Call 250 k as M (RP c M v s')) : Call 250 k as M (fun r M' => r = some v ∧ RX g M' s') := by
  obtain ⟨c, h1, h2⟩ := hR
  exact Call_mono (h c (by omega) h2) (fun r M' e => ⟨e.1, c + 60, by omega, e.2.1⟩)
theorem RX.rc {g : Nat} {M : Mem} {s : St} (h : RX g M s) : ∃ c, RC c M s := by
  obtain ⟨c, -, h⟩ := h
  exact ⟨c, h⟩
/-- what every state is: at most four ricks of at most twelve proper layers; the numbers in their bounds -/
theorem RX.ok {g : Nat} {M : Mem} {s : St} (h : RX g M s) : (sK s).length ≤ 4 ∧ (∀ r, hgt (sK s) r ≤ 12) ∧ (∀ (r l : Nat) (q : Lyr), ((sK s).getD r [])[l]? = some q → okL q) ∧ numOk s := by
  obtain ⟨c, h⟩ := h.rc
  exact ⟨h.1.2.1, h.1.2.2.2.1, fun r l q hq => (h.1.2.2.2.2 r l q hq).1, h.2.2.2.1⟩
theorem v_feed {g : Nat} {M : Mem} {s : St} {x : Int32} (hR : RX (g + 1) M s) : Call 250 82 [.ref 0, .int x] M (fun r M' => r = some (.int (aFeed s x).1) ∧ RX g M' (aFeed s x).2) := RX_call hR (fun c hc h => pb_feed (d := 248) h)
theorem v_count {g : Nat} {M : Mem} {s : St} {x : Int32} (hR : RX (g + 1) M s) : Call 250 100 [.ref 0, .int x] M (fun r M' => r = some (.int (aCount s x)) ∧ RX g M' s) := RX_call hR (fun c hc h => pb_count (d := 246) h)
theorem v_row {g : Nat} {M : Mem} {s : St} {x t n : Int32} (hR : RX (g + 1) M s) : Call 250 98 [.ref 0, .int x, .int t, .int n] M (fun r M' => r = some (.int (aRow s x t n).1) ∧ RX g M' (aRow s x t n).2) := RX_call hR (fun c hc h => pb_row (d := 247) h)
theorem v_put {g : Nat} {M : Mem} {s : St} {x j : Int32} {y : Int64} (hR : RX (g + 1) M s) : Call 250 99 [.ref 0, .int x, .int j, .long y] M (fun r M' => r = some (.int (aPut s x j y).1) ∧ RX g M' (aPut s x j y).2) := RX_call hR (fun c hc h => pb_put (d := 247) h)
theorem v_lay {g : Nat} {M : Mem} {s : St} {r x : Int32} (hR : RX (g + 1) M s) : Call 250 79 [.ref 0, .int r, .int x] M (fun v M' => v = some (.int (aLay s r x).1) ∧ RX g M' (aLay s r x).2) := RX_call hR (fun c hc h => pb_lay (d := 245) h (by omega))
theorem v_mend {g : Nat} {M : Mem} {s : St} {x w v : Int32} (hR : RX (g + 1) M s) : Call 250 80 [.ref 0, .int x, .int w, .int v] M (fun r M' => r = some (.int (aMend s x w v).1) ∧ RX g M' (aMend s x w v).2) := RX_call hR (fun c hc h => pb_mend (d := 245) h (by omega))
theorem v_law {g : Nat} {M : Mem} {s : St} (hR : RX (g + 1) M s) : Call 250 83 [.ref 0] M (fun r M' => r = some (.int (aLaw s).1) ∧ RX g M' (aLaw s).2) := RX_call hR (fun c hc h => pb_law (d := 80) h)
theorem v_of {g : Nat} {M : Mem} {s : St} {x w : Int32} (hR : RX (g + 1) M s) : Call 250 81 [.ref 0, .int x, .int w] M (fun r M' => r = some (.int (aOf s x w)) ∧ RX g M' s) := RX_call hR (fun c hc h => pb_of (d := 247) h)
theorem v_keeps {g : Nat} {M : Mem} {s : St} {x : Int32} (hR : RX (g + 1) M s) : Call 250 84 [.ref 0, .int x] M (fun r M' => r = some (.int (aKeeps s x)) ∧ RX g M' s) := RX_call hR (fun c hc h => pb_keeps (d := 245) h)
theorem v_lean {g : Nat} {M : Mem} {s : St} {r w : Int32} (hR : RX (g + 1) M s) : Call 250 85 [.ref 0, .int r, .int w] M (fun v M' => v = some (.int (aLean s r w)) ∧ RX g M' s) := RX_call hR (fun c hc h => pb_lean (d := 244) h)
theorem v_winter {g : Nat} {M : Mem} {s : St} {x n w : Int32} (hR : RX (g + 1) M s) : Call 250 86 [.ref 0, .int x, .int n, .int w] M (fun r M' => r = some (.int (aWinter s x n w)) ∧ RX g M' s) := RX_call hR (fun c hc h => pb_winter (d := 242) h)
theorem v_leanThen {g : Nat} {M : Mem} {s : St} {x n r w : Int32} (hR : RX (g + 1) M s) : Call 250 87 [.ref 0, .int x, .int n, .int r, .int w] M (fun v M' => v = some (.int (aLeanThen s x n r w)) ∧ RX g M' s) := RX_call hR (fun c hc h => pb_leanThen (d := 242) h)
theorem v_order {g : Nat} {M : Mem} {s : St} {x r k : Int32} (hR : RX (g + 1) M s) : Call 250 88 [.ref 0, .int x, .int r, .int k] M (fun v M' => v = some (.int (aOrder s x r k)) ∧ RX g M' s) := RX_call hR (fun c hc h => pb_order (d := 229) h)
theorem v_letOut {g : Nat} {M : Mem} {s : St} {r mk k : Int32} (hR : RX (g + 1) M s) : Call 250 89 [.ref 0, .int r, .int mk, .int k] M (fun v M' => v = some (.int (aLetOut s r mk k)) ∧ RX g M' s) := RX_call hR (fun c hc h => pb_letOut (d := 237) h)
theorem v_worth {g : Nat} {M : Mem} {s : St} {r t k : Int32} (hR : RX (g + 1) M s) : Call 250 90 [.ref 0, .int r, .int t, .int k] M (fun v M' => v = some (.int (aWorth s r t k)) ∧ RX g M' s) := RX_call hR (fun c hc h => pb_worth (d := 236) h)
theorem v_likely {g : Nat} {M : Mem} {s : St} {x t p : Int32} (hR : RX (g + 1) M s) : Call 250 91 [.ref 0, .int x, .int t, .int p] M (fun v M' => v = some (.long (aLikely s x t p)) ∧ RX g M' s) := RX_call hR (fun c hc h => pb_likely (d := 247) h)
theorem v_byTurns {g : Nat} {M : Mem} {s : St} {r n w : Int32} (hR : RX (g + 1) M s) : Call 250 92 [.ref 0, .int r, .int n, .int w] M (fun v M' => v = some (.int (aByTurns s r n w)) ∧ RX g M' s) := RX_call hR (fun c hc h => pb_byTurns (d := 237) h)
theorem v_cut {g : Nat} {M : Mem} {s : St} {x : Int32} (hR : RX (g + 1) M s) : Call 250 93 [.ref 0, .int x] M (fun r M' => r = some (.int (aCut s x).1) ∧ RX g M' (aCut s x).2) := RX_call hR (fun c hc h => pb_cut (d := 245) h)
theorem v_day {g : Nat} {M : Mem} {s : St} (hR : RX (g + 1) M s) : Call 250 94 [.ref 0] M (fun r M' => r = some (.int (nI (dyN (sDy s)))) ∧ RX g M' (aDay s)) := RX_call hR (fun c hc h => pb_day (d := 248) h)
theorem v_led {g : Nat} {M : Mem} {s : St} {x : Int32} (hR : RX (g + 1) M s) : Call 250 95 [.ref 0, .int x] M (fun r M' => r = some (.int (aLed s x)) ∧ RX g M' s) := RX_call hR (fun c hc h => pb_led (d := 249) h)
theorem v_image {g : Nat} {M : Mem} {s : St} (hR : RX (g + 1) M s) : Call 250 96 [.ref 0] M (fun r M' => r = some (.int (nI (sDy s))) ∧ RX g M' (aImage s)) := RX_call hR (fun c hc h => pb_image (d := 248) h)
theorem v_back {g : Nat} {M : Mem} {s : St} (hR : RX (g + 1) M s) : Call 250 97 [.ref 0] M (fun r M' => r = some (.int (aBack s).1) ∧ RX g M' (aBack s).2) := RX_call hR (fun c hc h => pb_back (d := 248) h (by omega))
theorem v_rick {g : Nat} {M : Mem} {s : St} (hR : RX (g + 1) M s) (h4 : ¬ (sK s).length = 4) : Call 250 78 [.ref 0] M (fun r M' => r = some (.int (nI (sK s).length)) ∧ RX g M' ((sK s ++ [[]], s.1.2), s.2)) := RX_call hR (fun c hc h => by have := pb_rick (d := 249) h; rw [if_neg h4] at this; exact this)
/-- fewer locals, fewer arrays -/
theorem Jsub {L k : Nat} {xs : Nat → Int32} {jc : Nat → List Value → JSt → (Int32 → Mem → Prop) → Prop} {Bd : Nat → Lv → List Value → JSt → Prop} {Zr : Int32 → JSt → Prop} (H : JOk L xs k jc Bd Zr) {pc g : Nat} {lv : Lv} (lv' : Lv) {st : List Value} {M : Mem} {T : Tm} (T' : Tm) (hs : subL lv lv') (ht : subT T T') (h : Bd pc lv' st (M, T', g)) : Bd pc lv st (M, T, g) := H.2 _ _ _ _ _ _ _ _ hs ht h
theorem sL_cons {lv : Lv} {i : Nat} {v : Value} {l : Lv} (h1 : lkp lv i = some v) (h2 : subL lv l) : subL lv ((i, v) :: l) := by
  intro j w h
  rcases List.mem_cons.mp h with h | h
  · cases h
    obtain ⟨k, hk⟩ := lkp_idx h1
    exact List.mem_of_getElem? hk
  · exact h2 j w h
theorem sL_nil {lv : Lv} : subL lv [] := fun _ _ h => absurd h List.not_mem_nil
theorem feed_take {s : St} {i n : Nat} (h : (sTp s).length = i) (hn : n ≤ 255) (hi : i < 120) : aFeed s (nI n) = (nI (i + 1), wTp s (sTp s ++ [n])) := by
  unfold aFeed
  rw [nI_v (by omega), if_pos (by omega), h, if_neg (by omega), Int.toNat_natCast]
theorem js_tell {L : Nat} {xs : Nat → Int32} {M : Mem} {s : St} {a : Nat} {w : Bool} {f : Nat → Int32} {bs : List Nat} {g : Nat} (hR : RX (bs.length + 2 + g) M s) (hbs : bs.length ≤ 100) (hb : ∀ b ∈ bs, b ≤ 255) (hf : ∀ i b, bs[i]? = some b → f i = nI b) (ht : sTp s = []) (ha : 1000 ≤ a) (ha2 : ¬ a = 3153) :
    JCall L xs 9 [.ref 0, .ref a, .int (nI bs.length)] M [(a, w, bs.length, f)] (fun x M' => x = 1 ∧ RX g M' (wTp s bs)) := by
  have en := nI_v (n := bs.length) (by omega)
  refine jcall_of rfl rfl (fun Bd H => ?_)
  have hlk : lkT [(a, false, bs.length, f)] a = some (false, bs.length, f) := by unfold lkT; rw [Nat.beq_refl]
  have loop : ∀ (m i : Nat) (M : Mem), i + m = bs.length → RX (m + 2 + g) M (wTp s (bs.take i)) → Bd 2 [(0, .ref 0), (1, .ref a), (2, .int (nI bs.length)), (3, .int (nI i))] [] (M, [(a, false, bs.length, f)], 0) := by
    intro m
    induction m with
    | zero =>
      intro i M hi hR
      have ei := nI_v (n := i) (by omega)
      refine H.1 400 _ _ _ _ (fun B vc sc Z hBB hV hS hZ => ?_)
      (conv => whnf); refine ⟨fun q => ?_, fun q => ?_⟩
      · (conv => whnf); refine hV _ _ _ _ _ (v_count (g := 1 + g) (RX_le hR (by omega))) (fun r M' e => ?_); obtain ⟨rfl, hR⟩ := e
        have e2 : aCount (wTp s (bs.take i)) (cI 2) = nI bs.length := by
          unfold aCount
          simp only [kv_2]
          show nI (bs.take i).length = _
          rw [List.length_take]
          congr 1
          omega
        rw [e2]
        (conv => whnf); refine ⟨fun q2 => ?_, fun q2 => ?_⟩
        · exact absurd rfl q2
        · conv => whnf
          refine ⟨Or.inr rfl, hZ _ _ ⟨rfl, ?_⟩⟩
          rw [List.take_of_length_le (by omega)] at hR
          exact RX_le hR (by omega)
      · simp only [c_lt, c_gt, c_le, c_ge, c_eq, c_ne, b2_z, b2_nz, b2_i, Classical.not_not, t0, t1, Nat.reduceMod, Nat.reduceDiv, Int.reduceAdd, Int.reduceNeg, Nat.reduceAdd, kv_0, kv_1, kv_2, kc_0, kc_1, kc_2] at q
        rw [ei, en] at q
        omega
    | succ m ih =>
      intro i M hi hR
      have ei := nI_v (n := i) (by omega)
      obtain ⟨b, hb9⟩ : ∃ b, bs[i]? = some b := ⟨_, List.getElem?_eq_getElem (by omega)⟩
      refine H.1 400 _ _ _ _ (fun B vc sc Z hBB hV hS hZ => ?_)
      (conv => whnf); refine ⟨fun q => ?_, fun q => ?_⟩
      · simp only [c_lt, c_gt, c_le, c_ge, c_eq, c_ne, b2_z, b2_nz, b2_i, Classical.not_not, t0, t1, Nat.reduceMod, Nat.reduceDiv, Int.reduceAdd, Int.reduceNeg, Nat.reduceAdd, kv_0, kv_1, kv_2, kc_0, kc_1, kc_2] at q
        rw [ei, en] at q
        omega
      · (conv => whnf)
        have hne : Nat.beq a 950 = false := by
          cases hq : Nat.beq a 950 with
          | false => rfl
          | true => have := Nat.eq_of_beq_eq_true hq; omega
        have hne2 : Nat.beq a 3153 = false := by
          cases hq : Nat.beq a 3153 with
          | false => rfl
          | true => exact absurd (Nat.eq_of_beq_eq_true hq) ha2
        rw [hne, hne2]
        refine ⟨false, bs.length, f, hlk, nI_vp (by omega) (by omega), ?_⟩
        rw [nI_c (by omega), hf i b hb9]
        (conv => whnf); refine hV _ _ _ _ _ (v_feed (g := m + 2 + g) (RX_le hR (by omega))) (fun r M' e => ?_); obtain ⟨rfl, hR⟩ := e
        have hlen : (sTp (wTp s (bs.take i))).length = i := by
          show (bs.take i).length = i
          rw [List.length_take]; omega
        rw [feed_take hlen (hb b (List.mem_of_getElem? hb9)) (by omega)] at hR ⊢
        have e3 : nI i + cI 1 = nI (i + 1) := nI_add i 1
        (conv => whnf)
        rw [e3]
        refine ⟨fun q2 => ?_, fun q2 => ?_⟩
        · (conv => whnf)
          rw [e3]
          refine hBB _ _ _ _ (Jsub H [(0, .ref 0), (1, .ref a), (2, .int (nI bs.length)), (3, .int (nI (i + 1)))] _ ?_ (List.Sublist.refl _) (ih (i + 1) _ (by omega) ?_))
          · exact sL_cons rfl (sL_cons rfl (sL_cons rfl (sL_cons rfl sL_nil)))
          · have e4 : bs.take (i + 1) = bs.take i ++ [b] := by rw [List.take_succ, hb9]; rfl
            rw [e4]
            exact RX_le hR (by omega)
        · exact absurd rfl q2
  refine H.1 400 _ _ _ _ (fun B vc sc Z hBB hV hS hZ => ?_)
  conv => whnf
  have h0 := loop bs.length 0 M (by omega) (by rw [List.take_zero, ← ht]; exact hR)
  refine hBB _ _ _ _ (Jsub H _ _ ?_ (List.Sublist.refl _) h0)
  exact sL_cons rfl (sL_cons rfl (sL_cons rfl (sL_cons rfl sL_nil)))
