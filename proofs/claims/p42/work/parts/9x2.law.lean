/-! the whole start: the law from its first call on -/
theorem bt00 : BT s00 0 20 0 := ⟨rfl, rfl, rfl, rfl, rfl, rfl, rfl, fun _ _ _ => rfl⟩
theorem whole_start {p : Program} {e : Jvm.Env} {s : State} {m : MethodId} {below : List Frame} {meth : Method} {c : Code} (l : Launch) (hflags : l.flags = flags0) {b L : Nat} {xs : Nat → Int32} (hL : L ≤ 260) (C0 : lw_At p s m meth c b L xs) : W p l e room_1 s m #[Value.ref b] below meth c s.heap [] 0 0 (lw_Z below #[Value.ref b] s) (entryFrame m ([Value.ref b] : List Value).toArray 24) :=
  start_of l C0 (fun Bd H hD => law_walk0 (g := 998) H hD hL (⟨0, by omega, rc00⟩ : RX 3200 M00 s00) bt00 rfl (by omega))
