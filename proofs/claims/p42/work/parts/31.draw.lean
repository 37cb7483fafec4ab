/-! cuts as they are drawn -/
def ush (z : Int32) (k : Int) : Int32 := (z.toUInt32 >>> ((cI k).toUInt32 &&& Int32.toUInt32 31)).toInt32
theorem u_nI (u : UInt32) : u.toInt32 = nI u.toNat := by
  show u.toInt32 = Int32.ofNat u.toNat
  have : Int32.ofNat u.toNat = (UInt32.ofNat u.toNat).toInt32 := rfl
  rw [this, UInt32.ofNat_toNat]
def usn (z : Int32) (k : Nat) : Nat := z.toUInt32.toNat / 2 ^ k
theorem usn_lt (z : Int32) (k : Nat) (h : 1 ≤ k) : usn z k < 2147483648 := by
  have h1 := z.toUInt32.toNat_lt
  unfold usn
  have h2 : 2 ≤ 2 ^ k := by
    calc 2 = 2 ^ 1 := rfl
    _ ≤ 2 ^ k := Nat.pow_le_pow_right (by omega) h
  have h3 : z.toUInt32.toNat / 2 ^ k ≤ z.toUInt32.toNat / 2 := Nat.div_le_div_left h2 (by omega)
  omega
theorem ush_8 (z : Int32) : ush z 8 = nI (usn z 8) := by
  unfold ush
  rw [u_nI, UInt32.toNat_shiftRight]
  have : (((cI 8).toUInt32 &&& Int32.toUInt32 31).toNat % 32) = 8 := by decide
  rw [this, Nat.shiftRight_eq_div_pow]
  rfl
theorem ush_16 (z : Int32) : ush z 16 = nI (usn z 16) := by
  unfold ush
  rw [u_nI, UInt32.toNat_shiftRight]
  have : (((cI 16).toUInt32 &&& Int32.toUInt32 31).toNat % 32) = 16 := by decide
  rw [this, Nat.shiftRight_eq_div_pow]
  rfl
def lcg (z : Int32) : Int32 := z * 1103515245 + cI 12345
def wlet (E : EnvK) (w : Wst) (r l : Nat) (q : Lyr) : Wst := (cutR w.1 r l, w.2.1 + cI 1, w.2.2.1 + kp E w.1 r l q, w.2.2.2)
def wpick (z : Int32) (rk : Rk) : Nat := if 0 < rk.length then usn z 8 % rk.length else 0
def wdraw (E : EnvK) : Nat → Int32 → Wst → Int32 × Wst
  | 0, z, w => (z, w)
  | n + 1, z, w => match (w.1.getD (wpick (lcg z) w.1) [])[usn (lcg z) 16 % hgt w.1 (wpick (lcg z) w.1)]? with
    | some q => wdraw E n (lcg z) (wlet E w (wpick (lcg z) w.1) (usn (lcg z) 16 % hgt w.1 (wpick (lcg z) w.1)) q)
    | none => wdraw E n (lcg z) w