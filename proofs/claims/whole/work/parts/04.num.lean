/-! whole numbers and the machine's numbers -/
theorem x32_idem (x : Int) : x32 (x32 x) = x32 x := by unfold x32; exact Int.bmod_bmod
theorem x64_idem (x : Int) : x64 (x64 x) = x64 x := by unfold x64; exact Int.bmod_bmod
theorem x32_of {x : Int} (h1 : -2147483648 ≤ x) (h2 : x < 2147483648) : x32 x = x := by
  unfold x32
  exact Int.bmod_eq_of_le (by omega) (by omega)
theorem x64_of {x : Int} (h1 : -9223372036854775808 ≤ x) (h2 : x < 9223372036854775808) : x64 x = x := by
  unfold x64
  exact Int.bmod_eq_of_le (by omega) (by omega)
theorem x32_lo (x : Int) : -2147483648 ≤ x32 x := by
  unfold x32
  have h := Int.le_bmod (x := x) (m := 4294967296) (by omega)
  omega
theorem x32_hi (x : Int) : x32 x < 2147483648 := by
  unfold x32
  have h := Int.bmod_lt (x := x) (m := 4294967296) (by omega)
  omega
theorem x64_lo (x : Int) : -9223372036854775808 ≤ x64 x := by
  unfold x64
  have h := Int.le_bmod (x := x) (m := 18446744073709551616) (by omega)
  omega
theorem x64_hi (x : Int) : x64 x < 9223372036854775808 := by
  unfold x64
  have h := Int.bmod_lt (x := x) (m := 18446744073709551616) (by omega)
  omega
theorem x32_iff {x : Int} : x32 x = x ↔ -2147483648 ≤ x ∧ x < 2147483648 := ⟨fun h => ⟨h ▸ x32_lo x, h ▸ x32_hi x⟩, fun h => x32_of h.1 h.2⟩
theorem x64_iff {x : Int} : x64 x = x ↔ -9223372036854775808 ≤ x ∧ x < 9223372036854775808 := ⟨fun h => ⟨h ▸ x64_lo x, h ▸ x64_hi x⟩, fun h => x64_of h.1 h.2⟩
theorem xn_toInt (x : Int) : (Int32.ofInt x).toInt = x32 x := by
  rw [Int32.toInt_ofInt]; rfl
theorem xn_toIntL (x : Int) : (Int64.ofInt x).toInt = x64 x := by
  rw [Int64.toInt_ofInt]; rfl
theorem xn_back (v : Int32) : Int32.ofInt v.toInt = v := Int32.ofInt_toInt v
theorem xn_backL (v : Int64) : Int64.ofInt v.toInt = v := Int64.ofInt_toInt v
theorem xn_okT (v : Int32) : x32 v.toInt = v.toInt := by rw [← xn_toInt, xn_back]
theorem xn_okTL (v : Int64) : x64 v.toInt = v.toInt := by rw [← xn_toIntL, xn_backL]
theorem xn_32 (x : Int) : Int32.ofInt (x32 x) = Int32.ofInt x := Int32.toInt_inj.mp (by rw [xn_toInt, xn_toInt, x32_idem])
theorem xn_64 (x : Int) : Int64.ofInt (x64 x) = Int64.ofInt x := Int64.toInt_inj.mp (by rw [xn_toIntL, xn_toIntL, x64_idem])
theorem xn_add (x y : Int) : Int32.ofInt x + Int32.ofInt y = Int32.ofInt (x32 (x + y)) := by rw [xn_32, Int32.ofInt_add]
theorem xn_sub (x y : Int) : Int32.ofInt x - Int32.ofInt y = Int32.ofInt (x32 (x - y)) := by rw [xn_32, Int32.ofInt_sub]
theorem xn_mul (x y : Int) : Int32.ofInt x * Int32.ofInt y = Int32.ofInt (x32 (x * y)) := by rw [xn_32, Int32.ofInt_mul]
theorem xn_neg (x : Int) : - Int32.ofInt x = Int32.ofInt (x32 (-x)) := by rw [xn_32, Int32.ofInt_neg]
theorem xn_addL (x y : Int) : Int64.ofInt x + Int64.ofInt y = Int64.ofInt (x64 (x + y)) := by rw [xn_64, Int64.ofInt_add]
theorem xn_subL (x y : Int) : Int64.ofInt x - Int64.ofInt y = Int64.ofInt (x64 (x - y)) := by rw [xn_64, Int64.ofInt_sub]
theorem xn_mulL (x y : Int) : Int64.ofInt x * Int64.ofInt y = Int64.ofInt (x64 (x * y)) := by rw [xn_64, Int64.ofInt_mul]
theorem xn_negL (x : Int) : - Int64.ofInt x = Int64.ofInt (x64 (-x)) := by rw [xn_64, Int64.ofInt_neg]
theorem xn_div {x y : Int} (hx : x32 x = x) (hy : x32 y = y) : Int32.ofInt x / Int32.ofInt y = Int32.ofInt (x32 (x.tdiv y)) := by
  apply Int32.toInt_inj.mp
  rw [Int32.toInt_div, xn_toInt, xn_toInt, xn_toInt, hx, hy, x32_idem]
  rfl
theorem xn_divL {x y : Int} (hx : x64 x = x) (hy : x64 y = y) : Int64.ofInt x / Int64.ofInt y = Int64.ofInt (x64 (x.tdiv y)) := by
  apply Int64.toInt_inj.mp
  rw [Int64.toInt_div, xn_toIntL, xn_toIntL, xn_toIntL, hx, hy, x64_idem]
  rfl
theorem xn_lt {x y : Int} (hx : x32 x = x) (hy : x32 y = y) : Int32.ofInt x < Int32.ofInt y ↔ x < y := by
  rw [Int32.lt_iff_toInt_lt, xn_toInt, xn_toInt, hx, hy]
theorem xn_le {x y : Int} (hx : x32 x = x) (hy : x32 y = y) : Int32.ofInt x ≤ Int32.ofInt y ↔ x ≤ y := by
  rw [Int32.le_iff_toInt_le, xn_toInt, xn_toInt, hx, hy]
theorem xn_eq {x y : Int} (hx : x32 x = x) (hy : x32 y = y) : Int32.ofInt x = Int32.ofInt y ↔ x = y := by
  rw [← Int32.toInt_inj, xn_toInt, xn_toInt, hx, hy]
theorem xn_ltL {x y : Int} (hx : x64 x = x) (hy : x64 y = y) : Int64.ofInt x < Int64.ofInt y ↔ x < y := by
  rw [Int64.lt_iff_toInt_lt, xn_toIntL, xn_toIntL, hx, hy]
theorem xn_eqL {x y : Int} (hx : x64 x = x) (hy : x64 y = y) : Int64.ofInt x = Int64.ofInt y ↔ x = y := by
  rw [← Int64.toInt_inj, xn_toIntL, xn_toIntL, hx, hy]
theorem xn_0 : (0 : Int32) = Int32.ofInt 0 := rfl
theorem xn_0L : (0 : Int64) = Int64.ofInt 0 := rfl
theorem xn_ok0 : x32 0 = 0 := by decide
theorem xn_ok0L : x64 0 = 0 := by decide
theorem xn_i2l {x : Int} (hx : x32 x = x) : (Int32.ofInt x).toInt64 = Int64.ofInt x := by
  apply Int64.toInt_inj.mp
  have h := x32_iff.mp hx
  rw [Int32.toInt_toInt64, xn_toInt, xn_toIntL, hx, x64_of (by omega) (by omega)]
theorem xn_l2i {x : Int} (hx : x64 x = x) : (Int64.ofInt x).toInt32 = Int32.ofInt (x32 x) := by
  apply Int32.toInt_inj.mp
  rw [Int64.toInt_toInt32, xn_toIntL, xn_toInt, x32_idem, hx]
  rfl
theorem xn_rem {x y : Int} (hx : x32 x = x) (hy : x32 y = y) (h0 : y ≠ 0) : Int32.ofInt x - Int32.ofInt x / Int32.ofInt y * Int32.ofInt y = Int32.ofInt (x32 (x.tmod y)) := by
  rw [xn_div hx hy, xn_mul, xn_sub, xn_32, xn_32]
  apply Int32.toInt_inj.mp
  rw [xn_toInt, xn_toInt]
  unfold x32
  have e : x.tmod y = x - x.tdiv y * y := by
    have h := Int.mul_tdiv_add_tmod x y
    rw [Int.mul_comm] at h
    omega
  rw [e]
  simp
def x_cmp (x y : Int) : Int := if y < x then 1 else if x = y then 0 else -1
theorem xn_cmp {x y : Int} (hx : x64 x = x) (hy : x64 y = y) : lg_cmp (Int64.ofInt x) (Int64.ofInt y) = Int32.ofInt (x_cmp x y) := by
  unfold lg_cmp x_cmp
  simp only [gt_iff_lt, xn_ltL hy hx, xn_eqL hx hy]
  split
  · rfl
  · split <;> rfl
theorem xn_okcmp (x y : Int) : x32 (x_cmp x y) = x_cmp x y := by
  unfold x_cmp
  split
  · decide
  · split <;> decide
/-! operations on bits, as the machine has them -/
def x_and (x y : Int) : Int := (Int32.ofInt x &&& Int32.ofInt y).toInt
def x_or (x y : Int) : Int := (Int32.ofInt x ||| Int32.ofInt y).toInt
def x_shl (x y : Int) : Int := (Int32.ofInt x <<< (Int32.ofInt y &&& 31)).toInt
def x_shr (x y : Int) : Int := (Int32.ofInt x >>> (Int32.ofInt y &&& 31)).toInt
def x_ushr (x y : Int) : Int := (((Int32.ofInt x).toUInt32 >>> ((Int32.ofInt y).toUInt32 &&& Int32.toUInt32 31)).toInt32).toInt
def x_i2c (x : Int) : Int := (((Int32.ofInt x).toUInt32 % 65536).toInt32).toInt
def x_andL (x y : Int) : Int := (Int64.ofInt x &&& Int64.ofInt y).toInt
def x_orL (x y : Int) : Int := (Int64.ofInt x ||| Int64.ofInt y).toInt
def x_shlL (x y : Int) : Int := (Int64.ofInt x <<< ((Int32.ofInt y).toInt64 &&& 63)).toInt
/-- an index within -/
theorem xn_in {i : Int} {n : Nat} (hi : x32 i = i) (h0 : 0 ≤ i) (h1 : i < n) : vp_in (Int32.ofInt i) n := by
  unfold vp_in
  have hc : (Int32.ofInt i).toNatClampNeg = i.toNat := by
    rw [Int32.toNatClampNeg, xn_toInt, hi]
  rw [hc]
  intro h
  rcases h with h | h
  · rw [xn_0, xn_lt hi xn_ok0] at h
    omega
  · omega
theorem xn_clamp {i : Int} (hi : x32 i = i) : (Int32.ofInt i).toNatClampNeg = i.toNat := by rw [Int32.toNatClampNeg, xn_toInt, hi]
theorem xn_okN {n : Nat} (h : n < 1000000) : x32 (n : Int) = n := x32_of (by omega) (by omega)
theorem xn_nat (n : Nat) : Int32.ofNat n = Int32.ofInt (n : Int) := by
  first | rfl | exact (Int32.ofInt_eq_ofNat n).symm | simp
