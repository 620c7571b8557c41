/-! PURE: longs, signs -/
theorem lN_I {n : Nat} (h : n < 2 ^ 63) : (lN n).toInt = (n : Int) := lg_ofNat_toInt h
theorem lN_ltI {a b : Nat} (ha : a < 2 ^ 63) (hb : b < 2 ^ 63) : lN a < lN b ↔ a < b := by rw [fb_ltL, lN_I ha, lN_I hb]; omega
theorem lN_leI {a b : Nat} (ha : a < 2 ^ 63) (hb : b < 2 ^ 63) : lN a ≤ lN b ↔ a ≤ b := by rw [fb_leL, lN_I ha, lN_I hb]; omega
theorem lN_eqI {a b : Nat} (ha : a < 2 ^ 63) (hb : b < 2 ^ 63) : lN a = lN b ↔ a = b := by rw [fb_eqL, lN_I ha, lN_I hb]; omega
theorem lN_0 : (0 : Int64) = lN 0 := rfl
theorem lN_n0 {a : Nat} (ha : a < 2 ^ 63) (h : 0 < a) : ¬ lN a = 0 := by
  rw [lN_0, lN_eqI ha (by omega)]
  omega
theorem lN_div {a b : Nat} (ha : a < 2 ^ 63) (hb : b < 2 ^ 63) : lN a / lN b = lN (a / b) := by
  have hq : a / b < 2 ^ 63 := Nat.lt_of_le_of_lt (Nat.div_le_self a b) ha
  have hne : lN b ≠ -1 := by
    intro e
    have := congrArg Int64.toInt e
    rw [lN_I hb] at this
    have h1 : (-1 : Int64).toInt = -1 := by decide
    rw [h1] at this
    omega
  rw [fb_eqL, Int64.toInt_div_of_ne_right _ _ hne, lN_I ha, lN_I hb, lN_I hq]
  rfl
theorem lN_rem {a b : Nat} (ha : a < 2 ^ 63) (hb : b < 2 ^ 63) : lN a - lN a / lN b * lN b = lN (a % b) := by
  rw [lN_div ha hb, lN_mul, lN_sub (Nat.div_mul_le_self a b)]
  congr 1
  have := Nat.div_add_mod a b
  rw [Nat.mul_comm] at this
  omega
/-- a small whole number with a sign, as an int -/
def iI (z : Int) : Int32 := Int32.ofInt z
theorem iI_0 : iI 0 = 0 := rfl
theorem iI_1 : iI 1 = 1 := rfl
theorem iI_m1 : iI (-1) = -1 := rfl
theorem iI_mul (a b : Int) : iI a * iI b = iI (a * b) := (Int32.ofInt_mul a b).symm
theorem iI_z {z : Int} (h : z = 0 ∨ z = 1 ∨ z = -1) : iI z = 0 ↔ z = 0 := by
  rcases h with rfl | rfl | rfl <;> decide
