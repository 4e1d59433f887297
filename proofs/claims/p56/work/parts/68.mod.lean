section E68
variable {L : Nat} {xs : Nat → Int32} {d : Nat} {M : e_MI} {V : e_ML} {W : e_MD} {K : e_St} {h : e_H} {ρ ω β ε τ : Int → Int} {k : Int}
/-! numbers of 64 bits -/
def lI (z : Int) : Int64 := Int64.ofInt z
theorem lI_add (a b : Int) : lI a + lI b = lI (a + b) := (Int64.ofInt_add a b).symm
theorem lI_mul (a b : Int) : lI a * lI b = lI (a * b) := (Int64.ofInt_mul a b).symm
theorem lI_0 : (0 : Int64) = lI 0 := rfl
theorem lI_toInt {z : Int} (h1 : -9223372036854775808 ≤ z) (h2 : z < 9223372036854775808) : (lI z).toInt = z := by
  unfold lI
  exact Int64.toInt_ofInt_of_le (by simpa using h1) (by simpa using h2)
theorem lI_i {z : Int} (h1 : -2147483648 ≤ z ∧ z < 2147483648) : (iI z).toInt64 = lI z := by
  apply Int64.toInt_inj.mp
  rw [Int32.toInt_toInt64, iI_toInt h1.1 h1.2, lI_toInt (by omega) (by omega)]
theorem lI_lt {a b : Int} (ha : -2147483648 ≤ a ∧ a < 2147483648) (hb : -2147483648 ≤ b ∧ b < 2147483648) : lI a < lI b ↔ a < b := by
  rw [Int64.lt_iff_toInt_lt, lI_toInt (by omega) (by omega), lI_toInt (by omega) (by omega)]
/-- what an order costs -/
def ctO (K : e_St) (e : Int → Int) (o : Int) : Int := (if 0 < e o - K (24 + o) then (e o - K (24 + o)) * K 309 else (0 - (e o - K (24 + o))) * K 308) * K (32 + o)
def ctW (K : e_St) (e : Int → Int) : Int := SU (ctO K e) (K 310)
end E68
