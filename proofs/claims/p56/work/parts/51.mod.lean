section E51
variable {L : Nat} {xs : Nat → Int32} {d : Nat} {M : e_MI} {V : e_ML} {W : e_MD} {K : e_St} {h : e_H}
end E51
section E51b
variable {L : Nat} {xs : Nat → Int32} {d : Nat} {M : e_MI} {V : e_ML} {W : e_MD} {K : e_St} {h : e_H}
theorem iI_div {a b : Int} (ha : 0 ≤ a) (ha2 : a < 2147483648) (hb : 0 < b) (hb2 : b < 2147483648) : iI a / iI b = iI (a / b) := by
  have h := pk_div (a := a.toNat) (d := b.toNat) (by omega) (by omega) (by omega)
  have e1 : nI a.toNat = iI a := by show iI ((a.toNat : Nat) : Int) = iI a; rw [Int.toNat_of_nonneg ha]
  have e2 : nI b.toNat = iI b := by show iI ((b.toNat : Nat) : Int) = iI b; rw [Int.toNat_of_nonneg (by omega)]
  rw [e1, e2] at h
  rw [h]
  show iI ((a.toNat / b.toNat : Nat) : Int) = iI (a / b)
  rw [Int.natCast_ediv, Int.toNat_of_nonneg ha, Int.toNat_of_nonneg (by omega)]
theorem iI_rem {a b : Int} (ha : 0 ≤ a) (ha2 : a < 2147483648) (hb : 0 < b) (hb2 : b < 2147483648) : iI a - iI a / iI b * iI b = iI (a % b) := by
  rw [iI_div ha ha2 hb hb2, iI_mul, iI_sub, Int.emod_def, Int.mul_comm]
theorem iI_ne {b : Int} (hb : 0 < b) (hb2 : b < 2147483648) : iI b ≠ 0 := by
  show iI b ≠ iI 0
  rw [ne_eq, iI_eq (by omega) (by omega)]
  omega
end E51b
