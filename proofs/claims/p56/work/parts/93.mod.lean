section E93
variable {L : Nat} {xs : Nat → Int32} {d : Nat} {M M2 M3 : e_MI} {V : e_ML} {W : e_MD} {K K2 : e_St} {h : e_H} {S : Int → e_St} {c cd n er w f t o m q j z i : Int} {s : Int × (Int → Int)} {ρ ω β ε τ T U : Int → Int} {r : Option e_R} {an : Int32}
/-! an order goes: the orders behind it come down, number by number -/
theorem bool_eq {a b : Bool} (h : a = true ↔ b = true) : a = b := by
  cases a <;> cases b <;> simp_all
end E93
