section E52
variable {L : Nat} {xs : Nat → Int32} {d : Nat} {M : e_MI} {V : e_ML} {W : e_MD} {K : e_St} {h : e_H} {ρ ω β ε : Int → Int} {k : Int}
/-- rows of orders, of works' numbers, of times -/
def rgO (ρ : Int → Int) : Prop := ∀ p, 0 ≤ p → p < 16 → 0 ≤ ρ p ∧ ρ p ≤ 7
def rgW (ω : Int → Int) : Prop := ∀ p, 0 ≤ p → p < 16 → 0 ≤ ω p ∧ ω p ≤ 3
def rgT (β : Int → Int) : Prop := ∀ p, 0 ≤ p → p < 16 → 0 ≤ β p ∧ β p ≤ 2001
end E52
