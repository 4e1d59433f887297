section E56
variable {L : Nat} {xs : Nat → Int32} {d : Nat} {M : e_MI} {V : e_ML} {W : e_MD} {K : e_St} {h : e_H} {ρ ω β ε ρ2 ω2 β2 ε2 τ : Int → Int} {k : Int}
/-- a number of 32 bits -/
def i32 (x : Int) : Prop := -2147483648 ≤ x ∧ x < 2147483648
/-- the memory after fails -/
def mF (M : e_MI) (b : Bool) (c : Int) : e_MI := if b = true then M else e_u M 184 (upd (M 184) 0 (iI c))
theorem mF_f (M : e_MI) (c : Int) : mF M false c = e_u M 184 (upd (M 184) 0 (iI c)) := rfl
end E56
