section E63
variable {L : Nat} {xs : Nat → Int32} {d : Nat} {M : e_MI} {V : e_ML} {W : e_MD} {K : e_St} {h : e_H} {ρ ω β ε ρ2 ω2 β2 ε2 τ : Int → Int} {k : Int}
/-- whether an order stands ahead of another on two machines -/
def isT (K : e_St) (a b o p : Int) : Bool := if decide (tO K o a < tO K o b) = decide (tO K p a < tO K p b) then (if tO K o a < tO K o b then decide (tO K o a < tO K p a) else decide (tO K p b < tO K o b)) else decide (tO K o a < tO K o b)
def frW (M M2 : e_MI) : Prop := (∀ a, a ≠ 184 → a ≠ 198 → M2 a = M a) ∧ ∀ j, j ≠ 20 → M2 184 j = M 184 j
theorem frW.t {M2 M3 : e_MI} (h : frW M M2) (h2 : frW M2 M3) : frW M M3 := ⟨fun a x0 x1 => by rw [h2.1 a x0 x1, h.1 a x0 x1], fun j x0 => by rw [h2.2 j x0, h.2 j x0]⟩
/-- the orders that two machines take -/
def twoL (K : e_St) (m m2 : Int) : List Int := rowL (isT K m m2) (fun o => decide (tO K o m + tO K o m2 ≠ 0)) (K 310).toNat
end E63
