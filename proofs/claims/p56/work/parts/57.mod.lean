section E57
variable {L : Nat} {xs : Nat → Int32} {d : Nat} {M : e_MI} {V : e_ML} {W : e_MD} {K : e_St} {h : e_H} {ρ ω β ε ρ2 ω2 β2 ε2 τ : Int → Int} {k : Int}
/-- how good an order is by a rule -/
def kyW (K : e_St) (r o w : Int) : Int := if r = 0 then o else if r = 1 then tk K o w else if r = 2 then 0 - tk K o w else if r = 3 then K (24 + o) else if r = 4 then 0 - K (32 + o) else 0 - tF K o w
/-- the place ahead that holds up the work at place k -/
def ahW (K : e_St) (ρ ω β ε : Int → Int) (k : Int) : Int :=
  if oAh ρ k ≠ -1 ∧ ε (oAh ρ k) = β k then oAh ρ k
  else if mAh K ρ ω k ≠ -1 ∧ ε (mAh K ρ ω k) + sT K (mcA K ρ ω k) (K (ρ (mAh K ρ ω k))) (K (ρ k)) = β k then mAh K ρ ω k
  else if tAh K ρ ω k ≠ -1 ∧ ε (tAh K ρ ω k) = β k then tAh K ρ ω k else -1
theorem ahW_rg (K : e_St) (ρ ω β ε : Int → Int) (hk : 0 ≤ k) : ahW K ρ ω β ε k = -1 ∨ (0 ≤ ahW K ρ ω β ε k ∧ ahW K ρ ω β ε k < k) := by
  have c1 := oAh_rg ρ hk
  have c2 := mAh_rg K ρ ω hk
  have c3 := tAh_rg K ρ ω hk
  unfold ahW
  repeat' split
  all_goals omega
end E57
