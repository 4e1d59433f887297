section E84
variable {L : Nat} {xs : Nat → Int32} {d : Nat} {M M2 M3 : e_MI} {V : e_ML} {W : e_MD} {K K2 : e_St} {h : e_H} {S : Int → e_St} {c cd : Int} {ρ ω β ε τ T U : Int → Int} {r : Option e_R} {an : Int32}
/-! questions that need times -/
def bT (K : e_St) : Int → Int := scB K (rwK K)
def eT (K : e_St) : Int → Int := scE K (rwK K)
/-- the greatest end -/
def edW (K : e_St) : Int := mX (eT K) (aW K)
/-- the first place before n where p holds, or -1, as a number -/
def fsN (p : Int → Bool) (n : Int) : Int := if fsP p n.toNat < n then fsP p n.toNat else -1
def waP (K : e_St) (m t : Int) : Int → Bool := fun k => decide (mcA K (rwK K) (scW (rwK K)) k = m ∧ bT K k ≤ t ∧ t ≤ eT K k - 1)
def anWA (K : e_St) (m t : Int) : Int := if fsN (waP K m t) (aW K) = -1 then -1 else rwK K (fsN (waP K m t) (aW K))
end E84
