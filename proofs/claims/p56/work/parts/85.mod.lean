section E85
variable {L : Nat} {xs : Nat → Int32} {d : Nat} {M M2 M3 : e_MI} {V : e_ML} {W : e_MD} {K K2 : e_St} {h : e_H} {S : Int → e_St} {c cd : Int} {ρ ω β ε ρ2 ω2 β2 ε2 τ T U : Int → Int} {r : Option e_R} {an : Int32}
/-- the critical works of the present plan -/
def crA (K : e_St) : Int → Int := ahW K (rwK K) (scW (rwK K)) (bT K) (eT K)
def crL (K : e_St) : Int := lsW (eT K) (aW K)
def crN (K : e_St) : Int := chN (crA K) (crL K)
def crK (K : e_St) (p : Int) : Int := chW (crA K) (crL K) (crN K - 1 - p).toNat
def anCA (K : e_St) (p : Int) : Int := 10 * rwK K (crK K p) + scW (rwK K) (crK K p)
def ltN (K : e_St) : Int := SU (fun o => if K (24 + o) < enO K (rwK K) o then 1 else 0) (K 310)
def csF (K : e_St) : Nat → Int
  | 0 => 17
  | k + 1 => 31 * csF K k + rwK K k + (if ft K = true then bT K k else 0)
def csW (K : e_St) : Int := csF K (aW K).toNat
end E85
