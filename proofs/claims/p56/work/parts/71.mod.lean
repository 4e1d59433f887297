section E71
variable {L : Nat} {xs : Nat → Int32} {d : Nat} {M : e_MI} {V : e_ML} {W : e_MD} {K : e_St} {h : e_H}
/-- a byte of a number -/
def bB (x : Int32) (s : Int) : Int32 := (x >>> (iI s &&& 31)) &&& iI 255
def bC (x : Int32) (s : Int) : Int := if bB x s = iI 0 then 0 else 1
/-- how many bytes it has -/
def nB (x : Int32) : Int := bC x 0 + bC x 8 + bC x 16 + bC x 24
end E71
