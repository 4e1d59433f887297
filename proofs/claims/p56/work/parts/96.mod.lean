section E96
variable {L : Nat} {xs : Nat → Int32} {d : Nat} {M M2 M3 : e_MI} {V : e_ML} {W : e_MD} {K K2 : e_St} {h : e_H} {S : Int → e_St} {c cd n er o q k i : Int} {ρ ω β ε τ : Int → Int} {r : Option e_R} {an : Int32}
def pnK (K : e_St) (q : Int) : e_St := rtS K (plR K q)
end E96
