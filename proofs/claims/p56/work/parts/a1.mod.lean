section Ea1
variable {L : Nat} {xs : Nat → Int32} {d : Nat} {M M2 M3 : e_MI} {V : e_ML} {W : e_MD} {K K2 : e_St} {h : e_H} {S : Int → e_St} {c cd n er o q k i : Int} {ρ ω β ε τ : Int → Int} {r : Option e_R} {an : Int32}
/-- the least end of all rows, and the first row that has it -/
def lsR (K : e_St) : exT := exR K (aW K).toNat (fun _ => 0) 0 (-1, fun _ => 0)
theorem pfx_0 (hr : kR K) : pfx K (fun _ => 0) 0 := ⟨fun p a b => by omega, fun o a b => by
  have hn := hr.n
  have hw := hr.wk (o := o) a (by omega)
  have : cnt (fun _ => 0) o 0 = 0 := rfl
  omega⟩
def lsK (K : e_St) : e_St := if (lsR K).1 = -1 then K else rtS K (lsR K).2
end Ea1
