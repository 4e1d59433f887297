section E67
variable {L : Nat} {xs : Nat → Int32} {d : Nat} {M : e_MI} {V : e_ML} {W : e_MD} {K : e_St} {h : e_H} {τ : Int → Int} {k : Int}
/-- a row with a place moved -/
def mvW (r : Int → Int) (f j : Int) : Int := if j < f then r j else r (j + 1)
def mvR (r : Int → Int) (f t : Int) : Int → Int := fun p => if p = t then r f else if p < t then mvW r f p else mvW r f (p - 1)
def frY (M M2 : e_MI) : Prop := ∀ a, a ≠ 192 → M2 a = M a
theorem frY.t {M2 M3 : e_MI} (h : frY M M2) (h2 : frY M2 M3) : frY M M3 := fun a x => by rw [h2 a x, h a x]
end E67
