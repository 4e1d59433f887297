section E65
variable {L : Nat} {xs : Nat → Int32} {d : Nat} {M : e_MI} {V : e_ML} {W : e_MD} {K : e_St} {h : e_H} {k : Int}
/-! what was saved -/
def e_SV (M : e_MI) (c : Int) (S : Int → e_St) : Prop := M 184 3 = iI c ∧ (0 ≤ c ∧ c ≤ 12) ∧ ∀ j z, 0 ≤ j → j < c → 0 ≤ z → z < 312 → M 186 (312 * j + z).toNat = iI (S j z)
def frS (M M2 : e_MI) : Prop := (∀ a, a ≠ 184 → a ≠ 186 → M2 a = M a) ∧ ∀ j, j ≠ 3 → M2 184 j = M 184 j
theorem frS.t {M2 M3 : e_MI} (h : frS M M2) (h2 : frS M2 M3) : frS M M3 := ⟨fun a x0 x1 => by rw [h2.1 a x0 x1, h.1 a x0 x1], fun j x0 => by rw [h2.2 j x0, h.2 j x0]⟩
/-- what is saved after a change -/
def svC (c : Int) : Int := if c = 12 then 12 else c + 1
def svS (c : Int) (S : Int → e_St) (K : e_St) : Int → e_St := if c = 12 then (fun j => if j = 11 then K else S (j + 1)) else fun j => if j = c then K else S j
end E65
