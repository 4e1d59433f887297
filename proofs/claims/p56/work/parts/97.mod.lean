section E97
variable {L : Nat} {xs : Nat → Int32} {d : Nat} {M M2 M3 : e_MI} {V : e_ML} {W : e_MD} {K K2 : e_St} {h : e_H} {S : Int → e_St} {c cd n er o q k i : Int} {ρ ω β ε τ : Int → Int} {r : Option e_R} {an : Int32}
/-! all rows, one behind the other -/
abbrev exT : Type := Int × (Int → Int)
/-- the first orders, one after the other, at place k -/
def exO (K : e_St) (f : (Int → Int) → Int → exT → exT) (τ : Int → Int) (k : Int) (s : exT) : Nat → exT
  | 0 => s
  | o + 1 => if cnt τ o k = K (40 + o) ∨ scB K (uI τ k o) k = 2001 then exO K f τ k s o else f (uI τ k o) (k + 1) (exO K f τ k s o)
def exR (K : e_St) : Nat → (Int → Int) → Int → exT → exT
  | 0, τ, k, s => if s.1 ≠ -1 ∧ s.1 ≤ mX (scE K τ) k then s else (mX (scE K τ) k, τ)
  | m + 1, τ, k, s => exO K (exR K m) τ k s (K 310).toNat
def frZ (M M2 : e_MI) : Prop := (∀ a, a ≠ 184 → a ≠ 188 → a ≠ 189 → a ≠ 190 → a ≠ 191 → a ≠ 193 → a ≠ 194 → M2 a = M a) ∧ ∀ j, j ≠ 9 → M2 184 j = M 184 j
theorem frZ.t (h : frZ M M2) (h2 : frZ M2 M3) : frZ M M3 := ⟨fun a x0 x1 x2 x3 x4 x5 x6 => by rw [h2.1 a x0 x1 x2 x3 x4 x5 x6, h.1 a x0 x1 x2 x3 x4 x5 x6], fun j x => by rw [h2.2 j x, h.2 j x]⟩
theorem frZ.rf (M : e_MI) : frZ M M := ⟨fun _ _ _ _ _ _ _ _ => rfl, fun _ _ => rfl⟩
end E97
