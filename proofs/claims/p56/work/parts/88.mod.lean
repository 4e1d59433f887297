section E88
variable {L : Nat} {xs : Nat → Int32} {d : Nat} {M M2 M3 : e_MI} {V : e_ML} {W : e_MD} {K K2 : e_St} {h : e_H} {S : Int → e_St} {c cd n er w : Int} {s : Int × (Int → Int)} {ρ ω β ε τ T U : Int → Int} {r : Option e_R} {an : Int32}
/-- the reference's tape, its text -/
def TP (M : e_MI) (s : Int × (Int → Int)) (er w : Int) (U : Int → Int) : Prop := M 184 22 = iI s.1 ∧ s.1 ≤ 60 ∧ tpO s ∧ e_ar (M 199) s.1 s.2 ∧ (M 184 23 = iI er ∧ -1 ≤ er ∧ er ≤ 60) ∧ (M 184 26 = iI w ∧ 0 ≤ w ∧ w ≤ 16) ∧ e_ar (M 201) w U ∧ ∀ j, 0 ≤ j → j < w → 48 ≤ U j ∧ U j ≤ 55
theorem TP.p (H : TP M s er w U) (hF : frP M M2) : TP M2 s er w U := by
  unfold TP
  rw [hF.2.1.1, hF.2.1.2, hF.2.2.1, hF.2.2.2.1, hF.2.2.2.2]
  exact H
def apW (a b e f g : Int32) (s : Int × (Int → Int)) : Int × (Int → Int) := tbX g (tbX f (tbX e (tbX b (tbX a s))))
def cdAp (a b e f g : Int32) (s : Int × (Int → Int)) : Int := if s.1 + (nB a + nB b + nB e + nB f + nB g) ≤ 60 then 0 else 1
theorem i2c_48 {x : Int} (h : 48 ≤ x ∧ x ≤ 55) : ((iI x).toUInt32 % 65536).toInt32 = iI x ∧ narrow .char (.int (iI x)) = .int (iI x) := by
  rcases (show x = 48 ∨ x = 49 ∨ x = 50 ∨ x = 51 ∨ x = 52 ∨ x = 53 ∨ x = 54 ∨ x = 55 by omega) with q | q | q | q | q | q | q | q <;> subst q <;> exact ⟨by decide, by rfl⟩
end E88
