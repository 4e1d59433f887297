section E73
variable {L : Nat} {xs : Nat → Int32} {d : Nat} {M M2 M3 : e_MI} {V : e_ML} {W : e_MD} {K : e_St} {h : e_H} {S : Int → e_St} {c : Int} {ρ ω β ε τ T U : Int → Int}
/-! the tape, the text -/
theorem and255 (x : Int32) : 0 ≤ (x &&& iI 255).toInt ∧ (x &&& iI 255).toInt ≤ 255 := by
  have hn : (x.toBitVec &&& 255#32).toNat ≤ 255 := by
    rw [BitVec.toNat_and]
    exact Nat.and_le_right
  have h1 : (x &&& iI 255).toInt = ((x.toBitVec &&& 255#32).toNat : Int) := by
    show (x.toBitVec &&& 255#32).toInt = _
    rw [BitVec.toInt_eq_toNat_of_lt (by omega)]
  omega
/-- a byte as a whole number -/
def bV (x : Int32) (s : Int) : Int := (bB x s).toInt
theorem bV_rg (x : Int32) (s : Int) : 0 ≤ bV x s ∧ bV x s ≤ 255 := and255 _
theorem bV_i (x : Int32) (s : Int) : iI (bV x s) = bB x s := by
  unfold bV iI
  exact Int32.ofInt_toInt _
theorem bC_rg (x : Int32) (s : Int) : 0 ≤ bC x s ∧ bC x s ≤ 1 := by
  unfold bC
  split <;> omega
theorem nB_rg (x : Int32) : 0 ≤ nB x ∧ nB x ≤ 4 := by
  have h1 := bC_rg x 0
  have h2 := bC_rg x 8
  have h3 := bC_rg x 16
  have h4 := bC_rg x 24
  unfold nB
  omega
/-- a byte comes onto the tape -/
def tb1 (x : Int32) (s : Int × (Int → Int)) (sh : Int) : Int × (Int → Int) := if bC x sh = 0 then s else (s.1 + 1, uI s.2 s.1 (bV x sh))
def tbX (x : Int32) (s : Int × (Int → Int)) : Int × (Int → Int) := tb1 x (tb1 x (tb1 x (tb1 x s 24) 16) 8) 0
theorem tb1_n (x : Int32) (s : Int × (Int → Int)) (sh : Int) : (tb1 x s sh).1 = s.1 + bC x sh := by
  unfold tb1
  by_cases h : bC x sh = 0
  · rw [if_pos h]
    omega
  · rw [if_neg h]
    have := bC_rg x sh
    show s.1 + 1 = _
    omega
theorem tbX_n (x : Int32) (s : Int × (Int → Int)) : (tbX x s).1 = s.1 + nB x := by
  unfold tbX nB
  rw [tb1_n, tb1_n, tb1_n, tb1_n]
  omega
/-- what a tape holds -/
def tpO (s : Int × (Int → Int)) : Prop := 0 ≤ s.1 ∧ ∀ j, 0 ≤ j → j < s.1 → 1 ≤ s.2 j ∧ s.2 j ≤ 255
theorem tb1_o {x : Int32} {s : Int × (Int → Int)} (hs : tpO s) (sh : Int) : tpO (tb1 x s sh) := by
  have hb := bC_rg x sh
  refine ⟨by rw [tb1_n]; have := hs.1; omega, fun j a b => ?_⟩
  rw [tb1_n] at b
  unfold tb1
  by_cases h : bC x sh = 0
  · rw [if_pos h]
    exact hs.2 j a (by omega)
  · rw [if_neg h]
    show 1 ≤ uI s.2 s.1 (bV x sh) j ∧ uI s.2 s.1 (bV x sh) j ≤ 255
    unfold uI
    split
    · have hv := bV_rg x sh
      refine ⟨?_, hv.2⟩
      by_cases hz : bV x sh = 0
      · exact absurd (by
          unfold bC
          rw [← bV_i, hz]
          exact if_pos rfl) h
      · omega
    · exact hs.2 j a (by omega)
theorem tbX_o {x : Int32} {s : Int × (Int → Int)} (hs : tpO s) : tpO (tbX x s) := tb1_o (tb1_o (tb1_o (tb1_o hs 24) 16) 8) 0
/-- only the tape changes -/
def frX (M M2 : e_MI) : Prop := (∀ a, a ≠ 184 → a ≠ 199 → M2 a = M a) ∧ ∀ j, j ≠ 22 → M2 184 j = M 184 j
theorem frX.rf (M : e_MI) : frX M M := ⟨fun _ _ _ => rfl, fun _ _ => rfl⟩
theorem frX.t (h : frX M M2) (h2 : frX M2 M3) : frX M M3 := ⟨fun a x y => by rw [h2.1 a x y, h.1 a x y], fun j x => by rw [h2.2 j x, h.2 j x]⟩
end E73
