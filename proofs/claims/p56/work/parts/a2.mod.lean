section Ea2
variable {L : Nat} {xs : Nat → Int32} {d : Nat} {M M2 M3 : e_MI} {V : e_ML} {W : e_MD} {K K2 : e_St} {h : e_H} {S : Int → e_St} {c cd n er o q k i w : Int} {ρ ω β ε τ : Int → Int} {r : Option e_R} {an : Int32}
/-! the best move -/
theorem lg_lt {a b : Int} (ha : -2147483648 ≤ a ∧ a < 2147483648) (hb : -2147483648 ≤ b ∧ b < 2147483648) : lg_cmp (lI a) (lI b) < iI 0 ↔ a < b := (lg_cmp_lt _ _).trans (lI_lt ha hb)
theorem ctW_rg (hr : kR K) {e : Int → Int} (he : ∀ o, 0 ≤ o → o < K 310 → 0 ≤ e o ∧ e o ≤ 2001) : 0 ≤ ctW K e ∧ ctW K e ≤ 144072000 := by
  have hn := hr.n
  have h1 := SU_le (f := ctO K e) (n := K 310) (c := 18009000) (fun o a b => by
    have x := he o a b
    have du := hr.du (o := o) a (by omega)
    have we := hr.we (o := o) a (by omega)
    have r0 := hr.r0
    have r1 := hr.r1
    unfold ctO
    obtain ⟨y, hyy⟩ : ∃ y, y = e o - K (24 + o) := ⟨_, rfl⟩
    rw [← hyy]
    have key : ∀ z w : Int, 0 ≤ z → z ≤ 2001000 → 0 ≤ w → w ≤ 9 → 0 ≤ z * w ∧ z * w ≤ 18009000 := fun z w p1 p2 p3 p4 => ⟨Int.mul_nonneg p1 p3, by
      have := Int.mul_le_mul p2 p4 p3 (by omega : (0 : Int) ≤ 2001000)
      omega⟩
    have key2 : ∀ z w : Int, 0 ≤ z → z ≤ 2001 → 0 ≤ w → w ≤ 1000 → 0 ≤ z * w ∧ z * w ≤ 2001000 := fun z w p1 p2 p3 p4 => ⟨Int.mul_nonneg p1 p3, by
      have := Int.mul_le_mul p2 p4 p3 (by omega : (0 : Int) ≤ 2001)
      omega⟩
    have hy : -500 ≤ y ∧ y ≤ 2001 := by omega
    split
    · have p := key2 y (K 309) (by omega) hy.2 r1.1 r1.2
      exact key _ _ p.1 p.2 we.1 we.2
    · have p := key2 (0 - y) (K 308) (by omega) (by omega) r0.1 r0.2
      exact key _ _ p.1 p.2 we.1 we.2) hn.1
  unfold ctW
  omega
abbrev imT : Type := Int × Int × Int × Int
def imS (K : e_St) (a b : Int) (s : imT) : imT := if a = b ∨ fiR K (mvR (rwK K) a b) (aW K) = false then s else if s.1 < mX (scE K (mvR (rwK K) a b)) (aW K) ∨ (mX (scE K (mvR (rwK K) a b)) (aW K) = s.1 ∧ s.2.1 ≤ ctW K (enO K (mvR (rwK K) a b))) then s else (mX (scE K (mvR (rwK K) a b)) (aW K), ctW K (enO K (mvR (rwK K) a b)), a, b)
def imB (K : e_St) (a : Int) (s : imT) : Nat → imT
  | 0 => s
  | b + 1 => imS K a b (imB K a s b)
def imA (K : e_St) (s : imT) : Nat → imT
  | 0 => s
  | a + 1 => imB K a (imA K s a) (aW K).toNat
def imX (K : e_St) : imT := imA K (edW K, ctW K (enO K (rwK K)), -1, -1) (aW K).toNat
def imI (K : e_St) (s : imT) : Prop := (0 ≤ s.1 ∧ s.1 ≤ 2001) ∧ (0 ≤ s.2.1 ∧ s.2.1 ≤ 144072000) ∧ ((s.2.2.1 = -1 ∧ s.2.2.2 = -1) ∨ ((0 ≤ s.2.2.1 ∧ s.2.2.1 < aW K) ∧ 0 ≤ s.2.2.2 ∧ s.2.2.2 < aW K))
def imK (K : e_St) : e_St := if (imX K).2.2.1 = -1 then K else mvK K (imX K).2.2.1 (imX K).2.2.2
def anIm (K : e_St) : Int := if (imX K).2.2.1 = -1 then -1 else edW K - (imX K).1
end Ea2
