section E70
variable {L : Nat} {xs : Nat → Int32} {d : Nat} {M : e_MI} {V : e_ML} {W : e_MD} {K : e_St} {h : e_H} {ρ ω β ε τ : Int → Int} {k : Int}
/-- the first place before n where p holds, or n -/
def fsP (p : Int → Bool) : Nat → Int
  | 0 => 0
  | n + 1 => if fsP p n < n then fsP p n else if p n = true then n else n + 1
theorem fsP_none {p : Int → Bool} : ∀ n : Nat, (∀ j, 0 ≤ j → j < (n : Int) → p j = false) → fsP p n = n
  | 0, _ => rfl
  | n + 1, h => by
    have ih := fsP_none n (fun j a b => h j a (by omega))
    unfold fsP
    rw [ih, if_neg (by omega), if_neg (by rw [h n (by omega) (by omega)]; decide)]
    omega
theorem fsP_hit {p : Int → Bool} {j : Int} (h0 : 0 ≤ j) (hp : p j = true) (hf : ∀ q, 0 ≤ q → q < j → p q = false) : ∀ n : Nat, j < n → fsP p n = j
  | 0, h => by omega
  | n + 1, h => by
    unfold fsP
    by_cases hq : j < n
    · rw [fsP_hit h0 hp hf n hq, if_pos hq]
    · have e : j = n := by omega
      subst e
      rw [fsP_none n hf, if_neg (by omega), if_pos hp]
/-- where the first error on the tape is -/
def reW (K : e_St) (T : Int → Int) (m : Int) : Int := if fsP (rdE K T) m.toNat < m then fsP (rdE K T) m.toNat else if (rdS T m.toNat).1 = aW K then -1 else m
end E70
