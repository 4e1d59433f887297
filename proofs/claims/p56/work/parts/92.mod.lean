section E92
variable {L : Nat} {xs : Nat → Int32} {d : Nat} {M M2 M3 : e_MI} {V : e_ML} {W : e_MD} {K K2 : e_St} {h : e_H} {S : Int → e_St} {c cd n er w f t o m q : Int} {s : Int × (Int → Int)} {ρ ω β ε τ T U : Int → Int} {r : Option e_R} {an : Int32}
/-- the row without an order -/
def wiT (r : Int → Int) (o : Int) : Nat → Int × (Int → Int)
  | 0 => (0, fun _ => 0)
  | k + 1 => if r k = o then wiT r o k else ((wiT r o k).1 + 1, uI (wiT r o k).2 (wiT r o k).1 (r k))
theorem wiT_sp (r : Int → Int) (o : Int) : ∀ k : Nat, (0 ≤ (wiT r o k).1 ∧ (wiT r o k).1 ≤ k) ∧ (∀ x, cnt (wiT r o k).2 x (wiT r o k).1 = if x = o then 0 else cnt r x k)
  | 0 => ⟨⟨Int.le_refl _, Int.le_refl _⟩, fun x => by split <;> rfl⟩
  | k + 1 => by
    obtain ⟨h1, h2⟩ := wiT_sp r o k
    unfold wiT
    by_cases hq : r k = o
    · rw [if_pos hq]
      refine ⟨by omega, fun x => ?_⟩
      rw [h2 x, show ((k + 1 : Nat) : Int) = k + 1 by omega, cnt_s r x (by omega)]
      by_cases hx : x = o
      · rw [if_pos hx, if_pos hx]
      · rw [if_neg hx, if_neg hx, if_neg (by omega)]
        omega
    · rw [if_neg hq]
      refine ⟨by simp only; omega, fun x => ?_⟩
      simp only
      rw [cnt_s _ _ h1.1, uI_s, cnt_cong (ρ2 := (wiT r o k).2) (fun p a b => uI_n _ _ (by omega)), h2 x, show ((k + 1 : Nat) : Int) = k + 1 by omega, cnt_s r x (by omega)]
      by_cases hx : x = o
      · rw [if_pos hx, if_pos hx, if_neg (by omega)]
        omega
      · rw [if_neg hx, if_neg hx]
theorem wiT_mem (r : Int → Int) (o : Int) : ∀ k : Nat, ∀ p, 0 ≤ p → p < (wiT r o k).1 → ∃ i : Int, 0 ≤ i ∧ i < k ∧ (wiT r o k).2 p = r i ∧ r i ≠ o
  | 0, p, a, b => by
    have : p < 0 := b
    omega
  | k + 1, p, a, b => by
    unfold wiT at b ⊢
    by_cases hq : r k = o
    · rw [if_pos hq] at b ⊢
      obtain ⟨i, x, y, z⟩ := wiT_mem r o k p a b
      exact ⟨i, x, by omega, z⟩
    · rw [if_neg hq] at b ⊢
      simp only at b ⊢
      unfold uI
      split
      · exact ⟨k, by omega, by omega, rfl, hq⟩
      · obtain ⟨i, x, y, z⟩ := wiT_mem r o k p a (by omega)
        exact ⟨i, x, by omega, z⟩
def wiW (K : e_St) (o : Int) : Int := if fiR K (wiT (rwK K) o (aW K).toNat).2 (wiT (rwK K) o (aW K).toNat).1 = true then mX (scE K (wiT (rwK K) o (aW K).toNat).2) (wiT (rwK K) o (aW K).toNat).1 else -1
end E92
