section Ec42
variable {M : e_MI} {t : Nat} {K K2 : e_St} {k p n : Int} {τ τ2 : Int → Int}
/-! the present times stay where the first cells stay -/
theorem eqK.tt (h : eqK K K2) (hr : kR K) (hv : vP K τ k) (hT : TT M t K τ k) : TT M t K2 τ k := by
  obtain ⟨ρ, ν, μ, χ, β, ε, hG, hg⟩ := hT
  have hs : scK K2 = scK K := by
    unfold scK
    exact zAN_cg (by omega) fun i a b => by rw [h (238 + i) (by omega)]
  refine ⟨ρ, ν, μ, χ, β, ε, by rw [hs]; exact hG, fun p a b => ?_⟩
  obtain ⟨⟨g1, g2⟩, ⟨g3, g4⟩, g5, g6⟩ := hg p a b
  have e := h.sc hr hv p.toNat p.toNat (Nat.le_refl _) (by omega)
  rw [Int.toNat_of_nonneg a] at e
  exact ⟨⟨g1, g2⟩, ⟨by rw [h.cm hr hv a b]; exact g3, by rw [h.ct hr hv a b]; exact g4⟩, by rw [e.1]; exact g5, by rw [e.2]; exact g6⟩
theorem eqK.fi (h : eqK K K2) (hr : kR K) (hn : 0 ≤ n) (hv : vP K τ n) : fiR K2 τ n = fiR K τ n := by
  apply bool_eq
  rw [fiR_iff hn, fiR_iff hn]
  have e : ∀ p, 0 ≤ p → p < n → scB K2 τ p = scB K τ p := fun p a b => by
    have e := (h.sc hr hv p.toNat p.toNat (Nat.le_refl _) (by omega)).1
    rw [Int.toNat_of_nonneg a] at e
    exact e
  constructor
  · intro y p a b
    rw [← e p a b]
    exact y p a b
  · intro y p a b
    rw [e p a b]
    exact y p a b
end Ec42
