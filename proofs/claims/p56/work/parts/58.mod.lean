section E58
variable {L : Nat} {xs : Nat → Int32} {d : Nat} {M : e_MI} {V : e_ML} {W : e_MD} {K : e_St} {h : e_H} {ρ ω β ε ρ2 ω2 β2 ε2 τ : Int → Int} {k : Int}
/-- the place of a work in a row -/
def plO (K : e_St) (τ : Int → Int) (o w : Int) : Int := zLP (fun p => decide (τ p = o ∧ scW τ p = w)) (aW K)
theorem cnt_ex {o w : Int} (hw : 0 ≤ w) : ∀ n : Int, 0 ≤ n → w < cnt τ o n → ∃ p, 0 ≤ p ∧ p < n ∧ τ p = o ∧ cnt τ o p = w := by
  refine SU_ind (P := fun n => w < cnt τ o n → ∃ p, 0 ≤ p ∧ p < n ∧ τ p = o ∧ cnt τ o p = w) (fun h => ?_) (fun i hi ih h => ?_)
  · exact absurd h (by show ¬ (w < 0); omega)
  · rw [cnt_s τ o hi] at h
    by_cases hq : w < cnt τ o i
    · obtain ⟨p, a, b, c, e⟩ := ih hq
      exact ⟨p, a, by omega, c, e⟩
    · by_cases ho : τ i = o
      · rw [if_pos ho] at h
        exact ⟨i, hi, by omega, ho, by omega⟩
      · rw [if_neg ho] at h
        omega
theorem cnt_inj {p q : Int} (hp : 0 ≤ p) (hq : 0 ≤ q) (h : τ p = τ q) (hc : cnt τ (τ p) p = cnt τ (τ q) q) : p = q := by
  have gen : ∀ p q : Int, 0 ≤ p → p < q → τ p = τ q → cnt τ (τ p) p < cnt τ (τ q) q := by
    intro p q a b e
    have h1 := cnt_s τ (τ p) a
    rw [if_pos rfl] at h1
    have h2 := cnt_mono (τ := τ) (o := τ p) (i := p + 1) (n := q) (by omega) (by omega)
    rw [← e]
    omega
  by_cases h1 : p < q
  · have := gen p q hp h1 h
    omega
  · by_cases h2 : q < p
    · have := gen q p hq h2 h.symm
      omega
    · omega
theorem plO_sp (hr : kR K) (hv : vR K τ) (hn : 0 ≤ aW K) {o w : Int} (ho : 0 ≤ o ∧ o < K 310) (hw : 0 ≤ w ∧ w < K (40 + o)) : (0 ≤ plO K τ o w ∧ plO K τ o w < aW K) ∧ (τ (plO K τ o w) = o ∧ scW τ (plO K τ o w) = w) ∧ ∀ q, 0 ≤ q → τ q = o → scW τ q = w → q = plO K τ o w := by
  have hc := hv.2 o ho.1 ho.2
  obtain ⟨p, a, b, c, e⟩ := cnt_ex (τ := τ) (o := o) hw.1 (aW K) hn (by omega)
  have he : scW τ p = w := by
    show cnt τ (τ p) p = w
    rw [c]
    exact e
  have un : ∀ q, 0 ≤ q → τ q = o → scW τ q = w → q = p := fun q x y z => cnt_inj x a (by rw [y, c]) (z.trans he.symm)
  have hp : plO K τ o w = p := zLP_hit a b (decide_eq_true ⟨c, he⟩) (fun q x y => decide_eq_false (fun z => by
    have := un q (by omega) z.1 z.2
    omega))
  rw [hp]
  exact ⟨⟨a, b⟩, ⟨c, he⟩, un⟩
/-- when an order is ready -/
def enO (K : e_St) (τ : Int → Int) (o : Int) : Int := if K (40 + o) = 0 then K (16 + o) else scE K τ (plO K τ o (K (40 + o) - 1))
end E58
