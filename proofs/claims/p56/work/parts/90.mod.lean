section E90
variable {L : Nat} {xs : Nat → Int32} {d : Nat} {M M2 M3 : e_MI} {V : e_ML} {W : e_MD} {K K2 : e_St} {h : e_H} {S : Int → e_St} {c cd n er w f t o : Int} {s : Int × (Int → Int)} {ρ ω β ε τ T U : Int → Int} {r : Option e_R} {an : Int32}
theorem SU_eq {f g : Int → Int} {n : Int} (hn : 0 ≤ n) (h : ∀ i, 0 ≤ i → i < n → f i ≤ g i) (he : SU f n = SU g n) : ∀ i, 0 ≤ i → i < n → f i = g i := by
  revert h he
  refine SU_ind (P := fun n => (∀ i, 0 ≤ i → i < n → f i ≤ g i) → SU f n = SU g n → ∀ i, 0 ≤ i → i < n → f i = g i) (fun _ _ i a b => by omega) (fun j hj ih h he i a b => ?_) n hn
  rw [SU_s f hj, SU_s g hj] at he
  have h1 := h j hj (by omega)
  have h2 := SU_le2 hj (fun i x y => h i x (by omega))
  by_cases hq : i = j
  · rw [hq]
    omega
  · exact ih (fun i x y => h i x (by omega)) (by omega) i a (by omega)
/-- where no error is on the tape, its row goes -/
theorem rd_v (hg : kG K) {m : Int} (hm : 0 ≤ m) (he : reW K T m = -1) : vR K (rdS T m.toNat).2 := by
  have hr := hg.1
  unfold reW at he
  by_cases h1 : fsP (rdE K T) m.toNat < m
  · rw [if_pos h1] at he
    have : ∀ n : Nat, 0 ≤ fsP (rdE K T) n := by
      intro n
      induction n with
      | zero => exact Int.le_refl _
      | succ n ih =>
        unfold fsP
        split
        · exact ih
        · split <;> omega
    have := this m.toNat
    omega
  · rw [if_neg h1] at he
    have hf : ∀ j, 0 ≤ j → j < m → rdE K T j = false := by
      have gen : ∀ n : Nat, ¬ fsP (rdE K T) n < n → ∀ j : Int, 0 ≤ j → j < n → rdE K T j = false := by
        intro n
        induction n with
        | zero => intro _ j a b; omega
        | succ n ih =>
          intro hn j a b
          unfold fsP at hn
          by_cases c1 : fsP (rdE K T) n < n
          · rw [if_pos c1] at hn
            omega
          · rw [if_neg c1] at hn
            by_cases c2 : rdE K T n = true
            · rw [if_pos c2] at hn
              omega
            · by_cases c3 : j = n
              · rw [c3]
                simpa using c2
              · exact ih c1 j a (by omega)
      intro j a b
      exact gen m.toNat (by omega) j a (by omega)
    obtain ⟨g0, g1, g2⟩ := rdS_sp hr T m.toNat (fun j a b => hf j a (by omega))
    have hl : (rdS T m.toNat).1 = aW K := by
      by_cases c1 : (rdS T m.toNat).1 = aW K
      · exact c1
      · rw [if_neg c1] at he
        omega
    rw [hl] at g1 g2
    have hs := cnt_sum (ρ := (rdS T m.toNat).2) hr.n.1 (aW K) hg.2.1.1.1 g1
    exact ⟨g1, fun o a b => SU_eq (f := fun o => cnt (rdS T m.toNat).2 o (aW K)) (g := fun o => K (40 + o)) hr.n.1 g2 hs o a b⟩
def cdRd (K : e_St) (s : Int × (Int → Int)) : Int := if reW K s.2 s.1 = -1 then 0 else 1
def rdK (K : e_St) (s : Int × (Int → Int)) : e_St := rtS K (rdS s.2 s.1.toNat).2
theorem fsP_rg {p : Int → Bool} : ∀ n : Nat, 0 ≤ fsP p n ∧ fsP p n ≤ n
  | 0 => ⟨Int.le_refl _, Int.le_refl _⟩
  | n + 1 => by
    have ih := fsP_rg (p := p) n
    unfold fsP
    split
    · omega
    · split <;> omega
theorem reW_rg {m : Int} (hm : 0 ≤ m) : -1 ≤ reW K T m ∧ reW K T m ≤ m := by
  have := fsP_rg (p := rdE K T) m.toNat
  unfold reW
  split
  · omega
  · split <;> omega
/-- how many works begin at another time in the row τ -/
def otW (K K2 : e_St) (τ : Int → Int) : Int := SU (fun p => if bT K (plO K (rwK K) (τ p) (scW τ p)) = scB K2 τ p then 0 else 1) (aW K)
end E90
