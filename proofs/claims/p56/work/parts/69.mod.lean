section E69
variable {L : Nat} {xs : Nat → Int32} {d : Nat} {M : e_MI} {V : e_ML} {W : e_MD} {K : e_St} {h : e_H} {ρ ω β ε τ : Int → Int} {k : Int}
theorem SU_add (f g : Int → Int) {n : Int} (hn : 0 ≤ n) : SU (fun i => f i + g i) n = SU f n + SU g n := by
  refine SU_ind (P := fun n => SU (fun i => f i + g i) n = SU f n + SU g n) rfl (fun i hi ih => ?_) n hn
  rw [SU_s _ hi, SU_s f hi, SU_s g hi, ih]
  omega
theorem SU_one {j n : Int} (h0 : 0 ≤ j) (h1 : j < n) : SU (fun i => if j = i then 1 else 0) n = 1 := by
  have hz : ∀ n : Int, 0 ≤ n → n ≤ j → SU (fun i => if j = i then 1 else 0) n = 0 := fun n a b => by
    have := SU_cong (f := fun i => if j = i then 1 else 0) (g := fun _ => 0) (n := n) (fun i x y => by rw [if_neg (by omega)])
    rw [this]
    exact SU_ind (P := fun n => SU (fun _ => 0) n = 0) rfl (fun i hi ih => by rw [SU_s _ hi, ih]; rfl) n a
  have key : ∀ k : Nat, SU (fun i => if j = i then 1 else 0) (j + 1 + k) = 1 := by
    intro k
    induction k with
    | zero =>
      rw [show j + 1 + ((0 : Nat) : Int) = j + 1 by omega, SU_s _ h0, hz j h0 (Int.le_refl _), if_pos rfl]
      rfl
    | succ k ih =>
      rw [show j + 1 + ((k + 1 : Nat) : Int) = j + 1 + k + 1 by omega, SU_s _ (by omega), ih, if_neg (by omega)]
      rfl
  have := key (n - j - 1).toNat
  rw [show j + 1 + ((n - j - 1).toNat : Int) = n by omega] at this
  exact this
/-- all orders' places are all places -/
theorem cnt_sum {ρ : Int → Int} {N : Int} (hN : 0 ≤ N) : ∀ n : Int, 0 ≤ n → (∀ p, 0 ≤ p → p < n → 0 ≤ ρ p ∧ ρ p < N) → SU (fun o => cnt ρ o n) N = n := by
  refine SU_ind (P := fun n => (∀ p, 0 ≤ p → p < n → 0 ≤ ρ p ∧ ρ p < N) → SU (fun o => cnt ρ o n) N = n) (fun _ => ?_) (fun i hi ih h => ?_)
  · exact SU_ind (P := fun N => SU (fun o => cnt ρ o 0) N = 0) rfl (fun i hi ih => by rw [SU_s _ hi, ih]; rfl) N hN
  · have h1 := ih (fun p a b => h p a (by omega))
    have h2 := h i hi (by omega)
    rw [SU_cong (g := fun o => cnt ρ o i + if ρ i = o then 1 else 0) (fun o a b => cnt_s ρ o hi), SU_add _ _ hN, h1, SU_one h2.1 h2.2]
/-- one order's place more is still within all works -/
theorem cnt_room {ρ : Int → Int} {o n : Int} (hr : kR K) (hn : 0 ≤ n) (h : ∀ p, 0 ≤ p → p < n → 0 ≤ ρ p ∧ ρ p < K 310) (hc : ∀ o, 0 ≤ o → o < K 310 → cnt ρ o n ≤ K (40 + o)) (ho : 0 ≤ o ∧ o < K 310) (hl : cnt ρ o n < K (40 + o)) : n < aW K := by
  have h1 := cnt_sum (ρ := ρ) hr.n.1 n hn h
  have h2 := SU_le2 (f := fun q => cnt ρ q n + if o = q then 1 else 0) (g := fun q => K (40 + q)) (n := K 310) hr.n.1 (fun q a b => by
    by_cases hq : o = q
    · subst hq
      rw [if_pos rfl]
      omega
    · rw [if_neg hq]
      have := hc q a b
      omega)
  rw [SU_add _ _ hr.n.1, h1, SU_one ho.1 ho.2] at h2
  have h3 : SU (fun q => K (40 + q)) (K 310) = aW K := rfl
  omega
/-- the row on the tape, as far as k signs go -/
def rdS (T : Int → Int) : Nat → Int × (Int → Int)
  | 0 => (0, fun _ => 0)
  | k + 1 => if T k = 32 ∨ T k = 10 then rdS T k else ((rdS T k).1 + 1, uI (rdS T k).2 (rdS T k).1 (T k - 48))
/-- whether the first error is at k -/
def rdE (K : e_St) (T : Int → Int) (k : Int) : Bool := decide (¬(T k = 32 ∨ T k = 10) ∧ (¬(0 ≤ T k - 48 ∧ T k - 48 ≤ K 310 - 1) ∨ cnt (rdS T k.toNat).2 (T k - 48) (rdS T k.toNat).1 = K (40 + (T k - 48))))
/-- what holds where no error was -/
theorem rdS_sp (hr : kR K) (T : Int → Int) : ∀ k : Nat, (∀ j, 0 ≤ j → j < (k : Int) → rdE K T j = false) → (0 ≤ (rdS T k).1) ∧ (∀ p, 0 ≤ p → p < (rdS T k).1 → 0 ≤ (rdS T k).2 p ∧ (rdS T k).2 p < K 310) ∧ ∀ o, 0 ≤ o → o < K 310 → cnt (rdS T k).2 o (rdS T k).1 ≤ K (40 + o)
  | 0, _ => ⟨Int.le_refl _, fun p a b => by
      have : p < 0 := b
      omega, fun o a b => by
      have := hr.n
      exact (hr.wk a (by omega)).1⟩
  | k + 1, h => by
    obtain ⟨h0, h1, h2⟩ := rdS_sp hr T k (fun j a b => h j a (by omega))
    have he := h k (by omega) (by omega)
    unfold rdE at he
    rw [decide_eq_false_iff_not, Int.toNat_natCast] at he
    unfold rdS
    by_cases hb : T k = 32 ∨ T k = 10
    · rw [if_pos hb]
      exact ⟨h0, h1, h2⟩
    · rw [if_neg hb]
      have he2 : (0 ≤ T k - 48 ∧ T k - 48 ≤ K 310 - 1) ∧ ¬cnt (rdS T k).2 (T k - 48) (rdS T k).1 = K (40 + (T k - 48)) := by
        refine ⟨?_, fun y => he ⟨hb, Or.inr y⟩⟩
        by_cases z : 0 ≤ T k - 48 ∧ T k - 48 ≤ K 310 - 1
        · exact z
        · exact absurd ⟨hb, Or.inl z⟩ he
      have hcc : ∀ o, cnt (uI (rdS T k).2 (rdS T k).1 (T k - 48)) o (rdS T k).1 = cnt (rdS T k).2 o (rdS T k).1 := fun o => cnt_cong (fun p a b => uI_n _ _ (by omega))
      refine ⟨by simp only; omega, fun p a b => ?_, fun o a b => ?_⟩
      · simp only at b ⊢
        unfold uI
        split
        · omega
        · exact h1 p a (by omega)
      · simp only
        rw [cnt_s _ _ h0, hcc, uI_s]
        have := h2 o a b
        split
        · rename_i hq
          rw [← hq] at this ⊢
          omega
        · omega
end E69
