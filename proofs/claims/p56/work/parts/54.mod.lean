section E54
variable {L : Nat} {xs : Nat → Int32} {d : Nat} {M : e_MI} {V : e_ML} {W : e_MD} {K : e_St} {h : e_H} {ρ ω β ε ρ2 ω2 β2 ε2 τ : Int → Int} {k : Int}
theorem cnt_cong {o k : Int} (h : ∀ p, 0 ≤ p → p < k → ρ p = ρ2 p) : cnt ρ o k = cnt ρ2 o k := SU_cong fun p a b => by simp only [h p a b]
theorem oAh_cong (hk : 0 ≤ k) (h : ∀ p, 0 ≤ p → p ≤ k → ρ p = ρ2 p) : oAh ρ k = oAh ρ2 k := zLP_cong fun p a b => by
  simp only [h p a (by omega), h k hk (Int.le_refl _)]
theorem mcA_cong (h : ρ k = ρ2 k ∧ ω k = ω2 k) : mcA K ρ ω k = mcA K ρ2 ω2 k := by unfold mcA; rw [h.1, h.2]
theorem tlA_cong (h : ρ k = ρ2 k ∧ ω k = ω2 k) : tlA K ρ ω k = tlA K ρ2 ω2 k := by unfold tlA; rw [h.1, h.2]
theorem mAh_cong (hk : 0 ≤ k) (h : ∀ p, 0 ≤ p → p ≤ k → ρ p = ρ2 p ∧ ω p = ω2 p) : mAh K ρ ω k = mAh K ρ2 ω2 k := zLP_cong fun p a b => by
  simp only [mcA_cong (K := K) (h p a (by omega)), mcA_cong (K := K) (h k hk (Int.le_refl _))]
theorem tAh_cong (hk : 0 ≤ k) (h : ∀ p, 0 ≤ p → p ≤ k → ρ p = ρ2 p ∧ ω p = ω2 p) : tAh K ρ ω k = tAh K ρ2 ω2 k := by
  unfold tAh
  rw [tlA_cong (K := K) (h k hk (Int.le_refl _))]
  split
  · rfl
  · exact zLP_cong fun p a b => by simp only [tlA_cong (K := K) (h p a (by omega))]
theorem bz_cong {t : Int} (h : ∀ p, 0 ≤ p → p < k → β p = β2 p ∧ ε p = ε2 p) : bz β ε k t = bz β2 ε2 k t := SU_cong fun p a b => by
  simp only [(h p a b).1, (h p a b).2]
theorem oAh_rg (ρ : Int → Int) (hk : 0 ≤ k) : oAh ρ k = -1 ∨ (0 ≤ oAh ρ k ∧ oAh ρ k < k) := by
  rcases zLP_cases (fun p => decide (ρ p = ρ k)) k hk with ⟨a, b⟩ | ⟨a, b, c, e⟩
  · exact Or.inl a
  · exact Or.inr ⟨a, b⟩
theorem mAh_rg (K : e_St) (ρ ω : Int → Int) (hk : 0 ≤ k) : mAh K ρ ω k = -1 ∨ (0 ≤ mAh K ρ ω k ∧ mAh K ρ ω k < k) := by
  rcases zLP_cases (fun p => decide (mcA K ρ ω p = mcA K ρ ω k)) k hk with ⟨a, b⟩ | ⟨a, b, c, e⟩
  · exact Or.inl a
  · exact Or.inr ⟨a, b⟩
theorem tAh_rg (K : e_St) (ρ ω : Int → Int) (hk : 0 ≤ k) : tAh K ρ ω k = -1 ∨ (0 ≤ tAh K ρ ω k ∧ tAh K ρ ω k < k) := by
  unfold tAh
  split
  · exact Or.inl rfl
  · rcases zLP_cases (fun p => decide (tlA K ρ ω p = tlA K ρ ω k)) k hk with ⟨a, b⟩ | ⟨a, b, c, e⟩
    · exact Or.inl a
    · exact Or.inr ⟨a, b⟩
theorem loW_cong (hk : 0 ≤ k) (h : ∀ p, 0 ≤ p → p ≤ k → ρ p = ρ2 p ∧ ω p = ω2 p) (h2 : ∀ p, 0 ≤ p → p < k → ε p = ε2 p) : loW K ρ ω ε k = loW K ρ2 ω2 ε2 k := by
  have e1 := oAh_cong hk (fun p a b => (h p a b).1)
  have e2 := mAh_cong (K := K) hk h
  have e3 := tAh_cong (K := K) hk h
  have c1 := oAh_rg ρ2 hk
  have c2 := mAh_rg K ρ2 ω2 hk
  have c3 := tAh_rg K ρ2 ω2 hk
  have ek := h k hk (Int.le_refl _)
  have f1 : loA K ρ ε k = loA K ρ2 ε2 k := by
    unfold loA
    rw [e1, ek.1]
    rcases c1 with c | c
    · rw [if_neg (by omega), if_neg (by omega)]
    · rw [h2 _ c.1 c.2]
  have f2 : loS K ρ ω ε k = loS K ρ2 ω2 ε2 k := by
    unfold loS
    rw [e2, ek.1, mcA_cong (K := K) ek]
    rcases c2 with c | c
    · rw [if_pos c, if_pos c]
    · rw [h2 _ c.1 c.2, (h _ c.1 (by omega)).1]
  have f3 : loB K ρ ω ε k = loB K ρ2 ω2 ε2 k := by
    unfold loB
    rw [f1, f2]
  rw [loW_eq, loW_eq, f3, e3]
  rcases c3 with c | c
  · rw [if_neg (by omega), if_neg (by omega)]
  · rw [h2 _ c.1 c.2]
theorem blB_cong {m : Int} (h : ∀ p, 0 ≤ p → p < k → β p = β2 p ∧ ε p = ε2 p) : blB K β ε k m = blB K β2 ε2 k m := by
  funext t
  unfold blB hwB
  rw [bz_cong h]
theorem bgW_cong (hk : 0 ≤ k) (h : ∀ p, 0 ≤ p → p ≤ k → ρ p = ρ2 p ∧ ω p = ω2 p) (h2 : ∀ p, 0 ≤ p → p < k → β p = β2 p ∧ ε p = ε2 p) : bgW K ρ ω β ε k = bgW K ρ2 ω2 β2 ε2 k := by
  have ek := h k hk (Int.le_refl _)
  unfold bgW
  rw [loW_cong hk h (fun p a b => (h2 p a b).2), blB_cong h2, mcA_cong ek, ek.1, ek.2]
theorem enW_cong (hk : 0 ≤ k) (h : ∀ p, 0 ≤ p → p ≤ k → ρ p = ρ2 p ∧ ω p = ω2 p) (h2 : ∀ p, 0 ≤ p → p < k → β p = β2 p ∧ ε p = ε2 p) : enW K ρ ω β ε k = enW K ρ2 ω2 β2 ε2 k := by
  have ek := h k hk (Int.le_refl _)
  unfold enW
  rw [bgW_cong hk h h2, ek.1, ek.2]
/-! the times of a row -/
def scW (τ : Int → Int) : Int → Int := fun k => cnt τ (τ k) k
def scP (K : e_St) (τ : Int → Int) : Nat → (Int → Int) × (Int → Int)
  | 0 => (fun _ => 0, fun _ => 0)
  | n + 1 => (uI (scP K τ n).1 n (bgW K τ (scW τ) (scP K τ n).1 (scP K τ n).2 n), uI (scP K τ n).2 n (enW K τ (scW τ) (scP K τ n).1 (scP K τ n).2 n))
def scB (K : e_St) (τ : Int → Int) : Int → Int := fun k => (scP K τ (k.toNat + 1)).1 k
def scE (K : e_St) (τ : Int → Int) : Int → Int := fun k => (scP K τ (k.toNat + 1)).2 k
theorem scP_s (K : e_St) (τ : Int → Int) {p : Int} (h0 : 0 ≤ p) : ∀ n : Nat, p < n → (scP K τ n).1 p = scB K τ p ∧ (scP K τ n).2 p = scE K τ p
  | 0, h => by omega
  | n + 1, h => by
    by_cases hq : p = n
    · subst hq
      exact ⟨rfl, rfl⟩
    · have ih := scP_s K τ h0 n (by omega)
      rw [← ih.1, ← ih.2]
      exact ⟨uI_n _ _ hq, uI_n _ _ hq⟩
theorem scB_eq (K : e_St) (τ : Int → Int) (hk : 0 ≤ k) : scB K τ k = bgW K τ (scW τ) (scB K τ) (scE K τ) k := by
  have h : scB K τ k = uI (scP K τ k.toNat).1 (k.toNat : Int) (bgW K τ (scW τ) (scP K τ k.toNat).1 (scP K τ k.toNat).2 (k.toNat : Int)) k := rfl
  rw [h, Int.toNat_of_nonneg hk, uI_s]
  exact bgW_cong hk (fun p a b => ⟨rfl, rfl⟩) (fun p a b => scP_s K τ a k.toNat (by omega))
theorem scE_eq (K : e_St) (τ : Int → Int) (hk : 0 ≤ k) : scE K τ k = enW K τ (scW τ) (scB K τ) (scE K τ) k := by
  have h : scE K τ k = uI (scP K τ k.toNat).2 (k.toNat : Int) (enW K τ (scW τ) (scP K τ k.toNat).1 (scP K τ k.toNat).2 (k.toNat : Int)) k := rfl
  rw [h, Int.toNat_of_nonneg hk, uI_s]
  exact enW_cong hk (fun p a b => ⟨rfl, rfl⟩) (fun p a b => scP_s K τ a k.toNat (by omega))
/-- the first k places of the rows are those of τ -/
def agR (K : e_St) (τ : Int → Int) (k : Int) (ρ ω β ε : Int → Int) : Prop := ∀ p, 0 ≤ p → p < k → ρ p = τ p ∧ ω p = scW τ p ∧ β p = scB K τ p ∧ ε p = scE K τ p
theorem agR.put {o : Int} (h : agR K τ k ρ ω β ε) (hk : 0 ≤ k) (ho : o = τ k) : agR K τ (k + 1) (uI ρ k o) (puW ρ ω k o) (puB K ρ ω β ε k o) (puE K ρ ω β ε k o) := by
  subst ho
  have hc : cnt ρ (τ k) k = scW τ k := cnt_cong fun p a b => (h p a b).1
  have hw : ∀ p, 0 ≤ p → p ≤ k → uI ρ k (τ k) p = τ p ∧ puW ρ ω k (τ k) p = scW τ p := by
    intro p a b
    unfold puW uI
    by_cases hq : p = k
    · rw [if_pos hq, if_pos hq, hq]
      exact ⟨rfl, hc⟩
    · rw [if_neg hq, if_neg hq]
      exact ⟨(h p a (by omega)).1, (h p a (by omega)).2.1⟩
  have hb : ∀ p, 0 ≤ p → p < k → β p = scB K τ p ∧ ε p = scE K τ p := fun p a b => ⟨(h p a b).2.2.1, (h p a b).2.2.2⟩
  intro p a b
  refine ⟨(hw p a (by omega)).1, (hw p a (by omega)).2, ?_⟩
  by_cases hq : p = k
  · subst hq
    rw [scB_eq K τ a, scE_eq K τ a, ← bgW_cong a hw hb, ← enW_cong a hw hb]
    exact ⟨uI_s _ _ _, uI_s _ _ _⟩
  · have := hb p a (by omega)
    rw [← this.1, ← this.2]
    exact ⟨uI_n _ _ hq, uI_n _ _ hq⟩
/-- whether the first n places end by 2000 -/
def fiR (K : e_St) (τ : Int → Int) (n : Int) : Bool := !zAN (fun p => decide (scB K τ p = 2001)) n
theorem fiR_f {n j : Int} (h0 : 0 ≤ j) (h1 : j < n) (h : scB K τ j = 2001) : fiR K τ n = false := by
  unfold fiR
  rw [zAN_t (p := fun p => decide (scB K τ p = 2001)) h0 h1 (decide_eq_true h)]
  rfl
theorem fiR_t {n : Int} (hn : 0 ≤ n) (h : ∀ p, 0 ≤ p → p < n → scB K τ p ≠ 2001) : fiR K τ n = true := by
  unfold fiR
  rw [zAN_f (p := fun p => decide (scB K τ p = 2001)) hn (fun p a b => decide_eq_false (h p a b))]
  rfl
theorem fiR_iff {n : Int} (hn : 0 ≤ n) : fiR K τ n = true ↔ ∀ p, 0 ≤ p → p < n → scB K τ p ≠ 2001 := by
  constructor
  · intro h p a b hq
    rw [fiR_f a b hq] at h
    cases h
  · exact fiR_t hn
end E54
