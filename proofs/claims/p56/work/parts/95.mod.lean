section E95
variable {L : Nat} {xs : Nat → Int32} {d : Nat} {M M2 M3 : e_MI} {V : e_ML} {W : e_MD} {K K2 : e_St} {h : e_H} {S : Int → e_St} {c cd n er o q k i : Int} {ρ ω β ε τ : Int → Int} {r : Option e_R} {an : Int32}
/-! plans by a rule -/
/-- the first k places of a row -/
def pfx (K : e_St) (τ : Int → Int) (k : Int) : Prop := (∀ p, 0 ≤ p → p < k → 0 ≤ τ p ∧ τ p < K 310) ∧ ∀ o, 0 ≤ o → o < K 310 → cnt τ o k ≤ K (40 + o)
theorem pfx.up (h : pfx K τ k) (hk : 0 ≤ k) (ho : 0 ≤ o ∧ o < K 310) (hc : cnt τ o k < K (40 + o)) : pfx K (uI τ k o) (k + 1) := by
  refine ⟨fun p a b => ?_, fun x a b => ?_⟩
  · unfold uI
    split
    · exact ho
    · exact h.1 p a (by omega)
  · rw [cnt_s _ _ hk, uI_s, cnt_cong (ρ2 := τ) (fun p a b => uI_n _ _ (by omega))]
    have := h.2 x a b
    split
    · next u => subst u; omega
    · omega
theorem pfx.le (hr : kR K) (h : pfx K τ k) (hk : 0 ≤ k) : k ≤ aW K := by
  have h1 := cnt_sum (ρ := τ) hr.n.1 k hk h.1
  have h2 := SU_le2 hr.n.1 h.2
  have h3 : SU (fun q => K (40 + q)) (K 310) = aW K := rfl
  omega
theorem pfx.v (hr : kR K) (h : pfx K τ (aW K)) (hn : 0 ≤ aW K) : vR K τ := ⟨h.1, fun o a b => SU_eq (f := fun o => cnt τ o (aW K)) (g := fun o => K (40 + o)) hr.n.1 h.2 (cnt_sum (ρ := τ) hr.n.1 (aW K) hn h.1) o a b⟩
theorem pfx.ex (hr : kR K) (h : pfx K τ k) (hk : 0 ≤ k) (hl : k < aW K) : ∃ o, 0 ≤ o ∧ o < K 310 ∧ cnt τ o k < K (40 + o) := by
  by_cases hq : ∃ o, 0 ≤ o ∧ o < K 310 ∧ cnt τ o k < K (40 + o)
  · exact hq
  · exfalso
    have h1 := cnt_sum (ρ := τ) hr.n.1 k hk h.1
    have h2 := SU_cong (f := fun o => cnt τ o k) (g := fun o => K (40 + o)) (n := K 310) (fun o a b => by
      have := h.2 o a b
      by_cases z : cnt τ o k = K (40 + o)
      · exact z
      · exact absurd ⟨o, a, b, by omega⟩ hq)
    have h3 : SU (fun q => K (40 + q)) (K 310) = aW K := rfl
    omega
/-- the choice for place k among the first orders: which, its begin, how good it is -/
def plC (K : e_St) (q : Int) (τ : Int → Int) (k : Int) : Nat → Int × Int × Int
  | 0 => (-1, 0, 0)
  | o + 1 => if cnt τ o k = K (40 + o) then plC K q τ k o else if (plC K q τ k o).1 ≠ -1 ∧ ((plC K q τ k o).2.1 < scB K (uI τ k o) k ∨ (scB K (uI τ k o) k = (plC K q τ k o).2.1 ∧ (plC K q τ k o).2.2 ≤ kyW K q o (cnt τ o k))) then plC K q τ k o else (o, scB K (uI τ k o) k, kyW K q o (cnt τ o k))
def plT (K : e_St) (q : Int) : Nat → Int → Int
  | 0 => fun _ => 0
  | k + 1 => uI (plT K q k) k (plC K q (plT K q k) k (K 310).toNat).1
def plR (K : e_St) (q : Int) : Int → Int := plT K q (aW K).toNat
theorem plC_sp (h : pfx K τ k) : ∀ o : Nat, (o : Int) ≤ K 310 → ((plC K q τ k o).1 = -1 ∧ ∀ x : Int, 0 ≤ x → x < o → cnt τ x k = K (40 + x)) ∨ (0 ≤ (plC K q τ k o).1 ∧ (plC K q τ k o).1 < o ∧ cnt τ (plC K q τ k o).1 k < K (40 + (plC K q τ k o).1))
  | 0, _ => Or.inl ⟨rfl, fun x a b => by omega⟩
  | o + 1, ho => by
    have ih := plC_sp h o (by omega)
    have hc := h.2 o (by omega) (by omega)
    unfold plC
    by_cases h1 : cnt τ o k = K (40 + o)
    · rw [if_pos h1]
      rcases ih with ⟨a, b⟩ | ⟨a, b, e⟩
      · refine Or.inl ⟨a, fun x y z => ?_⟩
        by_cases hx : x = o
        · rw [hx]; exact h1
        · exact b x y (by omega)
      · exact Or.inr ⟨a, by omega, e⟩
    · rw [if_neg h1]
      split
      · next u =>
        rcases ih with ⟨a, b⟩ | ⟨a, b, e⟩
        · exact absurd a u.1
        · exact Or.inr ⟨a, by omega, e⟩
      · exact Or.inr ⟨by simp only; omega, by simp only; omega, by simp only; omega⟩
theorem plC_ok (hr : kR K) (h : pfx K τ k) (hk : 0 ≤ k) (hl : k < aW K) : (0 ≤ (plC K q τ k (K 310).toNat).1 ∧ (plC K q τ k (K 310).toNat).1 < K 310) ∧ cnt τ (plC K q τ k (K 310).toNat).1 k < K (40 + (plC K q τ k (K 310).toNat).1) := by
  have hn := hr.n
  rcases plC_sp (q := q) h (K 310).toNat (by omega) with ⟨a, b⟩ | ⟨a, b, e⟩
  · obtain ⟨o, x, y, z⟩ := h.ex hr hk hl
    have := b o x (by omega)
    omega
  · exact ⟨⟨a, by omega⟩, e⟩
theorem plT_pfx (hr : kR K) : ∀ k : Nat, (k : Int) ≤ aW K → pfx K (plT K q k) k
  | 0, _ => ⟨fun p a b => by omega, fun o a b => by
      have hn := hr.n
      have hw := hr.wk (o := o) a (by omega)
      have : cnt (plT K q 0) o 0 = 0 := rfl
      show cnt (plT K q 0) o 0 ≤ K (40 + o)
      omega⟩
  | k + 1, h => by
    have ih := plT_pfx hr k (by omega)
    obtain ⟨c1, c2⟩ := plC_ok (q := q) hr ih (by omega) (by omega)
    have := ih.up (by omega) c1 c2
    rw [show ((k + 1 : Nat) : Int) = k + 1 by omega]
    exact this
theorem plR_v (hr : kR K) (hn : 0 ≤ aW K) : vR K (plR K q) := by
  have := plT_pfx (q := q) hr (aW K).toNat (by omega)
  rw [Int.toNat_of_nonneg hn] at this
  exact this.v hr hn
theorem kyW_rg (hr : kR K) {w : Int} (ho : 0 ≤ o ∧ o ≤ 7) (hw : 0 ≤ w ∧ w ≤ 3) : -1000 ≤ kyW K q o w ∧ kyW K q o w ≤ 1000 := by
  have h1 := tF_rg hr (o := o) (f := w) ho
  have h2 := hr.du (o := o) ho.1 (by omega)
  have h3 := hr.we (o := o) ho.1 (by omega)
  have h4 : 0 ≤ tk K o w ∧ tk K o w ≤ 81 := by
    have a := hr.am (o := o) ho.1 (by omega)
    have b := hr.tm (i := 4 * o + w) (by omega) (by omega)
    rw [show 80 + (4 * o + w) = 80 + 4 * o + w by omega] at b
    unfold tk
    exact ⟨Int.mul_nonneg a.1 b.1, by
      have := Int.mul_le_mul a.2 b.2 b.1 (by omega : (0 : Int) ≤ 9)
      omega⟩
  unfold kyW
  repeat' split
  all_goals omega
theorem fiR_tau {n : Int} {τ2 : Int → Int} (hn : 0 ≤ n) (h : ∀ p, 0 ≤ p → p < n → τ p = τ2 p) : fiR K τ n = fiR K τ2 n := by
  apply bool_eq
  rw [fiR_iff hn, fiR_iff hn]
  constructor
  · intro g p a b
    rw [← (sc_tauI (K := K) h a b).1]
    exact g p a b
  · intro g p a b
    rw [(sc_tauI (K := K) h a b).1]
    exact g p a b
def frR (M M2 : e_MI) : Prop := ∀ a, a ≠ 188 → a ≠ 189 → a ≠ 190 → a ≠ 191 → M2 a = M a
theorem frR.t (h : frR M M2) (h2 : frR M2 M3) : frR M M3 := fun a x0 x1 x2 x3 => by rw [h2 a x0 x1 x2 x3, h a x0 x1 x2 x3]
theorem agR.le {n m : Int} (h : agR K τ n ρ ω β ε) (hm : m ≤ n) : agR K τ m ρ ω β ε := fun p a b => h p a (by omega)
end E95
