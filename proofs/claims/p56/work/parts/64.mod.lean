section E64
variable {L : Nat} {xs : Nat → Int32} {d : Nat} {M : e_MI} {V : e_ML} {W : e_MD} {K : e_St} {h : e_H} {ρ ω β ε ρ2 ω2 β2 ε2 τ : Int → Int} {k : Int}
/-! changes of the present state -/
/-- only the present state changes -/
def frN (M M2 : e_MI) : Prop := ∀ a, a ≠ 185 → M2 a = M a
theorem frN.t {M2 M3 : e_MI} (h : frN M M2) (h2 : frN M2 M3) : frN M M3 := fun a x => by rw [h2 a x, h a x]
/-- the state with another row -/
def rwS (K : e_St) (r : Int → Int) : e_St := fun z => if 241 ≤ z ∧ z < 257 then r (z - 241) else K z
theorem rwS_n {r : Int → Int} {z : Int} (h : z < 241 ∨ 257 ≤ z) : rwS K r z = K z := by unfold rwS; rw [if_neg (by omega)]
theorem rwS_r {r : Int → Int} {p : Int} (h0 : 0 ≤ p) (h1 : p < 16) : rwS K r (241 + p) = r p := by
  unfold rwS
  rw [if_pos (by omega), show 241 + p - 241 = p by omega]
/-- the works order by order: how many, and the row -/
def anW (o : Int) (s : Int × (Int → Int)) : Nat → Int × (Int → Int)
  | 0 => s
  | w + 1 => ((anW o s w).1 + 1, uI (anW o s w).2 (anW o s w).1 o)
def anO (K : e_St) (r : Int → Int) : Nat → Int × (Int → Int)
  | 0 => (0, r)
  | o + 1 => anW o (anO K r o) (K (40 + o)).toNat
def anR (K : e_St) (r : Int → Int) : Int → Int := (anO K r (K 310).toNat).2
theorem anW_1 (o : Int) (s : Int × (Int → Int)) : ∀ w : Nat, (anW o s w).1 = s.1 + w
  | 0 => by unfold anW; omega
  | w + 1 => by
    have := anW_1 o s w
    show (anW o s w).1 + 1 = _
    omega
theorem anO_1 (K : e_St) (r : Int → Int) (hK : ∀ o, 0 ≤ o → o < 8 → 0 ≤ K (40 + o)) : ∀ n : Nat, (n : Int) ≤ 8 → (anO K r n).1 = SU (fun o => K (40 + o)) n
  | 0, _ => rfl
  | n + 1, h => by
    have ih := anO_1 K r hK n (by omega)
    show (anW n (anO K r n) (K (40 + n)).toNat).1 = _
    have h1 := hK n (by omega) (by omega)
    rw [anW_1, ih, Int.natCast_add, show ((1 : Nat) : Int) = 1 from rfl, SU_s _ (by omega)]
    omega
theorem anW_sp {o : Int} {s : Int × (Int → Int)} (hs : 0 ≤ s.1) : ∀ w : Nat, (∀ p, p < s.1 → (anW o s w).2 p = s.2 p) ∧ (∀ p, s.1 ≤ p → p < s.1 + w → (anW o s w).2 p = o) ∧ ∀ p, s.1 + w ≤ p → (anW o s w).2 p = s.2 p
  | 0 => ⟨fun p _ => rfl, fun p a b => by omega, fun p _ => rfl⟩
  | w + 1 => by
    obtain ⟨h1, h2, h3⟩ := anW_sp (o := o) hs w
    have e := anW_1 o s w
    refine ⟨fun p hp => ?_, fun p a b => ?_, fun p hp => ?_⟩
    · show uI (anW o s w).2 (anW o s w).1 o p = _
      rw [uI_n _ _ (by omega)]
      exact h1 p hp
    · show uI (anW o s w).2 (anW o s w).1 o p = _
      unfold uI
      split
      · rfl
      · exact h2 p a (by omega)
    · show uI (anW o s w).2 (anW o s w).1 o p = _
      rw [uI_n _ _ (by omega)]
      exact h3 p (by omega)
theorem cnt_ext {ρ : Int → Int} {o a : Int} (h0 : 0 ≤ a) : ∀ n : Nat, (∀ p, a ≤ p → p < a + n → ρ p ≠ o) → cnt ρ o (a + n) = cnt ρ o a
  | 0, _ => by rw [show a + ((0 : Nat) : Int) = a by omega]
  | n + 1, h => by
    rw [show a + ((n + 1 : Nat) : Int) = a + n + 1 by omega, cnt_s _ _ (by omega), cnt_ext h0 n (fun p x y => h p x (by omega)), if_neg (h _ (by omega) (by omega))]
    omega
theorem cnt_all {ρ : Int → Int} {o a : Int} (h0 : 0 ≤ a) : ∀ n : Nat, (∀ p, a ≤ p → p < a + n → ρ p = o) → cnt ρ o (a + n) = cnt ρ o a + n
  | 0, _ => by rw [show a + ((0 : Nat) : Int) = a by omega]; omega
  | n + 1, h => by
    rw [show a + ((n + 1 : Nat) : Int) = a + n + 1 by omega, cnt_s _ _ (by omega), cnt_all h0 n (fun p x y => h p x (by omega)), if_pos (h _ (by omega) (by omega))]
    omega
theorem anO_sp (K : e_St) (r : Int → Int) (hK : ∀ o, 0 ≤ o → o < 8 → 0 ≤ K (40 + o)) : ∀ n : Nat, (n : Int) ≤ 8 → (∀ p, 0 ≤ p → p < (anO K r n).1 → 0 ≤ (anO K r n).2 p ∧ (anO K r n).2 p < n) ∧ (∀ o, 0 ≤ o → o < n → cnt (anO K r n).2 o (anO K r n).1 = K (40 + o)) ∧ ∀ p, (anO K r n).1 ≤ p → (anO K r n).2 p = r p
  | 0, _ => ⟨fun p a b => by
      have : p < 0 := b
      omega, fun o a b => by omega, fun p _ => rfl⟩
  | n + 1, h => by
    obtain ⟨h1, h2, h3⟩ := anO_sp K r hK n (by omega)
    have hs : 0 ≤ (anO K r n).1 := by
      rw [anO_1 K r hK n (by omega)]
      have := SU_mono (f := fun o => K (40 + o)) (i := 0) (n := (n : Int)) (fun i a b => hK i a (by omega)) (Int.le_refl _) (by omega)
      rw [SU_0] at this
      exact this
    have hw := hK n (by omega) (by omega)
    obtain ⟨g1, g2, g3⟩ := anW_sp (o := (n : Int)) (s := anO K r n) hs (K (40 + n)).toNat
    have e1 : (anO K r (n + 1)).1 = (anO K r n).1 + (K (40 + n)).toNat := anW_1 _ _ _
    have e2 : (anO K r (n + 1)).2 = (anW (n : Int) (anO K r n) (K (40 + n)).toNat).2 := rfl
    rw [e1, e2]
    refine ⟨fun p a b => ?_, fun o a b => ?_, fun p a => ?_⟩
    · by_cases hp : p < (anO K r n).1
      · rw [g1 p hp]
        have := h1 p a hp
        omega
      · rw [g2 p (by omega) b]
        omega
    · have hc : cnt (anW (n : Int) (anO K r n) (K (40 + n)).toNat).2 o (anO K r n).1 = cnt (anO K r n).2 o (anO K r n).1 := cnt_cong (fun p x y => g1 p y)
      by_cases ho : o = n
      · have hz : cnt (anO K r n).2 o (anO K r n).1 = 0 := by
          have := cnt_ext (ρ := (anO K r n).2) (o := o) (a := 0) (Int.le_refl _) (anO K r n).1.toNat (fun p x y => by
            have := h1 p x (by omega)
            omega)
          rw [show (0 : Int) + ((anO K r n).1.toNat : Int) = (anO K r n).1 by omega] at this
          exact this
        rw [cnt_all hs _ (fun p x y => by rw [g2 p x y, ho]), hc, hz, ho]
        omega
      · rw [cnt_ext hs _ (fun p x y => by rw [g2 p x y]; omega), hc]
        exact h2 o a (by omega)
    · rw [g3 p a]
      exact h3 p (by omega)
end E64
