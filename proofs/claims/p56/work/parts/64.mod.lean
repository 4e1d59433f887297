section E64
variable {L : Nat} {xs : Nat → Int32} {d : Nat} {M : e_MI} {V : e_ML} {W : e_MD} {K : e_St} {h : e_H} {ρ ω β ε ρ2 ω2 β2 ε2 τ : Int → Int} {k : Int}
/-! changes of the present state -/
/-- only the present state changes -/
def frN (M M2 : e_MI) : Prop := ∀ a, a ≠ 185 → M2 a = M a
theorem frN.t {M2 M3 : e_MI} (h : frN M M2) (h2 : frN M2 M3) : frN M M3 := fun a x => by rw [h2 a x, h a x]
/-- the state with another row -/
def rwS (K : e_St) (r : Int → Int) : e_St := fun z => if 241 ≤ z ∧ z < 257 then r (z - 241) else K z
theorem rwS_n {r : Int → Int} {z : Int} (h : z < 241 ∨ 257 ≤ z) : rwS K r z = K z := by unfold rwS; rw [if_neg (by omega)]
theorem rwS_r {r : Int → Int} {p : Int} (h0 : 0 ≤ p) (h1 : p < 16) : rwS K r (241 + p) = r p := by
  unfold rwS
  rw [if_pos (by omega), show 241 + p - 241 = p by omega]
/-- the works order by order: how many, and the row -/
def anW (o : Int) (s : Int × (Int → Int)) : Nat → Int × (Int → Int)
  | 0 => s
  | w + 1 => ((anW o s w).1 + 1, uI (anW o s w).2 (anW o s w).1 o)
def anO (K : e_St) (r : Int → Int) : Nat → Int × (Int → Int)
  | 0 => (0, r)
  | o + 1 => anW o (anO K r o) (K (40 + o)).toNat
def anR (K : e_St) (r : Int → Int) : Int → Int := (anO K r (K 310).toNat).2
theorem anW_1 (o : Int) (s : Int × (Int → Int)) : ∀ w : Nat, (anW o s w).1 = s.1 + w
  | 0 => by unfold anW; omega
  | w + 1 => by
    have := anW_1 o s w
    show (anW o s w).1 + 1 = _
    omega
theorem anO_1 (K : e_St) (r : Int → Int) (hK : ∀ o, 0 ≤ o → o < 8 → 0 ≤ K (40 + o)) : ∀ n : Nat, (n : Int) ≤ 8 → (anO K r n).1 = SU (fun o => K (40 + o)) n
  | 0, _ => rfl
  | n + 1, h => by
    have ih := anO_1 K r hK n (by omega)
    show (anW n (anO K r n) (K (40 + n)).toNat).1 = _
    have h1 := hK n (by omega) (by omega)
    rw [anW_1, ih, Int.natCast_add, show ((1 : Nat) : Int) = 1 from rfl, SU_s _ (by omega)]
    omega
theorem cnt_ext {ρ : Int → Int} {o a : Int} (h0 : 0 ≤ a) : ∀ n : Nat, (∀ p, a ≤ p → p < a + n → ρ p ≠ o) → cnt ρ o (a + n) = cnt ρ o a
  | 0, _ => by rw [show a + ((0 : Nat) : Int) = a by omega]
  | n + 1, h => by
    rw [show a + ((n + 1 : Nat) : Int) = a + n + 1 by omega, cnt_s _ _ (by omega), cnt_ext h0 n (fun p x y => h p x (by omega)), if_neg (h _ (by omega) (by omega))]
    omega
end E64
