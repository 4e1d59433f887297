section E55
variable {L : Nat} {xs : Nat → Int32} {d : Nat} {M : e_MI} {V : e_ML} {W : e_MD} {K : e_St} {h : e_H} {ρ ω β ε ρ2 ω2 β2 ε2 τ : Int → Int} {k : Int}
/-- a loop whose memory changes -/
theorem G_lp {I P : Int → e_MI → Prop} {i n : Int} (hs : ∀ j M, i ≤ j → j < n → I j M → (∀ M2, I (j + 1) M2 → P (j + 1) M2) → P j M) (he : ∀ M, I n M → P n M) (hi : i ≤ n) : ∀ M, I i M → P i M := by
  have : ∀ k : Nat, i + k ≤ n → ∀ M, I (n - k) M → P (n - k) M := by
    intro k
    induction k with
    | zero => intro _; rw [show n - ((0 : Nat) : Int) = n by omega]; exact he
    | succ k ih =>
      intro hk M hM
      refine hs _ M (by omega) (by omega) hM ?_
      rw [show n - ((k + 1 : Nat) : Int) + 1 = n - (k : Int) by omega]
      exact ih (by omega)
  have h1 := this (n - i).toNat (by omega)
  rw [show n - ((n - i).toNat : Int) = i by omega] at h1
  exact h1
/-- a row of places that goes -/
def vR (K : e_St) (τ : Int → Int) : Prop := (∀ p, 0 ≤ p → p < aW K → 0 ≤ τ p ∧ τ p < K 310) ∧ ∀ o, 0 ≤ o → o < K 310 → cnt τ o (aW K) = K (40 + o)
def kV (K : e_St) : Prop := (0 ≤ aW K ∧ aW K ≤ 16) ∧ vR K (fun p => K (241 + p))
theorem cnt_mono {o i n : Int} (h0 : 0 ≤ i) (hi : i ≤ n) : cnt τ o i ≤ cnt τ o n := SU_mono (fun j _ _ => by split <;> omega) h0 hi
theorem vR.c (hr : kR K) (h : vR K τ) {p : Int} (h0 : 0 ≤ p) (h1 : p < aW K) : (0 ≤ τ p ∧ τ p ≤ 7) ∧ cnt τ (τ p) p < K (40 + τ p) ∧ cnt τ (τ p) p ≤ 3 := by
  have hn := hr.n
  have a := h.1 p h0 h1
  have b := h.2 (τ p) a.1 a.2
  have c := cnt_mono (τ := τ) (o := τ p) (i := p + 1) (n := aW K) (by omega) (by omega)
  have e := cnt_s τ (τ p) h0
  rw [if_pos rfl] at e
  have g := hr.wk (o := τ p) a.1 (by omega)
  omega
def frT (M M2 : e_MI) : Prop := (∀ a, a ≠ 184 → a ≠ 188 → a ≠ 189 → a ≠ 190 → a ≠ 191 → a ≠ 192 → M2 a = M a) ∧ ∀ j, j ≠ 0 → j ≠ 9 → M2 184 j = M 184 j
theorem frT.t {M2 M3 : e_MI} (h : frT M M2) (h2 : frT M2 M3) : frT M M3 := ⟨fun a x0 x1 x2 x3 x4 x5 => by rw [h2.1 a x0 x1 x2 x3 x4 x5, h.1 a x0 x1 x2 x3 x4 x5], fun j x0 x1 => by rw [h2.2 j x0 x1, h.2 j x0 x1]⟩
/-- the present row -/
def rwK (K : e_St) : Int → Int := fun p => K (241 + p)
/-- the greatest of the first n, at least 0 -/
def mxS (f : Int → Int) : Nat → Int
  | 0 => 0
  | n + 1 => if mxS f n < f n then f n else mxS f n
def mX (f : Int → Int) (n : Int) : Int := mxS f n.toNat
theorem mX_s (f : Int → Int) {n : Int} (h : 0 ≤ n) : mX f (n + 1) = if mX f n < f n then f n else mX f n := by
  unfold mX
  rw [show (n + 1).toNat = n.toNat + 1 by omega]
  show (if mxS f n.toNat < f (n.toNat : Int) then f (n.toNat : Int) else mxS f n.toNat) = _
  rw [Int.toNat_of_nonneg h]
theorem mX_rg {f : Int → Int} {n c : Int} (hn : 0 ≤ n) (hc : 0 ≤ c) (h : ∀ p, 0 ≤ p → p < n → f p ≤ c) : 0 ≤ mX f n ∧ mX f n ≤ c := by
  revert h
  refine SU_ind (P := fun n => (∀ p, 0 ≤ p → p < n → f p ≤ c) → 0 ≤ mX f n ∧ mX f n ≤ c) (fun _ => ⟨Int.le_refl _, hc⟩) (fun i hi ih h => ?_) n hn
  have h1 := ih (fun p a b => h p a (by omega))
  have h2 := h i hi (by omega)
  rw [mX_s f hi]
  split <;> omega
theorem mX_cong {f g : Int → Int} {n : Int} (hn : 0 ≤ n) (h : ∀ p, 0 ≤ p → p < n → f p = g p) : mX f n = mX g n := by
  revert h
  refine SU_ind (P := fun n => (∀ p, 0 ≤ p → p < n → f p = g p) → mX f n = mX g n) (fun _ => rfl) (fun i hi ih h => ?_) n hn
  rw [mX_s f hi, mX_s g hi, ih (fun p a b => h p a (by omega)), h i hi (by omega)]
end E55
