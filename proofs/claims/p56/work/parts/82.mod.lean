section E82
variable {L : Nat} {xs : Nat → Int32} {d : Nat} {M M2 M3 : e_MI} {V : e_ML} {W : e_MD} {K K2 : e_St} {h : e_H} {S : Int → e_St} {c cd : Int} {ρ ω β ε τ T U : Int → Int} {r : Option e_R} {an : Int32}
/-! one machine, two machines -/
theorem oneL_le (hr : kR K) {m : Int} {br : Bool} : (oneL K m br).length ≤ 8 := by
  have hn := hr.n
  have := rowL_len (isA K m br) (fun o => decide (tO K o m ≠ 0)) (K 310).toNat
  unfold oneL
  omega
theorem oneL_mem (hr : kR K) {m : Int} {br : Bool} {x : Int} (hx : x ∈ oneL K m br) : 0 ≤ x ∧ x < K 310 ∧ tO K x m ≠ 0 := by
  unfold oneL at hx
  rw [rowL_mem] at hx
  have hn := hr.n
  have := hx.2.2
  simp only [decide_eq_true_eq] at this
  exact ⟨by omega, by omega, this⟩
/-- sums of weighted ends, lateness -/
def wtF (K : e_St) (m : Int) (l : List Int) : Nat → Int × Int
  | 0 => (0, 0)
  | k + 1 => ((wtF K m l k).1 + tO K (l.getD k 0) m, (wtF K m l k).2 + K (32 + l.getD k 0) * ((wtF K m l k).1 + tO K (l.getD k 0) m))
def wtW (K : e_St) (m : Int) : Int := (wtF K m (oneL K m true) (oneL K m true).length).2
def ltF (K : e_St) (m : Int) (l : List Int) : Nat → Int × Int
  | 0 => (0, 0)
  | k + 1 => ((ltF K m l k).1 + tO K (l.getD k 0) m, if k = 0 ∨ (ltF K m l k).2 < (ltF K m l k).1 + tO K (l.getD k 0) m - K (24 + l.getD k 0) then (ltF K m l k).1 + tO K (l.getD k 0) m - K (24 + l.getD k 0) else (ltF K m l k).2)
def ltW (K : e_St) (m : Int) : Int := (ltF K m (oneL K m false) (oneL K m false).length).2
theorem ltF_rg (hr : kR K) {m : Int} {l : List Int} (hl : ∀ x ∈ l, 0 ≤ x ∧ x ≤ 7) : ∀ k : Nat, k ≤ l.length → (0 ≤ (ltF K m l k).1 ∧ (ltF K m l k).1 ≤ 324 * k) ∧ -500 ≤ (ltF K m l k).2 ∧ (ltF K m l k).2 ≤ 324 * k
  | 0, _ => by
    unfold ltF
    omega
  | k + 1, h => by
    have ih := ltF_rg hr (m := m) hl k (by omega)
    have hx := hl _ (getD_mem (l := l) (i := k) (by omega))
    have h1 := tO_rg hr (o := l.getD k 0) (m := m) hx
    have h2 := hr.du (o := l.getD k 0) hx.1 (by omega)
    unfold ltF
    simp only
    generalize l.getD k 0 = y at *
    push_cast
    split <;> omega
def goW (K : e_St) (m : Int) : List Int × List Int := goL (fun o => tO K o m) (fun o => K (24 + o)) (oneL K m false)
theorem goW_len (hr : kR K) {m : Int} : (goW K m).1.length + (goW K m).2.length ≤ 8 := by
  have h8 := oneL_le hr (m := m) (br := false)
  have := (goL_rg (t := fun o => tO K o m) (u := fun o => K (24 + o)) (oneL K m false) (fun x hx => by
    have := oneL_mem hr hx
    have := hr.n
    omega) 0 ([], []) (Nat.le_refl _) (fun x hx => by rcases hx with y | y <;> cases y)).1
  have e : goW K m = (oneL K m false).foldl (goS (fun o => tO K o m) (fun o => K (24 + o))) ([], []) := rfl
  rw [e]
  omega
/-- the orders of a machine in a way -/
def wyL (K : e_St) (m w : Int) : List Int := if w = 2 then (goW K m).1 ++ (goW K m).2 else oneL K m (decide (w = 0))
def anOA (K : e_St) (m w p : Int) : Int := (wyL K m w).getD p.toNat 0
end E82
