section E62
variable {L : Nat} {xs : Nat → Int32} {d : Nat} {M : e_MI} {V : e_ML} {W : e_MD} {K : e_St} {h : e_H} {ρ ω β ε ρ2 ω2 β2 ε2 τ : Int → Int} {k : Int}
/-- the place of the longest of the first ones -/
def lgF (t : Int → Int) (l : List Int) : Nat → Nat
  | 0 => 0
  | p + 1 => if t (l.getD (lgF t l p) 0) < t (l.getD (p + 1) 0) ∨ (t (l.getD (p + 1) 0) = t (l.getD (lgF t l p) 0) ∧ l.getD (lgF t l p) 0 < l.getD (p + 1) 0) then p + 1 else lgF t l p
def lgP (t : Int → Int) (l : List Int) : Nat := lgF t l (l.length - 1)
theorem lgF_le (t : Int → Int) (l : List Int) : ∀ p : Nat, lgF t l p ≤ p
  | 0 => Nat.le_refl _
  | p + 1 => by
    have := lgF_le t l p
    unfold lgF
    split <;> omega
def smL (t : Int → Int) (l : List Int) : Int := (l.map t).sum
theorem smL_app (t : Int → Int) (l : List Int) (o : Int) : smL t (l ++ [o]) = smL t l + t o := by
  unfold smL
  rw [List.map_append, List.sum_append]
  simp
theorem smL_rg {t : Int → Int} {c : Int} : ∀ l : List Int, (∀ x ∈ l, 0 ≤ t x ∧ t x ≤ c) → 0 ≤ smL t l ∧ smL t l ≤ (l.length : Int) * c
  | [], _ => by unfold smL; simp
  | x :: l, h => by
    have ih := smL_rg l (fun y hy => h y (List.mem_cons_of_mem x hy))
    have hx := h x List.mem_cons_self
    have e : smL t (x :: l) = t x + smL t l := by unfold smL; simp
    rw [e, List.length_cons]
    have : ((l.length + 1 : Nat) : Int) * c = (l.length : Int) * c + c := by rw [Int.natCast_add, Int.add_mul]; simp
    omega
theorem smL_era (t : Int → Int) : ∀ (l : List Int) (p : Nat), p < l.length → smL t (l.eraseIdx p) = smL t l - t (l.getD p 0)
  | [], p, h => by simp at h
  | x :: l, 0, _ => by unfold smL; simp; omega
  | x :: l, p + 1, h => by
    have ih := smL_era t l p (by simpa using h)
    have e1 : smL t (x :: l) = t x + smL t l := by unfold smL; simp
    have e2 : smL t ((x :: l).eraseIdx (p + 1)) = t x + smL t (l.eraseIdx p) := by unfold smL; simp
    rw [e1, e2, ih, List.getD_cons_succ]
    omega
/-- one order more, and the longest goes where it would be late -/
def goS (t u : Int → Int) (s : List Int × List Int) (o : Int) : List Int × List Int :=
  if smL t (s.1 ++ [o]) ≤ u o then (s.1 ++ [o], s.2) else ((s.1 ++ [o]).eraseIdx (lgP t (s.1 ++ [o])), s.2 ++ [(s.1 ++ [o]).getD (lgP t (s.1 ++ [o])) 0])
def goL (t u : Int → Int) (l : List Int) : List Int × List Int := l.foldl (goS t u) ([], [])
theorem la_get {f : Nat → Int32} {l : List Int} (h : e_la f l) {i : Nat} (hi : i < l.length) : f i = iI (l.getD i 0) := by
  refine h i _ ?_
  rw [List.getD_eq_getElem?_getD, List.getElem?_eq_getElem hi]
  rfl
theorem la_app {f : Nat → Int32} {l : List Int} (h : e_la f l) (o : Int) : e_la (upd f l.length (iI o)) (l ++ [o]) := by
  have := ho_pu (o := o) (ho_in h)
  exact this
theorem getD_mem {l : List Int} {i : Nat} (hi : i < l.length) : l.getD i 0 ∈ l := by
  rw [List.getD_eq_getElem?_getD, List.getElem?_eq_getElem hi]
  exact List.getElem_mem hi
theorem goS_rg {t u : Int → Int} {n : Nat} {s : List Int × List Int} {o : Int} (h1 : s.1.length + s.2.length ≤ n) (h2 : ∀ x, (x ∈ s.1 ∨ x ∈ s.2) → 0 ≤ x ∧ x ≤ 7) (ho : 0 ≤ o ∧ o ≤ 7) : (goS t u s o).1.length + (goS t u s o).2.length ≤ n + 1 ∧ ∀ x, (x ∈ (goS t u s o).1 ∨ x ∈ (goS t u s o).2) → 0 ≤ x ∧ x ≤ 7 := by
  have hl : lgP t (s.1 ++ [o]) < (s.1 ++ [o]).length := by
    have := lgF_le t (s.1 ++ [o]) ((s.1 ++ [o]).length - 1)
    unfold lgP
    rw [List.length_append, List.length_singleton] at *
    omega
  have hm : ∀ x ∈ s.1 ++ [o], 0 ≤ x ∧ x ≤ 7 := fun x hx => by
    rw [List.mem_append, List.mem_singleton] at hx
    rcases hx with y | y
    · exact h2 x (Or.inl y)
    · rw [y]; exact ho
  unfold goS
  split
  · refine ⟨?_, fun x hx => ?_⟩
    · simp only [List.length_append, List.length_singleton]
      omega
    · rcases hx with y | y
      · exact hm x y
      · exact h2 x (Or.inr y)
  · refine ⟨?_, fun x hx => ?_⟩
    · simp only [List.length_eraseIdx, if_pos hl]
      simp only [List.length_append, List.length_singleton]
      omega
    · rcases hx with y | y
      · exact hm x (List.mem_of_mem_eraseIdx y)
      · rw [List.mem_append, List.mem_singleton] at y
        rcases y with y | y
        · exact h2 x (Or.inr y)
        · rw [y]
          exact hm _ (getD_mem hl)
theorem goL_rg {t u : Int → Int} : ∀ l : List Int, (∀ x ∈ l, 0 ≤ x ∧ x ≤ 7) → ∀ (n : Nat) (s : List Int × List Int), s.1.length + s.2.length ≤ n → (∀ x, (x ∈ s.1 ∨ x ∈ s.2) → 0 ≤ x ∧ x ≤ 7) → (l.foldl (goS t u) s).1.length + (l.foldl (goS t u) s).2.length ≤ n + l.length ∧ ∀ x, (x ∈ (l.foldl (goS t u) s).1 ∨ x ∈ (l.foldl (goS t u) s).2) → 0 ≤ x ∧ x ≤ 7
  | [], _, n, s, h1, h2 => ⟨h1, h2⟩
  | o :: l, h, n, s, h1, h2 => by
    have g := goS_rg (t := t) (u := u) h1 h2 (h o List.mem_cons_self)
    have := goL_rg (t := t) (u := u) l (fun x hx => h x (List.mem_cons_of_mem o hx)) (n + 1) (goS t u s o) g.1 g.2
    rw [List.length_cons, List.foldl_cons]
    refine ⟨?_, this.2⟩
    omega
end E62
