section E61
variable {L : Nat} {xs : Nat → Int32} {d : Nat} {M : e_MI} {V : e_ML} {W : e_MD} {K : e_St} {h : e_H} {ρ ω β ε ρ2 ω2 β2 ε2 τ : Int → Int} {k : Int}
/-! rows as lists -/
def e_la (f : Nat → Int32) (l : List Int) : Prop := ∀ (i : Nat) (x : Int), l[i]? = some x → f i = iI x
/-- a row with a hole behind a -/
def e_ho (f : Nat → Int32) (a b : List Int) : Prop := e_la f a ∧ ∀ (i : Nat) (x : Int), b[i]? = some x → f (a.length + 1 + i) = iI x
theorem ho_in {f : Nat → Int32} {l : List Int} (hl : e_la f l) : e_ho f l [] := ⟨hl, fun i x hx => by simp at hx⟩
theorem ho_at {f : Nat → Int32} {a b : List Int} {x : Int} (hh : e_ho f (a ++ [x]) b) : f a.length = iI x := hh.1 a.length x (by simp)
theorem ho_mv {f : Nat → Int32} {a b : List Int} {x : Int} (hh : e_ho f (a ++ [x]) b) : e_ho (upd f (a.length + 1) (iI x)) a (x :: b) := by
  refine ⟨fun i y hy => ?_, fun i y hy => ?_⟩
  · have hi : i < a.length := (List.getElem?_eq_some_iff.mp hy).1
    rw [upd_n _ _ (by omega)]
    exact hh.1 i y (by rw [List.getElem?_append_left hi]; exact hy)
  · cases i with
    | zero =>
      have : x = y := by simpa using hy
      subst this
      rw [show a.length + 1 + 0 = a.length + 1 from rfl, upd_s]
    | succ i =>
      rw [upd_n _ _ (by omega)]
      have := hh.2 i y (by simpa using hy)
      rw [List.length_append, List.length_singleton] at this
      rw [show a.length + 1 + (i + 1) = a.length + 1 + 1 + i by omega]
      exact this
theorem ho_pu {f : Nat → Int32} {a b : List Int} {o : Int} (hh : e_ho f a b) : e_la (upd f a.length (iI o)) (a ++ o :: b) := by
  intro i x hx
  by_cases h1 : i < a.length
  · rw [upd_n _ _ (by omega)]
    exact hh.1 i x (by rw [List.getElem?_append_left h1] at hx; exact hx)
  · by_cases h2 : i = a.length
    · subst h2
      have : o = x := by simpa using hx
      rw [upd_s, this]
    · rw [upd_n _ _ h2]
      rw [List.getElem?_append_right (by omega)] at hx
      have := hh.2 (i - a.length - 1) x (by
        rw [show i - a.length = (i - a.length - 1) + 1 by omega] at hx
        simpa using hx)
      rw [show a.length + 1 + (i - a.length - 1) = i by omega] at this
      exact this
/-- an order comes into a row, from its end on -/
def insG (lt : Int → Int → Bool) (o : Int) : List Int → List Int → List Int
  | [], b => o :: b
  | x :: a, b => if lt o x = true then insG lt o a (x :: b) else (x :: a).reverse ++ o :: b
def insS (lt : Int → Int → Bool) (o : Int) (l : List Int) : List Int := insG lt o l.reverse []
def rowL (lt : Int → Int → Bool) (q : Int → Bool) : Nat → List Int
  | 0 => []
  | o + 1 => if q o = true then insS lt o (rowL lt q o) else rowL lt q o
theorem insG_perm (lt : Int → Int → Bool) (o : Int) : ∀ a b : List Int, (insG lt o a b).Perm (o :: (a ++ b))
  | [], b => List.Perm.refl _
  | x :: a, b => by
    unfold insG
    split
    · refine (insG_perm lt o a (x :: b)).trans ?_
      exact List.Perm.cons o List.perm_middle
    · refine (List.perm_middle (a := o) (l₁ := (x :: a).reverse) (l₂ := b)).trans ?_
      exact List.Perm.cons o (List.Perm.append_right b (List.reverse_perm (x :: a)))
theorem insS_perm (lt : Int → Int → Bool) (o : Int) (l : List Int) : (insS lt o l).Perm (o :: l) := by
  unfold insS
  refine (insG_perm lt o l.reverse []).trans ?_
  rw [List.append_nil]
  exact List.Perm.cons o (List.reverse_perm l)
theorem rowL_mem (lt : Int → Int → Bool) (q : Int → Bool) : ∀ (n : Nat) (x : Int), x ∈ rowL lt q n ↔ (0 ≤ x ∧ x < n ∧ q x = true)
  | 0, x => by
    unfold rowL
    constructor
    · intro h; cases h
    · intro h; omega
  | n + 1, x => by
    have ih := rowL_mem lt q n
    unfold rowL
    split
    · rename_i hq
      rw [(insS_perm lt n _).mem_iff, List.mem_cons, ih x]
      constructor
      · rintro (e | ⟨a, b, c⟩)
        · subst e
          exact ⟨by omega, by omega, hq⟩
        · exact ⟨a, by omega, c⟩
      · rintro ⟨a, b, c⟩
        by_cases e : x = n
        · exact Or.inl e
        · exact Or.inr ⟨a, by omega, c⟩
    · rename_i hq
      rw [ih x]
      constructor
      · rintro ⟨a, b, c⟩
        exact ⟨a, by omega, c⟩
      · rintro ⟨a, b, c⟩
        by_cases e : x = n
        · rw [e] at c
          exact absurd c hq
        · exact ⟨a, by omega, c⟩
theorem rowL_len (lt : Int → Int → Bool) (q : Int → Bool) : ∀ n : Nat, (rowL lt q n).length ≤ n
  | 0 => Nat.le_refl _
  | n + 1 => by
    have ih := rowL_len lt q n
    unfold rowL
    split
    · rw [(insS_perm lt n _).length_eq, List.length_cons]
      omega
    · omega
/-- whether an order stands ahead of another on one machine -/
def isA (K : e_St) (m : Int) (br : Bool) (o p : Int) : Bool := if br = true then decide (K (32 + p) * tO K o m < K (32 + o) * tO K p m) else decide (K (24 + o) < K (24 + p))
def frO (M M2 : e_MI) : Prop := (∀ a, a ≠ 184 → a ≠ 196 → a ≠ 197 → M2 a = M a) ∧ ∀ j, j ≠ 17 → j ≠ 18 → M2 184 j = M 184 j
theorem frO.t {M2 M3 : e_MI} (h : frO M M2) (h2 : frO M2 M3) : frO M M3 := ⟨fun a x0 x1 x2 => by rw [h2.1 a x0 x1 x2, h.1 a x0 x1 x2], fun j x0 x1 => by rw [h2.2 j x0 x1, h.2 j x0 x1]⟩
/-- the orders that one machine takes -/
def oneL (K : e_St) (m : Int) (br : Bool) : List Int := rowL (isA K m br) (fun o => decide (tO K o m ≠ 0)) (K 310).toNat
end E61
