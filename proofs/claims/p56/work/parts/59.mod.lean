section E59
variable {L : Nat} {xs : Nat → Int32} {d : Nat} {M : e_MI} {V : e_ML} {W : e_MD} {K : e_St} {h : e_H} {ρ ω β ε ρ2 ω2 β2 ε2 τ : Int → Int} {k : Int}
/-- what is to be in there: all orders have pieces and amounts -/
def kP (K : e_St) : Prop := (∀ o, 0 ≤ o → o < K 310 → 1 ≤ K (8 + o)) ∧ ∀ o w, 0 ≤ o → o < K 310 → 0 ≤ w → w < K (40 + o) → 1 ≤ K (80 + 4 * o + w)
theorem tF_rg (hr : kR K) {o f : Int} (ho : 0 ≤ o ∧ o ≤ 7) : 0 ≤ tF K o f ∧ tF K o f ≤ 324 := by
  have hw := hr.wk (o := o) ho.1 (by omega)
  have := SU_le (f := fun w => if f ≤ w then tk K o w else 0) (n := K (40 + o)) (c := 81) (fun i a b => by
    have := tk_rg hr (o := o) (w := i) ho (by omega)
    split <;> omega) hw.1
  unfold tF
  omega
theorem tO_rg (hr : kR K) {o m : Int} (ho : 0 ≤ o ∧ o ≤ 7) : 0 ≤ tO K o m ∧ tO K o m ≤ 324 := by
  have hw := hr.wk (o := o) ho.1 (by omega)
  have := SU_le (f := fun w => if K (48 + 4 * o + w) = m then tk K o w else 0) (n := K (40 + o)) (c := 81) (fun i a b => by
    have := tk_rg hr (o := o) (w := i) ho (by omega)
    split <;> omega) hw.1
  unfold tO
  omega
theorem lO_rg (hr : kR K) {m : Int} : 0 ≤ lO K m ∧ lO K m ≤ 2592 := by
  have hn := hr.n
  have := SU_le (f := fun o => tO K o m) (n := K 310) (c := 324) (fun i a b => tO_rg hr (by omega)) hn.1
  unfold lO
  omega
theorem SU_le2 {f g : Int → Int} {n : Int} (hn : 0 ≤ n) (h : ∀ i, 0 ≤ i → i < n → f i ≤ g i) : SU f n ≤ SU g n := by
  revert h
  refine SU_ind (P := fun n => (∀ i, 0 ≤ i → i < n → f i ≤ g i) → SU f n ≤ SU g n) (fun _ => Int.le_refl _) (fun i hi ih h => ?_) n hn
  rw [SU_s f hi, SU_s g hi]
  have h1 := ih (fun p a b => h p a (by omega))
  have h2 := h i hi (by omega)
  omega
theorem tF_mono (hr : kR K) {o f f2 : Int} (ho : 0 ≤ o ∧ o ≤ 7) (hf : f ≤ f2) : tF K o f2 ≤ tF K o f := by
  have hw := hr.wk (o := o) ho.1 (by omega)
  refine SU_le2 hw.1 (fun i a b => ?_)
  have := tk_rg hr (o := o) (w := i) ho (by omega)
  split <;> split <;> omega
/-- the least head and tail of a machine's works -/
def bdS (K : e_St) (m o : Int) (s : Int × Int) : Nat → Int × Int
  | 0 => s
  | j + 1 => if K (48 + 4 * o + j) = m then
      (if (bdS K m o s j).1 = -1 ∨ K (16 + o) + tF K o 0 - tF K o j < (bdS K m o s j).1 then K (16 + o) + tF K o 0 - tF K o j else (bdS K m o s j).1,
       if (bdS K m o s j).2 = -1 ∨ tF K o (j + 1) < (bdS K m o s j).2 then tF K o (j + 1) else (bdS K m o s j).2)
    else bdS K m o s j
def bdO (K : e_St) (m : Int) : Nat → Int × Int
  | 0 => (-1, -1)
  | o + 1 => bdS K m o (bdO K m o) (K (40 + o)).toNat
def bdW (K : e_St) (m : Int) : Int := if (bdO K m (K 310).toNat).1 = -1 then 0 else (bdO K m (K 310).toNat).1 + lO K m + (bdO K m (K 310).toNat).2
def bdR (s : Int × Int) : Prop := (-1 ≤ s.1 ∧ s.1 ≤ 1000) ∧ (-1 ≤ s.2 ∧ s.2 ≤ 1000)
theorem bdS_rg (hr : kR K) {m o : Int} (ho : 0 ≤ o ∧ o ≤ 7) {s : Int × Int} (hs : bdR s) : ∀ j : Nat, bdR (bdS K m o s j)
  | 0 => hs
  | j + 1 => by
    have ih := bdS_rg hr ho hs (m := m) j
    have r1 := hr.re (o := o) ho.1 (by omega)
    have r2 := tF_rg hr (f := 0) ho
    have r3 := tF_rg hr (f := (j : Int)) ho
    have r4 := tF_rg hr (f := (j : Int) + 1) ho
    have r5 := tF_mono hr (f := 0) (f2 := (j : Int)) ho (by omega)
    obtain ⟨i1, i2⟩ := ih
    unfold bdS
    split
    · refine ⟨?_, ?_⟩
      · simp only
        split <;> omega
      · simp only
        split <;> omega
    · exact ⟨i1, i2⟩
theorem bdO_rg (hr : kR K) {m : Int} : ∀ o : Nat, (o : Int) ≤ 8 → bdR (bdO K m o)
  | 0, _ => by unfold bdO bdR; simp only; omega
  | o + 1, h => bdS_rg hr (by omega) (bdO_rg hr o (by omega)) _
end E59
