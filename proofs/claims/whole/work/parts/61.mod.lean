section E61
variable {L : Nat} {xs : Nat → Int32} {d : Nat} {M : e_MI} {V : e_ML} {W : e_MD} {K : e_St} {h : e_H} {ρ ω β ε ρ2 ω2 β2 ε2 τ : Int → Int} {k : Int}
/-! rows as lists -/
def e_la (f : Nat → Int32) (l : List Int) : Prop := ∀ (i : Nat) (x : Int), l[i]? = some x → f i = iI x
/-- a row with a hole behind a -/
def e_ho (f : Nat → Int32) (a b : List Int) : Prop := e_la f a ∧ ∀ (i : Nat) (x : Int), b[i]? = some x → f (a.length + 1 + i) = iI x
theorem ho_in {f : Nat → Int32} {l : List Int} (hl : e_la f l) : e_ho f l [] := ⟨hl, fun i x hx => by simp at hx⟩
theorem ho_at {f : Nat → Int32} {a b : List Int} {x : Int} (hh : e_ho f (a ++ [x]) b) : f a.length = iI x := hh.1 a.length x (by simp)
theorem ho_mv {f : Nat → Int32} {a b : List Int} {x : Int} (hh : e_ho f (a ++ [x]) b) : e_ho (upd f (a.length + 1) (iI x)) a (x :: b) := by
  refine ⟨fun i y hy => ?_, fun i y hy => ?_⟩
  · have hi : i < a.length := (List.getElem?_eq_some_iff.mp hy).1
    rw [upd_n _ _ (by omega)]
    exact hh.1 i y (by rw [List.getElem?_append_left hi]; exact hy)
  · cases i with
    | zero =>
      have : x = y := by simpa using hy
      subst this
      rw [show a.length + 1 + 0 = a.length + 1 from rfl, upd_s]
    | succ i =>
      rw [upd_n _ _ (by omega)]
      have := hh.2 i y (by simpa using hy)
      rw [List.length_append, List.length_singleton] at this
      rw [show a.length + 1 + (i + 1) = a.length + 1 + 1 + i by omega]
      exact this
theorem ho_pu {f : Nat → Int32} {a b : List Int} {o : Int} (hh : e_ho f a b) : e_la (upd f a.length (iI o)) (a ++ o :: b) := by
  intro i x hx
  by_cases h1 : i < a.length
  · rw [upd_n _ _ (by omega)]
    exact hh.1 i x (by rw [List.getElem?_append_left h1] at hx; exact hx)
  · by_cases h2 : i = a.length
    · subst h2
      have : o = x := by simpa using hx
      rw [upd_s, this]
    · rw [upd_n _ _ h2]
      rw [List.getElem?_append_right (by omega)] at hx
      have := hh.2 (i - a.length - 1) x (by
        rw [show i - a.length = (i - a.length - 1) + 1 by omega] at hx
        simpa using hx)
      rw [show a.length + 1 + (i - a.length - 1) = i by omega] at this
      exact this
/-- an order comes into a row, from its end on -/
def insG (lt : Int → Int → Bool) (o : Int) : List Int → List Int → List Int
  | [], b => o :: b
  | x :: a, b => if lt o x = true then insG lt o a (x :: b) else (x :: a).reverse ++ o :: b
def insS (lt : Int → Int → Bool) (o : Int) (l : List Int) : List Int := insG lt o l.reverse []
def rowL (lt : Int → Int → Bool) (q : Int → Bool) : Nat → List Int
  | 0 => []
  | o + 1 => if q o = true then insS lt o (rowL lt q o) else rowL lt q o
theorem insG_perm (lt : Int → Int → Bool) (o : Int) : ∀ a b : List Int, (insG lt o a b).Perm (o :: (a ++ b))
  | [], b => List.Perm.refl _
  | x :: a, b => by
    unfold insG
    split
    · refine (insG_perm lt o a (x :: b)).trans ?_
      exact List.Perm.cons o List.perm_middle
    · refine (List.perm_middle (a := o) (l₁ := (x :: a).reverse) (l₂ := b)).trans ?_
      exact List.Perm.cons o (List.Perm.append_right b (List.reverse_perm (x :: a)))
theorem insS_perm (lt : Int → Int → Bool) (o : Int) (l : List Int) : (insS lt o l).Perm (o :: l) := by
  unfold insS
  refine (insG_perm lt o l.reverse []).trans ?_
  rw [List.append_nil]
  exact List.Perm.cons o (List.reverse_perm l)
theorem rowL_mem (lt : Int → Int → Bool) (q : Int → Bool) : ∀ (n : Nat) (x : Int), x ∈ rowL lt q n ↔ (0 ≤ x ∧ x < n ∧ q x = true)
  | 0, x => by
    unfold rowL
    constructor
    · intro h; cases h
    · intro h; omega
  | n + 1, x => by
    have ih := rowL_mem lt q n
    unfold rowL
    split
    · rename_i hq
      rw [(insS_perm lt n _).mem_iff, List.mem_cons, ih x]
      constructor
      · rintro (e | ⟨a, b, c⟩)
        · subst e
          exact ⟨by omega, by omega, hq⟩
        · exact ⟨a, by omega, c⟩
      · rintro ⟨a, b, c⟩
        by_cases e : x = n
        · exact Or.inl e
        · exact Or.inr ⟨a, by omega, c⟩
    · rename_i hq
      rw [ih x]
      constructor
      · rintro ⟨a, b, c⟩
        exact ⟨a, by omega, c⟩
      · rintro ⟨a, b, c⟩
        by_cases e : x = n
        · rw [e] at c
          exact absurd c hq
        · exact ⟨a, by omega, c⟩
theorem rowL_len (lt : Int → Int → Bool) (q : Int → Bool) : ∀ n : Nat, (rowL lt q n).length ≤ n
  | 0 => Nat.le_refl _
  | n + 1 => by
    have ih := rowL_len lt q n
    unfold rowL
    split
    · rw [(insS_perm lt n _).length_eq, List.length_cons]
      omega
    · omega
/-- whether an order stands ahead of another on one machine -/
def isA (K : e_St) (m : Int) (br : Bool) (o p : Int) : Bool := if br = true then decide (K (32 + p) * tO K o m < K (32 + o) * tO K p m) else decide (K (24 + o) < K (24 + p))
theorem mm_isAhead (hK : e_KM M K) (hr : kR K) {m o p : Int} {br : Bool} (hm : 0 ≤ m ∧ m ≤ 3) (ho : 0 ≤ o ∧ o ≤ 7) (hp : 0 ≤ p ∧ p ≤ 7) : e_lim L xs (d + 2) 249 0 [some (.ref 184), some (.int (iI m)), some (.int (bI br)), some (.int (iI o)), some (.int (iI p))] [] (e_hp M V W) = some (.inl (some (.int (bI (isA K m br o p)))), e_hp M V W, 0, 0) := by
  have e1 := hK (32 + o) (by omega) (by omega)
  have e2 := hK (32 + p) (by omega) (by omega)
  have e3 := hK (24 + o) (by omega) (by omega)
  have e4 := hK (24 + p) (by omega) (by omega)
  have e5 := mm_timeOn (L := L) (xs := xs) (d := d) (V := V) (W := W) hK hr (o := o) (m := m) ho hm
  have e6 := mm_timeOn (L := L) (xs := xs) (d := d) (V := V) (W := W) hK hr (o := p) (m := m) hp hm
  have r1 := hr.we (o := o) ho.1 (by omega)
  have r2 := hr.we (o := p) hp.1 (by omega)
  have r3 := hr.du (o := o) ho.1 (by omega)
  have r4 := hr.du (o := p) hp.1 (by omega)
  have r5 := tO_rg hr (o := o) (m := m) ho
  have r6 := tO_rg hr (o := p) (m := m) hp
  have m1 : 0 ≤ K (32 + o) * tO K p m ∧ K (32 + o) * tO K p m ≤ 9 * 324 := ⟨Int.mul_nonneg r1.1 r6.1, Int.mul_le_mul r1.2 r6.2 r6.1 (by omega)⟩
  have m2 : 0 ≤ K (32 + p) * tO K o m ∧ K (32 + p) * tO K o m ≤ 9 * 324 := ⟨Int.mul_nonneg r2.1 r5.1, Int.mul_le_mul r2.2 r5.2 r5.1 (by omega)⟩
  unfold isA
  cases br with
  | true =>
    simp (disch := first | assumption | exact e_nk_i _ | exact e_nk_n | exact e_nk_r _ | exact e_bo_0 | exact e_bo_1 | exact e_bo_b _ | omega) only [e_cl_v, e_cl_x, e_add_0, e_add_s, Option.toList_some, Option.toList_none, List.cons_append, List.nil_append, iI_add, iI_sub, iI_mul, iI_lt, iI_eq, iI_le, r249_0, r249_1, r249_4, r249_5, r249_8, r249_10, r249_11, r249_12, r249_13, r249_14, r249_16, r249_17, r249_20, r249_21, r249_22, r249_25, r249_27, r249_29, r249_30, r249_31, r249_32, r249_33, r249_34, r249_37, r249_38, r249_41, r249_42, r249_45, r249_46, r249_47, r249_48, r249_51, r249_53, r249_54, r249_55, r249_56, r249_57, r249_60, r249_62, r249_64, r249_65, r249_66, r249_69, r249_70, r249_73, r249_74, bI_0, iI_vin, iI_nat, if_true, e1, e2, e5, e6]
    simp only [if_true, Bool.true_eq_false, if_false, ← bI_dec]
    split <;> rfl
  | false =>
    simp (disch := first | assumption | exact e_nk_i _ | exact e_nk_n | exact e_nk_r _ | exact e_bo_0 | exact e_bo_1 | exact e_bo_b _ | omega) only [e_cl_v, e_cl_x, e_add_0, e_add_s, Option.toList_some, Option.toList_none, List.cons_append, List.nil_append, iI_add, iI_sub, iI_mul, iI_lt, iI_eq, iI_le, r249_0, r249_1, r249_4, r249_5, r249_8, r249_10, r249_11, r249_12, r249_13, r249_14, r249_16, r249_17, r249_20, r249_21, r249_22, r249_25, r249_27, r249_29, r249_30, r249_31, r249_32, r249_33, r249_34, r249_37, r249_38, r249_41, r249_42, r249_45, r249_46, r249_47, r249_48, r249_51, r249_53, r249_54, r249_55, r249_56, r249_57, r249_60, r249_62, r249_64, r249_65, r249_66, r249_69, r249_70, r249_73, r249_74, bI_0, iI_vin, iI_nat, if_true, e3, e4]
    simp only [if_true, Bool.false_eq_true, if_false, ← bI_dec]
    split <;> rfl
def frO (M M2 : e_MI) : Prop := (∀ a, a ≠ 184 → a ≠ 196 → a ≠ 197 → M2 a = M a) ∧ ∀ j, j ≠ 17 → j ≠ 18 → M2 184 j = M 184 j
theorem frO.t {M2 M3 : e_MI} (h : frO M M2) (h2 : frO M2 M3) : frO M M3 := ⟨fun a x0 x1 x2 => by rw [h2.1 a x0 x1 x2, h.1 a x0 x1 x2], fun j x0 x1 => by rw [h2.2 j x0 x1, h.2 j x0 x1]⟩
theorem frO.KM {M2 : e_MI} (h : frO M M2) (hK : e_KM M K) : e_KM M2 K := by
  unfold e_KM
  rw [h.1 _ (by decide) (by decide) (by decide)]
  exact hK
theorem mm_oneIn (hr : kR K) {m o : Int} {br : Bool} (hm : 0 ≤ m ∧ m ≤ 3) (ho : 0 ≤ o ∧ o ≤ 7) : ∀ (a b : List Int) (M : e_MI), e_KM M K → (∀ x ∈ a, 0 ≤ x ∧ x ≤ 7) → a.length + b.length ≤ 7 → M 184 17 = iI ((a.length + b.length : Nat) : Int) → e_ho (M 196) a.reverse b → ∃ (M2 : e_MI) (z : Int32), e_lim L xs (d + 3) 250 38 [some (.ref 184), some (.int (iI m)), some (.int (bI br)), some (.int (iI o)), some (.int (iI (a.length : Int)))] [] (e_hp M V W) = e_lim L xs (d + 3) 250 102 [some (.ref 184), some (.int (iI m)), some (.int (bI br)), some (.int (iI o)), some (.int z)] [] (e_hp M2 V W) ∧ e_la (M2 196) (insG (isA K m br) o a b) ∧ (∀ x, x ≠ 184 → x ≠ 196 → M2 x = M x) ∧ (∀ j, j ≠ 17 → M2 184 j = M 184 j) ∧ M2 184 17 = iI ((a.length + b.length + 1 : Nat) : Int)
  | [], b, M, hK, ha, hl, hc, hh => by
    refine ⟨e_u (e_u M 196 (upd (M 196) 0 (iI o))) 184 (upd (M 184) 17 (iI ((b.length + 1 : Nat) : Int))), iI 0, ?_, ?_, fun x y z => ?_, fun j y => ?_, ?_⟩
    · rw [show (([] : List Int).length : Int) = 0 from rfl]
      rw [List.length_nil, Nat.zero_add] at hc
      simp (disch := first | assumption | exact e_nk_i _ | exact e_nk_n | exact e_nk_r _ | exact e_bo_0 | exact e_bo_1 | exact e_bo_b _ | omega) only [e_cl_v, e_cl_x, e_add_0, e_add_s, Option.toList_some, Option.toList_none, List.cons_append, List.nil_append, iI_add, iI_sub, iI_mul, iI_lt, iI_eq, iI_le, r250_38, r250_40, r250_43, r250_44, r250_45, r250_46, r250_47, r250_48, r250_51, r250_53, r250_54, r250_55, r250_56, r250_59, r250_62, r250_63, r250_66, r250_68, r250_69, r250_72, r250_74, r250_75, r250_76, r250_77, r250_78, r250_81, r250_84, r250_85, r250_88, r250_90, r250_91, r250_92, r250_93, r250_94, r250_97, r250_98, r250_99, iI_vin, iI_nat, if_true, e_u_n, hc]
      simp
    · rw [e_u_n _ _ (by decide), e_u_s]
      exact ho_pu (a := []) hh
    · rw [e_u_n _ _ y, e_u_n _ _ z]
    · rw [e_u_s, upd_n _ _ y]
    · rw [e_u_s, upd_s, List.length_nil, Nat.zero_add]
  | x :: a, b, M, hK, ha, hl, hc, hh => by
    rw [List.length_cons] at hl hc
    have hx := ha x (List.mem_cons_self)
    have e1 := mm_isAhead (L := L) (xs := xs) (d := d) (V := V) (W := W) hK hr (m := m) (o := o) (p := x) (br := br) hm ho hx
    have hat : M 196 a.length = iI x := by
      have := hh
      rw [List.reverse_cons] at this
      have := ho_at this
      rw [List.length_reverse] at this
      exact this
    have hn : ((a.length + 1 : Nat) : Int) - 1 = (a.length : Int) := by omega
    have ht : (((a.length + 1 : Nat) : Int)).toNat = a.length + 1 := by omega
    have ht2 : ((a.length : Int)).toNat = a.length := by omega
    by_cases hq : isA K m br o x = true
    · obtain ⟨M2, z, e, r1, r2, r3, r4⟩ := mm_oneIn hr (br := br) hm ho a (x :: b) (e_u M 196 (upd (M 196) (a.length + 1) (iI x))) (by unfold e_KM; rw [e_u_n _ _ (by decide)]; exact hK) (fun y hy => ha y (List.mem_cons_of_mem x hy)) (by rw [List.length_cons]; omega) (by rw [e_u_n _ _ (by decide), hc, List.length_cons]; congr 1; omega) (by
        rw [e_u_s]
        have h1 := hh
        rw [List.reverse_cons] at h1
        have := ho_mv h1
        rw [List.length_reverse] at this
        exact this)
      refine ⟨M2, z, ?_, ?_, fun y u w => by rw [r2 y u w, e_u_n _ _ w], fun j u => by rw [r3 j u, e_u_n _ _ (by decide)], by rw [r4, List.length_cons, List.length_cons]; congr 1; omega⟩
      · rw [← e]
        rw [hq] at e1
        rw [List.length_cons]
        rw [r250_38]
        simp (disch := first | assumption | exact e_nk_i _ | exact e_nk_n | exact e_nk_r _ | exact e_bo_0 | exact e_bo_1 | exact e_bo_b _ | omega) only [e_cl_v, e_cl_x, e_add_0, e_add_s, Option.toList_some, Option.toList_none, List.cons_append, List.nil_append, iI_add, iI_sub, iI_mul, iI_lt, iI_eq, iI_le, r250_40, r250_43, r250_44, r250_45, r250_46, r250_47, r250_48, r250_51, r250_53, r250_54, r250_55, r250_56, r250_59, r250_62, r250_63, r250_66, r250_68, r250_69, r250_72, r250_74, r250_75, r250_76, r250_77, r250_78, r250_81, iI_vin, iI_nat, if_true, hn, ht, ht2, hat, e1, bI_0]
        rw [if_neg (by omega)]
        simp
        rw [show (a.length : Int) + 1 + -1 = a.length by omega]
      · unfold insG
        rw [if_pos hq]
        exact r1
    · have hqf : isA K m br o x = false := by simpa using hq
      refine ⟨e_u (e_u M 196 (upd (M 196) (a.length + 1) (iI o))) 184 (upd (M 184) 17 (iI ((a.length + 1 + b.length + 1 : Nat) : Int))), iI ((a.length + 1 : Nat) : Int), ?_, ?_, fun x y z => ?_, fun j y => ?_, ?_⟩
      · rw [hqf] at e1
        rw [List.length_cons]
        simp (disch := first | assumption | exact e_nk_i _ | exact e_nk_n | exact e_nk_r _ | exact e_bo_0 | exact e_bo_1 | exact e_bo_b _ | omega) only [e_cl_v, e_cl_x, e_add_0, e_add_s, Option.toList_some, Option.toList_none, List.cons_append, List.nil_append, iI_add, iI_sub, iI_mul, iI_lt, iI_eq, iI_le, r250_38, r250_40, r250_43, r250_44, r250_45, r250_46, r250_47, r250_48, r250_51, r250_53, r250_54, r250_55, r250_56, r250_59, r250_62, r250_63, r250_66, r250_68, r250_69, r250_72, r250_74, r250_75, r250_76, r250_77, r250_78, r250_81, r250_84, r250_85, r250_88, r250_90, r250_91, r250_92, r250_93, r250_94, r250_97, r250_98, r250_99, iI_vin, iI_nat, if_true, hn, ht, ht2, hat, e1, bI_0, e_u_n, hc]
        rw [if_neg (by omega)]
        simp
      · rw [e_u_n _ _ (by decide), e_u_s]
        unfold insG
        rw [if_neg hq]
        have := ho_pu (o := o) hh
        rw [List.length_reverse, List.length_cons] at this
        exact this
      · rw [e_u_n _ _ y, e_u_n _ _ z]
      · rw [e_u_s, upd_n _ _ y]
      · rw [e_u_s, upd_s, List.length_cons]
/-- the orders that one machine takes -/
def oneL (K : e_St) (m : Int) (br : Bool) : List Int := rowL (isA K m br) (fun o => decide (tO K o m ≠ 0)) (K 310).toNat
theorem mm_rowsOne (hK : e_KM M K) (hr : kR K) {m : Int} {br : Bool} (hm : 0 ≤ m ∧ m ≤ 3) : ∃ M2 : e_MI, e_lim L xs (d + 3) 250 0 [some (.ref 184), some (.int (iI m)), some (.int (bI br)), none, none] [] (e_hp M V W) = some (.inl none, e_hp M2 V W, 0, 0) ∧ e_la (M2 196) (oneL K m br) ∧ frO M M2 ∧ M2 197 = M 197 ∧ M2 184 17 = iI ((oneL K m br).length : Int) ∧ M2 184 18 = iI 0 := by
  have hn := hr.n
  have key := G_lp (i := 0) (n := K 310) (I := fun i M1 => e_la (M1 196) (rowL (isA K m br) (fun o => decide (tO K o m ≠ 0)) i.toNat) ∧ frO M M1 ∧ M1 197 = M 197 ∧ M1 184 17 = iI ((rowL (isA K m br) (fun o => decide (tO K o m ≠ 0)) i.toNat).length : Int) ∧ M1 184 18 = iI 0) (P := fun i M1 => ∃ M2 : e_MI, e_lim L xs (d + 3) 250 12 [some (.ref 184), some (.int (iI m)), some (.int (bI br)), some (.int (iI i)), none] [] (e_hp M1 V W) = some (.inl none, e_hp M2 V W, 0, 0) ∧ e_la (M2 196) (oneL K m br) ∧ frO M M2 ∧ M2 197 = M 197 ∧ M2 184 17 = iI ((oneL K m br).length : Int) ∧ M2 184 18 = iI 0) (fun j M1 a b hI hc => ?_) (fun M1 hI => ?_) hn.1 (e_u M 184 (upd (upd (M 184) 17 (iI 0)) 18 (iI 0))) ⟨fun i x hx => by simp [rowL] at hx, ⟨fun a x y z => e_u_n _ _ x, fun j x y => by rw [e_u_s, upd_n _ _ y, upd_n _ _ x]⟩, e_u_n _ _ (by decide), by rw [e_u_s, upd_n _ _ (by decide), upd_s]; rfl, by rw [e_u_s, upd_s]⟩
  · obtain ⟨M2, e, r⟩ := key
    refine ⟨M2, ?_, r⟩
    rw [← e]
    simp (disch := first | assumption | exact e_nk_i _ | exact e_nk_n | exact e_nk_r _ | exact e_bo_0 | exact e_bo_1 | exact e_bo_b _ | omega) only [e_cl_v, e_cl_x, e_add_0, e_add_s, Option.toList_some, Option.toList_none, List.cons_append, List.nil_append, iI_add, iI_sub, iI_mul, iI_lt, iI_eq, iI_le, r250_0, r250_1, r250_2, r250_5, r250_6, r250_7, r250_10, r250_11, e_u_u, e_u_s]
  · obtain ⟨i1, i2, i3, i4, i5⟩ := hI
    have hK1 := i2.KM hK
    have e1 := mm_many (L := L) (xs := xs) (d := d + 2) (V := V) (W := W) hK1
    have e2 := mm_timeOn (L := L) (xs := xs) (d := d + 1) (V := V) (W := W) hK1 hr (o := j) (m := m) (by omega) hm
    have r2 := tO_rg hr (o := j) (m := m) (by omega)
    have hlen := rowL_len (isA K m br) (fun o => decide (tO K o m ≠ 0)) j.toNat
    have hst : rowL (isA K m br) (fun o => decide (tO K o m ≠ 0)) (j + 1).toNat = if decide (tO K j m ≠ 0) = true then insS (isA K m br) j (rowL (isA K m br) (fun o => decide (tO K o m ≠ 0)) j.toNat) else rowL (isA K m br) (fun o => decide (tO K o m ≠ 0)) j.toNat := by
      rw [show (j + 1).toNat = j.toNat + 1 by omega]
      show (if decide (tO K (j.toNat : Int) m ≠ 0) = true then insS (isA K m br) (j.toNat : Int) _ else _) = _
      rw [Int.toNat_of_nonneg a]
    rw [hst] at hc
    by_cases hq : tO K j m = 0
    · rw [if_neg (by simp [hq])] at hc
      obtain ⟨M2, e, r⟩ := hc M1 ⟨i1, i2, i3, i4, i5⟩
      refine ⟨M2, ?_, r⟩
      rw [← e, r250_12]
      rw [hq] at e2
      simp (disch := first | assumption | exact e_nk_i _ | exact e_nk_n | exact e_nk_r _ | exact e_bo_0 | exact e_bo_1 | exact e_bo_b _ | omega) only [e_cl_v, e_cl_x, e_add_0, e_add_s, Option.toList_some, Option.toList_none, List.cons_append, List.nil_append, iI_add, iI_sub, iI_mul, iI_lt, iI_eq, iI_le, r250_13, r250_14, r250_17, r250_20, r250_21, r250_22, r250_23, r250_26, r250_29, r250_102, r250_105, e1, e2]
      rw [if_pos b]
      simp
    · rw [if_pos (by simp [hq])] at hc
      have hmem : ∀ x ∈ (rowL (isA K m br) (fun o => decide (tO K o m ≠ 0)) j.toNat).reverse, 0 ≤ x ∧ x ≤ 7 := fun x hx => by
        rw [List.mem_reverse, rowL_mem] at hx
        omega
      obtain ⟨M2, z, e, r1, r2, r3, r4⟩ := mm_oneIn (L := L) (xs := xs) (d := d) (V := V) (W := W) hr (m := m) (o := j) (br := br) hm (by omega) (rowL (isA K m br) (fun o => decide (tO K o m ≠ 0)) j.toNat).reverse [] M1 hK1 hmem (by rw [List.length_reverse, List.length_nil]; omega) (by rw [i4, List.length_reverse, List.length_nil]; rfl) (by rw [List.reverse_reverse]; exact ho_in i1)
      have hF2 : frO M M2 := i2.t ⟨fun a x y z => r2 a x y, fun j x y => r3 j x⟩
      obtain ⟨M3, e3, r⟩ := hc M2 ⟨r1, hF2, by rw [r2 _ (by decide) (by decide), i3], by
        rw [r4, (insS_perm (isA K m br) j _).length_eq, List.length_reverse, List.length_nil, List.length_cons], by rw [r3 _ (by decide), i5]⟩
      refine ⟨M3, ?_, r⟩
      have e4 : e_lim L xs (d + 3) 250 102 [some (.ref 184), some (.int (iI m)), some (.int (bI br)), some (.int (iI j)), some (.int z)] [] (e_hp M2 V W) = some (.inl none, e_hp M3 V W, 0, 0) := by
        simp (disch := first | assumption | exact e_nk_i _ | exact e_nk_n | exact e_nk_r _ | exact e_bo_0 | exact e_bo_1 | exact e_bo_b _ | omega) only [e_cl_v, e_cl_x, e_add_0, e_add_s, Option.toList_some, Option.toList_none, List.cons_append, List.nil_append, iI_add, iI_sub, iI_mul, iI_lt, iI_eq, iI_le, r250_102, r250_105]
        exact G_less (by repeat (first | exact e_ll.rf | refine e_ll_c ?_ | refine e_ll_x ?_)) e3
      rw [← e4, ← e, r250_12]
      rw [List.length_reverse]
      simp (disch := first | assumption | exact e_nk_i _ | exact e_nk_n | exact e_nk_r _ | exact e_bo_0 | exact e_bo_1 | exact e_bo_b _ | omega) only [e_cl_v, e_cl_x, e_add_0, e_add_s, Option.toList_some, Option.toList_none, List.cons_append, List.nil_append, iI_add, iI_sub, iI_mul, iI_lt, iI_eq, iI_le, r250_13, r250_14, r250_17, r250_20, r250_21, r250_22, r250_23, r250_26, r250_29, r250_32, r250_33, r250_36, e1, e2, i4]
      rw [if_pos b, if_neg hq]
  · obtain ⟨i1, i2, i3, i4, i5⟩ := hI
    have hK1 := i2.KM hK
    have e1 := mm_many (L := L) (xs := xs) (d := d + 2) (V := V) (W := W) hK1
    refine ⟨M1, ?_, i1, i2, i3, i4, i5⟩
    rw [r250_12]
    simp (disch := first | assumption | exact e_nk_i _ | exact e_nk_n | exact e_nk_r _ | exact e_bo_0 | exact e_bo_1 | exact e_bo_b _ | omega) only [e_cl_v, e_cl_x, e_add_0, e_add_s, Option.toList_some, Option.toList_none, List.cons_append, List.nil_append, iI_add, iI_sub, iI_mul, iI_lt, iI_eq, iI_le, r250_13, r250_14, r250_17, r250_108, e1]
    rw [if_neg (by omega)]
end E61
