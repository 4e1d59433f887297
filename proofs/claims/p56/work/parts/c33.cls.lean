section Ec33
variable {L : Nat} {xs : Nat → Int32} {d : Nat} {M M2 M3 : e_MI} {V : e_ML} {W : e_MD} {K K2 : e_St} {S : Int → e_St} {h : e_H} {s s0 s1 t t2 a b2 n : Nat} {c o w z m k q p i f l b e mc tl T x y N : Int} {sc : Bool} {ρ ν μ χ β ε τ u : Int → Int}
/-! the class's public questions, on -/
theorem x_endOf (H : CK M K c S) (hg : kG K) (ho : i32 o) : e_lim L xs (d + 3) 116 0 [some (.ref 0), some (.int (iI o))] [] (e_hp M V W) = if 0 ≤ o ∧ o ≤ K 310 - 1 then (if ft K = true then some (.inl (some (.int (iI (enO K (rwK K) o)))), e_hp M V W, 0, 0) else some (.inr 1, e_hp M V W, 1, 6)) else some (.inr 2, e_hp M V W, 1, 6) := by
  obtain ⟨hr, ⟨ha, hv⟩, hp, hk, hd⟩ := hg
  have c0 := H.pr.fits
  have e0 := x_isOrder (L := L) (xs := xs) (d := d + 1) (V := V) (W := W) H.sh hr ho
  have e1 := m_requireIndex (L := L) (xs := xs) (d := d + 2) (h := e_hp M V W) (decide (0 ≤ o ∧ o ≤ K 310 - 1))
  have e2 := m_requireState (L := L) (xs := xs) (d := d + 2) (h := e_hp M V W) (ft K)
  by_cases h0 : 0 ≤ o ∧ o ≤ K 310 - 1
  · rw [if_pos (decide_eq_true h0)] at e1
    rw [if_pos h0]
    by_cases h1 : ft K = true
    · rw [if_pos h1] at e2
      have e3 := tt_finishOf (L := L) (xs := xs) (d := d) (V := V) (W := W) e_isT_0 (H.pr.tt h1) H.sh hr hv ha.1 (o := o) (by omega)
      rw [if_pos h1]
      simp (disch := first | assumption | exact e_nk_i _ | exact e_nk_n | exact e_nk_r _ | exact e_bo_0 | exact e_bo_1 | exact e_bo_b _ | omega) only [e_cl_v, e_cl_x, e_add_0, e_add_s, Option.toList_some, Option.toList_none, List.cons_append, List.nil_append, iI_add, iI_sub, iI_mul, iI_lt, iI_eq, iI_le, r116_0, r116_1, r116_2, r116_5, r116_8, r116_9, r116_12, r116_15, r116_18, r116_19, r116_22, r116_23, r116_26, r116_27, r116_30, e0, e1, c0, e2, e3]
    · rw [if_neg h1] at e2
      rw [if_neg h1]
      simp (disch := first | assumption | exact e_nk_i _ | exact e_nk_n | exact e_nk_r _ | exact e_bo_0 | exact e_bo_1 | exact e_bo_b _ | omega) only [e_cl_v, e_cl_x, e_add_0, e_add_s, Option.toList_some, Option.toList_none, List.cons_append, List.nil_append, iI_add, iI_sub, iI_mul, iI_lt, iI_eq, iI_le, r116_0, r116_1, r116_2, r116_5, r116_8, r116_9, r116_12, r116_15, r116_18, r116_19, r116_22, r116_23, r116_26, r116_27, r116_30, e0, e1, c0, e2]
  · rw [if_neg (by rw [decide_eq_true_eq]; exact h0)] at e1
    rw [if_neg h0]
    simp (disch := first | assumption | exact e_nk_i _ | exact e_nk_n | exact e_nk_r _ | exact e_bo_0 | exact e_bo_1 | exact e_bo_b _ | omega) only [e_cl_v, e_cl_x, e_add_0, e_add_s, Option.toList_some, Option.toList_none, List.cons_append, List.nil_append, iI_add, iI_sub, iI_mul, iI_lt, iI_eq, iI_le, r116_0, r116_1, r116_2, r116_5, r116_8, r116_9, r116_12, r116_15, r116_18, r116_19, r116_22, r116_23, r116_26, r116_27, r116_30, e0, e1]
theorem x_busy (H : CK M K c S) (hg : kG K) (hx : i32 x) : e_lim L xs (d + 4) 118 0 [some (.ref 0), some (.int (iI x))] [] (e_hp M V W) = if 0 ≤ x ∧ x ≤ 2000 then (if ft K = true then some (.inl (some (.int (iI (bz (bT K) (eT K) (aW K) x)))), e_hp M V W, 0, 0) else some (.inr 1, e_hp M V W, 1, 6)) else some (.inr 0, e_hp M V W, 1, 6) := by
  obtain ⟨hr, ⟨ha, hv⟩, hp, hk, hd⟩ := hg
  have c0 := H.pr.fits
  have e0 := m_isWithin (L := L) (xs := xs) (d := d + 3) (h := e_hp M V W) (x := x) (y2 := 0) (z2 := 2000) hx (by omega) (by omega)
  have e1 := m_requireArgument (L := L) (xs := xs) (d := d + 3) (h := e_hp M V W) (decide (0 ≤ x ∧ x ≤ 2000))
  have e2 := m_requireState (L := L) (xs := xs) (d := d + 3) (h := e_hp M V W) (ft K)
  by_cases h0 : 0 ≤ x ∧ x ≤ 2000
  · rw [if_pos (decide_eq_true h0)] at e1
    rw [if_pos h0]
    by_cases h1 : ft K = true
    · rw [if_pos h1] at e2
      have e3 := tt_countAtTime (L := L) (xs := xs) (d := d) (V := V) (W := W) e_isT_0 (H.pr.tt h1) hr hp (vR.vp hr hv) (x := x) (by omega)
      rw [if_pos h1]
      simp (disch := first | assumption | exact e_nk_i _ | exact e_nk_n | exact e_nk_r _ | exact e_bo_0 | exact e_bo_1 | exact e_bo_b _ | omega) only [e_cl_v, e_cl_x, e_add_0, e_add_s, Option.toList_some, Option.toList_none, List.cons_append, List.nil_append, iI_add, iI_sub, iI_mul, iI_lt, iI_eq, iI_le, r118_0, r118_1, r118_2, r118_5, r118_8, r118_11, r118_12, r118_15, r118_18, r118_21, r118_22, r118_25, r118_26, r118_29, e0, e1, c0, e2, e3]
      rfl
    · rw [if_neg h1] at e2
      rw [if_neg h1]
      simp (disch := first | assumption | exact e_nk_i _ | exact e_nk_n | exact e_nk_r _ | exact e_bo_0 | exact e_bo_1 | exact e_bo_b _ | omega) only [e_cl_v, e_cl_x, e_add_0, e_add_s, Option.toList_some, Option.toList_none, List.cons_append, List.nil_append, iI_add, iI_sub, iI_mul, iI_lt, iI_eq, iI_le, r118_0, r118_1, r118_2, r118_5, r118_8, r118_11, r118_12, r118_15, r118_18, r118_21, r118_22, r118_25, r118_26, r118_29, e0, e1, c0, e2]
  · rw [if_neg (by rw [decide_eq_true_eq]; exact h0)] at e1
    rw [if_neg h0]
    simp (disch := first | assumption | exact e_nk_i _ | exact e_nk_n | exact e_nk_r _ | exact e_bo_0 | exact e_bo_1 | exact e_bo_b _ | omega) only [e_cl_v, e_cl_x, e_add_0, e_add_s, Option.toList_some, Option.toList_none, List.cons_append, List.nil_append, iI_add, iI_sub, iI_mul, iI_lt, iI_eq, iI_le, r118_0, r118_1, r118_2, r118_5, r118_8, r118_11, r118_12, r118_15, r118_18, r118_21, r118_22, r118_25, r118_26, r118_29, e0, e1]
theorem x_begin (H : CK M K c S) (hg : kG K) (ho : i32 o) (hw : i32 w) : e_lim L xs (d + 3) 115 0 [some (.ref 0), some (.int (iI o)), some (.int (iI w))] [] (e_hp M V W) = if (0 ≤ o ∧ o ≤ K 310 - 1) ∧ 0 ≤ w ∧ w ≤ K (40 + o) - 1 then (if ft K = true then some (.inl (some (.int (iI (bT K (plO K (rwK K) o w))))), e_hp M V W, 0, 0) else some (.inr 1, e_hp M V W, 1, 6)) else some (.inr 2, e_hp M V W, 1, 6) := by
  obtain ⟨hr, ⟨ha, hv⟩, hp, hk, hd⟩ := hg
  have c0 := H.pr.fits
  have e0 := x_isWork (L := L) (xs := xs) (d := d) (V := V) (W := W) H.sh hr ho hw
  have e1 := m_requireIndex (L := L) (xs := xs) (d := d + 2) (h := e_hp M V W) (decide ((0 ≤ o ∧ o ≤ K 310 - 1) ∧ 0 ≤ w ∧ w ≤ K (40 + o) - 1))
  have e2 := m_requireState (L := L) (xs := xs) (d := d + 2) (h := e_hp M V W) (ft K)
  by_cases h0 : (0 ≤ o ∧ o ≤ K 310 - 1) ∧ 0 ≤ w ∧ w ≤ K (40 + o) - 1
  · rw [if_pos (decide_eq_true h0)] at e1
    rw [if_pos h0]
    by_cases h1 : ft K = true
    · rw [if_pos h1] at e2
      have e3 := tt_beginOf (L := L) (xs := xs) (d := d + 1) (V := V) (W := W) e_isT_0 (H.pr.tt h1) hr hv ha.1 (o := o) (w := w) (by omega) (by omega)
      rw [if_pos h1]
      simp (disch := first | assumption | exact e_nk_i _ | exact e_nk_n | exact e_nk_r _ | exact e_bo_0 | exact e_bo_1 | exact e_bo_b _ | omega) only [e_cl_v, e_cl_x, e_add_0, e_add_s, Option.toList_some, Option.toList_none, List.cons_append, List.nil_append, iI_add, iI_sub, iI_mul, iI_lt, iI_eq, iI_le, r115_0, r115_1, r115_2, r115_3, r115_6, r115_9, r115_10, r115_13, r115_16, r115_19, r115_20, r115_23, r115_24, r115_25, r115_28, e0, e1, c0, e2, e3]
      rfl
    · rw [if_neg h1] at e2
      rw [if_neg h1]
      simp (disch := first | assumption | exact e_nk_i _ | exact e_nk_n | exact e_nk_r _ | exact e_bo_0 | exact e_bo_1 | exact e_bo_b _ | omega) only [e_cl_v, e_cl_x, e_add_0, e_add_s, Option.toList_some, Option.toList_none, List.cons_append, List.nil_append, iI_add, iI_sub, iI_mul, iI_lt, iI_eq, iI_le, r115_0, r115_1, r115_2, r115_3, r115_6, r115_9, r115_10, r115_13, r115_16, r115_19, r115_20, r115_23, r115_24, r115_25, r115_28, e0, e1, c0, e2]
  · rw [if_neg (by rw [decide_eq_true_eq]; exact h0)] at e1
    rw [if_neg h0]
    simp (disch := first | assumption | exact e_nk_i _ | exact e_nk_n | exact e_nk_r _ | exact e_bo_0 | exact e_bo_1 | exact e_bo_b _ | omega) only [e_cl_v, e_cl_x, e_add_0, e_add_s, Option.toList_some, Option.toList_none, List.cons_append, List.nil_append, iI_add, iI_sub, iI_mul, iI_lt, iI_eq, iI_le, r115_0, r115_1, r115_2, r115_3, r115_6, r115_9, r115_10, r115_13, r115_16, r115_19, r115_20, r115_23, r115_24, r115_25, r115_28, e0, e1]
theorem x_rowAt (H : SH M 1 K) (ha : 0 ≤ aW K ∧ aW K ≤ 16) (hx : i32 p) : e_lim L xs (d + 2) 113 0 [some (.ref 0), some (.int (iI p))] [] (e_hp M V W) = if 0 ≤ p ∧ p ≤ aW K - 1 then some (.inl (some (.int (iI (K (241 + p))))), e_hp M V W, 0, 0) else some (.inr 2, e_hp M V W, 1, 6) := by
  have e0 := x_isPlace (L := L) (xs := xs) (d := d) (V := V) (W := W) H ha hx
  have e1 := m_requireIndex (L := L) (xs := xs) (d := d + 1) (h := e_hp M V W) (decide (0 ≤ p ∧ p ≤ aW K - 1))
  by_cases h0 : 0 ≤ p ∧ p ≤ aW K - 1
  · rw [if_pos (decide_eq_true h0)] at e1
    have e2 := m_atI (L := L) (xs := xs) (d := d + 1) (M := M) (V := V) (W := W) si_8 (z := p) h0.1 (by omega) (H.ro h0.1 (by omega))
    rw [if_pos h0]
    simp (disch := first | assumption | exact e_nk_i _ | exact e_nk_n | exact e_nk_r _ | exact e_bo_0 | exact e_bo_1 | exact e_bo_b _ | omega) only [e_cl_v, e_cl_x, e_add_0, e_add_s, Option.toList_some, Option.toList_none, List.cons_append, List.nil_append, iI_add, iI_sub, iI_mul, iI_lt, iI_eq, iI_le, r113_0, r113_1, r113_2, r113_5, r113_8, r113_9, r113_12, r113_15, r113_16, r113_19, e0, e1, e2]
  · rw [if_neg (by rw [decide_eq_true_eq]; exact h0)] at e1
    rw [if_neg h0]
    simp (disch := first | assumption | exact e_nk_i _ | exact e_nk_n | exact e_nk_r _ | exact e_bo_0 | exact e_bo_1 | exact e_bo_b _ | omega) only [e_cl_v, e_cl_x, e_add_0, e_add_s, Option.toList_some, Option.toList_none, List.cons_append, List.nil_append, iI_add, iI_sub, iI_mul, iI_lt, iI_eq, iI_le, r113_0, r113_1, r113_2, r113_5, r113_8, r113_9, r113_12, r113_15, r113_16, r113_19, e0, e1]
theorem x_critical (H : CK M K c S) (hg : kG K) : e_lim L xs (d + 5) 123 0 [some (.ref 0)] [] (e_hp M V W) = if ft K = true then some (.inl (some (.int (iI (crN K)))), e_hp M V W, 0, 0) else some (.inr 1, e_hp M V W, 1, 6) := by
  obtain ⟨hr, ⟨ha, hv⟩, hp, hk, hd⟩ := hg
  have c0 := H.pr.fits
  have e2 := m_requireState (L := L) (xs := xs) (d := d + 4) (h := e_hp M V W) (ft K)
  by_cases h1 : ft K = true
  · rw [if_pos h1] at e2
    have e3 := tt_countCritical (L := L) (xs := xs) (d := d) (V := V) (W := W) e_isT_0 (H.pr.tt h1) H.sh hr hp hd (vR.vp hr hv)
    rw [if_pos h1]
    simp (disch := first | assumption | exact e_nk_i _ | exact e_nk_n | exact e_nk_r _ | exact e_bo_0 | exact e_bo_1 | exact e_bo_b _ | omega) only [e_cl_v, e_cl_x, e_add_0, e_add_s, Option.toList_some, Option.toList_none, List.cons_append, List.nil_append, iI_add, iI_sub, iI_mul, iI_lt, iI_eq, iI_le, r123_0, r123_1, r123_4, r123_7, r123_10, r123_11, r123_14, r123_15, r123_18, r123_21, c0, e2, e3]
    rfl
  · rw [if_neg h1] at e2
    rw [if_neg h1]
    simp (disch := first | assumption | exact e_nk_i _ | exact e_nk_n | exact e_nk_r _ | exact e_bo_0 | exact e_bo_1 | exact e_bo_b _ | omega) only [e_cl_v, e_cl_x, e_add_0, e_add_s, Option.toList_some, Option.toList_none, List.cons_append, List.nil_append, iI_add, iI_sub, iI_mul, iI_lt, iI_eq, iI_le, r123_0, r123_1, r123_4, r123_7, r123_10, r123_11, r123_14, r123_15, r123_18, r123_21, c0, e2]
theorem x_late (H : CK M K c S) (hg : kG K) : e_lim L xs (d + 4) 132 0 [some (.ref 0)] [] (e_hp M V W) = if ft K = true then some (.inl (some (.int (iI (ltN K)))), e_hp M V W, 0, 0) else some (.inr 1, e_hp M V W, 1, 6) := by
  obtain ⟨hr, ⟨ha, hv⟩, hp, hk, hd⟩ := hg
  have c0 := H.pr.fits
  have e2 := m_requireState (L := L) (xs := xs) (d := d + 3) (h := e_hp M V W) (ft K)
  by_cases h1 : ft K = true
  · rw [if_pos h1] at e2
    have e3 := tt_countLate (L := L) (xs := xs) (d := d) (V := V) (W := W) e_isT_0 (H.pr.tt h1) H.sh hr hp hv ha.1
    rw [if_pos h1]
    simp (disch := first | assumption | exact e_nk_i _ | exact e_nk_n | exact e_nk_r _ | exact e_bo_0 | exact e_bo_1 | exact e_bo_b _ | omega) only [e_cl_v, e_cl_x, e_add_0, e_add_s, Option.toList_some, Option.toList_none, List.cons_append, List.nil_append, iI_add, iI_sub, iI_mul, iI_lt, iI_eq, iI_le, r132_0, r132_1, r132_4, r132_7, r132_10, r132_11, r132_14, r132_15, r132_18, r132_21, c0, e2, e3]
    rfl
  · rw [if_neg h1] at e2
    rw [if_neg h1]
    simp (disch := first | assumption | exact e_nk_i _ | exact e_nk_n | exact e_nk_r _ | exact e_bo_0 | exact e_bo_1 | exact e_bo_b _ | omega) only [e_cl_v, e_cl_x, e_add_0, e_add_s, Option.toList_some, Option.toList_none, List.cons_append, List.nil_append, iI_add, iI_sub, iI_mul, iI_lt, iI_eq, iI_le, r132_0, r132_1, r132_4, r132_7, r132_10, r132_11, r132_14, r132_15, r132_18, r132_21, c0, e2]
theorem x_cost (H : CK M K c S) (hg : kG K) : e_lim L xs (d + 4) 131 0 [some (.ref 0)] [] (e_hp M V W) = if ft K = true then some (.inl (some (.long (lI (ctW K (enO K (rwK K)))))), e_hp M V W, 0, 0) else some (.inr 1, e_hp M V W, 1, 6) := by
  obtain ⟨hr, ⟨ha, hv⟩, hp, hk, hd⟩ := hg
  have c0 := H.pr.fits
  have e2 := m_requireState (L := L) (xs := xs) (d := d + 3) (h := e_hp M V W) (ft K)
  by_cases h1 : ft K = true
  · rw [if_pos h1] at e2
    have e3 := tt_charge (L := L) (xs := xs) (d := d) (V := V) (W := W) e_isT_0 (H.pr.tt h1) H.sh hr hp hv ha.1
    rw [if_pos h1]
    simp (disch := first | assumption | exact e_nk_i _ | exact e_nk_n | exact e_nk_r _ | exact e_bo_0 | exact e_bo_1 | exact e_bo_b _ | omega) only [e_cl_v, e_cl_x, e_add_0, e_add_s, Option.toList_some, Option.toList_none, List.cons_append, List.nil_append, iI_add, iI_sub, iI_mul, iI_lt, iI_eq, iI_le, r131_0, r131_1, r131_4, r131_7, r131_10, r131_11, r131_14, r131_15, r131_18, r131_21, c0, e2, e3]
  · rw [if_neg h1] at e2
    rw [if_neg h1]
    simp (disch := first | assumption | exact e_nk_i _ | exact e_nk_n | exact e_nk_r _ | exact e_bo_0 | exact e_bo_1 | exact e_bo_b _ | omega) only [e_cl_v, e_cl_x, e_add_0, e_add_s, Option.toList_some, Option.toList_none, List.cons_append, List.nil_append, iI_add, iI_sub, iI_mul, iI_lt, iI_eq, iI_le, r131_0, r131_1, r131_4, r131_7, r131_10, r131_11, r131_14, r131_15, r131_18, r131_21, c0, e2]
end Ec33
