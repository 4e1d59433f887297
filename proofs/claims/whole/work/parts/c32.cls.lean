section Ec32
variable {L : Nat} {xs : Nat → Int32} {d : Nat} {M M2 M3 : e_MI} {V : e_ML} {W : e_MD} {K K2 : e_St} {S : Int → e_St} {h : e_H} {s s0 s1 t t2 a b2 n : Nat} {c o w z m k q p i f l b e mc tl T x y N : Int} {sc : Bool} {ρ ν μ χ β ε τ u : Int → Int}
/-! the class's public questions -/
theorem x_isOrder (H : SH M 1 K) (hr : kR K) (ho : i32 o) : e_lim L xs (d + 1) 162 0 [some (.ref 0), some (.int (iI o))] [] (e_hp M V W) = some (.inl (some (.int (bI (decide (0 ≤ o ∧ o ≤ K 310 - 1))))), e_hp M V W, 0, 0) := by
  have hn := hr.n
  have c0 := H.cn
  have e1 := m_isWithin (L := L) (xs := xs) (d := d) (h := e_hp M V W) (x := o) (y2 := 0) (z2 := K 310 - 1) ho (by omega) (by omega)
  simp (disch := first | assumption | exact e_nk_i _ | exact e_nk_n | exact e_nk_r _ | exact e_bo_0 | exact e_bo_1 | exact e_bo_b _ | omega) only [e_cl_v, e_cl_x, e_add_0, e_add_s, Option.toList_some, Option.toList_none, List.cons_append, List.nil_append, iI_add, iI_sub, iI_mul, iI_lt, iI_eq, iI_le, r162_0, r162_1, r162_2, r162_3, r162_6, r162_9, r162_10, r162_11, r162_14, c0, e1]
theorem x_isPlace (H : SH M 1 K) (ha : 0 ≤ aW K ∧ aW K ≤ 16) (ho : i32 o) : e_lim L xs (d + 1) 164 0 [some (.ref 0), some (.int (iI o))] [] (e_hp M V W) = some (.inl (some (.int (bI (decide (0 ≤ o ∧ o ≤ aW K - 1))))), e_hp M V W, 0, 0) := by
  have c0 := H.cw
  have e1 := m_isWithin (L := L) (xs := xs) (d := d) (h := e_hp M V W) (x := o) (y2 := 0) (z2 := aW K - 1) ho (by omega) (by omega)
  simp (disch := first | assumption | exact e_nk_i _ | exact e_nk_n | exact e_nk_r _ | exact e_bo_0 | exact e_bo_1 | exact e_bo_b _ | omega) only [e_cl_v, e_cl_x, e_add_0, e_add_s, Option.toList_some, Option.toList_none, List.cons_append, List.nil_append, iI_add, iI_sub, iI_mul, iI_lt, iI_eq, iI_le, r164_0, r164_1, r164_2, r164_3, r164_6, r164_9, r164_10, r164_11, r164_14, c0, e1]
theorem x_isWork (H : SH M 1 K) (hr : kR K) (ho : i32 o) (hw : i32 w) : e_lim L xs (d + 2) 163 0 [some (.ref 0), some (.int (iI o)), some (.int (iI w))] [] (e_hp M V W) = some (.inl (some (.int (bI (decide ((0 ≤ o ∧ o ≤ K 310 - 1) ∧ 0 ≤ w ∧ w ≤ K (40 + o) - 1))))), e_hp M V W, 0, 0) := by
  have hn := hr.n
  have e1 := x_isOrder (L := L) (xs := xs) (d := d) (V := V) (W := W) H hr ho
  by_cases h1 : 0 ≤ o ∧ o ≤ K 310 - 1
  · have hwk := hr.wk (o := o) h1.1 (by omega)
    have e2 := s_worksIn (L := L) (xs := xs) (d := d) (V := V) (W := W) H hn.2 h1.1 (by omega)
    have e3 := m_isWithin (L := L) (xs := xs) (d := d + 1) (h := e_hp M V W) (x := w) (y2 := 0) (z2 := K (40 + o) - 1) hw (by omega) (by omega)
    rw [decide_eq_true h1, bI_t] at e1
    by_cases h2 : 0 ≤ w ∧ w ≤ K (40 + o) - 1
    · rw [decide_eq_true h2, bI_t] at e3
      rw [decide_eq_true (⟨h1, h2⟩ : (0 ≤ o ∧ o ≤ K 310 - 1) ∧ 0 ≤ w ∧ w ≤ K (40 + o) - 1), bI_t]
      simp (disch := first | assumption | exact e_nk_i _ | exact e_nk_n | exact e_nk_r _ | exact e_bo_0 | exact e_bo_1 | exact e_bo_b _ | omega) only [e_cl_v, e_cl_x, e_add_0, e_add_s, Option.toList_some, Option.toList_none, List.cons_append, List.nil_append, iI_add, iI_sub, iI_mul, iI_lt, iI_eq, iI_le, r163_0, r163_1, r163_2, r163_5, r163_8, r163_9, r163_10, r163_11, r163_14, r163_15, r163_18, r163_19, r163_20, r163_23, r163_26, r163_27, r163_30, r163_31, e1, e2, e3]
      simp
    · rw [decide_eq_false h2, bI_f] at e3
      rw [decide_eq_false (fun y => h2 y.2), bI_f]
      simp (disch := first | assumption | exact e_nk_i _ | exact e_nk_n | exact e_nk_r _ | exact e_bo_0 | exact e_bo_1 | exact e_bo_b _ | omega) only [e_cl_v, e_cl_x, e_add_0, e_add_s, Option.toList_some, Option.toList_none, List.cons_append, List.nil_append, iI_add, iI_sub, iI_mul, iI_lt, iI_eq, iI_le, r163_0, r163_1, r163_2, r163_5, r163_8, r163_9, r163_10, r163_11, r163_14, r163_15, r163_18, r163_19, r163_20, r163_23, r163_26, r163_27, r163_30, r163_31, e1, e2, e3]
      simp
  · rw [decide_eq_false h1, bI_f] at e1
    rw [decide_eq_false (fun y => h1 y.1), bI_f]
    simp (disch := first | assumption | exact e_nk_i _ | exact e_nk_n | exact e_nk_r _ | exact e_bo_0 | exact e_bo_1 | exact e_bo_b _ | omega) only [e_cl_v, e_cl_x, e_add_0, e_add_s, Option.toList_some, Option.toList_none, List.cons_append, List.nil_append, iI_add, iI_sub, iI_mul, iI_lt, iI_eq, iI_le, r163_0, r163_1, r163_2, r163_5, r163_8, r163_9, r163_10, r163_11, r163_14, r163_15, r163_18, r163_19, r163_20, r163_23, r163_26, r163_27, r163_30, r163_31, e1]
    simp
theorem x_orders (H : SH M 1 K) : e_lim L xs d 114 0 [some (.ref 0)] [] (e_hp M V W) = some (.inl (some (.int (iI (K 310)))), e_hp M V W, 0, 0) := by
  have c0 := H.cn
  simp (disch := first | assumption | exact e_nk_i _ | exact e_nk_n | exact e_nk_r _ | exact e_bo_0 | exact e_bo_1 | exact e_bo_b _ | omega) only [e_cl_v, e_cl_x, e_add_0, e_add_s, Option.toList_some, Option.toList_none, List.cons_append, List.nil_append, iI_add, iI_sub, iI_mul, iI_lt, iI_eq, iI_le, r114_0, r114_1, r114_4, r114_7, c0]
theorem x_works (H : SH M 1 K) : e_lim L xs d 115 0 [some (.ref 0)] [] (e_hp M V W) = some (.inl (some (.int (iI (aW K)))), e_hp M V W, 0, 0) := by
  have c0 := H.cw
  simp (disch := first | assumption | exact e_nk_i _ | exact e_nk_n | exact e_nk_r _ | exact e_bo_0 | exact e_bo_1 | exact e_bo_b _ | omega) only [e_cl_v, e_cl_x, e_add_0, e_add_s, Option.toList_some, Option.toList_none, List.cons_append, List.nil_append, iI_add, iI_sub, iI_mul, iI_lt, iI_eq, iI_le, r115_0, r115_1, r115_4, r115_7, c0]
theorem x_hasTimes (H : CK M K c S) : e_lim L xs d 123 0 [some (.ref 0)] [] (e_hp M V W) = some (.inl (some (.int (bI (ft K)))), e_hp M V W, 0, 0) := by
  have c0 := H.pr.fits
  simp (disch := first | assumption | exact e_nk_i _ | exact e_nk_n | exact e_nk_r _ | exact e_bo_0 | exact e_bo_1 | exact e_bo_b _ | omega) only [e_cl_v, e_cl_x, e_add_0, e_add_s, Option.toList_some, Option.toList_none, List.cons_append, List.nil_append, iI_add, iI_sub, iI_mul, iI_lt, iI_eq, iI_le, r123_0, r123_1, r123_4, r123_7, c0]
theorem x_bound (H : SH M 1 K) (hr : kR K) (hp : kP K) : e_lim L xs (d + 6) 130 0 [some (.ref 0)] [] (e_hp M V W) = some (.inl (some (.int (iI (boW K)))), e_hp M V W, 0, 0) := by
  have e1 := s_lowestEnd (L := L) (xs := xs) (d := d) (V := V) (W := W) H hr hp
  simp (disch := first | assumption | exact e_nk_i _ | exact e_nk_n | exact e_nk_r _ | exact e_bo_0 | exact e_bo_1 | exact e_bo_b _ | omega) only [e_cl_v, e_cl_x, e_add_0, e_add_s, Option.toList_some, Option.toList_none, List.cons_append, List.nil_append, iI_add, iI_sub, iI_mul, iI_lt, iI_eq, iI_le, r130_0, r130_1, r130_4, r130_7, e1]
theorem x_load (H : SH M 1 K) (hr : kR K) (hm : i32 m) : e_lim L xs (d + 4) 129 0 [some (.ref 0), some (.int (iI m))] [] (e_hp M V W) = if 0 ≤ m ∧ m ≤ 3 then some (.inl (some (.int (iI (lO K m)))), e_hp M V W, 0, 0) else some (.inr 0, e_hp M V W, 1, 6) := by
  have e1 := m_isMachine (L := L) (xs := xs) (d := d + 2) (M := M) (V := V) (W := W) (z := m) hm
  by_cases h1 : 0 ≤ m ∧ m ≤ 3
  · rw [decide_eq_true h1] at e1
    have e2 := m_requireArgument (L := L) (xs := xs) (d := d + 3) (h := e_hp M V W) true
    rw [if_pos rfl] at e2
    have e3 := s_timeOnMachine (L := L) (xs := xs) (d := d) (V := V) (W := W) H hr h1
    rw [if_pos h1]
    simp (disch := first | assumption | exact e_nk_i _ | exact e_nk_n | exact e_nk_r _ | exact e_bo_0 | exact e_bo_1 | exact e_bo_b _ | omega) only [e_cl_v, e_cl_x, e_add_0, e_add_s, Option.toList_some, Option.toList_none, List.cons_append, List.nil_append, iI_add, iI_sub, iI_mul, iI_lt, iI_eq, iI_le, r129_0, r129_1, r129_4, r129_7, r129_8, r129_11, r129_12, r129_15, e1, e2, e3]
  · rw [decide_eq_false h1] at e1
    have e2 := m_requireArgument (L := L) (xs := xs) (d := d + 3) (h := e_hp M V W) false
    rw [if_neg (by decide)] at e2
    rw [if_neg h1]
    simp (disch := first | assumption | exact e_nk_i _ | exact e_nk_n | exact e_nk_r _ | exact e_bo_0 | exact e_bo_1 | exact e_bo_b _ | omega) only [e_cl_v, e_cl_x, e_add_0, e_add_s, Option.toList_some, Option.toList_none, List.cons_append, List.nil_append, iI_add, iI_sub, iI_mul, iI_lt, iI_eq, iI_le, r129_0, r129_1, r129_4, r129_7, r129_8, r129_11, r129_12, r129_15, e1, e2]
theorem x_end (H : CK M K c S) (hg : kG K) : e_lim L xs (d + 3) 126 0 [some (.ref 0)] [] (e_hp M V W) = if ft K = true then some (.inl (some (.int (iI (edW K)))), e_hp M V W, 0, 0) else some (.inr 1, e_hp M V W, 1, 6) := by
  obtain ⟨hr, ⟨ha, hv⟩, hp, hk, hd⟩ := hg
  have c0 := H.pr.fits
  have e2 := m_requireState (L := L) (xs := xs) (d := d + 2) (h := e_hp M V W) (ft K)
  by_cases h1 : ft K = true
  · rw [if_pos h1] at e2
    have e3 := tt_latest (L := L) (xs := xs) (d := d) (V := V) (W := W) e_isT_0 (H.pr.tt h1) hr hp (vR.vp hr hv)
    rw [if_pos h1]
    simp (disch := first | assumption | exact e_nk_i _ | exact e_nk_n | exact e_nk_r _ | exact e_bo_0 | exact e_bo_1 | exact e_bo_b _ | omega) only [e_cl_v, e_cl_x, e_add_0, e_add_s, Option.toList_some, Option.toList_none, List.cons_append, List.nil_append, iI_add, iI_sub, iI_mul, iI_lt, iI_eq, iI_le, r126_0, r126_1, r126_4, r126_7, r126_10, r126_11, r126_14, r126_17, c0, e2, e3]
    rfl
  · rw [if_neg h1] at e2
    rw [if_neg h1]
    simp (disch := first | assumption | exact e_nk_i _ | exact e_nk_n | exact e_nk_r _ | exact e_bo_0 | exact e_bo_1 | exact e_bo_b _ | omega) only [e_cl_v, e_cl_x, e_add_0, e_add_s, Option.toList_some, Option.toList_none, List.cons_append, List.nil_append, iI_add, iI_sub, iI_mul, iI_lt, iI_eq, iI_le, r126_0, r126_1, r126_4, r126_7, r126_10, r126_11, r126_14, r126_17, c0, e2]
end Ec32
