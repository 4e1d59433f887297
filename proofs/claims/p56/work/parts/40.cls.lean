section E40
variable {L : Nat} {xs : Nat → Int32} {d : Nat} {M : e_MI} {V : e_ML} {W : e_MD} {a n : Nat} {z : Int} {h : e_H}
theorem m_at (ha : e_isA a) (hz : -2147483648 ≤ z ∧ z < 2147483648) : e_lim L xs d 160 0 [some (.ref a), some (.int (iI z))] [] (e_hp M V W) = some (.inl (some (.int (if 0 ≤ z ∧ z < e_nI a then M a z.toNat else iI 0))), e_hp M V W, 0, 0) := by
  have hn := e_nI_lt a
  simp (disch := first | assumption | exact e_nk_i _ | exact e_nk_n | exact e_nk_r _ | exact e_bo_0 | exact e_bo_1 | exact e_bo_b _ | omega) only [e_cl_v, e_cl_x, e_add_0, e_add_s, Option.toList_some, Option.toList_none, List.cons_append, List.nil_append, iI_add, iI_sub, iI_mul, iI_lt, iI_eq, iI_le, r160_0, r160_1, r160_4, r160_5, r160_6, r160_7, r160_10, r160_11, r160_12, r160_13, r160_16, r160_17]
  by_cases h1 : z < 0
  · rw [if_pos h1, if_neg (by omega)]
  · rw [if_neg h1]
    by_cases h2 : z < e_nI a
    · rw [if_pos h2, if_pos (iI_vin (by omega) h2 (by omega)), if_pos (by omega), iI_nat (by omega) (by omega)]
    · rw [if_neg h2, if_neg (by omega)]
theorem m_put {v : Int32} (ha : e_isA a) (hz : -2147483648 ≤ z ∧ z < 2147483648) : e_lim L xs d 161 0 [some (.ref a), some (.int (iI z)), some (.int v)] [] (e_hp M V W) = some (.inl none, e_hp (if 0 ≤ z ∧ z < e_nI a then e_u M a (upd (M a) z.toNat v) else M) V W, 0, 0) := by
  have hn := e_nI_lt a
  simp (disch := first | assumption | exact e_nk_i _ | exact e_nk_n | exact e_nk_r _ | exact e_bo_0 | exact e_bo_1 | exact e_bo_b _ | omega) only [e_cl_v, e_cl_x, e_add_0, e_add_s, Option.toList_some, Option.toList_none, List.cons_append, List.nil_append, iI_add, iI_sub, iI_mul, iI_lt, iI_eq, iI_le, r161_0, r161_1, r161_4, r161_5, r161_6, r161_7, r161_10, r161_11, r161_12, r161_13, r161_14]
  by_cases h1 : z < 0
  · rw [if_pos h1, if_neg (by omega)]
  · rw [if_neg h1]
    by_cases h2 : z < e_nI a
    · rw [if_pos h2, if_pos (iI_vin (by omega) h2 (by omega)), if_pos (by omega), iI_nat (by omega) (by omega)]
    · rw [if_neg h2, if_neg (by omega)]
theorem m_isWithin {x y2 z2 : Int} (hx : -2147483648 ≤ x ∧ x < 2147483648) (hy : -2147483648 ≤ y2 ∧ y2 < 2147483648) (hz : -2147483648 ≤ z2 ∧ z2 < 2147483648) : e_lim L xs d 155 0 [some (.int (iI x)), some (.int (iI y2)), some (.int (iI z2))] [] h = some (.inl (some (.int (bI (decide (y2 ≤ x ∧ x ≤ z2))))), h, 0, 0) := by
  simp (disch := first | assumption | exact e_nk_i _ | exact e_nk_n | exact e_nk_r _ | exact e_bo_0 | exact e_bo_1 | exact e_bo_b _ | omega) only [e_cl_v, e_cl_x, e_add_0, e_add_s, Option.toList_some, Option.toList_none, List.cons_append, List.nil_append, iI_add, iI_sub, iI_mul, iI_lt, iI_eq, iI_le, r155_0, r155_1, r155_2, r155_5, r155_6, r155_7, r155_10, r155_11, r155_14, r155_15]
  by_cases h1 : x < y2
  · rw [if_pos h1, decide_eq_false (by omega), bI_f]
  · rw [if_neg h1]
    by_cases h2 : z2 < x
    · rw [if_pos h2, decide_eq_false (by omega), bI_f]
    · rw [if_neg h2, decide_eq_true (by omega), bI_t]
theorem m_requireIndex (b : Bool) : e_lim L xs d 156 0 [some (.int (bI b))] [] h = if b = true then some (.inl none, h, 0, 0) else some (.inr 2, h, 1, 6) := by
  simp (disch := first | assumption | exact e_nk_i _ | exact e_nk_n | exact e_nk_r _ | exact e_bo_0 | exact e_bo_1 | exact e_bo_b _ | omega) only [e_cl_v, e_cl_x, e_add_0, e_add_s, Option.toList_some, Option.toList_none, List.cons_append, List.nil_append, iI_add, iI_sub, iI_mul, iI_lt, iI_eq, iI_le, r156_0, r156_1, r156_4, r156_12, bI_0]
  cases b <;> rfl
theorem m_requireArgument (b : Bool) : e_lim L xs d 157 0 [some (.int (bI b))] [] h = if b = true then some (.inl none, h, 0, 0) else some (.inr 0, h, 1, 6) := by
  simp (disch := first | assumption | exact e_nk_i _ | exact e_nk_n | exact e_nk_r _ | exact e_bo_0 | exact e_bo_1 | exact e_bo_b _ | omega) only [e_cl_v, e_cl_x, e_add_0, e_add_s, Option.toList_some, Option.toList_none, List.cons_append, List.nil_append, iI_add, iI_sub, iI_mul, iI_lt, iI_eq, iI_le, r157_0, r157_1, r157_4, r157_12, bI_0]
  cases b <;> rfl
theorem m_requireState (b : Bool) : e_lim L xs d 158 0 [some (.int (bI b))] [] h = if b = true then some (.inl none, h, 0, 0) else some (.inr 1, h, 1, 6) := by
  simp (disch := first | assumption | exact e_nk_i _ | exact e_nk_n | exact e_nk_r _ | exact e_bo_0 | exact e_bo_1 | exact e_bo_b _ | omega) only [e_cl_v, e_cl_x, e_add_0, e_add_s, Option.toList_some, Option.toList_none, List.cons_append, List.nil_append, iI_add, iI_sub, iI_mul, iI_lt, iI_eq, iI_le, r158_0, r158_1, r158_4, r158_12, bI_0]
  cases b <;> rfl
theorem m_requireElement (b : Bool) : e_lim L xs d 159 0 [some (.int (bI b))] [] h = if b = true then some (.inl none, h, 0, 0) else some (.inr 3, h, 1, 6) := by
  simp (disch := first | assumption | exact e_nk_i _ | exact e_nk_n | exact e_nk_r _ | exact e_bo_0 | exact e_bo_1 | exact e_bo_b _ | omega) only [e_cl_v, e_cl_x, e_add_0, e_add_s, Option.toList_some, Option.toList_none, List.cons_append, List.nil_append, iI_add, iI_sub, iI_mul, iI_lt, iI_eq, iI_le, r159_0, r159_1, r159_4, r159_12, bI_0]
  cases b <;> rfl
theorem m_isMachine (hz : -2147483648 ≤ z ∧ z < 2147483648) : e_lim L xs (d + 1) 152 0 [some (.int (iI z))] [] (e_hp M V W) = some (.inl (some (.int (bI (decide (0 ≤ z ∧ z ≤ 3))))), e_hp M V W, 0, 0) := by
  simp (disch := first | assumption | exact e_nk_i _ | exact e_nk_n | exact e_nk_r _ | exact e_bo_0 | exact e_bo_1 | exact e_bo_b _ | omega) only [e_cl_v, e_cl_x, e_add_0, e_add_s, Option.toList_some, Option.toList_none, List.cons_append, List.nil_append, iI_add, iI_sub, iI_mul, iI_lt, iI_eq, iI_le, r152_0, r152_1, r152_2, r152_3, r152_6, m_isWithin]
theorem m_isSlot (hz : -2147483648 ≤ z ∧ z < 2147483648) : e_lim L xs (d + 1) 153 0 [some (.int (iI z))] [] (e_hp M V W) = some (.inl (some (.int (bI (decide (0 ≤ z ∧ z ≤ 2))))), e_hp M V W, 0, 0) := by
  simp (disch := first | assumption | exact e_nk_i _ | exact e_nk_n | exact e_nk_r _ | exact e_bo_0 | exact e_bo_1 | exact e_bo_b _ | omega) only [e_cl_v, e_cl_x, e_add_0, e_add_s, Option.toList_some, Option.toList_none, List.cons_append, List.nil_append, iI_add, iI_sub, iI_mul, iI_lt, iI_eq, iI_le, r153_0, r153_1, r153_2, r153_3, r153_6, m_isWithin]
end E40
