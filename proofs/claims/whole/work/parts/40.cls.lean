section E40
variable {L : Nat} {xs : Nat → Int32} {d : Nat} {M : e_MI} {V : e_ML} {W : e_MD} {a n : Nat} {z : Int} {h : e_H}
theorem m_at (ha : e_isA a) (hz : -2147483648 ≤ z ∧ z < 2147483648) : e_lim L xs d 173 0 [some (.ref a), some (.int (iI z))] [] (e_hp M V W) = some (.inl (some (.int (if 0 ≤ z ∧ z < e_nI a then M a z.toNat else iI 0))), e_hp M V W, 0, 0) := by
  have hn := e_nI_lt a
  simp (disch := first | assumption | exact e_nk_i _ | exact e_nk_n | exact e_nk_r _ | exact e_bo_0 | exact e_bo_1 | exact e_bo_b _ | omega) only [e_cl_v, e_cl_x, e_add_0, e_add_s, Option.toList_some, Option.toList_none, List.cons_append, List.nil_append, iI_add, iI_sub, iI_mul, iI_lt, iI_eq, iI_le, r173_0, r173_1, r173_4, r173_5, r173_6, r173_7, r173_10, r173_11, r173_12, r173_13, r173_16, r173_17]
  by_cases h1 : z < 0
  · rw [if_pos h1, if_neg (by omega)]
  · rw [if_neg h1]
    by_cases h2 : z < e_nI a
    · rw [if_pos h2, if_pos (iI_vin (by omega) h2 (by omega)), if_pos (by omega), iI_nat (by omega) (by omega)]
    · rw [if_neg h2, if_neg (by omega)]
theorem m_put {v : Int32} (ha : e_isA a) (hz : -2147483648 ≤ z ∧ z < 2147483648) : e_lim L xs d 174 0 [some (.ref a), some (.int (iI z)), some (.int v)] [] (e_hp M V W) = some (.inl none, e_hp (if 0 ≤ z ∧ z < e_nI a then e_u M a (upd (M a) z.toNat v) else M) V W, 0, 0) := by
  have hn := e_nI_lt a
  simp (disch := first | assumption | exact e_nk_i _ | exact e_nk_n | exact e_nk_r _ | exact e_bo_0 | exact e_bo_1 | exact e_bo_b _ | omega) only [e_cl_v, e_cl_x, e_add_0, e_add_s, Option.toList_some, Option.toList_none, List.cons_append, List.nil_append, iI_add, iI_sub, iI_mul, iI_lt, iI_eq, iI_le, r174_0, r174_1, r174_4, r174_5, r174_6, r174_7, r174_10, r174_11, r174_12, r174_13, r174_14]
  by_cases h1 : z < 0
  · rw [if_pos h1, if_neg (by omega)]
  · rw [if_neg h1]
    by_cases h2 : z < e_nI a
    · rw [if_pos h2, if_pos (iI_vin (by omega) h2 (by omega)), if_pos (by omega), iI_nat (by omega) (by omega)]
    · rw [if_neg h2, if_neg (by omega)]
theorem m_isWithin {x y2 z2 : Int} (hx : -2147483648 ≤ x ∧ x < 2147483648) (hy : -2147483648 ≤ y2 ∧ y2 < 2147483648) (hz : -2147483648 ≤ z2 ∧ z2 < 2147483648) : e_lim L xs d 168 0 [some (.int (iI x)), some (.int (iI y2)), some (.int (iI z2))] [] h = some (.inl (some (.int (bI (decide (y2 ≤ x ∧ x ≤ z2))))), h, 0, 0) := by
  simp (disch := first | assumption | exact e_nk_i _ | exact e_nk_n | exact e_nk_r _ | exact e_bo_0 | exact e_bo_1 | exact e_bo_b _ | omega) only [e_cl_v, e_cl_x, e_add_0, e_add_s, Option.toList_some, Option.toList_none, List.cons_append, List.nil_append, iI_add, iI_sub, iI_mul, iI_lt, iI_eq, iI_le, r168_0, r168_1, r168_2, r168_5, r168_6, r168_7, r168_10, r168_11, r168_14, r168_15]
  by_cases h1 : x < y2
  · rw [if_pos h1, decide_eq_false (by omega), bI_f]
  · rw [if_neg h1]
    by_cases h2 : z2 < x
    · rw [if_pos h2, decide_eq_false (by omega), bI_f]
    · rw [if_neg h2, decide_eq_true (by omega), bI_t]
theorem m_requireIndex (b : Bool) : e_lim L xs d 169 0 [some (.int (bI b))] [] h = if b = true then some (.inl none, h, 0, 0) else some (.inr 2, h, 1, 6) := by
  simp (disch := first | assumption | exact e_nk_i _ | exact e_nk_n | exact e_nk_r _ | exact e_bo_0 | exact e_bo_1 | exact e_bo_b _ | omega) only [e_cl_v, e_cl_x, e_add_0, e_add_s, Option.toList_some, Option.toList_none, List.cons_append, List.nil_append, iI_add, iI_sub, iI_mul, iI_lt, iI_eq, iI_le, r169_0, r169_1, r169_4, r169_12, bI_0]
  cases b <;> rfl
theorem m_requireArgument (b : Bool) : e_lim L xs d 170 0 [some (.int (bI b))] [] h = if b = true then some (.inl none, h, 0, 0) else some (.inr 0, h, 1, 6) := by
  simp (disch := first | assumption | exact e_nk_i _ | exact e_nk_n | exact e_nk_r _ | exact e_bo_0 | exact e_bo_1 | exact e_bo_b _ | omega) only [e_cl_v, e_cl_x, e_add_0, e_add_s, Option.toList_some, Option.toList_none, List.cons_append, List.nil_append, iI_add, iI_sub, iI_mul, iI_lt, iI_eq, iI_le, r170_0, r170_1, r170_4, r170_12, bI_0]
  cases b <;> rfl
theorem m_requireState (b : Bool) : e_lim L xs d 171 0 [some (.int (bI b))] [] h = if b = true then some (.inl none, h, 0, 0) else some (.inr 1, h, 1, 6) := by
  simp (disch := first | assumption | exact e_nk_i _ | exact e_nk_n | exact e_nk_r _ | exact e_bo_0 | exact e_bo_1 | exact e_bo_b _ | omega) only [e_cl_v, e_cl_x, e_add_0, e_add_s, Option.toList_some, Option.toList_none, List.cons_append, List.nil_append, iI_add, iI_sub, iI_mul, iI_lt, iI_eq, iI_le, r171_0, r171_1, r171_4, r171_12, bI_0]
  cases b <;> rfl
theorem m_requireElement (b : Bool) : e_lim L xs d 172 0 [some (.int (bI b))] [] h = if b = true then some (.inl none, h, 0, 0) else some (.inr 3, h, 1, 6) := by
  simp (disch := first | assumption | exact e_nk_i _ | exact e_nk_n | exact e_nk_r _ | exact e_bo_0 | exact e_bo_1 | exact e_bo_b _ | omega) only [e_cl_v, e_cl_x, e_add_0, e_add_s, Option.toList_some, Option.toList_none, List.cons_append, List.nil_append, iI_add, iI_sub, iI_mul, iI_lt, iI_eq, iI_le, r172_0, r172_1, r172_4, r172_12, bI_0]
  cases b <;> rfl
theorem m_isMachine (hz : -2147483648 ≤ z ∧ z < 2147483648) : e_lim L xs (d + 1) 165 0 [some (.int (iI z))] [] (e_hp M V W) = some (.inl (some (.int (bI (decide (0 ≤ z ∧ z ≤ 3))))), e_hp M V W, 0, 0) := by
  simp (disch := first | assumption | exact e_nk_i _ | exact e_nk_n | exact e_nk_r _ | exact e_bo_0 | exact e_bo_1 | exact e_bo_b _ | omega) only [e_cl_v, e_cl_x, e_add_0, e_add_s, Option.toList_some, Option.toList_none, List.cons_append, List.nil_append, iI_add, iI_sub, iI_mul, iI_lt, iI_eq, iI_le, r165_0, r165_1, r165_2, r165_3, r165_6, m_isWithin]
theorem m_isSlot (hz : -2147483648 ≤ z ∧ z < 2147483648) : e_lim L xs (d + 1) 166 0 [some (.int (iI z))] [] (e_hp M V W) = some (.inl (some (.int (bI (decide (0 ≤ z ∧ z ≤ 2))))), e_hp M V W, 0, 0) := by
  simp (disch := first | assumption | exact e_nk_i _ | exact e_nk_n | exact e_nk_r _ | exact e_bo_0 | exact e_bo_1 | exact e_bo_b _ | omega) only [e_cl_v, e_cl_x, e_add_0, e_add_s, Option.toList_some, Option.toList_none, List.cons_append, List.nil_append, iI_add, iI_sub, iI_mul, iI_lt, iI_eq, iI_le, r166_0, r166_1, r166_2, r166_3, r166_6, m_isWithin]
end E40
