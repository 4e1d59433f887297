section E80
variable {L : Nat} {xs : Nat → Int32} {d : Nat} {M : e_MI} {V : e_ML} {W : e_MD} {K : e_St} {h : e_H} {ρ ω β ε τ : Int → Int} {k : Int}
/-! the reference's questions -/
theorem mm_thrown : e_lim L xs d 177 0 [some (.ref 184)] [] (e_hp M V W) = some (.inl (some (.int (M 184 0))), e_hp M V W, 0, 0) := by
  simp (disch := first | assumption | exact e_nk_i _ | exact e_nk_n | exact e_nk_r _ | exact e_bo_0 | exact e_bo_1 | exact e_bo_b _ | omega) only [e_cl_v, e_cl_x, e_add_0, e_add_s, Option.toList_some, Option.toList_none, List.cons_append, List.nil_append, iI_add, iI_sub, iI_mul, iI_lt, iI_eq, iI_le, r177_0, r177_1, r177_4]
theorem mm_errors : e_lim L xs d 288 0 [some (.ref 184)] [] (e_hp M V W) = some (.inl (some (.int (iI 0))), e_hp (mT M) V W, 0, 0) := by
  simp (disch := first | assumption | exact e_nk_i _ | exact e_nk_n | exact e_nk_r _ | exact e_bo_0 | exact e_bo_1 | exact e_bo_b _ | omega) only [e_cl_v, e_cl_x, e_add_0, e_add_s, Option.toList_some, Option.toList_none, List.cons_append, List.nil_append, iI_add, iI_sub, iI_mul, iI_lt, iI_eq, iI_le, r288_0, r288_1, r288_2, r288_5, r288_6]
theorem mm_orders (hK : e_KM M K) : e_lim L xs (d + 1) 201 0 [some (.ref 184)] [] (e_hp M V W) = some (.inl (some (.int (iI (K 310)))), e_hp (mT M) V W, 0, 0) := by
  have e1 := mm_many (L := L) (xs := xs) (d := d) (M := mT M) (V := V) (W := W) (mT_K hK)
  simp (disch := first | assumption | exact e_nk_i _ | exact e_nk_n | exact e_nk_r _ | exact e_bo_0 | exact e_bo_1 | exact e_bo_b _ | omega) only [e_cl_v, e_cl_x, e_add_0, e_add_s, Option.toList_some, Option.toList_none, List.cons_append, List.nil_append, iI_add, iI_sub, iI_mul, iI_lt, iI_eq, iI_le, r201_0, r201_1, r201_2, r201_5, r201_6, r201_9, e1]
theorem mm_works (hK : e_KM M K) (hr : kR K) : e_lim L xs (d + 2) 202 0 [some (.ref 184)] [] (e_hp M V W) = some (.inl (some (.int (iI (aW K)))), e_hp (mT M) V W, 0, 0) := by
  have e1 := mm_all (L := L) (xs := xs) (d := d) (M := mT M) (V := V) (W := W) (mT_K hK) hr
  simp (disch := first | assumption | exact e_nk_i _ | exact e_nk_n | exact e_nk_r _ | exact e_bo_0 | exact e_bo_1 | exact e_bo_b _ | omega) only [e_cl_v, e_cl_x, e_add_0, e_add_s, Option.toList_some, Option.toList_none, List.cons_append, List.nil_append, iI_add, iI_sub, iI_mul, iI_lt, iI_eq, iI_le, r202_0, r202_1, r202_2, r202_5, r202_6, r202_9, e1]
theorem mm_load (hK : e_KM M K) (hr : kR K) {m : Int} (hm : i32 m) : e_lim L xs (d + 3) 239 0 [some (.ref 184), some (.int (iI m))] [] (e_hp M V W) = some (.inl (some (.int (iI (if 0 ≤ m ∧ m ≤ 3 then lO K m else 0)))), e_hp (mF (mT M) (decide (0 ≤ m ∧ m ≤ 3)) 1) V W, 0, 0) := by
  have e1 := mm_noMachine (L := L) (xs := xs) (d := d) (M := mT M) (V := V) (W := W) (mT_0 M) hm
  by_cases hq : 0 ≤ m ∧ m ≤ 3
  · have e2 := mm_loadOf (L := L) (xs := xs) (d := d) (M := mT M) (V := V) (W := W) (mT_K hK) hr hq
    rw [decide_eq_true hq, mF_t] at e1
    rw [decide_eq_true hq, mF_t, if_pos hq]
    simp (disch := first | assumption | exact e_nk_i _ | exact e_nk_n | exact e_nk_r _ | exact e_bo_0 | exact e_bo_1 | exact e_bo_b _ | omega) only [e_cl_v, e_cl_x, e_add_0, e_add_s, Option.toList_some, Option.toList_none, List.cons_append, List.nil_append, iI_add, iI_sub, iI_mul, iI_lt, iI_eq, iI_le, r239_0, r239_1, r239_2, r239_5, r239_6, r239_7, r239_10, r239_13, r239_14, r239_17, r239_18, r239_19, r239_22, e1, e2, bI_0]
    rfl
  · rw [decide_eq_false hq] at e1
    rw [decide_eq_false hq, if_neg hq]
    simp (disch := first | assumption | exact e_nk_i _ | exact e_nk_n | exact e_nk_r _ | exact e_bo_0 | exact e_bo_1 | exact e_bo_b _ | omega) only [e_cl_v, e_cl_x, e_add_0, e_add_s, Option.toList_some, Option.toList_none, List.cons_append, List.nil_append, iI_add, iI_sub, iI_mul, iI_lt, iI_eq, iI_le, r239_0, r239_1, r239_2, r239_5, r239_6, r239_7, r239_10, r239_13, r239_14, r239_17, r239_18, r239_19, r239_22, e1, bI_0]
    rfl
end E80
