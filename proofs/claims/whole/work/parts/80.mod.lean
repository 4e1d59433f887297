section E80
variable {L : Nat} {xs : Nat → Int32} {d : Nat} {M : e_MI} {V : e_ML} {W : e_MD} {K : e_St} {h : e_H} {ρ ω β ε τ : Int → Int} {k : Int}
/-! the reference's questions -/
theorem mm_thrown : e_lim L xs d 177 0 [some (.ref 184)] [] (e_hp M V W) = some (.inl (some (.int (M 184 0))), e_hp M V W, 0, 0) := by
  simp (disch := first | assumption | exact e_nk_i _ | exact e_nk_n | exact e_nk_r _ | exact e_bo_0 | exact e_bo_1 | exact e_bo_b _ | omega) only [e_cl_v, e_cl_x, e_add_0, e_add_s, Option.toList_some, Option.toList_none, List.cons_append, List.nil_append, iI_add, iI_sub, iI_mul, iI_lt, iI_eq, iI_le, r177_0, r177_1, r177_4]
theorem mm_errors : e_lim L xs d 288 0 [some (.ref 184)] [] (e_hp M V W) = some (.inl (some (.int (iI 0))), e_hp (mT M) V W, 0, 0) := by
  simp (disch := first | assumption | exact e_nk_i _ | exact e_nk_n | exact e_nk_r _ | exact e_bo_0 | exact e_bo_1 | exact e_bo_b _ | omega) only [e_cl_v, e_cl_x, e_add_0, e_add_s, Option.toList_some, Option.toList_none, List.cons_append, List.nil_append, iI_add, iI_sub, iI_mul, iI_lt, iI_eq, iI_le, r288_0, r288_1, r288_2, r288_5, r288_6]
theorem mm_orders (hK : e_KM M K) : e_lim L xs (d + 1) 201 0 [some (.ref 184)] [] (e_hp M V W) = some (.inl (some (.int (iI (K 310)))), e_hp (mT M) V W, 0, 0) := by
  have e1 := mm_many (L := L) (xs := xs) (d := d) (M := mT M) (V := V) (W := W) (mT_K hK)
  simp (disch := first | assumption | exact e_nk_i _ | exact e_nk_n | exact e_nk_r _ | exact e_bo_0 | exact e_bo_1 | exact e_bo_b _ | omega) only [e_cl_v, e_cl_x, e_add_0, e_add_s, Option.toList_some, Option.toList_none, List.cons_append, List.nil_append, iI_add, iI_sub, iI_mul, iI_lt, iI_eq, iI_le, r201_0, r201_1, r201_2, r201_5, r201_6, r201_9, e1]
theorem mm_works (hK : e_KM M K) (hr : kR K) : e_lim L xs (d + 2) 202 0 [some (.ref 184)] [] (e_hp M V W) = some (.inl (some (.int (iI (aW K)))), e_hp (mT M) V W, 0, 0) := by
  have e1 := mm_all (L := L) (xs := xs) (d := d) (M := mT M) (V := V) (W := W) (mT_K hK) hr
  simp (disch := first | assumption | exact e_nk_i _ | exact e_nk_n | exact e_nk_r _ | exact e_bo_0 | exact e_bo_1 | exact e_bo_b _ | omega) only [e_cl_v, e_cl_x, e_add_0, e_add_s, Option.toList_some, Option.toList_none, List.cons_append, List.nil_append, iI_add, iI_sub, iI_mul, iI_lt, iI_eq, iI_le, r202_0, r202_1, r202_2, r202_5, r202_6, r202_9, e1]
theorem mm_load (hK : e_KM M K) (hr : kR K) {m : Int} (hm : i32 m) : e_lim L xs (d + 3) 239 0 [some (.ref 184), some (.int (iI m))] [] (e_hp M V W) = some (.inl (some (.int (iI (if 0 ≤ m ∧ m ≤ 3 then lO K m else 0)))), e_hp (mF (mT M) (decide (0 ≤ m ∧ m ≤ 3)) 1) V W, 0, 0) := by
  have e1 := mm_noMachine (L := L) (xs := xs) (d := d) (M := mT M) (V := V) (W := W) (mT_0 M) hm
  by_cases hq : 0 ≤ m ∧ m ≤ 3
  · have e2 := mm_loadOf (L := L) (xs := xs) (d := d) (M := mT M) (V := V) (W := W) (mT_K hK) hr hq
    rw [decide_eq_true hq, mF_t] at e1
    rw [decide_eq_true hq, mF_t, if_pos hq]
    simp (disch := first | assumption | exact e_nk_i _ | exact e_nk_n | exact e_nk_r _ | exact e_bo_0 | exact e_bo_1 | exact e_bo_b _ | omega) only [e_cl_v, e_cl_x, e_add_0, e_add_s, Option.toList_some, Option.toList_none, List.cons_append, List.nil_append, iI_add, iI_sub, iI_mul, iI_lt, iI_eq, iI_le, r239_0, r239_1, r239_2, r239_5, r239_6, r239_7, r239_10, r239_13, r239_14, r239_17, r239_18, r239_19, r239_22, e1, e2, bI_0]
    rfl
  · rw [decide_eq_false hq] at e1
    rw [decide_eq_false hq, if_neg hq]
    simp (disch := first | assumption | exact e_nk_i _ | exact e_nk_n | exact e_nk_r _ | exact e_bo_0 | exact e_bo_1 | exact e_bo_b _ | omega) only [e_cl_v, e_cl_x, e_add_0, e_add_s, Option.toList_some, Option.toList_none, List.cons_append, List.nil_append, iI_add, iI_sub, iI_mul, iI_lt, iI_eq, iI_le, r239_0, r239_1, r239_2, r239_5, r239_6, r239_7, r239_10, r239_13, r239_14, r239_17, r239_18, r239_19, r239_22, e1, bI_0]
    rfl
theorem mm_rowAt (hK : e_KM M K) (hr : kR K) (hv : kV K) {p : Int} (hp : i32 p) : e_lim L xs (d + 2) 228 0 [some (.ref 184), some (.int (iI p))] [] (e_hp M V W) = some (.inl (some (.int (iI (if 0 ≤ p ∧ p ≤ aW K - 1 then K (241 + p) else 0)))), e_hp (mF (mT M) (decide (0 ≤ p ∧ p ≤ aW K - 1)) 1) V W, 0, 0) := by
  have hn := hv.1
  have e1 := mm_all (L := L) (xs := xs) (d := d) (M := mT M) (V := V) (W := W) (mT_K hK) hr
  have e2 := mm_in (L := L) (xs := xs) (d := d + 1) (h := e_hp (mT M) V W) (x := p) (y2 := 0) (z2 := aW K - 1) hp (by omega) (by omega)
  have e3 := mm_fails (L := L) (xs := xs) (d := d + 1) (M := mT M) (V := V) (W := W) (b := decide (0 ≤ p ∧ p ≤ aW K - 1)) (c := 1) (mT_0 M) (by omega)
  by_cases hq : 0 ≤ p ∧ p ≤ aW K - 1
  · have e4 := (mT_K hK) (241 + p) (by omega) (by omega)
    rw [decide_eq_true hq] at e2 e3
    rw [decide_eq_true hq, mF_t, if_pos hq]
    simp (disch := first | assumption | exact e_nk_i _ | exact e_nk_n | exact e_nk_r _ | exact e_bo_0 | exact e_bo_1 | exact e_bo_b _ | omega) only [e_cl_v, e_cl_x, e_add_0, e_add_s, Option.toList_some, Option.toList_none, List.cons_append, List.nil_append, iI_add, iI_sub, iI_mul, iI_lt, iI_eq, iI_le, r228_0, r228_1, r228_2, r228_5, r228_6, r228_7, r228_8, r228_9, r228_12, r228_13, r228_14, r228_17, r228_18, r228_21, r228_24, r228_25, r228_28, r228_29, r228_32, r228_35, r228_36, r228_37, r228_38, e1, e2, e3, bI_0, iI_vin, iI_nat, if_true, e4]
    simp [e4]
  · rw [decide_eq_false hq] at e2 e3
    rw [decide_eq_false hq, if_neg hq]
    simp (disch := first | assumption | exact e_nk_i _ | exact e_nk_n | exact e_nk_r _ | exact e_bo_0 | exact e_bo_1 | exact e_bo_b _ | omega) only [e_cl_v, e_cl_x, e_add_0, e_add_s, Option.toList_some, Option.toList_none, List.cons_append, List.nil_append, iI_add, iI_sub, iI_mul, iI_lt, iI_eq, iI_le, r228_0, r228_1, r228_2, r228_5, r228_6, r228_7, r228_8, r228_9, r228_12, r228_13, r228_14, r228_17, r228_18, r228_21, r228_24, r228_25, r228_28, r228_29, r228_32, r228_35, r228_36, r228_37, r228_38, e1, e2, e3, bI_0]
    rfl
end E80
