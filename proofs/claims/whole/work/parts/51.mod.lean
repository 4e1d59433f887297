section E51
variable {L : Nat} {xs : Nat → Int32} {d : Nat} {M : e_MI} {V : e_ML} {W : e_MD} {K : e_St} {h : e_H}
theorem mm_in {x y2 z2 : Int} (hx : -2147483648 ≤ x ∧ x < 2147483648) (hy : -2147483648 ≤ y2 ∧ y2 < 2147483648) (hz : -2147483648 ≤ z2 ∧ z2 < 2147483648) : e_lim L xs d 178 0 [some (.int (iI x)), some (.int (iI y2)), some (.int (iI z2))] [] h = some (.inl (some (.int (bI (decide (y2 ≤ x ∧ x ≤ z2))))), h, 0, 0) := by
  simp (disch := first | assumption | exact e_nk_i _ | exact e_nk_n | exact e_nk_r _ | exact e_bo_0 | exact e_bo_1 | exact e_bo_b _ | omega) only [e_cl_v, e_cl_x, e_add_0, e_add_s, Option.toList_some, Option.toList_none, List.cons_append, List.nil_append, iI_add, iI_sub, iI_mul, iI_lt, iI_eq, iI_le, r178_0, r178_1, r178_2, r178_5, r178_6, r178_7, r178_10, r178_11, r178_14, r178_15]
  by_cases h1 : x < y2
  · rw [if_pos h1, decide_eq_false (by omega), bI_f]
  · rw [if_neg h1]
    by_cases h2 : z2 < x
    · rw [if_pos h2, decide_eq_false (by omega), bI_f]
    · rw [if_neg h2, decide_eq_true (by omega), bI_t]
theorem mm_fails {b : Bool} {c : Int} (h0 : M 184 0 = iI 0) (hc : 0 < c ∧ c < 10) : e_lim L xs d 179 0 [some (.ref 184), some (.int (bI b)), some (.int (iI c))] [] (e_hp M V W) = some (.inl (some (.int (bI (!b)))), e_hp (if b = true then M else e_u M 184 (upd (M 184) 0 (iI c))) V W, 0, 0) := by
  simp (disch := first | assumption | exact e_nk_i _ | exact e_nk_n | exact e_nk_r _ | exact e_bo_0 | exact e_bo_1 | exact e_bo_b _ | omega) only [e_cl_v, e_cl_x, e_add_0, e_add_s, Option.toList_some, Option.toList_none, List.cons_append, List.nil_append, iI_add, iI_sub, iI_mul, iI_lt, iI_eq, iI_le, r179_0, r179_1, r179_4, r179_5, r179_8, r179_11, r179_12, r179_13, r179_16, r179_17, r179_20, r179_23, r179_24, r179_27, r179_28, bI_0, h0]
  cases b with
  | true => rfl
  | false =>
    simp only [if_true, e_u_s, upd]
    simp (disch := first | assumption | exact e_nk_i _ | exact e_nk_n | exact e_nk_r _ | exact e_bo_0 | exact e_bo_1 | exact e_bo_b _ | omega) only [e_cl_v, e_cl_x, e_add_0, e_add_s, Option.toList_some, Option.toList_none, List.cons_append, List.nil_append, iI_add, iI_sub, iI_mul, iI_lt, iI_eq, iI_le, r179_0, r179_1, r179_4, r179_5, r179_8, r179_11, r179_12, r179_13, r179_16, r179_17, r179_20, r179_23, r179_24, r179_27, r179_28, e_u_s, upd, if_true]
    rw [if_neg (by omega)]
    rfl
theorem mm_many (hK : e_KM M K) : e_lim L xs d 183 0 [some (.ref 184)] [] (e_hp M V W) = some (.inl (some (.int (iI (K 310)))), e_hp M V W, 0, 0) := by
  simp (disch := first | assumption | exact e_nk_i _ | exact e_nk_n | exact e_nk_r _ | exact e_bo_0 | exact e_bo_1 | exact e_bo_b _ | omega) only [e_cl_v, e_cl_x, e_add_0, e_add_s, Option.toList_some, Option.toList_none, List.cons_append, List.nil_append, iI_add, iI_sub, iI_mul, iI_lt, iI_eq, iI_le, r183_0, r183_1, r183_4, r183_7, r183_8, iI_vin, iI_nat, if_true]
  rw [hK 310 (by omega) (by omega)]
theorem mm_worksOf (hK : e_KM M K) {o : Int} (h0 : 0 ≤ o) (h1 : o < 8) : e_lim L xs d 184 0 [some (.ref 184), some (.int (iI o))] [] (e_hp M V W) = some (.inl (some (.int (iI (K (40 + o))))), e_hp M V W, 0, 0) := by
  simp (disch := first | assumption | exact e_nk_i _ | exact e_nk_n | exact e_nk_r _ | exact e_bo_0 | exact e_bo_1 | exact e_bo_b _ | omega) only [e_cl_v, e_cl_x, e_add_0, e_add_s, Option.toList_some, Option.toList_none, List.cons_append, List.nil_append, iI_add, iI_sub, iI_mul, iI_lt, iI_eq, iI_le, r184_0, r184_1, r184_4, r184_6, r184_7, r184_8, r184_9, iI_vin, iI_nat, if_true]
  rw [hK (40 + o) (by omega) (by omega)]
theorem mm_all (hK : e_KM M K) (hr : kR K) : e_lim L xs (d + 1) 185 0 [some (.ref 184), none, none] [] (e_hp M V W) = some (.inl (some (.int (iI (aW K)))), e_hp M V W, 0, 0) := by
  have hn := hr.n
  simp (disch := first | assumption | exact e_nk_i _ | exact e_nk_n | exact e_nk_r _ | exact e_bo_0 | exact e_bo_1 | exact e_bo_b _ | omega) only [e_cl_v, e_cl_x, e_add_0, e_add_s, Option.toList_some, Option.toList_none, List.cons_append, List.nil_append, iI_add, iI_sub, iI_mul, iI_lt, iI_eq, iI_le, r185_0, r185_1, r185_2, r185_3, r185_5, r185_6, r185_9, r185_12, r185_13, r185_14, r185_15, r185_18, r185_19, r185_20, r185_23, r185_26, r185_27]
  refine G_loopI (C := fun i => e_lim L xs (d + 1) 185 4 [some (.ref 184), some (.int (iI (SU (fun o => K (40 + o)) i))), some (.int (iI i))] [] (e_hp M V W)) hn.1 (fun j h1 h2 hc => ?_) ?_
  · have hs := SU_s (fun o => K (40 + o)) h1
    rw [← hc, hs]
    rw [r185_4]
    simp (disch := first | assumption | exact e_nk_i _ | exact e_nk_n | exact e_nk_r _ | exact e_bo_0 | exact e_bo_1 | exact e_bo_b _ | omega) only [e_cl_v, e_cl_x, e_add_0, e_add_s, Option.toList_some, Option.toList_none, List.cons_append, List.nil_append, iI_add, iI_sub, iI_mul, iI_lt, iI_eq, iI_le, r185_0, r185_1, r185_2, r185_3, r185_5, r185_6, r185_9, r185_12, r185_13, r185_14, r185_15, r185_18, r185_19, r185_20, r185_23, r185_26, r185_27, mm_many hK, mm_worksOf hK]
    rw [if_pos (by omega)]
  · rw [r185_4]
    simp (disch := first | assumption | exact e_nk_i _ | exact e_nk_n | exact e_nk_r _ | exact e_bo_0 | exact e_bo_1 | exact e_bo_b _ | omega) only [e_cl_v, e_cl_x, e_add_0, e_add_s, Option.toList_some, Option.toList_none, List.cons_append, List.nil_append, iI_add, iI_sub, iI_mul, iI_lt, iI_eq, iI_le, r185_0, r185_1, r185_2, r185_3, r185_5, r185_6, r185_9, r185_12, r185_13, r185_14, r185_15, r185_18, r185_19, r185_20, r185_23, r185_26, r185_27, mm_many hK]
    rw [if_neg (by omega)]
    rfl
end E51
section E51b
variable {L : Nat} {xs : Nat → Int32} {d : Nat} {M : e_MI} {V : e_ML} {W : e_MD} {K : e_St} {h : e_H}
theorem iI_div {a b : Int} (ha : 0 ≤ a) (ha2 : a < 2147483648) (hb : 0 < b) (hb2 : b < 2147483648) : iI a / iI b = iI (a / b) := by
  have h := pk_div (a := a.toNat) (d := b.toNat) (by omega) (by omega) (by omega)
  have e1 : nI a.toNat = iI a := by show iI ((a.toNat : Nat) : Int) = iI a; rw [Int.toNat_of_nonneg ha]
  have e2 : nI b.toNat = iI b := by show iI ((b.toNat : Nat) : Int) = iI b; rw [Int.toNat_of_nonneg (by omega)]
  rw [e1, e2] at h
  rw [h]
  show iI ((a.toNat / b.toNat : Nat) : Int) = iI (a / b)
  rw [Int.natCast_ediv, Int.toNat_of_nonneg ha, Int.toNat_of_nonneg (by omega)]
theorem iI_rem {a b : Int} (ha : 0 ≤ a) (ha2 : a < 2147483648) (hb : 0 < b) (hb2 : b < 2147483648) : iI a - iI a / iI b * iI b = iI (a % b) := by
  rw [iI_div ha ha2 hb hb2, iI_mul, iI_sub, Int.emod_def, Int.mul_comm]
theorem iI_ne {b : Int} (hb : 0 < b) (hb2 : b < 2147483648) : iI b ≠ 0 := by
  show iI b ≠ iI 0
  rw [ne_eq, iI_eq (by omega) (by omega)]
  omega
theorem mm_takes (hK : e_KM M K) {o w : Int} (h0 : 0 ≤ o) (h1 : o < 8) (h2 : 0 ≤ w) (h3 : w < 4) : e_lim L xs d 186 0 [some (.ref 184), some (.int (iI o)), some (.int (iI w))] [] (e_hp M V W) = some (.inl (some (.int (iI (tk K o w)))), e_hp M V W, 0, 0) := by
  simp (disch := first | assumption | exact e_nk_i _ | exact e_nk_n | exact e_nk_r _ | exact e_bo_0 | exact e_bo_1 | exact e_bo_b _ | omega) only [e_cl_v, e_cl_x, e_add_0, e_add_s, Option.toList_some, Option.toList_none, List.cons_append, List.nil_append, iI_add, iI_sub, iI_mul, iI_lt, iI_eq, iI_le, r186_0, r186_1, r186_4, r186_6, r186_7, r186_8, r186_9, r186_10, r186_13, r186_15, r186_16, r186_17, r186_18, r186_19, r186_20, r186_21, r186_22, r186_23, iI_vin, iI_nat, if_true]
  rw [hK (8 + o) (by omega) (by omega), hK (80 + 4 * o + w) (by omega) (by omega), iI_mul]
  rfl
theorem mm_settingOf (hK : e_KM M K) {m f t : Int} (h0 : 0 ≤ m ∧ m < 4) (h1 : 0 ≤ f ∧ f < 4) (h2 : 0 ≤ t ∧ t < 4) : e_lim L xs d 204 0 [some (.ref 184), some (.int (iI m)), some (.int (iI f)), some (.int (iI t))] [] (e_hp M V W) = some (.inl (some (.int (iI (sT K m f t)))), e_hp M V W, 0, 0) := by
  simp (disch := first | assumption | exact e_nk_i _ | exact e_nk_n | exact e_nk_r _ | exact e_bo_0 | exact e_bo_1 | exact e_bo_b _ | omega) only [e_cl_v, e_cl_x, e_add_0, e_add_s, Option.toList_some, Option.toList_none, List.cons_append, List.nil_append, iI_add, iI_sub, iI_mul, iI_lt, iI_eq, iI_le, r204_0, r204_1, r204_2, r204_5, r204_6, r204_9, r204_10, r204_13, r204_16, r204_18, r204_19, r204_20, r204_21, r204_22, r204_23, r204_24, r204_25, r204_26, r204_27, r204_28, iI_vin, iI_nat, if_true]
  unfold sT
  by_cases hq : f = t
  · rw [if_pos hq, if_pos hq]
  · rw [if_neg hq, if_neg hq, hK (144 + 16 * m + 4 * f + t) (by omega) (by omega)]
theorem mm_doesRest (hK : e_KM M K) (hr : kR K) {m t : Int} (h0 : 0 ≤ m ∧ m < 4) (h1 : 0 ≤ t ∧ t < 3000) : e_lim L xs (d + 1) 206 0 [some (.ref 184), some (.int (iI m)), some (.int (iI t)), none] [] (e_hp M V W) = some (.inl (some (.int (bI (rsB K m t)))), e_hp M V W, 0, 0) := by
  have hn := hr.rm
  have e311 := hK 311 (by omega) (by omega)
  simp (disch := first | assumption | exact e_nk_i _ | exact e_nk_n | exact e_nk_r _ | exact e_bo_0 | exact e_bo_1 | exact e_bo_b _ | omega) only [e_cl_v, e_cl_x, e_add_0, e_add_s, Option.toList_some, Option.toList_none, List.cons_append, List.nil_append, iI_add, iI_sub, iI_mul, iI_lt, iI_eq, iI_le, r206_0, r206_1, r206_3, r206_4, r206_7, r206_10, r206_11, r206_14, r206_15, r206_18, r206_21, r206_22, r206_23, r206_24, r206_25, r206_28, r206_29, r206_30, r206_33, r206_36, r206_37, r206_38, r206_39, r206_40, r206_43, r206_46, r206_47, r206_48, r206_49, r206_50, r206_51, r206_54, r206_57, r206_58, r206_59, r206_62, r206_65, r206_66]
  refine G_find (C := fun i => e_lim L xs (d + 1) 206 2 [some (.ref 184), some (.int (iI m)), some (.int (iI t)), some (.int (iI i))] [] (e_hp M V W)) (p := fun k => decide (K (208 + k) = m ∧ K (218 + k) ≤ t ∧ t ≤ K (228 + k) - 1)) hn.1 (fun j a b hp hc => ?_) (fun j a b hp hf => ?_) (fun hf => ?_)
  · simp only [decide_eq_false_iff_not] at hp
    have q1 := hr.a (i := 208 + j) (by omega) (by omega)
    have q2 := hr.a (i := 218 + j) (by omega) (by omega)
    have q3 := hr.a (i := 228 + j) (by omega) (by omega)
    have e1 := hK (208 + j) (by omega) (by omega)
    have e2 := hK (218 + j) (by omega) (by omega)
    have e3 := hK (228 + j) (by omega) (by omega)
    rw [r206_2]
    simp (disch := first | assumption | exact e_nk_i _ | exact e_nk_n | exact e_nk_r _ | exact e_bo_0 | exact e_bo_1 | exact e_bo_b _ | omega) only [e_cl_v, e_cl_x, e_add_0, e_add_s, Option.toList_some, Option.toList_none, List.cons_append, List.nil_append, iI_add, iI_sub, iI_mul, iI_lt, iI_eq, iI_le, r206_0, r206_1, r206_3, r206_4, r206_7, r206_10, r206_11, r206_14, r206_15, r206_18, r206_21, r206_22, r206_23, r206_24, r206_25, r206_28, r206_29, r206_30, r206_33, r206_36, r206_37, r206_38, r206_39, r206_40, r206_43, r206_46, r206_47, r206_48, r206_49, r206_50, r206_51, r206_54, r206_57, r206_58, r206_59, r206_62, r206_65, r206_66, iI_vin, iI_nat, if_true, e311, e1, e2, e3, mm_in, bI_0]
    rw [if_pos (by omega)]
    by_cases z1 : K (208 + j) = m
    · rw [if_pos z1, if_pos (by simp only [decide_eq_false_iff_not]; omega)]; exact hc
    · rw [if_neg z1]; exact hc
  · simp only [decide_eq_true_eq] at hp
    have q1 := hr.a (i := 208 + j) (by omega) (by omega)
    have q2 := hr.a (i := 218 + j) (by omega) (by omega)
    have q3 := hr.a (i := 228 + j) (by omega) (by omega)
    have e1 := hK (208 + j) (by omega) (by omega)
    have e2 := hK (218 + j) (by omega) (by omega)
    have e3 := hK (228 + j) (by omega) (by omega)
    rw [r206_2]
    simp (disch := first | assumption | exact e_nk_i _ | exact e_nk_n | exact e_nk_r _ | exact e_bo_0 | exact e_bo_1 | exact e_bo_b _ | omega) only [e_cl_v, e_cl_x, e_add_0, e_add_s, Option.toList_some, Option.toList_none, List.cons_append, List.nil_append, iI_add, iI_sub, iI_mul, iI_lt, iI_eq, iI_le, r206_0, r206_1, r206_3, r206_4, r206_7, r206_10, r206_11, r206_14, r206_15, r206_18, r206_21, r206_22, r206_23, r206_24, r206_25, r206_28, r206_29, r206_30, r206_33, r206_36, r206_37, r206_38, r206_39, r206_40, r206_43, r206_46, r206_47, r206_48, r206_49, r206_50, r206_51, r206_54, r206_57, r206_58, r206_59, r206_62, r206_65, r206_66, iI_vin, iI_nat, if_true, e311, e1, e2, e3, mm_in, bI_0]
    rw [if_pos (by omega), if_pos hp.1, if_neg (by simp only [decide_eq_false_iff_not]; omega)]
    have := zAN_t (p := fun k => decide (K (208 + k) = m ∧ K (218 + k) ≤ t ∧ t ≤ K (228 + k) - 1)) a b (decide_eq_true hp)
    unfold rsB
    rw [this, bI_t]
  · rw [r206_2]
    simp (disch := first | assumption | exact e_nk_i _ | exact e_nk_n | exact e_nk_r _ | exact e_bo_0 | exact e_bo_1 | exact e_bo_b _ | omega) only [e_cl_v, e_cl_x, e_add_0, e_add_s, Option.toList_some, Option.toList_none, List.cons_append, List.nil_append, iI_add, iI_sub, iI_mul, iI_lt, iI_eq, iI_le, r206_0, r206_1, r206_3, r206_4, r206_7, r206_10, r206_11, r206_14, r206_15, r206_18, r206_21, r206_22, r206_23, r206_24, r206_25, r206_28, r206_29, r206_30, r206_33, r206_36, r206_37, r206_38, r206_39, r206_40, r206_43, r206_46, r206_47, r206_48, r206_49, r206_50, r206_51, r206_54, r206_57, r206_58, r206_59, r206_62, r206_65, r206_66, iI_vin, iI_nat, if_true, e311]
    rw [if_neg (by omega)]
    unfold rsB
    rw [zAN_f hn.1 hf, bI_f]
end E51b
