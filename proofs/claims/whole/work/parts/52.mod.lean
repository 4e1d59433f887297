section E52
variable {L : Nat} {xs : Nat → Int32} {d : Nat} {M : e_MI} {V : e_ML} {W : e_MD} {K : e_St} {h : e_H} {ρ ω β ε : Int → Int} {k : Int}
/-- rows of orders, of works' numbers, of times -/
def rgO (ρ : Int → Int) : Prop := ∀ p, 0 ≤ p → p < 16 → 0 ≤ ρ p ∧ ρ p ≤ 7
def rgW (ω : Int → Int) : Prop := ∀ p, 0 ≤ p → p < 16 → 0 ≤ ω p ∧ ω p ≤ 3
def rgT (β : Int → Int) : Prop := ∀ p, 0 ≤ p → p < 16 → 0 ≤ β p ∧ β p ≤ 2001
theorem mm_machineAt (hK : e_KM M K) (h1 : e_ar (M 188) 16 ρ) (h2 : e_ar (M 189) 16 ω) (g1 : rgO ρ) (g2 : rgW ω) (hk : 0 ≤ k ∧ k < 16) : e_lim L xs d 211 0 [some (.ref 184), some (.int (iI k))] [] (e_hp M V W) = some (.inl (some (.int (iI (mcA K ρ ω k)))), e_hp M V W, 0, 0) := by
  have q1 := g1 k hk.1 hk.2
  have q2 := g2 k hk.1 hk.2
  have e1 := h1 k hk.1 hk.2
  have e2 := h2 k hk.1 hk.2
  simp (disch := first | assumption | exact e_nk_i _ | exact e_nk_n | exact e_nk_r _ | exact e_bo_0 | exact e_bo_1 | exact e_bo_b _ | omega) only [e_cl_v, e_cl_x, e_add_0, e_add_s, Option.toList_some, Option.toList_none, List.cons_append, List.nil_append, iI_add, iI_sub, iI_mul, iI_lt, iI_eq, iI_le, r211_0, r211_1, r211_4, r211_6, r211_7, r211_8, r211_11, r211_12, r211_13, r211_14, r211_15, r211_16, r211_19, r211_20, r211_21, r211_22, r211_23, iI_vin, iI_nat, if_true, e1, e2]
  rw [hK (48 + 4 * ρ k + ω k) (by omega) (by omega)]
  rfl
theorem mm_toolAt (hK : e_KM M K) (h1 : e_ar (M 188) 16 ρ) (h2 : e_ar (M 189) 16 ω) (g1 : rgO ρ) (g2 : rgW ω) (hk : 0 ≤ k ∧ k < 16) : e_lim L xs d 212 0 [some (.ref 184), some (.int (iI k))] [] (e_hp M V W) = some (.inl (some (.int (iI (tlA K ρ ω k)))), e_hp M V W, 0, 0) := by
  have q1 := g1 k hk.1 hk.2
  have q2 := g2 k hk.1 hk.2
  have e1 := h1 k hk.1 hk.2
  have e2 := h2 k hk.1 hk.2
  simp (disch := first | assumption | exact e_nk_i _ | exact e_nk_n | exact e_nk_r _ | exact e_bo_0 | exact e_bo_1 | exact e_bo_b _ | omega) only [e_cl_v, e_cl_x, e_add_0, e_add_s, Option.toList_some, Option.toList_none, List.cons_append, List.nil_append, iI_add, iI_sub, iI_mul, iI_lt, iI_eq, iI_le, r212_0, r212_1, r212_4, r212_6, r212_7, r212_8, r212_11, r212_12, r212_13, r212_14, r212_15, r212_16, r212_19, r212_20, r212_21, r212_22, r212_23, iI_vin, iI_nat, if_true, e1, e2]
  rw [hK (112 + 4 * ρ k + ω k) (by omega) (by omega)]
  rfl
theorem mcA_rg (hr : kR K) (g1 : rgO ρ) (g2 : rgW ω) (hk : 0 ≤ k ∧ k < 16) : 0 ≤ mcA K ρ ω k ∧ mcA K ρ ω k ≤ 3 := by
  have q1 := g1 k hk.1 hk.2
  have q2 := g2 k hk.1 hk.2
  have := hr.mc (i := 4 * ρ k + ω k) (by omega) (by omega)
  rw [show 48 + (4 * ρ k + ω k) = 48 + 4 * ρ k + ω k by omega] at this
  exact this
theorem tlA_rg (hr : kR K) (g1 : rgO ρ) (g2 : rgW ω) (hk : 0 ≤ k ∧ k < 16) : -1 ≤ tlA K ρ ω k ∧ tlA K ρ ω k ≤ 2 := by
  have q1 := g1 k hk.1 hk.2
  have q2 := g2 k hk.1 hk.2
  have := hr.tl (i := 4 * ρ k + ω k) (by omega) (by omega)
  rw [show 112 + (4 * ρ k + ω k) = 112 + 4 * ρ k + ω k by omega] at this
  exact this
theorem mm_orderAhead (h1 : e_ar (M 188) 16 ρ) (g1 : rgO ρ) (hk : 0 ≤ k ∧ k < 16) : e_lim L xs d 213 0 [some (.ref 184), some (.int (iI k)), none] [] (e_hp M V W) = some (.inl (some (.int (iI (oAh ρ k)))), e_hp M V W, 0, 0) := by
  have q1 := g1 k hk.1 hk.2
  have e1 := h1 k hk.1 hk.2
  simp (disch := first | assumption | exact e_nk_i _ | exact e_nk_n | exact e_nk_r _ | exact e_bo_0 | exact e_bo_1 | exact e_bo_b _ | omega) only [e_cl_v, e_cl_x, e_add_0, e_add_s, Option.toList_some, Option.toList_none, List.cons_append, List.nil_append, iI_add, iI_sub, iI_mul, iI_lt, iI_eq, iI_le, r213_0, r213_1, r213_2, r213_3, r213_5, r213_8, r213_9, r213_12, r213_13, r213_14, r213_15, r213_18, r213_19, r213_20, r213_23, r213_24, r213_25, r213_28, r213_31, r213_32]
  refine G_findD (C := fun i => e_lim L xs d 213 4 [some (.ref 184), some (.int (iI k)), some (.int (iI i))] [] (e_hp M V W)) (p := fun p => decide (ρ p = ρ k)) (m := 0) (by omega) (fun j a b hp hc => ?_) (fun j a b hp hf => ?_) (fun hf => ?_)
  · simp only [decide_eq_false_iff_not] at hp
    have q2 := g1 j (by omega) (by omega)
    have e2 := h1 j (by omega) (by omega)
    rw [r213_4]
    simp (disch := first | assumption | exact e_nk_i _ | exact e_nk_n | exact e_nk_r _ | exact e_bo_0 | exact e_bo_1 | exact e_bo_b _ | omega) only [e_cl_v, e_cl_x, e_add_0, e_add_s, Option.toList_some, Option.toList_none, List.cons_append, List.nil_append, iI_add, iI_sub, iI_mul, iI_lt, iI_eq, iI_le, r213_0, r213_1, r213_2, r213_3, r213_5, r213_8, r213_9, r213_12, r213_13, r213_14, r213_15, r213_18, r213_19, r213_20, r213_23, r213_24, r213_25, r213_28, r213_31, r213_32, iI_vin, iI_nat, if_true, e1, e2]
    rw [if_neg (by omega), if_neg hp]
    exact hc
  · simp only [decide_eq_true_eq] at hp
    have q2 := g1 j (by omega) (by omega)
    have e2 := h1 j (by omega) (by omega)
    rw [r213_4]
    simp (disch := first | assumption | exact e_nk_i _ | exact e_nk_n | exact e_nk_r _ | exact e_bo_0 | exact e_bo_1 | exact e_bo_b _ | omega) only [e_cl_v, e_cl_x, e_add_0, e_add_s, Option.toList_some, Option.toList_none, List.cons_append, List.nil_append, iI_add, iI_sub, iI_mul, iI_lt, iI_eq, iI_le, r213_0, r213_1, r213_2, r213_3, r213_5, r213_8, r213_9, r213_12, r213_13, r213_14, r213_15, r213_18, r213_19, r213_20, r213_23, r213_24, r213_25, r213_28, r213_31, r213_32, iI_vin, iI_nat, if_true, e1, e2]
    rw [if_neg (by omega), if_pos hp]
    unfold oAh
    rw [zLP_hit (p := fun p => decide (ρ p = ρ k)) a (by omega) (decide_eq_true hp) (fun q x y => hf q x (by omega))]
  · rw [r213_4]
    simp (disch := first | assumption | exact e_nk_i _ | exact e_nk_n | exact e_nk_r _ | exact e_bo_0 | exact e_bo_1 | exact e_bo_b _ | omega) only [e_cl_v, e_cl_x, e_add_0, e_add_s, Option.toList_some, Option.toList_none, List.cons_append, List.nil_append, iI_add, iI_sub, iI_mul, iI_lt, iI_eq, iI_le, r213_0, r213_1, r213_2, r213_3, r213_5, r213_8, r213_9, r213_12, r213_13, r213_14, r213_15, r213_18, r213_19, r213_20, r213_23, r213_24, r213_25, r213_28, r213_31, r213_32]
    rw [if_pos (by omega)]
    unfold oAh
    rw [zLP_none hk.1 (fun q x y => hf q x (by omega))]
theorem mm_machineAhead (hK : e_KM M K) (hr : kR K) (h1 : e_ar (M 188) 16 ρ) (h2 : e_ar (M 189) 16 ω) (g1 : rgO ρ) (g2 : rgW ω) (hk : 0 ≤ k ∧ k < 16) : e_lim L xs (d + 1) 214 0 [some (.ref 184), some (.int (iI k)), none] [] (e_hp M V W) = some (.inl (some (.int (iI (mAh K ρ ω k)))), e_hp M V W, 0, 0) := by
  have q1 := mcA_rg hr g1 g2 hk
  have e1 := mm_machineAt (L := L) (xs := xs) (d := d) (V := V) (W := W) hK h1 h2 g1 g2 hk
  simp (disch := first | assumption | exact e_nk_i _ | exact e_nk_n | exact e_nk_r _ | exact e_bo_0 | exact e_bo_1 | exact e_bo_b _ | omega) only [e_cl_v, e_cl_x, e_add_0, e_add_s, Option.toList_some, Option.toList_none, List.cons_append, List.nil_append, iI_add, iI_sub, iI_mul, iI_lt, iI_eq, iI_le, r214_0, r214_1, r214_2, r214_3, r214_5, r214_8, r214_9, r214_10, r214_13, r214_14, r214_15, r214_18, r214_21, r214_22, r214_23, r214_26, r214_29, r214_30]
  refine G_findD (C := fun i => e_lim L xs (d + 1) 214 4 [some (.ref 184), some (.int (iI k)), some (.int (iI i))] [] (e_hp M V W)) (p := fun p => decide (mcA K ρ ω p = mcA K ρ ω k)) (m := 0) (by omega) (fun j a b hp hc => ?_) (fun j a b hp hf => ?_) (fun hf => ?_)
  · simp only [decide_eq_false_iff_not] at hp
    have q2 := mcA_rg hr g1 g2 (k := j) (by omega)
    have e2 := mm_machineAt (L := L) (xs := xs) (d := d) (V := V) (W := W) hK h1 h2 g1 g2 (k := j) (by omega)
    rw [r214_4]
    simp (disch := first | assumption | exact e_nk_i _ | exact e_nk_n | exact e_nk_r _ | exact e_bo_0 | exact e_bo_1 | exact e_bo_b _ | omega) only [e_cl_v, e_cl_x, e_add_0, e_add_s, Option.toList_some, Option.toList_none, List.cons_append, List.nil_append, iI_add, iI_sub, iI_mul, iI_lt, iI_eq, iI_le, r214_0, r214_1, r214_2, r214_3, r214_5, r214_8, r214_9, r214_10, r214_13, r214_14, r214_15, r214_18, r214_21, r214_22, r214_23, r214_26, r214_29, r214_30, e1, e2]
    rw [if_neg (by omega), if_neg hp]
    exact hc
  · simp only [decide_eq_true_eq] at hp
    have q2 := mcA_rg hr g1 g2 (k := j) (by omega)
    have e2 := mm_machineAt (L := L) (xs := xs) (d := d) (V := V) (W := W) hK h1 h2 g1 g2 (k := j) (by omega)
    rw [r214_4]
    simp (disch := first | assumption | exact e_nk_i _ | exact e_nk_n | exact e_nk_r _ | exact e_bo_0 | exact e_bo_1 | exact e_bo_b _ | omega) only [e_cl_v, e_cl_x, e_add_0, e_add_s, Option.toList_some, Option.toList_none, List.cons_append, List.nil_append, iI_add, iI_sub, iI_mul, iI_lt, iI_eq, iI_le, r214_0, r214_1, r214_2, r214_3, r214_5, r214_8, r214_9, r214_10, r214_13, r214_14, r214_15, r214_18, r214_21, r214_22, r214_23, r214_26, r214_29, r214_30, e1, e2]
    rw [if_neg (by omega), if_pos hp]
    unfold mAh
    rw [zLP_hit (p := fun p => decide (mcA K ρ ω p = mcA K ρ ω k)) a (by omega) (decide_eq_true hp) (fun q x y => hf q x (by omega))]
  · rw [r214_4]
    simp (disch := first | assumption | exact e_nk_i _ | exact e_nk_n | exact e_nk_r _ | exact e_bo_0 | exact e_bo_1 | exact e_bo_b _ | omega) only [e_cl_v, e_cl_x, e_add_0, e_add_s, Option.toList_some, Option.toList_none, List.cons_append, List.nil_append, iI_add, iI_sub, iI_mul, iI_lt, iI_eq, iI_le, r214_0, r214_1, r214_2, r214_3, r214_5, r214_8, r214_9, r214_10, r214_13, r214_14, r214_15, r214_18, r214_21, r214_22, r214_23, r214_26, r214_29, r214_30]
    rw [if_pos (by omega)]
    unfold mAh
    rw [zLP_none hk.1 (fun q x y => hf q x (by omega))]
theorem mm_toolAhead (hK : e_KM M K) (hr : kR K) (h1 : e_ar (M 188) 16 ρ) (h2 : e_ar (M 189) 16 ω) (g1 : rgO ρ) (g2 : rgW ω) (hk : 0 ≤ k ∧ k < 16) : e_lim L xs (d + 1) 215 0 [some (.ref 184), some (.int (iI k)), none] [] (e_hp M V W) = some (.inl (some (.int (iI (tAh K ρ ω k)))), e_hp M V W, 0, 0) := by
  have q1 := tlA_rg hr g1 g2 hk
  have e1 := mm_toolAt (L := L) (xs := xs) (d := d) (V := V) (W := W) hK h1 h2 g1 g2 hk
  simp (disch := first | assumption | exact e_nk_i _ | exact e_nk_n | exact e_nk_r _ | exact e_bo_0 | exact e_bo_1 | exact e_bo_b _ | omega) only [e_cl_v, e_cl_x, e_add_0, e_add_s, Option.toList_some, Option.toList_none, List.cons_append, List.nil_append, iI_add, iI_sub, iI_mul, iI_lt, iI_eq, iI_le, r215_0, r215_1, r215_2, r215_3, r215_5, r215_8, r215_9, r215_10, r215_13, r215_14, r215_17, r215_18, r215_19, r215_22, r215_23, r215_24, r215_27, r215_30, r215_31, r215_32, r215_35, r215_38, r215_39]
  unfold tAh
  by_cases ht : tlA K ρ ω k = -1
  · rw [if_pos ht, r215_4]
    rw [ht] at e1
    simp (disch := first | assumption | exact e_nk_i _ | exact e_nk_n | exact e_nk_r _ | exact e_bo_0 | exact e_bo_1 | exact e_bo_b _ | omega) only [e_cl_v, e_cl_x, e_add_0, e_add_s, Option.toList_some, Option.toList_none, List.cons_append, List.nil_append, iI_add, iI_sub, iI_mul, iI_lt, iI_eq, iI_le, r215_0, r215_1, r215_2, r215_3, r215_5, r215_8, r215_9, r215_10, r215_13, r215_14, r215_17, r215_18, r215_19, r215_22, r215_23, r215_24, r215_27, r215_30, r215_31, r215_32, r215_35, r215_38, r215_39, e1]
    split
    · rfl
    · rw [if_pos trivial]
  · rw [if_neg ht]
    refine G_findD (C := fun i => e_lim L xs (d + 1) 215 4 [some (.ref 184), some (.int (iI k)), some (.int (iI i))] [] (e_hp M V W)) (p := fun p => decide (tlA K ρ ω p = tlA K ρ ω k)) (m := 0) (by omega) (fun j a b hp hc => ?_) (fun j a b hp hf => ?_) (fun hf => ?_)
    · simp only [decide_eq_false_iff_not] at hp
      have q2 := tlA_rg hr g1 g2 (k := j) (by omega)
      have e2 := mm_toolAt (L := L) (xs := xs) (d := d) (V := V) (W := W) hK h1 h2 g1 g2 (k := j) (by omega)
      rw [r215_4]
      simp (disch := first | assumption | exact e_nk_i _ | exact e_nk_n | exact e_nk_r _ | exact e_bo_0 | exact e_bo_1 | exact e_bo_b _ | omega) only [e_cl_v, e_cl_x, e_add_0, e_add_s, Option.toList_some, Option.toList_none, List.cons_append, List.nil_append, iI_add, iI_sub, iI_mul, iI_lt, iI_eq, iI_le, r215_0, r215_1, r215_2, r215_3, r215_5, r215_8, r215_9, r215_10, r215_13, r215_14, r215_17, r215_18, r215_19, r215_22, r215_23, r215_24, r215_27, r215_30, r215_31, r215_32, r215_35, r215_38, r215_39, e1, e2]
      rw [if_neg (by omega), if_neg ht, if_neg hp]
      exact hc
    · simp only [decide_eq_true_eq] at hp
      have q2 := tlA_rg hr g1 g2 (k := j) (by omega)
      have e2 := mm_toolAt (L := L) (xs := xs) (d := d) (V := V) (W := W) hK h1 h2 g1 g2 (k := j) (by omega)
      rw [r215_4]
      simp (disch := first | assumption | exact e_nk_i _ | exact e_nk_n | exact e_nk_r _ | exact e_bo_0 | exact e_bo_1 | exact e_bo_b _ | omega) only [e_cl_v, e_cl_x, e_add_0, e_add_s, Option.toList_some, Option.toList_none, List.cons_append, List.nil_append, iI_add, iI_sub, iI_mul, iI_lt, iI_eq, iI_le, r215_0, r215_1, r215_2, r215_3, r215_5, r215_8, r215_9, r215_10, r215_13, r215_14, r215_17, r215_18, r215_19, r215_22, r215_23, r215_24, r215_27, r215_30, r215_31, r215_32, r215_35, r215_38, r215_39, e1, e2]
      rw [if_neg (by omega), if_neg ht, if_pos hp]
      rw [zLP_hit (p := fun p => decide (tlA K ρ ω p = tlA K ρ ω k)) a (by omega) (decide_eq_true hp) (fun q x y => hf q x (by omega))]
    · rw [r215_4]
      simp (disch := first | assumption | exact e_nk_i _ | exact e_nk_n | exact e_nk_r _ | exact e_bo_0 | exact e_bo_1 | exact e_bo_b _ | omega) only [e_cl_v, e_cl_x, e_add_0, e_add_s, Option.toList_some, Option.toList_none, List.cons_append, List.nil_append, iI_add, iI_sub, iI_mul, iI_lt, iI_eq, iI_le, r215_0, r215_1, r215_2, r215_3, r215_5, r215_8, r215_9, r215_10, r215_13, r215_14, r215_17, r215_18, r215_19, r215_22, r215_23, r215_24, r215_27, r215_30, r215_31, r215_32, r215_35, r215_38, r215_39]
      rw [if_pos (by omega)]
      rw [zLP_none hk.1 (fun q x y => hf q x (by omega))]
theorem mm_hasWorker (hK : e_KM M K) (hr : kR K) (h3 : e_ar (M 190) 16 β) (h4 : e_ar (M 191) 16 ε) (g3 : rgT β) (g4 : rgT ε) (hk : 0 ≤ k ∧ k < 16) {t : Int} (ht : 0 ≤ t ∧ t < 2001) : e_lim L xs (d + 1) 216 0 [some (.ref 184), some (.int (iI k)), some (.int (iI t)), none, none] [] (e_hp M V W) = some (.inl (some (.int (bI (hwB K β ε k t)))), e_hp M V W, 0, 0) := by
  have qw := hr.wo (i := t % 24 / 8) (by omega) (by omega)
  have ew := hK (238 + t % 24 / 8) (by omega) (by omega)
  have n24 := iI_ne (b := 24) (by omega) (by omega)
  have e24 : t - t / 24 * 24 = t % 24 := by omega
  have n8 := iI_ne (b := 8) (by omega) (by omega)
  simp (disch := first | assumption | exact e_nk_i _ | exact e_nk_n | exact e_nk_r _ | exact e_bo_0 | exact e_bo_1 | exact e_bo_b _ | omega) only [e_cl_v, e_cl_x, e_add_0, e_add_s, Option.toList_some, Option.toList_none, List.cons_append, List.nil_append, iI_add, iI_sub, iI_mul, iI_lt, iI_eq, iI_le, r216_0, r216_1, r216_4, r216_7, r216_8, r216_10, r216_11, r216_13, r216_14, r216_15, r216_16, r216_17, r216_18, r216_22, r216_23, r216_26, r216_27, r216_28, r216_29, r216_32, r216_34, r216_35, r216_36, r216_39, r216_41, r216_42, r216_43, r216_44, r216_47, r216_50, r216_51, r216_54, r216_55, r216_56, r216_57, r216_60, r216_63, r216_64, r216_67, r216_68, r216_71, r216_72, e24, iI_div, iI_vin, iI_nat, if_true, ew, n24, n8]
  rw [show iI (K (238 + t % 24 / 8)) = iI (K (238 + t % 24 / 8) - bz β ε 0 t) by rw [show bz β ε 0 t = 0 from rfl, Int.sub_zero]]
  refine G_loopI (C := fun i => e_lim L xs (d + 1) 216 20 [some (.ref 184), some (.int (iI k)), some (.int (iI t)), some (.int (iI (K (238 + t % 24 / 8) - bz β ε i t))), some (.int (iI i))] [] (e_hp M V W)) (i := 0) hk.1 (fun j a b hc => ?_) ?_
  · have q3 := g3 j a (by omega)
    have q4 := g4 j a (by omega)
    have e3 := h3 j a (by omega)
    have e4 := h4 j a (by omega)
    have qb := bz_rg β ε t a
    have hs : bz β ε (j + 1) t = bz β ε j t + if β j ≤ t ∧ t ≤ ε j - 1 then 1 else 0 := SU_s _ a
    rw [hs] at hc
    rw [r216_20]
    simp (disch := first | assumption | exact e_nk_i _ | exact e_nk_n | exact e_nk_r _ | exact e_bo_0 | exact e_bo_1 | exact e_bo_b _ | omega) only [e_cl_v, e_cl_x, e_add_0, e_add_s, Option.toList_some, Option.toList_none, List.cons_append, List.nil_append, iI_add, iI_sub, iI_mul, iI_lt, iI_eq, iI_le, r216_0, r216_1, r216_4, r216_7, r216_8, r216_10, r216_11, r216_13, r216_14, r216_15, r216_16, r216_17, r216_18, r216_22, r216_23, r216_26, r216_27, r216_28, r216_29, r216_32, r216_34, r216_35, r216_36, r216_39, r216_41, r216_42, r216_43, r216_44, r216_47, r216_50, r216_51, r216_54, r216_55, r216_56, r216_57, r216_60, r216_63, r216_64, r216_67, r216_68, r216_71, r216_72, iI_vin, iI_nat, if_true, e3, e4, mm_in, bI_0]
    rw [if_pos b]
    by_cases hq : β j ≤ t ∧ t ≤ ε j - 1
    · rw [if_pos hq] at hc
      rw [if_neg (by simp only [decide_eq_false_iff_not]; omega)]
      rw [show K (238 + t % 24 / 8) - bz β ε j t - 1 = K (238 + t % 24 / 8) - (bz β ε j t + 1) by omega]
      exact hc
    · rw [if_neg hq] at hc
      rw [if_pos (by simp only [decide_eq_false_iff_not]; omega)]
      rw [show K (238 + t % 24 / 8) - bz β ε j t - 0 = K (238 + t % 24 / 8) - (bz β ε j t + 0) by omega]
      exact hc
  · have qb := bz_rg β ε t hk.1
    rw [r216_20]
    simp (disch := first | assumption | exact e_nk_i _ | exact e_nk_n | exact e_nk_r _ | exact e_bo_0 | exact e_bo_1 | exact e_bo_b _ | omega) only [e_cl_v, e_cl_x, e_add_0, e_add_s, Option.toList_some, Option.toList_none, List.cons_append, List.nil_append, iI_add, iI_sub, iI_mul, iI_lt, iI_eq, iI_le, r216_0, r216_1, r216_4, r216_7, r216_8, r216_10, r216_11, r216_13, r216_14, r216_15, r216_16, r216_17, r216_18, r216_22, r216_23, r216_26, r216_27, r216_28, r216_29, r216_32, r216_34, r216_35, r216_36, r216_39, r216_41, r216_42, r216_43, r216_44, r216_47, r216_50, r216_51, r216_54, r216_55, r216_56, r216_57, r216_60, r216_63, r216_64, r216_67, r216_68, r216_71, r216_72]
    rw [if_neg (by omega)]
    unfold hwB
    by_cases hq : bz β ε k t < K (238 + t % 24 / 8)
    · rw [decide_eq_true hq, if_neg (by omega), bI_t]
    · rw [decide_eq_false hq, if_pos (by omega), bI_f]
theorem mm_hindered (hK : e_KM M K) (hr : kR K) (h1 : e_ar (M 188) 16 ρ) (h2 : e_ar (M 189) 16 ω) (h3 : e_ar (M 190) 16 β) (h4 : e_ar (M 191) 16 ε) (g1 : rgO ρ) (g2 : rgW ω) (g3 : rgT β) (g4 : rgT ε) (hk : 0 ≤ k ∧ k < 16) {lo tm : Int} (h5 : 0 ≤ lo) (h6 : 0 ≤ tm) (h7 : lo + tm ≤ 2000) : e_lim L xs (d + 2) 217 0 [some (.ref 184), some (.int (iI k)), some (.int (iI lo)), some (.int (iI tm)), none] [] (e_hp M V W) = some (.inl (some (.int (iI (lB (blB K β ε k (mcA K ρ ω k)) lo tm)))), e_hp M V W, 0, 0) := by
  have q1 := mcA_rg hr g1 g2 hk
  have e1 := mm_machineAt (L := L) (xs := xs) (d := d + 1) (V := V) (W := W) hK h1 h2 g1 g2 hk
  simp (disch := first | assumption | exact e_nk_i _ | exact e_nk_n | exact e_nk_r _ | exact e_bo_0 | exact e_bo_1 | exact e_bo_b _ | omega) only [e_cl_v, e_cl_x, e_add_0, e_add_s, Option.toList_some, Option.toList_none, List.cons_append, List.nil_append, iI_add, iI_sub, iI_mul, iI_lt, iI_eq, iI_le, r217_0, r217_1, r217_2, r217_3, r217_4, r217_5, r217_9, r217_10, r217_13, r217_14, r217_15, r217_16, r217_19, r217_21, r217_24, r217_27, r217_28, r217_29, r217_31, r217_34, r217_37, r217_39, r217_40, r217_43, r217_46, r217_47]
  refine G_findD (C := fun i => e_lim L xs (d + 2) 217 7 [some (.ref 184), some (.int (iI k)), some (.int (iI lo)), some (.int (iI tm)), some (.int (iI i))] [] (e_hp M V W)) (p := blB K β ε k (mcA K ρ ω k)) (m := lo) (by omega) (fun j a b hp hc => ?_) (fun j a b hp hf => ?_) (fun hf => ?_)
  · have e2 := mm_doesRest (L := L) (xs := xs) (d := d) (V := V) (W := W) hK hr (m := mcA K ρ ω k) (t := j) (by omega) (by omega)
    have e3 := mm_hasWorker (L := L) (xs := xs) (d := d) (V := V) (W := W) hK hr h3 h4 g3 g4 hk (t := j) (by omega)
    unfold blB at hp
    rw [Bool.or_eq_false_iff] at hp
    obtain ⟨p1, p2⟩ := hp
    have p3 : hwB K β ε k j = true := by simpa using p2
    rw [p1] at e2
    rw [p3] at e3
    rw [r217_7]
    simp (disch := first | assumption | exact e_nk_i _ | exact e_nk_n | exact e_nk_r _ | exact e_bo_0 | exact e_bo_1 | exact e_bo_b _ | omega) only [e_cl_v, e_cl_x, e_add_0, e_add_s, Option.toList_some, Option.toList_none, List.cons_append, List.nil_append, iI_add, iI_sub, iI_mul, iI_lt, iI_eq, iI_le, r217_0, r217_1, r217_2, r217_3, r217_4, r217_5, r217_9, r217_10, r217_13, r217_14, r217_15, r217_16, r217_19, r217_21, r217_24, r217_27, r217_28, r217_29, r217_31, r217_34, r217_37, r217_39, r217_40, r217_43, r217_46, r217_47, e1, e2, e3, bI_0]
    rw [if_neg (by omega), if_pos trivial, if_neg (by decide)]
    exact hc
  · have e2 := mm_doesRest (L := L) (xs := xs) (d := d) (V := V) (W := W) hK hr (m := mcA K ρ ω k) (t := j) (by omega) (by omega)
    have e3 := mm_hasWorker (L := L) (xs := xs) (d := d) (V := V) (W := W) hK hr h3 h4 g3 g4 hk (t := j) (by omega)
    rw [lB_hit h5 a (by omega) hp (fun q x y => hf q x (by omega))]
    unfold blB at hp
    rw [r217_7]
    simp (disch := first | assumption | exact e_nk_i _ | exact e_nk_n | exact e_nk_r _ | exact e_bo_0 | exact e_bo_1 | exact e_bo_b _ | omega) only [e_cl_v, e_cl_x, e_add_0, e_add_s, Option.toList_some, Option.toList_none, List.cons_append, List.nil_append, iI_add, iI_sub, iI_mul, iI_lt, iI_eq, iI_le, r217_0, r217_1, r217_2, r217_3, r217_4, r217_5, r217_9, r217_10, r217_13, r217_14, r217_15, r217_16, r217_19, r217_21, r217_24, r217_27, r217_28, r217_29, r217_31, r217_34, r217_37, r217_39, r217_40, r217_43, r217_46, r217_47, e1, e2, e3, bI_0]
    rw [if_neg (by omega)]
    by_cases z1 : rsB K (mcA K ρ ω k) j = true
    · rw [if_neg (by rw [z1]; decide)]
    · have z2 : rsB K (mcA K ρ ω k) j = false := by simpa using z1
      rw [z2] at hp
      have z3 : hwB K β ε k j = false := by simpa using hp
      rw [if_pos z2, if_pos z3]
  · rw [r217_7]
    simp (disch := first | assumption | exact e_nk_i _ | exact e_nk_n | exact e_nk_r _ | exact e_bo_0 | exact e_bo_1 | exact e_bo_b _ | omega) only [e_cl_v, e_cl_x, e_add_0, e_add_s, Option.toList_some, Option.toList_none, List.cons_append, List.nil_append, iI_add, iI_sub, iI_mul, iI_lt, iI_eq, iI_le, r217_0, r217_1, r217_2, r217_3, r217_4, r217_5, r217_9, r217_10, r217_13, r217_14, r217_15, r217_16, r217_19, r217_21, r217_24, r217_27, r217_28, r217_29, r217_31, r217_34, r217_37, r217_39, r217_40, r217_43, r217_46, r217_47]
    rw [if_pos (by omega), lB_none h5 h6 (fun q x y => hf q x (by omega))]
end E52
