section Ec44
variable {L : Nat} {xs : Nat → Int32} {d : Nat} {M M2 M3 : e_MI} {V : e_ML} {W : e_MD} {K K1 K2 : e_St} {S : Int → e_St} {h : e_H} {s s0 s1 t t2 a b2 n : Nat} {c o w z m k q p i f l b e mc tl T x y v N : Int} {sc bb : Bool} {ρ ν μ χ β ε τ τ2 u : Int → Int}
/-! the class's public questions, on -/
theorem x_orderOf (H : SH M 1 K) (hr : kR K) (ho : i32 o) (hw : i32 w) : e_lim L xs (d + 3) 112 0 [some (.ref 0), some (.int (iI o)), some (.int (iI w))] [] (e_hp M V W) = if 0 ≤ o ∧ o ≤ K 310 - 1 then (if 0 ≤ w ∧ w ≤ 6 then some (.inl (some (.int (iI (anOO K o w)))), e_hp M V W, 0, 0) else some (.inr 0, e_hp M V W, 1, 6)) else some (.inr 2, e_hp M V W, 1, 6) := by
  have hn := hr.n
  have e0 := x_isOrder (L := L) (xs := xs) (d := d + 1) (V := V) (W := W) H hr ho
  have e1 := m_requireIndex (L := L) (xs := xs) (d := d + 2) (h := e_hp M V W) (decide (0 ≤ o ∧ o ≤ K 310 - 1))
  have i1 := m_isWithin (L := L) (xs := xs) (d := d + 2) (h := e_hp M V W) (x := w) (y2 := 0) (z2 := 6) hw (by omega) (by omega)
  have r1 := m_requireArgument (L := L) (xs := xs) (d := d + 2) (h := e_hp M V W) (decide (0 ≤ w ∧ w ≤ 6))
  by_cases h0 : 0 ≤ o ∧ o ≤ K 310 - 1
  · rw [if_pos (decide_eq_true h0)] at e1
    rw [if_pos h0]
    by_cases h1 : 0 ≤ w ∧ w ≤ 6
    · rw [if_pos (decide_eq_true h1)] at r1
      rw [if_pos h1]
      unfold anOO
      by_cases h2 : w = 6
      · have e2 := s_timeFrom (L := L) (xs := xs) (d := d) (V := V) (W := W) H hr (o := o) h0.1 (by omega) (f := 0) (by omega)
        rw [if_pos h2]
        simp (disch := first | assumption | exact e_nk_i _ | exact e_nk_n | exact e_nk_r _ | exact e_bo_0 | exact e_bo_1 | exact e_bo_b _ | omega) only [e_cl_v, e_cl_x, e_add_0, e_add_s, Option.toList_some, Option.toList_none, List.cons_append, List.nil_append, iI_add, iI_sub, iI_mul, iI_lt, iI_eq, iI_le, r112_0, r112_1, r112_2, r112_5, r112_8, r112_9, r112_10, r112_12, r112_15, r112_18, r112_19, r112_21, r112_24, r112_25, r112_28, r112_29, r112_30, r112_33, r112_36, r112_37, r112_40, r112_41, r112_42, r112_45, e0, e1, i1, r1, e2]
        rw [if_pos h2]
      · have e3 := s_orderCell (L := L) (xs := xs) (d := d + 1) (V := V) (W := W) H hn.2 (o := o) h0.1 (by omega) (j := w) (by omega) (by omega)
        rw [if_neg h2]
        simp (disch := first | assumption | exact e_nk_i _ | exact e_nk_n | exact e_nk_r _ | exact e_bo_0 | exact e_bo_1 | exact e_bo_b _ | omega) only [e_cl_v, e_cl_x, e_add_0, e_add_s, Option.toList_some, Option.toList_none, List.cons_append, List.nil_append, iI_add, iI_sub, iI_mul, iI_lt, iI_eq, iI_le, r112_0, r112_1, r112_2, r112_5, r112_8, r112_9, r112_10, r112_12, r112_15, r112_18, r112_19, r112_21, r112_24, r112_25, r112_28, r112_29, r112_30, r112_33, r112_36, r112_37, r112_40, r112_41, r112_42, r112_45, e0, e1, i1, r1, e3]
        rw [if_neg h2]
    · rw [if_neg (by rw [decide_eq_true_eq]; exact h1)] at r1
      rw [if_neg h1]
      simp (disch := first | assumption | exact e_nk_i _ | exact e_nk_n | exact e_nk_r _ | exact e_bo_0 | exact e_bo_1 | exact e_bo_b _ | omega) only [e_cl_v, e_cl_x, e_add_0, e_add_s, Option.toList_some, Option.toList_none, List.cons_append, List.nil_append, iI_add, iI_sub, iI_mul, iI_lt, iI_eq, iI_le, r112_0, r112_1, r112_2, r112_5, r112_8, r112_9, r112_10, r112_12, r112_15, r112_18, r112_19, r112_21, r112_24, r112_25, r112_28, r112_29, r112_30, r112_33, r112_36, r112_37, r112_40, r112_41, r112_42, r112_45, e0, e1, i1, r1]
  · rw [if_neg (by rw [decide_eq_true_eq]; exact h0)] at e1
    rw [if_neg h0]
    simp (disch := first | assumption | exact e_nk_i _ | exact e_nk_n | exact e_nk_r _ | exact e_bo_0 | exact e_bo_1 | exact e_bo_b _ | omega) only [e_cl_v, e_cl_x, e_add_0, e_add_s, Option.toList_some, Option.toList_none, List.cons_append, List.nil_append, iI_add, iI_sub, iI_mul, iI_lt, iI_eq, iI_le, r112_0, r112_1, r112_2, r112_5, r112_8, r112_9, r112_10, r112_12, r112_15, r112_18, r112_19, r112_21, r112_24, r112_25, r112_28, r112_29, r112_30, r112_33, r112_36, r112_37, r112_40, r112_41, r112_42, r112_45, e0, e1]
theorem x_workOf (H : SH M 1 K) (hr : kR K) (ho : i32 o) (hw : i32 w) (hq : i32 q) : e_lim L xs (d + 3) 113 0 [some (.ref 0), some (.int (iI o)), some (.int (iI w)), some (.int (iI q))] [] (e_hp M V W) = if (0 ≤ o ∧ o ≤ K 310 - 1) ∧ 0 ≤ w ∧ w ≤ K (40 + o) - 1 then (if 0 ≤ q ∧ q ≤ 3 then some (.inl (some (.int (iI (anWO K o w q)))), e_hp M V W, 0, 0) else some (.inr 0, e_hp M V W, 1, 6)) else some (.inr 2, e_hp M V W, 1, 6) := by
  have hn := hr.n
  have e0 := x_isWork (L := L) (xs := xs) (d := d) (V := V) (W := W) H hr ho hw
  have e1 := m_requireIndex (L := L) (xs := xs) (d := d + 2) (h := e_hp M V W) (decide ((0 ≤ o ∧ o ≤ K 310 - 1) ∧ 0 ≤ w ∧ w ≤ K (40 + o) - 1))
  have i1 := m_isWithin (L := L) (xs := xs) (d := d + 2) (h := e_hp M V W) (x := q) (y2 := 0) (z2 := 3) hq (by omega) (by omega)
  have r1 := m_requireArgument (L := L) (xs := xs) (d := d + 2) (h := e_hp M V W) (decide (0 ≤ q ∧ q ≤ 3))
  by_cases h0 : (0 ≤ o ∧ o ≤ K 310 - 1) ∧ 0 ≤ w ∧ w ≤ K (40 + o) - 1
  · rw [if_pos (decide_eq_true h0)] at e1
    rw [if_pos h0]
    by_cases h1 : 0 ≤ q ∧ q ≤ 3
    · rw [if_pos (decide_eq_true h1)] at r1
      rw [if_pos h1]
      unfold anWO
      by_cases h2 : q = 3
      · have e2 := s_timeOf (L := L) (xs := xs) (d := d) (V := V) (W := W) H hr (o := o) h0.1.1 (by omega) (w := w) h0.2.1 (by omega)
        rw [if_pos h2]
        simp (disch := first | assumption | exact e_nk_i _ | exact e_nk_n | exact e_nk_r _ | exact e_bo_0 | exact e_bo_1 | exact e_bo_b _ | omega) only [e_cl_v, e_cl_x, e_add_0, e_add_s, Option.toList_some, Option.toList_none, List.cons_append, List.nil_append, iI_add, iI_sub, iI_mul, iI_lt, iI_eq, iI_le, r113_0, r113_1, r113_2, r113_3, r113_6, r113_9, r113_10, r113_11, r113_12, r113_15, r113_18, r113_19, r113_20, r113_23, r113_24, r113_27, r113_28, r113_29, r113_32, r113_35, r113_36, r113_39, r113_40, r113_41, r113_42, r113_45, e0, e1, i1, r1, e2]
        rw [if_pos h2]
      · have e3 := s_workCell (L := L) (xs := xs) (d := d + 1) (V := V) (W := W) H hr (o := o) h0.1.1 (by omega) (w := w) h0.2.1 (by omega) (j := q) (by omega) (by omega)
        rw [if_neg h2]
        simp (disch := first | assumption | exact e_nk_i _ | exact e_nk_n | exact e_nk_r _ | exact e_bo_0 | exact e_bo_1 | exact e_bo_b _ | omega) only [e_cl_v, e_cl_x, e_add_0, e_add_s, Option.toList_some, Option.toList_none, List.cons_append, List.nil_append, iI_add, iI_sub, iI_mul, iI_lt, iI_eq, iI_le, r113_0, r113_1, r113_2, r113_3, r113_6, r113_9, r113_10, r113_11, r113_12, r113_15, r113_18, r113_19, r113_20, r113_23, r113_24, r113_27, r113_28, r113_29, r113_32, r113_35, r113_36, r113_39, r113_40, r113_41, r113_42, r113_45, e0, e1, i1, r1, e3]
        rw [if_neg h2]
    · rw [if_neg (by rw [decide_eq_true_eq]; exact h1)] at r1
      rw [if_neg h1]
      simp (disch := first | assumption | exact e_nk_i _ | exact e_nk_n | exact e_nk_r _ | exact e_bo_0 | exact e_bo_1 | exact e_bo_b _ | omega) only [e_cl_v, e_cl_x, e_add_0, e_add_s, Option.toList_some, Option.toList_none, List.cons_append, List.nil_append, iI_add, iI_sub, iI_mul, iI_lt, iI_eq, iI_le, r113_0, r113_1, r113_2, r113_3, r113_6, r113_9, r113_10, r113_11, r113_12, r113_15, r113_18, r113_19, r113_20, r113_23, r113_24, r113_27, r113_28, r113_29, r113_32, r113_35, r113_36, r113_39, r113_40, r113_41, r113_42, r113_45, e0, e1, i1, r1]
  · rw [if_neg (by rw [decide_eq_true_eq]; exact h0)] at e1
    rw [if_neg h0]
    simp (disch := first | assumption | exact e_nk_i _ | exact e_nk_n | exact e_nk_r _ | exact e_bo_0 | exact e_bo_1 | exact e_bo_b _ | omega) only [e_cl_v, e_cl_x, e_add_0, e_add_s, Option.toList_some, Option.toList_none, List.cons_append, List.nil_append, iI_add, iI_sub, iI_mul, iI_lt, iI_eq, iI_le, r113_0, r113_1, r113_2, r113_3, r113_6, r113_9, r113_10, r113_11, r113_12, r113_15, r113_18, r113_19, r113_20, r113_23, r113_24, r113_27, r113_28, r113_29, r113_32, r113_35, r113_36, r113_39, r113_40, r113_41, r113_42, r113_45, e0, e1]
theorem tbR_rs (hg : kD K) (hm : 0 ≤ K 311) (x : Int) : decide (tbR K m x (x + 1) ≠ x) = rsB K m x := by
  apply bool_eq
  rw [decide_eq_true_eq, rsB_iff hm]
  rcases tbR_cases (m := m) hg hm x (x + 1) with ⟨a, b⟩ | ⟨a, b, k, k0, k1, k2, k3, k4, k5⟩
  · constructor
    · intro y
      exact absurd a y
    · rintro ⟨k, k0, k1, k2, k3, k4⟩
      exact absurd ⟨k2, by omega, k4⟩ (b k k0 k1)
  · constructor
    · intro _
      exact ⟨k, k0, k1, k2, by omega, by omega⟩
    · intro _
      omega
theorem x_rests (H : SH M 1 K) (hg : kG K) (hm : i32 m) (hx : i32 x) : e_lim L xs (d + 3) 120 0 [some (.ref 0), some (.int (iI m)), some (.int (iI x))] [] (e_hp M V W) = if (0 ≤ m ∧ m ≤ 3) ∧ 0 ≤ x ∧ x ≤ 2000 then some (.inl (some (.int (bI (rsB K m x)))), e_hp M V W, 0, 0) else some (.inr 0, e_hp M V W, 1, 6) := by
  have hr := hg.1
  have hd := hg.2.2.2.2
  have e0 := m_isMachine (L := L) (xs := xs) (d := d + 1) (M := M) (V := V) (W := W) (z := m) hm
  have i1 := m_isWithin (L := L) (xs := xs) (d := d + 2) (h := e_hp M V W) (x := x) (y2 := 0) (z2 := 2000) hx (by omega) (by omega)
  have rt := m_requireArgument (L := L) (xs := xs) (d := d + 2) (h := e_hp M V W) true
  have rf := m_requireArgument (L := L) (xs := xs) (d := d + 2) (h := e_hp M V W) false
  rw [if_pos rfl, bI_t] at rt
  rw [if_neg (by decide), bI_f] at rf
  by_cases h0 : 0 ≤ m ∧ m ≤ 3
  · rw [decide_eq_true h0, bI_t] at e0
    by_cases h1 : 0 ≤ x ∧ x ≤ 2000
    · rw [decide_eq_true h1, bI_t] at i1
      have e2 := s_timeBehindRest (L := L) (xs := xs) (d := d + 1) (V := V) (W := W) H hr h0 (f := x) (by omega) (t := x + 1) (by omega)
      rw [if_pos ⟨h0, h1⟩, ← tbR_rs hd hr.rm.1 x]
      have hb : -2147483648 ≤ tbR K m x (x + 1) ∧ tbR K m x (x + 1) < 2147483648 := by
        rcases tbR_cases (m := m) hd hr.rm.1 x (x + 1) with ⟨a, b⟩ | ⟨a, b, -⟩
        · omega
        · omega
      simp (disch := first | assumption | exact e_nk_i _ | exact e_nk_n | exact e_nk_r _ | exact e_bo_0 | exact e_bo_1 | exact e_bo_b _ | omega) only [e_cl_v, e_cl_x, e_add_0, e_add_s, Option.toList_some, Option.toList_none, List.cons_append, List.nil_append, iI_add, iI_sub, iI_mul, iI_lt, iI_eq, iI_le, r120_0, r120_1, r120_4, r120_7, r120_8, r120_9, r120_12, r120_15, r120_18, r120_19, r120_22, r120_23, r120_26, r120_27, r120_30, r120_31, r120_32, r120_33, r120_34, r120_35, r120_38, r120_39, r120_42, r120_43, r120_46, r120_47, e0, i1, rt, e2]
      by_cases h2 : tbR K m x (x + 1) = x
      · rw [decide_eq_false (fun y => y h2), bI_f]
        simp [h2]
      · rw [decide_eq_true h2, bI_t]
        simp [h2]
    · rw [decide_eq_false h1, bI_f] at i1
      rw [if_neg (fun y => h1 y.2)]
      simp (disch := first | assumption | exact e_nk_i _ | exact e_nk_n | exact e_nk_r _ | exact e_bo_0 | exact e_bo_1 | exact e_bo_b _ | omega) only [e_cl_v, e_cl_x, e_add_0, e_add_s, Option.toList_some, Option.toList_none, List.cons_append, List.nil_append, iI_add, iI_sub, iI_mul, iI_lt, iI_eq, iI_le, r120_0, r120_1, r120_4, r120_7, r120_8, r120_9, r120_12, r120_15, r120_18, r120_19, r120_22, r120_23, r120_26, r120_27, r120_30, r120_31, r120_32, r120_33, r120_34, r120_35, r120_38, r120_39, r120_42, r120_43, r120_46, r120_47, e0, i1, rf]
      simp
  · rw [decide_eq_false h0, bI_f] at e0
    rw [if_neg (fun y => h0 y.1)]
    simp (disch := first | assumption | exact e_nk_i _ | exact e_nk_n | exact e_nk_r _ | exact e_bo_0 | exact e_bo_1 | exact e_bo_b _ | omega) only [e_cl_v, e_cl_x, e_add_0, e_add_s, Option.toList_some, Option.toList_none, List.cons_append, List.nil_append, iI_add, iI_sub, iI_mul, iI_lt, iI_eq, iI_le, r120_0, r120_1, r120_4, r120_7, r120_8, r120_9, r120_12, r120_15, r120_18, r120_19, r120_22, r120_23, r120_26, r120_27, r120_30, r120_31, r120_32, r120_33, r120_34, r120_35, r120_38, r120_39, r120_42, r120_43, r120_46, r120_47, e0, rf]
    simp
theorem x_workAt (H : CK M K c S) (hg : kG K) (hm : i32 m) (hx : i32 x) : e_lim L xs (d + 4) 128 0 [some (.ref 0), some (.int (iI m)), some (.int (iI x))] [] (e_hp M V W) = if (0 ≤ m ∧ m ≤ 3) ∧ 0 ≤ x ∧ x ≤ 2000 then (if ft K = true then some (.inl (some (.int (iI (anWA K m x)))), e_hp M V W, 0, 0) else some (.inr 1, e_hp M V W, 1, 6)) else some (.inr 0, e_hp M V W, 1, 6) := by
  obtain ⟨hr, ⟨ha, hv⟩, hp, hk, hd⟩ := hg
  have c0 := H.pr.fits
  have e0 := m_isMachine (L := L) (xs := xs) (d := d + 2) (M := M) (V := V) (W := W) (z := m) hm
  have i1 := m_isWithin (L := L) (xs := xs) (d := d + 3) (h := e_hp M V W) (x := x) (y2 := 0) (z2 := 2000) hx (by omega) (by omega)
  have rt := m_requireArgument (L := L) (xs := xs) (d := d + 3) (h := e_hp M V W) true
  have rf := m_requireArgument (L := L) (xs := xs) (d := d + 3) (h := e_hp M V W) false
  rw [if_pos rfl, bI_t] at rt
  rw [if_neg (by decide), bI_f] at rf
  have e2 := m_requireState (L := L) (xs := xs) (d := d + 3) (h := e_hp M V W) (ft K)
  by_cases h0 : 0 ≤ m ∧ m ≤ 3
  · rw [decide_eq_true h0, bI_t] at e0
    by_cases h1 : 0 ≤ x ∧ x ≤ 2000
    · rw [decide_eq_true h1, bI_t] at i1
      rw [if_pos ⟨h0, h1⟩]
      by_cases h2 : ft K = true
      · rw [if_pos h2] at e2
        have e3 := tt_orderOn (L := L) (xs := xs) (d := d) (V := V) (W := W) e_isT_0 (H.pr.tt h2) hr hp (vR.vp hr hv) h0 (x := x) (by omega)
        rw [if_pos h2]
        simp (disch := first | assumption | exact e_nk_i _ | exact e_nk_n | exact e_nk_r _ | exact e_bo_0 | exact e_bo_1 | exact e_bo_b _ | omega) only [e_cl_v, e_cl_x, e_add_0, e_add_s, Option.toList_some, Option.toList_none, List.cons_append, List.nil_append, iI_add, iI_sub, iI_mul, iI_lt, iI_eq, iI_le, r128_0, r128_1, r128_4, r128_7, r128_8, r128_9, r128_12, r128_15, r128_18, r128_19, r128_22, r128_23, r128_26, r128_27, r128_30, r128_33, r128_36, r128_37, r128_40, r128_41, r128_42, r128_45, e0, i1, rt, c0, e2, e3]
        simp
        rfl
      · rw [if_neg h2] at e2
        rw [if_neg h2]
        simp (disch := first | assumption | exact e_nk_i _ | exact e_nk_n | exact e_nk_r _ | exact e_bo_0 | exact e_bo_1 | exact e_bo_b _ | omega) only [e_cl_v, e_cl_x, e_add_0, e_add_s, Option.toList_some, Option.toList_none, List.cons_append, List.nil_append, iI_add, iI_sub, iI_mul, iI_lt, iI_eq, iI_le, r128_0, r128_1, r128_4, r128_7, r128_8, r128_9, r128_12, r128_15, r128_18, r128_19, r128_22, r128_23, r128_26, r128_27, r128_30, r128_33, r128_36, r128_37, r128_40, r128_41, r128_42, r128_45, e0, i1, rt, c0, e2]
        simp
    · rw [decide_eq_false h1, bI_f] at i1
      rw [if_neg (fun y => h1 y.2)]
      simp (disch := first | assumption | exact e_nk_i _ | exact e_nk_n | exact e_nk_r _ | exact e_bo_0 | exact e_bo_1 | exact e_bo_b _ | omega) only [e_cl_v, e_cl_x, e_add_0, e_add_s, Option.toList_some, Option.toList_none, List.cons_append, List.nil_append, iI_add, iI_sub, iI_mul, iI_lt, iI_eq, iI_le, r128_0, r128_1, r128_4, r128_7, r128_8, r128_9, r128_12, r128_15, r128_18, r128_19, r128_22, r128_23, r128_26, r128_27, r128_30, r128_33, r128_36, r128_37, r128_40, r128_41, r128_42, r128_45, e0, i1, rf]
      simp
  · rw [decide_eq_false h0, bI_f] at e0
    rw [if_neg (fun y => h0 y.1)]
    simp (disch := first | assumption | exact e_nk_i _ | exact e_nk_n | exact e_nk_r _ | exact e_bo_0 | exact e_bo_1 | exact e_bo_b _ | omega) only [e_cl_v, e_cl_x, e_add_0, e_add_s, Option.toList_some, Option.toList_none, List.cons_append, List.nil_append, iI_add, iI_sub, iI_mul, iI_lt, iI_eq, iI_le, r128_0, r128_1, r128_4, r128_7, r128_8, r128_9, r128_12, r128_15, r128_18, r128_19, r128_22, r128_23, r128_26, r128_27, r128_30, r128_33, r128_36, r128_37, r128_40, r128_41, r128_42, r128_45, e0, rf]
    simp
theorem x_criticalAt (H : CK M K c S) (hg : kG K) (hi : i32 p) : e_lim L xs (d + 5) 133 0 [some (.ref 0), some (.int (iI p)), none] [] (e_hp M V W) = if ft K = true then (if 0 ≤ p ∧ p ≤ crN K - 1 then some (.inl (some (.int (iI (anCA K p)))), e_hp M V W, 0, 0) else some (.inr 2, e_hp M V W, 1, 6)) else some (.inr 1, e_hp M V W, 1, 6) := by
  obtain ⟨hr, ⟨ha, hv⟩, hp, hk, hd⟩ := hg
  have hvp : vP K (rwK K) (aW K) := vR.vp hr hv
  have c0 := H.pr.fits
  have e2 := m_requireState (L := L) (xs := xs) (d := d + 4) (h := e_hp M V W) (ft K)
  by_cases h1 : ft K = true
  · rw [if_pos h1] at e2
    have hcr : chN (aK K (rwK K)) (lsW (scE K (rwK K)) (aW K)) = crN K := rfl
    have e3 := tt_countCritical (L := L) (xs := xs) (d := d) (V := V) (W := W) e_isT_0 (H.pr.tt h1) H.sh hr hp hd hvp
    rw [hcr] at e3
    have hcn : 0 ≤ crN K ∧ crN K ≤ 17 := by
      have hl := lsW_rg (scE K (rwK K)) ha.1
      obtain ⟨n1, n2, n3⟩ := chN_sp (aK_rg K (rwK K)) (k := lsW (scE K (rwK K)) (aW K)) (by omega)
      rw [hcr] at n1
      omega
    have i1 := m_isWithin (L := L) (xs := xs) (d := d + 4) (h := e_hp M V W) (x := p) (y2 := 0) (z2 := crN K - 1) hi (by omega) (by omega)
    have r1 := m_requireIndex (L := L) (xs := xs) (d := d + 4) (h := e_hp M V W) (decide (0 ≤ p ∧ p ≤ crN K - 1))
    rw [if_pos h1]
    by_cases h2 : 0 ≤ p ∧ p ≤ crN K - 1
    · rw [if_pos (decide_eq_true h2)] at r1
      have e4 := tt_criticalWork (L := L) (xs := xs) (d := d) (V := V) (W := W) e_isT_0 (H.pr.tt h1) H.sh hr hp hd hvp (i := crN K - 1 - p) (by rw [hcr]; omega)
      rw [if_pos h2]
      simp (disch := first | assumption | exact e_nk_i _ | exact e_nk_n | exact e_nk_r _ | exact e_bo_0 | exact e_bo_1 | exact e_bo_b _ | omega) only [e_cl_v, e_cl_x, e_add_0, e_add_s, Option.toList_some, Option.toList_none, List.cons_append, List.nil_append, iI_add, iI_sub, iI_mul, iI_lt, iI_eq, iI_le, r133_0, r133_1, r133_4, r133_7, r133_10, r133_11, r133_14, r133_15, r133_18, r133_21, r133_22, r133_23, r133_24, r133_25, r133_26, r133_27, r133_30, r133_33, r133_34, r133_37, r133_38, r133_41, r133_42, r133_43, r133_44, r133_45, r133_46, r133_49, c0, e2, e3, i1, r1, e4]
      rfl
    · rw [if_neg (by rw [decide_eq_true_eq]; exact h2)] at r1
      rw [if_neg h2]
      simp (disch := first | assumption | exact e_nk_i _ | exact e_nk_n | exact e_nk_r _ | exact e_bo_0 | exact e_bo_1 | exact e_bo_b _ | omega) only [e_cl_v, e_cl_x, e_add_0, e_add_s, Option.toList_some, Option.toList_none, List.cons_append, List.nil_append, iI_add, iI_sub, iI_mul, iI_lt, iI_eq, iI_le, r133_0, r133_1, r133_4, r133_7, r133_10, r133_11, r133_14, r133_15, r133_18, r133_21, r133_22, r133_23, r133_24, r133_25, r133_26, r133_27, r133_30, r133_33, r133_34, r133_37, r133_38, r133_41, r133_42, r133_43, r133_44, r133_45, r133_46, r133_49, c0, e2, e3, i1, r1]
  · rw [if_neg h1] at e2
    rw [if_neg h1]
    simp (disch := first | assumption | exact e_nk_i _ | exact e_nk_n | exact e_nk_r _ | exact e_bo_0 | exact e_bo_1 | exact e_bo_b _ | omega) only [e_cl_v, e_cl_x, e_add_0, e_add_s, Option.toList_some, Option.toList_none, List.cons_append, List.nil_append, iI_add, iI_sub, iI_mul, iI_lt, iI_eq, iI_le, r133_0, r133_1, r133_4, r133_7, r133_10, r133_11, r133_14, r133_15, r133_18, r133_21, r133_22, r133_23, r133_24, r133_25, r133_26, r133_27, r133_30, r133_33, r133_34, r133_37, r133_38, r133_41, r133_42, r133_43, r133_44, r133_45, r133_46, r133_49, c0, e2]
end Ec44
