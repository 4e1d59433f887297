section Ec32
variable {L : Nat} {xs : Nat → Int32} {d : Nat} {M M2 M3 : e_MI} {V : e_ML} {W : e_MD} {K K2 : e_St} {S : Int → e_St} {h : e_H} {s s0 s1 t t2 a b2 n : Nat} {c o w z m k q p i f l b e mc tl T x y N : Int} {sc : Bool} {ρ ν μ χ β ε τ u : Int → Int}
/-! the class's public questions -/
theorem x_isOrder (H : SH M 1 K) (hr : kR K) (ho : i32 o) : e_lim L xs (d + 1) 149 0 [some (.ref 0), some (.int (iI o))] [] (e_hp M V W) = some (.inl (some (.int (bI (decide (0 ≤ o ∧ o ≤ K 310 - 1))))), e_hp M V W, 0, 0) := by
  have hn := hr.n
  have c0 := H.cn
  have e1 := m_isWithin (L := L) (xs := xs) (d := d) (h := e_hp M V W) (x := o) (y2 := 0) (z2 := K 310 - 1) ho (by omega) (by omega)
  simp (disch := first | assumption | exact e_nk_i _ | exact e_nk_n | exact e_nk_r _ | exact e_bo_0 | exact e_bo_1 | exact e_bo_b _ | omega) only [e_cl_v, e_cl_x, e_add_0, e_add_s, Option.toList_some, Option.toList_none, List.cons_append, List.nil_append, iI_add, iI_sub, iI_mul, iI_lt, iI_eq, iI_le, r149_0, r149_1, r149_2, r149_3, r149_6, r149_9, r149_10, r149_11, r149_14, c0, e1]
theorem x_isPlace (H : SH M 1 K) (ha : 0 ≤ aW K ∧ aW K ≤ 16) (ho : i32 o) : e_lim L xs (d + 1) 151 0 [some (.ref 0), some (.int (iI o))] [] (e_hp M V W) = some (.inl (some (.int (bI (decide (0 ≤ o ∧ o ≤ aW K - 1))))), e_hp M V W, 0, 0) := by
  have c0 := H.cw
  have e1 := m_isWithin (L := L) (xs := xs) (d := d) (h := e_hp M V W) (x := o) (y2 := 0) (z2 := aW K - 1) ho (by omega) (by omega)
  simp (disch := first | assumption | exact e_nk_i _ | exact e_nk_n | exact e_nk_r _ | exact e_bo_0 | exact e_bo_1 | exact e_bo_b _ | omega) only [e_cl_v, e_cl_x, e_add_0, e_add_s, Option.toList_some, Option.toList_none, List.cons_append, List.nil_append, iI_add, iI_sub, iI_mul, iI_lt, iI_eq, iI_le, r151_0, r151_1, r151_2, r151_3, r151_6, r151_9, r151_10, r151_11, r151_14, c0, e1]
theorem x_isWork (H : SH M 1 K) (hr : kR K) (ho : i32 o) (hw : i32 w) : e_lim L xs (d + 2) 150 0 [some (.ref 0), some (.int (iI o)), some (.int (iI w))] [] (e_hp M V W) = some (.inl (some (.int (bI (decide ((0 ≤ o ∧ o ≤ K 310 - 1) ∧ 0 ≤ w ∧ w ≤ K (40 + o) - 1))))), e_hp M V W, 0, 0) := by
  have hn := hr.n
  have e1 := x_isOrder (L := L) (xs := xs) (d := d) (V := V) (W := W) H hr ho
  by_cases h1 : 0 ≤ o ∧ o ≤ K 310 - 1
  · have hwk := hr.wk (o := o) h1.1 (by omega)
    have e2 := s_worksIn (L := L) (xs := xs) (d := d) (V := V) (W := W) H hn.2 h1.1 (by omega)
    have e3 := m_isWithin (L := L) (xs := xs) (d := d + 1) (h := e_hp M V W) (x := w) (y2 := 0) (z2 := K (40 + o) - 1) hw (by omega) (by omega)
    rw [decide_eq_true h1, bI_t] at e1
    by_cases h2 : 0 ≤ w ∧ w ≤ K (40 + o) - 1
    · rw [decide_eq_true h2, bI_t] at e3
      rw [decide_eq_true (⟨h1, h2⟩ : (0 ≤ o ∧ o ≤ K 310 - 1) ∧ 0 ≤ w ∧ w ≤ K (40 + o) - 1), bI_t]
      simp (disch := first | assumption | exact e_nk_i _ | exact e_nk_n | exact e_nk_r _ | exact e_bo_0 | exact e_bo_1 | exact e_bo_b _ | omega) only [e_cl_v, e_cl_x, e_add_0, e_add_s, Option.toList_some, Option.toList_none, List.cons_append, List.nil_append, iI_add, iI_sub, iI_mul, iI_lt, iI_eq, iI_le, r150_0, r150_1, r150_2, r150_5, r150_8, r150_9, r150_10, r150_11, r150_14, r150_15, r150_18, r150_19, r150_20, r150_23, r150_26, r150_27, r150_30, r150_31, e1, e2, e3]
      simp
    · rw [decide_eq_false h2, bI_f] at e3
      rw [decide_eq_false (fun y => h2 y.2), bI_f]
      simp (disch := first | assumption | exact e_nk_i _ | exact e_nk_n | exact e_nk_r _ | exact e_bo_0 | exact e_bo_1 | exact e_bo_b _ | omega) only [e_cl_v, e_cl_x, e_add_0, e_add_s, Option.toList_some, Option.toList_none, List.cons_append, List.nil_append, iI_add, iI_sub, iI_mul, iI_lt, iI_eq, iI_le, r150_0, r150_1, r150_2, r150_5, r150_8, r150_9, r150_10, r150_11, r150_14, r150_15, r150_18, r150_19, r150_20, r150_23, r150_26, r150_27, r150_30, r150_31, e1, e2, e3]
      simp
  · rw [decide_eq_false h1, bI_f] at e1
    rw [decide_eq_false (fun y => h1 y.1), bI_f]
    simp (disch := first | assumption | exact e_nk_i _ | exact e_nk_n | exact e_nk_r _ | exact e_bo_0 | exact e_bo_1 | exact e_bo_b _ | omega) only [e_cl_v, e_cl_x, e_add_0, e_add_s, Option.toList_some, Option.toList_none, List.cons_append, List.nil_append, iI_add, iI_sub, iI_mul, iI_lt, iI_eq, iI_le, r150_0, r150_1, r150_2, r150_5, r150_8, r150_9, r150_10, r150_11, r150_14, r150_15, r150_18, r150_19, r150_20, r150_23, r150_26, r150_27, r150_30, r150_31, e1]
    simp
theorem x_orders (H : SH M 1 K) : e_lim L xs d 106 0 [some (.ref 0)] [] (e_hp M V W) = some (.inl (some (.int (iI (K 310)))), e_hp M V W, 0, 0) := by
  have c0 := H.cn
  simp (disch := first | assumption | exact e_nk_i _ | exact e_nk_n | exact e_nk_r _ | exact e_bo_0 | exact e_bo_1 | exact e_bo_b _ | omega) only [e_cl_v, e_cl_x, e_add_0, e_add_s, Option.toList_some, Option.toList_none, List.cons_append, List.nil_append, iI_add, iI_sub, iI_mul, iI_lt, iI_eq, iI_le, r106_0, r106_1, r106_4, r106_7, c0]
theorem x_works (H : SH M 1 K) : e_lim L xs d 107 0 [some (.ref 0)] [] (e_hp M V W) = some (.inl (some (.int (iI (aW K)))), e_hp M V W, 0, 0) := by
  have c0 := H.cw
  simp (disch := first | assumption | exact e_nk_i _ | exact e_nk_n | exact e_nk_r _ | exact e_bo_0 | exact e_bo_1 | exact e_bo_b _ | omega) only [e_cl_v, e_cl_x, e_add_0, e_add_s, Option.toList_some, Option.toList_none, List.cons_append, List.nil_append, iI_add, iI_sub, iI_mul, iI_lt, iI_eq, iI_le, r107_0, r107_1, r107_4, r107_7, c0]
theorem x_hasTimes (H : CK M K c S) : e_lim L xs d 114 0 [some (.ref 0)] [] (e_hp M V W) = some (.inl (some (.int (bI (ft K)))), e_hp M V W, 0, 0) := by
  have c0 := H.pr.fits
  simp (disch := first | assumption | exact e_nk_i _ | exact e_nk_n | exact e_nk_r _ | exact e_bo_0 | exact e_bo_1 | exact e_bo_b _ | omega) only [e_cl_v, e_cl_x, e_add_0, e_add_s, Option.toList_some, Option.toList_none, List.cons_append, List.nil_append, iI_add, iI_sub, iI_mul, iI_lt, iI_eq, iI_le, r114_0, r114_1, r114_4, r114_7, c0]
theorem x_bound (H : SH M 1 K) (hr : kR K) (hp : kP K) : e_lim L xs (d + 6) 121 0 [some (.ref 0)] [] (e_hp M V W) = some (.inl (some (.int (iI (boW K)))), e_hp M V W, 0, 0) := by
  have e1 := s_lowestEnd (L := L) (xs := xs) (d := d) (V := V) (W := W) H hr hp
  simp (disch := first | assumption | exact e_nk_i _ | exact e_nk_n | exact e_nk_r _ | exact e_bo_0 | exact e_bo_1 | exact e_bo_b _ | omega) only [e_cl_v, e_cl_x, e_add_0, e_add_s, Option.toList_some, Option.toList_none, List.cons_append, List.nil_append, iI_add, iI_sub, iI_mul, iI_lt, iI_eq, iI_le, r121_0, r121_1, r121_4, r121_7, e1]
theorem x_load (H : SH M 1 K) (hr : kR K) (hm : i32 m) : e_lim L xs (d + 4) 120 0 [some (.ref 0), some (.int (iI m))] [] (e_hp M V W) = if 0 ≤ m ∧ m ≤ 3 then some (.inl (some (.int (iI (lO K m)))), e_hp M V W, 0, 0) else some (.inr 0, e_hp M V W, 1, 6) := by
  have e1 := m_isMachine (L := L) (xs := xs) (d := d + 2) (M := M) (V := V) (W := W) (z := m) hm
  by_cases h1 : 0 ≤ m ∧ m ≤ 3
  · rw [decide_eq_true h1] at e1
    have e2 := m_requireArgument (L := L) (xs := xs) (d := d + 3) (h := e_hp M V W) true
    rw [if_pos rfl] at e2
    have e3 := s_timeOnMachine (L := L) (xs := xs) (d := d) (V := V) (W := W) H hr h1
    rw [if_pos h1]
    simp (disch := first | assumption | exact e_nk_i _ | exact e_nk_n | exact e_nk_r _ | exact e_bo_0 | exact e_bo_1 | exact e_bo_b _ | omega) only [e_cl_v, e_cl_x, e_add_0, e_add_s, Option.toList_some, Option.toList_none, List.cons_append, List.nil_append, iI_add, iI_sub, iI_mul, iI_lt, iI_eq, iI_le, r120_0, r120_1, r120_4, r120_7, r120_8, r120_11, r120_12, r120_15, e1, e2, e3]
  · rw [decide_eq_false h1] at e1
    have e2 := m_requireArgument (L := L) (xs := xs) (d := d + 3) (h := e_hp M V W) false
    rw [if_neg (by decide)] at e2
    rw [if_neg h1]
    simp (disch := first | assumption | exact e_nk_i _ | exact e_nk_n | exact e_nk_r _ | exact e_bo_0 | exact e_bo_1 | exact e_bo_b _ | omega) only [e_cl_v, e_cl_x, e_add_0, e_add_s, Option.toList_some, Option.toList_none, List.cons_append, List.nil_append, iI_add, iI_sub, iI_mul, iI_lt, iI_eq, iI_le, r120_0, r120_1, r120_4, r120_7, r120_8, r120_11, r120_12, r120_15, e1, e2]
theorem x_end (H : CK M K c S) (hg : kG K) : e_lim L xs (d + 3) 117 0 [some (.ref 0)] [] (e_hp M V W) = if ft K = true then some (.inl (some (.int (iI (edW K)))), e_hp M V W, 0, 0) else some (.inr 1, e_hp M V W, 1, 6) := by
  obtain ⟨hr, ⟨ha, hv⟩, hp, hk, hd⟩ := hg
  have c0 := H.pr.fits
  have e2 := m_requireState (L := L) (xs := xs) (d := d + 2) (h := e_hp M V W) (ft K)
  by_cases h1 : ft K = true
  · rw [if_pos h1] at e2
    have e3 := tt_latest (L := L) (xs := xs) (d := d) (V := V) (W := W) e_isT_0 (H.pr.tt h1) hr hp (vR.vp hr hv)
    rw [if_pos h1]
    simp (disch := first | assumption | exact e_nk_i _ | exact e_nk_n | exact e_nk_r _ | exact e_bo_0 | exact e_bo_1 | exact e_bo_b _ | omega) only [e_cl_v, e_cl_x, e_add_0, e_add_s, Option.toList_some, Option.toList_none, List.cons_append, List.nil_append, iI_add, iI_sub, iI_mul, iI_lt, iI_eq, iI_le, r117_0, r117_1, r117_4, r117_7, r117_10, r117_11, r117_14, r117_17, c0, e2, e3]
    rfl
  · rw [if_neg h1] at e2
    rw [if_neg h1]
    simp (disch := first | assumption | exact e_nk_i _ | exact e_nk_n | exact e_nk_r _ | exact e_bo_0 | exact e_bo_1 | exact e_bo_b _ | omega) only [e_cl_v, e_cl_x, e_add_0, e_add_s, Option.toList_some, Option.toList_none, List.cons_append, List.nil_append, iI_add, iI_sub, iI_mul, iI_lt, iI_eq, iI_le, r117_0, r117_1, r117_4, r117_7, r117_10, r117_11, r117_14, r117_17, c0, e2]
end Ec32
