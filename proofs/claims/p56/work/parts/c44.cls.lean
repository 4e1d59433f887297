section Ec44
variable {L : Nat} {xs : Nat → Int32} {d : Nat} {M M2 M3 : e_MI} {V : e_ML} {W : e_MD} {K K1 K2 : e_St} {S : Int → e_St} {h : e_H} {s s0 s1 t t2 a b2 n : Nat} {c o w z m k q p i f l b e mc tl T x y v N : Int} {sc bb : Bool} {ρ ν μ χ β ε τ τ2 u : Int → Int}
/-! the class's public questions, on -/
theorem tbR_rs (hg : kD K) (hm : 0 ≤ K 311) (x : Int) : decide (tbR K m x (x + 1) ≠ x) = rsB K m x := by
  apply bool_eq
  rw [decide_eq_true_eq, rsB_iff hm]
  rcases tbR_cases (m := m) hg hm x (x + 1) with ⟨a, b⟩ | ⟨a, b, k, k0, k1, k2, k3, k4, k5⟩
  · constructor
    · intro y
      exact absurd a y
    · rintro ⟨k, k0, k1, k2, k3, k4⟩
      exact absurd ⟨k2, by omega, k4⟩ (b k k0 k1)
  · constructor
    · intro _
      exact ⟨k, k0, k1, k2, by omega, by omega⟩
    · intro _
      omega
theorem x_rests (H : SH M 1 K) (hg : kG K) (hm : i32 m) (hx : i32 x) : e_lim L xs (d + 3) 111 0 [some (.ref 0), some (.int (iI m)), some (.int (iI x))] [] (e_hp M V W) = if (0 ≤ m ∧ m ≤ 3) ∧ 0 ≤ x ∧ x ≤ 2000 then some (.inl (some (.int (bI (rsB K m x)))), e_hp M V W, 0, 0) else some (.inr 0, e_hp M V W, 1, 6) := by
  have hr := hg.1
  have hd := hg.2.2.2.2
  have e0 := m_isMachine (L := L) (xs := xs) (d := d + 1) (M := M) (V := V) (W := W) (z := m) hm
  have i1 := m_isWithin (L := L) (xs := xs) (d := d + 2) (h := e_hp M V W) (x := x) (y2 := 0) (z2 := 2000) hx (by omega) (by omega)
  have rt := m_requireArgument (L := L) (xs := xs) (d := d + 2) (h := e_hp M V W) true
  have rf := m_requireArgument (L := L) (xs := xs) (d := d + 2) (h := e_hp M V W) false
  rw [if_pos rfl, bI_t] at rt
  rw [if_neg (by decide), bI_f] at rf
  by_cases h0 : 0 ≤ m ∧ m ≤ 3
  · rw [decide_eq_true h0, bI_t] at e0
    by_cases h1 : 0 ≤ x ∧ x ≤ 2000
    · rw [decide_eq_true h1, bI_t] at i1
      have e2 := s_timeBehindRest (L := L) (xs := xs) (d := d + 1) (V := V) (W := W) H hr h0 (f := x) (by omega) (t := x + 1) (by omega)
      rw [if_pos ⟨h0, h1⟩, ← tbR_rs hd hr.rm.1 x]
      have hb : -2147483648 ≤ tbR K m x (x + 1) ∧ tbR K m x (x + 1) < 2147483648 := by
        rcases tbR_cases (m := m) hd hr.rm.1 x (x + 1) with ⟨a, b⟩ | ⟨a, b, -⟩
        · omega
        · omega
      simp (disch := first | assumption | exact e_nk_i _ | exact e_nk_n | exact e_nk_r _ | exact e_bo_0 | exact e_bo_1 | exact e_bo_b _ | omega) only [e_cl_v, e_cl_x, e_add_0, e_add_s, Option.toList_some, Option.toList_none, List.cons_append, List.nil_append, iI_add, iI_sub, iI_mul, iI_lt, iI_eq, iI_le, r111_0, r111_1, r111_4, r111_7, r111_8, r111_9, r111_12, r111_15, r111_18, r111_19, r111_22, r111_23, r111_26, r111_27, r111_30, r111_31, r111_32, r111_33, r111_34, r111_35, r111_38, r111_39, r111_42, r111_43, r111_46, r111_47, e0, i1, rt, e2]
      by_cases h2 : tbR K m x (x + 1) = x
      · rw [decide_eq_false (fun y => y h2), bI_f]
        simp [h2]
      · rw [decide_eq_true h2, bI_t]
        simp [h2]
    · rw [decide_eq_false h1, bI_f] at i1
      rw [if_neg (fun y => h1 y.2)]
      simp (disch := first | assumption | exact e_nk_i _ | exact e_nk_n | exact e_nk_r _ | exact e_bo_0 | exact e_bo_1 | exact e_bo_b _ | omega) only [e_cl_v, e_cl_x, e_add_0, e_add_s, Option.toList_some, Option.toList_none, List.cons_append, List.nil_append, iI_add, iI_sub, iI_mul, iI_lt, iI_eq, iI_le, r111_0, r111_1, r111_4, r111_7, r111_8, r111_9, r111_12, r111_15, r111_18, r111_19, r111_22, r111_23, r111_26, r111_27, r111_30, r111_31, r111_32, r111_33, r111_34, r111_35, r111_38, r111_39, r111_42, r111_43, r111_46, r111_47, e0, i1, rf]
      simp
  · rw [decide_eq_false h0, bI_f] at e0
    rw [if_neg (fun y => h0 y.1)]
    simp (disch := first | assumption | exact e_nk_i _ | exact e_nk_n | exact e_nk_r _ | exact e_bo_0 | exact e_bo_1 | exact e_bo_b _ | omega) only [e_cl_v, e_cl_x, e_add_0, e_add_s, Option.toList_some, Option.toList_none, List.cons_append, List.nil_append, iI_add, iI_sub, iI_mul, iI_lt, iI_eq, iI_le, r111_0, r111_1, r111_4, r111_7, r111_8, r111_9, r111_12, r111_15, r111_18, r111_19, r111_22, r111_23, r111_26, r111_27, r111_30, r111_31, r111_32, r111_33, r111_34, r111_35, r111_38, r111_39, r111_42, r111_43, r111_46, r111_47, e0, rf]
    simp
theorem x_workAt (H : CK M K c S) (hg : kG K) (hm : i32 m) (hx : i32 x) : e_lim L xs (d + 4) 119 0 [some (.ref 0), some (.int (iI m)), some (.int (iI x))] [] (e_hp M V W) = if (0 ≤ m ∧ m ≤ 3) ∧ 0 ≤ x ∧ x ≤ 2000 then (if ft K = true then some (.inl (some (.int (iI (anWA K m x)))), e_hp M V W, 0, 0) else some (.inr 1, e_hp M V W, 1, 6)) else some (.inr 0, e_hp M V W, 1, 6) := by
  obtain ⟨hr, ⟨ha, hv⟩, hp, hk, hd⟩ := hg
  have c0 := H.pr.fits
  have e0 := m_isMachine (L := L) (xs := xs) (d := d + 2) (M := M) (V := V) (W := W) (z := m) hm
  have i1 := m_isWithin (L := L) (xs := xs) (d := d + 3) (h := e_hp M V W) (x := x) (y2 := 0) (z2 := 2000) hx (by omega) (by omega)
  have rt := m_requireArgument (L := L) (xs := xs) (d := d + 3) (h := e_hp M V W) true
  have rf := m_requireArgument (L := L) (xs := xs) (d := d + 3) (h := e_hp M V W) false
  rw [if_pos rfl, bI_t] at rt
  rw [if_neg (by decide), bI_f] at rf
  have e2 := m_requireState (L := L) (xs := xs) (d := d + 3) (h := e_hp M V W) (ft K)
  by_cases h0 : 0 ≤ m ∧ m ≤ 3
  · rw [decide_eq_true h0, bI_t] at e0
    by_cases h1 : 0 ≤ x ∧ x ≤ 2000
    · rw [decide_eq_true h1, bI_t] at i1
      rw [if_pos ⟨h0, h1⟩]
      by_cases h2 : ft K = true
      · rw [if_pos h2] at e2
        have e3 := tt_orderOn (L := L) (xs := xs) (d := d) (V := V) (W := W) e_isT_0 (H.pr.tt h2) hr hp (vR.vp hr hv) h0 (x := x) (by omega)
        rw [if_pos h2]
        simp (disch := first | assumption | exact e_nk_i _ | exact e_nk_n | exact e_nk_r _ | exact e_bo_0 | exact e_bo_1 | exact e_bo_b _ | omega) only [e_cl_v, e_cl_x, e_add_0, e_add_s, Option.toList_some, Option.toList_none, List.cons_append, List.nil_append, iI_add, iI_sub, iI_mul, iI_lt, iI_eq, iI_le, r119_0, r119_1, r119_4, r119_7, r119_8, r119_9, r119_12, r119_15, r119_18, r119_19, r119_22, r119_23, r119_26, r119_27, r119_30, r119_33, r119_36, r119_37, r119_40, r119_41, r119_42, r119_45, e0, i1, rt, c0, e2, e3]
        simp
        rfl
      · rw [if_neg h2] at e2
        rw [if_neg h2]
        simp (disch := first | assumption | exact e_nk_i _ | exact e_nk_n | exact e_nk_r _ | exact e_bo_0 | exact e_bo_1 | exact e_bo_b _ | omega) only [e_cl_v, e_cl_x, e_add_0, e_add_s, Option.toList_some, Option.toList_none, List.cons_append, List.nil_append, iI_add, iI_sub, iI_mul, iI_lt, iI_eq, iI_le, r119_0, r119_1, r119_4, r119_7, r119_8, r119_9, r119_12, r119_15, r119_18, r119_19, r119_22, r119_23, r119_26, r119_27, r119_30, r119_33, r119_36, r119_37, r119_40, r119_41, r119_42, r119_45, e0, i1, rt, c0, e2]
        simp
    · rw [decide_eq_false h1, bI_f] at i1
      rw [if_neg (fun y => h1 y.2)]
      simp (disch := first | assumption | exact e_nk_i _ | exact e_nk_n | exact e_nk_r _ | exact e_bo_0 | exact e_bo_1 | exact e_bo_b _ | omega) only [e_cl_v, e_cl_x, e_add_0, e_add_s, Option.toList_some, Option.toList_none, List.cons_append, List.nil_append, iI_add, iI_sub, iI_mul, iI_lt, iI_eq, iI_le, r119_0, r119_1, r119_4, r119_7, r119_8, r119_9, r119_12, r119_15, r119_18, r119_19, r119_22, r119_23, r119_26, r119_27, r119_30, r119_33, r119_36, r119_37, r119_40, r119_41, r119_42, r119_45, e0, i1, rf]
      simp
  · rw [decide_eq_false h0, bI_f] at e0
    rw [if_neg (fun y => h0 y.1)]
    simp (disch := first | assumption | exact e_nk_i _ | exact e_nk_n | exact e_nk_r _ | exact e_bo_0 | exact e_bo_1 | exact e_bo_b _ | omega) only [e_cl_v, e_cl_x, e_add_0, e_add_s, Option.toList_some, Option.toList_none, List.cons_append, List.nil_append, iI_add, iI_sub, iI_mul, iI_lt, iI_eq, iI_le, r119_0, r119_1, r119_4, r119_7, r119_8, r119_9, r119_12, r119_15, r119_18, r119_19, r119_22, r119_23, r119_26, r119_27, r119_30, r119_33, r119_36, r119_37, r119_40, r119_41, r119_42, r119_45, e0, rf]
    simp
theorem x_criticalAt (H : CK M K c S) (hg : kG K) (hi : i32 p) : e_lim L xs (d + 5) 124 0 [some (.ref 0), some (.int (iI p)), none] [] (e_hp M V W) = if ft K = true then (if 0 ≤ p ∧ p ≤ crN K - 1 then some (.inl (some (.int (iI (anCA K p)))), e_hp M V W, 0, 0) else some (.inr 2, e_hp M V W, 1, 6)) else some (.inr 1, e_hp M V W, 1, 6) := by
  obtain ⟨hr, ⟨ha, hv⟩, hp, hk, hd⟩ := hg
  have hvp : vP K (rwK K) (aW K) := vR.vp hr hv
  have c0 := H.pr.fits
  have e2 := m_requireState (L := L) (xs := xs) (d := d + 4) (h := e_hp M V W) (ft K)
  by_cases h1 : ft K = true
  · rw [if_pos h1] at e2
    have hcr : chN (aK K (rwK K)) (lsW (scE K (rwK K)) (aW K)) = crN K := rfl
    have e3 := tt_countCritical (L := L) (xs := xs) (d := d) (V := V) (W := W) e_isT_0 (H.pr.tt h1) H.sh hr hp hd hvp
    rw [hcr] at e3
    have hcn : 0 ≤ crN K ∧ crN K ≤ 17 := by
      have hl := lsW_rg (scE K (rwK K)) ha.1
      obtain ⟨n1, n2, n3⟩ := chN_sp (aK_rg K (rwK K)) (k := lsW (scE K (rwK K)) (aW K)) (by omega)
      rw [hcr] at n1
      omega
    have i1 := m_isWithin (L := L) (xs := xs) (d := d + 4) (h := e_hp M V W) (x := p) (y2 := 0) (z2 := crN K - 1) hi (by omega) (by omega)
    have r1 := m_requireIndex (L := L) (xs := xs) (d := d + 4) (h := e_hp M V W) (decide (0 ≤ p ∧ p ≤ crN K - 1))
    rw [if_pos h1]
    by_cases h2 : 0 ≤ p ∧ p ≤ crN K - 1
    · rw [if_pos (decide_eq_true h2)] at r1
      have e4 := tt_criticalWork (L := L) (xs := xs) (d := d) (V := V) (W := W) e_isT_0 (H.pr.tt h1) H.sh hr hp hd hvp (i := crN K - 1 - p) (by rw [hcr]; omega)
      rw [if_pos h2]
      simp (disch := first | assumption | exact e_nk_i _ | exact e_nk_n | exact e_nk_r _ | exact e_bo_0 | exact e_bo_1 | exact e_bo_b _ | omega) only [e_cl_v, e_cl_x, e_add_0, e_add_s, Option.toList_some, Option.toList_none, List.cons_append, List.nil_append, iI_add, iI_sub, iI_mul, iI_lt, iI_eq, iI_le, r124_0, r124_1, r124_4, r124_7, r124_10, r124_11, r124_14, r124_15, r124_18, r124_21, r124_22, r124_23, r124_24, r124_25, r124_26, r124_27, r124_30, r124_33, r124_34, r124_37, r124_38, r124_41, r124_42, r124_43, r124_44, r124_45, r124_46, r124_49, c0, e2, e3, i1, r1, e4]
      rfl
    · rw [if_neg (by rw [decide_eq_true_eq]; exact h2)] at r1
      rw [if_neg h2]
      simp (disch := first | assumption | exact e_nk_i _ | exact e_nk_n | exact e_nk_r _ | exact e_bo_0 | exact e_bo_1 | exact e_bo_b _ | omega) only [e_cl_v, e_cl_x, e_add_0, e_add_s, Option.toList_some, Option.toList_none, List.cons_append, List.nil_append, iI_add, iI_sub, iI_mul, iI_lt, iI_eq, iI_le, r124_0, r124_1, r124_4, r124_7, r124_10, r124_11, r124_14, r124_15, r124_18, r124_21, r124_22, r124_23, r124_24, r124_25, r124_26, r124_27, r124_30, r124_33, r124_34, r124_37, r124_38, r124_41, r124_42, r124_43, r124_44, r124_45, r124_46, r124_49, c0, e2, e3, i1, r1]
  · rw [if_neg h1] at e2
    rw [if_neg h1]
    simp (disch := first | assumption | exact e_nk_i _ | exact e_nk_n | exact e_nk_r _ | exact e_bo_0 | exact e_bo_1 | exact e_bo_b _ | omega) only [e_cl_v, e_cl_x, e_add_0, e_add_s, Option.toList_some, Option.toList_none, List.cons_append, List.nil_append, iI_add, iI_sub, iI_mul, iI_lt, iI_eq, iI_le, r124_0, r124_1, r124_4, r124_7, r124_10, r124_11, r124_14, r124_15, r124_18, r124_21, r124_22, r124_23, r124_24, r124_25, r124_26, r124_27, r124_30, r124_33, r124_34, r124_37, r124_38, r124_41, r124_42, r124_43, r124_44, r124_45, r124_46, r124_49, c0, e2]
end Ec44
