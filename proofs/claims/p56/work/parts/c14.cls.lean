section Ec14
variable {L : Nat} {xs : Nat → Int32} {d : Nat} {M M2 M3 : e_MI} {V : e_ML} {W : e_MD} {K K2 : e_St} {h : e_H} {s t t2 a n : Nat} {o j w z m k q p i f l b e mc tl v T x N : Int} {sc : Bool} {ρ ν μ χ β ε τ u : Int → Int}
/-! the class's costs and critical works -/
theorem iI_ab (h1 : -1000000 ≤ z) (h2 : z < 1000000) : (if (0 : Int32) ≤ iI z then iI z else 0 - iI z) = iI (if 0 ≤ z then z else 0 - z) := by
  rw [show (0 : Int32) = iI 0 from rfl]
  by_cases hz : 0 ≤ z
  · rw [if_pos hz, if_pos ((iI_le (by omega) (by omega)).mpr hz)]
  · rw [if_neg hz, if_neg (fun x => hz ((iI_le (by omega) (by omega)).mp x)), iI_sub]
theorem eo_rg (hr : kR K) (hp : kP K) (hv : vR K τ) (hn : 0 ≤ aW K) (ho : 0 ≤ o ∧ o < K 310) : 0 ≤ enO K τ o ∧ enO K τ o ≤ 2001 := by
  have hn8 := hr.n
  have hwk := hr.wk (o := o) ho.1 (by omega)
  have h2 := hr.re (o := o) ho.1 (by omega)
  unfold enO
  split
  · omega
  · obtain ⟨a, b, c⟩ := plO_sp hr hv hn ho (w := K (40 + o) - 1) (by omega)
    have := (sc_spI hr hp (hv.vp hr) a.1 a.2).1.2.2
    have := (sc_spI hr hp (hv.vp hr) a.1 a.2).1
    omega
theorem tt_placedOf (ht : e_isT t) (hT : TT M t K τ k) (ho : 0 ≤ o ∧ o < 8) : e_lim L xs (d + 1) 64 0 [some (.ref t), some (.int (iI o))] [] (e_hp M V W) = some (.inl (some (.int (iI (cnt τ o k)))), e_hp M V W, 0, 0) := by
  obtain ⟨-, -, -, -, b11, b14⟩ := hT.a2
  have e1 := m_atI (L := L) (xs := xs) (d := d) (M := M) (V := V) (W := W) ht.i14 (z := o) ho.1 (by omega) (b14 o ho.1 ho.2)
  simp (disch := first | assumption | exact e_nk_i _ | exact e_nk_n | exact e_nk_r _ | exact e_bo_0 | exact e_bo_1 | exact e_bo_b _ | omega) only [e_cl_v, e_cl_x, e_add_0, e_add_s, Option.toList_some, Option.toList_none, List.cons_append, List.nil_append, iI_add, iI_sub, iI_mul, iI_lt, iI_eq, iI_le, r64_0, r64_1, r64_4, r64_5, r64_8, e1]
theorem tt_charge (ht : e_isT t) (hT : TT M t K τ (aW K)) (H : SH M 1 K) (hr : kR K) (hp : kP K) (hv : vR K τ) (hn : 0 ≤ aW K) : e_lim L xs (d + 3) 84 0 [some (.ref t), some (.ref 1), none, none, none, none, none] [] (e_hp M V W) = some (.inl (some (.long (lI (ctW K (enO K τ))))), e_hp M V W, 0, 0) := by
  have hn8 := hr.n
  have hc0 := H.cn
  have r5 := hr.r1
  have r6 := hr.r0
  have x1 := H.ra (i := 1) (by omega) (by omega)
  have x0 := H.ra (i := 0) (by omega) (by omega)
  have e5 := m_atI (L := L) (xs := xs) (d := d + 2) (M := M) (V := V) (W := W) (a := 7) (n := 2) si_7 (z := 1) (by omega) (by omega) x1
  have e6 := m_atI (L := L) (xs := xs) (d := d + 2) (M := M) (V := V) (W := W) (a := 7) (n := 2) si_7 (z := 0) (by omega) (by omega) x0
  rw [show (308 : Int) + 1 = 309 from rfl] at e5
  rw [show (308 : Int) + 0 = 308 from rfl] at e6
  simp (disch := first | assumption | exact e_nk_i _ | exact e_nk_n | exact e_nk_r _ | exact e_bo_0 | exact e_bo_1 | exact e_bo_b _ | omega) only [e_cl_v, e_cl_x, e_add_0, e_add_s, Option.toList_some, Option.toList_none, List.cons_append, List.nil_append, iI_add, iI_sub, iI_mul, iI_lt, iI_eq, iI_le, r84_0, r84_1, r84_2, r84_3, lI_0]
  rw [show lI 0 = lI (SU (ctO K (enO K τ)) 0) from rfl]
  refine G_loopI (C := fun i => e_lim L xs (d + 3) 84 5 [some (.ref t), some (.ref 1), some (.long (lI (SU (ctO K (enO K τ)) i))), none, some (.int (iI i)), none, none] [] (e_hp M V W)) (i := 0) hn8.1 (fun j a b hc => ?_) ?_
  · have e1 := tt_finishOf (L := L) (xs := xs) (d := d) (V := V) (W := W) ht hT H hr hv hn (o := j) ⟨a, b⟩
    have r2 := eo_rg hr hp hv hn (o := j) ⟨a, b⟩
    have e3 := s_orderCell (L := L) (xs := xs) (d := d + 1) (V := V) (W := W) H hn8.2 a b (j := 3) (by omega) (by omega)
    have e4 := s_orderCell (L := L) (xs := xs) (d := d + 1) (V := V) (W := W) H hn8.2 a b (j := 4) (by omega) (by omega)
    rw [show 8 * 3 + j = 24 + j by omega] at e3
    rw [show 8 * 4 + j = 32 + j by omega] at e4
    have r3 := hr.du (o := j) a (by omega)
    have r4 := hr.we (o := j) a (by omega)
    rw [SU_s _ a] at hc
    have hct : ctO K (enO K τ) j = (if 0 < enO K τ j - K (24 + j) then (enO K τ j - K (24 + j)) * K 309 else (0 - (enO K τ j - K (24 + j))) * K 308) * K (32 + j) := rfl
    rw [hct] at hc
    generalize enO K τ j = e at *
    rw [r84_5]
    simp (disch := first | assumption | exact e_nk_i _ | exact e_nk_n | exact e_nk_r _ | exact e_bo_0 | exact e_bo_1 | exact e_bo_b _ | omega) only [e_cl_v, e_cl_x, e_add_0, e_add_s, Option.toList_some, Option.toList_none, List.cons_append, List.nil_append, iI_add, iI_sub, iI_mul, iI_lt, iI_eq, iI_le, r84_7, r84_8, r84_11, r84_14, r84_15, r84_16, r84_18, r84_21, r84_22, r84_24, r84_25, r84_28, r84_29, r84_31, r84_32, hc0, e1, e3]
    rw [if_pos b]
    by_cases z : 0 < e - K (24 + j)
    · rw [if_pos z] at hc
      simp (disch := first | assumption | exact e_nk_i _ | exact e_nk_n | exact e_nk_r _ | exact e_bo_0 | exact e_bo_1 | exact e_bo_b _ | omega) only [e_cl_v, e_cl_x, e_add_0, e_add_s, Option.toList_some, Option.toList_none, List.cons_append, List.nil_append, iI_add, iI_sub, iI_mul, iI_lt, iI_eq, iI_le, r84_35, r84_37, r84_40, r84_41, r84_44, r84_45, r84_48, r84_50, r84_51, r84_52, r84_54, r84_55, r84_58, r84_59, r84_61, r84_64, r84_65, r84_66, r84_68, r84_69, r84_70, r84_71, r84_72, r84_75, e5, e6, e4, iI_ab, lI_i, lI_mul, lI_add]
      first | rw [if_neg (by omega)] | rw [if_pos (by omega)]
      rw [if_pos (by omega), show K (32 + j) * (e - K (24 + j)) * K 309 = (e - K (24 + j)) * K 309 * K (32 + j) by rw [Int.mul_assoc, Int.mul_comm]]
      exact G_less (by repeat (first | exact e_ll.rf | refine e_ll_c ?_ | refine e_ll_x ?_)) hc
    · rw [if_neg z] at hc
      simp (disch := first | assumption | exact e_nk_i _ | exact e_nk_n | exact e_nk_r _ | exact e_bo_0 | exact e_bo_1 | exact e_bo_b _ | omega) only [e_cl_v, e_cl_x, e_add_0, e_add_s, Option.toList_some, Option.toList_none, List.cons_append, List.nil_append, iI_add, iI_sub, iI_mul, iI_lt, iI_eq, iI_le, r84_35, r84_37, r84_40, r84_41, r84_44, r84_45, r84_48, r84_50, r84_51, r84_52, r84_54, r84_55, r84_58, r84_59, r84_61, r84_64, r84_65, r84_66, r84_68, r84_69, r84_70, r84_71, r84_72, r84_75, e5, e6, e4, iI_ab, lI_i, lI_mul, lI_add]
      first | rw [if_pos (by omega)] | rw [if_neg (by omega)]
      rw [show (if 0 ≤ e - K (24 + j) then e - K (24 + j) else 0 - (e - K (24 + j))) = 0 - (e - K (24 + j)) by split <;> omega, show K (32 + j) * (0 - (e - K (24 + j))) * K 308 = (0 - (e - K (24 + j))) * K 308 * K (32 + j) by rw [Int.mul_assoc, Int.mul_comm]]
      exact G_less (by repeat (first | exact e_ll.rf | refine e_ll_c ?_ | refine e_ll_x ?_)) hc
  · rw [r84_5]
    simp (disch := first | assumption | exact e_nk_i _ | exact e_nk_n | exact e_nk_r _ | exact e_bo_0 | exact e_bo_1 | exact e_bo_b _ | omega) only [e_cl_v, e_cl_x, e_add_0, e_add_s, Option.toList_some, Option.toList_none, List.cons_append, List.nil_append, iI_add, iI_sub, iI_mul, iI_lt, iI_eq, iI_le, r84_7, r84_8, r84_11, r84_78, r84_79, hc0]
    rw [if_neg (by omega)]
    rfl
theorem tt_countLate (ht : e_isT t) (hT : TT M t K τ (aW K)) (H : SH M 1 K) (hr : kR K) (hp : kP K) (hv : vR K τ) (hn : 0 ≤ aW K) : e_lim L xs (d + 3) 85 0 [some (.ref t), some (.ref 1), none, none] [] (e_hp M V W) = some (.inl (some (.int (iI (SU (fun o => if K (24 + o) < enO K τ o then 1 else 0) (K 310))))), e_hp M V W, 0, 0) := by
  have hn8 := hr.n
  have hc0 := H.cn
  simp (disch := first | assumption | exact e_nk_i _ | exact e_nk_n | exact e_nk_r _ | exact e_bo_0 | exact e_bo_1 | exact e_bo_b _ | omega) only [e_cl_v, e_cl_x, e_add_0, e_add_s, Option.toList_some, Option.toList_none, List.cons_append, List.nil_append, iI_add, iI_sub, iI_mul, iI_lt, iI_eq, iI_le, r85_0, r85_1, r85_2, r85_3]
  rw [show (iI 0 : Int32) = iI (SU (fun o => if K (24 + o) < enO K τ o then 1 else 0) 0) from rfl]
  refine G_loopI (C := fun i => e_lim L xs (d + 3) 85 4 [some (.ref t), some (.ref 1), some (.int (iI (SU (fun o => if K (24 + o) < enO K τ o then 1 else 0) i))), some (.int (iI i))] [] (e_hp M V W)) (i := 0) hn8.1 (fun j a b hc => ?_) ?_
  · have e1 := tt_finishOf (L := L) (xs := xs) (d := d) (V := V) (W := W) ht hT H hr hv hn (o := j) ⟨a, b⟩
    have r2 := eo_rg hr hp hv hn (o := j) ⟨a, b⟩
    have e3 := s_orderCell (L := L) (xs := xs) (d := d + 1) (V := V) (W := W) H hn8.2 a b (j := 3) (by omega) (by omega)
    rw [show 8 * 3 + j = 24 + j by omega] at e3
    have r3 := hr.du (o := j) a (by omega)
    rw [SU_s _ a] at hc
    rw [r85_4]
    simp (disch := first | assumption | exact e_nk_i _ | exact e_nk_n | exact e_nk_r _ | exact e_bo_0 | exact e_bo_1 | exact e_bo_b _ | omega) only [e_cl_v, e_cl_x, e_add_0, e_add_s, Option.toList_some, Option.toList_none, List.cons_append, List.nil_append, iI_add, iI_sub, iI_mul, iI_lt, iI_eq, iI_le, r85_5, r85_6, r85_9, r85_12, r85_13, r85_14, r85_15, r85_16, r85_19, r85_20, r85_21, r85_22, r85_25, r85_28, r85_29, r85_32, r85_33, r85_34, r85_35, r85_38, hc0, e1, e3]
    rw [if_pos b]
    by_cases z : K (24 + j) < enO K τ j
    · rw [if_pos z] at hc
      first | rw [if_neg (by omega)] | rw [if_pos (by omega)]
      exact hc
    · rw [if_neg z] at hc
      first | rw [if_pos (by omega)] | rw [if_neg (by omega)]
      exact hc
  · rw [r85_4]
    simp (disch := first | assumption | exact e_nk_i _ | exact e_nk_n | exact e_nk_r _ | exact e_bo_0 | exact e_bo_1 | exact e_bo_b _ | omega) only [e_cl_v, e_cl_x, e_add_0, e_add_s, Option.toList_some, Option.toList_none, List.cons_append, List.nil_append, iI_add, iI_sub, iI_mul, iI_lt, iI_eq, iI_le, r85_5, r85_6, r85_9, r85_41, r85_42, hc0]
    rw [if_neg (by omega)]
theorem lsW_s (ε : Int → Int) (h : 0 ≤ j) : lsW ε (j + 1) = if lsW ε j = -1 ∨ ε (lsW ε j) < ε j then j else lsW ε j := by
  unfold lsW
  rw [show (j + 1).toNat = j.toNat + 1 by omega]
  show (if lsF ε j.toNat = -1 ∨ ε (lsF ε j.toNat) < ε (j.toNat : Int) then (j.toNat : Int) else lsF ε j.toNat) = _
  rw [show ((j.toNat : Nat) : Int) = j by omega]
theorem lsW_rg (ε : Int → Int) (h : 0 ≤ j) : -1 ≤ lsW ε j ∧ lsW ε j < j ∨ j = 0 ∧ lsW ε j = -1 := by
  have := lsF_rg ε j.toNat
  unfold lsW
  omega
theorem tt_lastCritical (ht : e_isT t) (hT : TT M t K τ k) (hr : kR K) (hp : kP K) (hv : vP K τ k) : e_lim L xs (d + 2) 86 0 [some (.ref t), none, none] [] (e_hp M V W) = some (.inl (some (.int (iI (lsW (scE K τ) k)))), e_hp M V W, 0, 0) := by
  obtain ⟨⟨t2, k0, k16⟩, a1, a2, a3, a4, a5, a6⟩ := hT.a1
  simp (disch := first | assumption | exact e_nk_i _ | exact e_nk_n | exact e_nk_r _ | exact e_bo_0 | exact e_bo_1 | exact e_bo_b _ | omega) only [e_cl_v, e_cl_x, e_add_0, e_add_s, Option.toList_some, Option.toList_none, List.cons_append, List.nil_append, iI_add, iI_sub, iI_mul, iI_lt, iI_eq, iI_le, r86_0, r86_1, r86_2, r86_3]
  rw [show (iI (-1) : Int32) = iI (lsW (scE K τ) 0) from rfl]
  refine G_loopI (C := fun i => e_lim L xs (d + 2) 86 4 [some (.ref t), some (.int (iI (lsW (scE K τ) i))), some (.int (iI i))] [] (e_hp M V W)) (i := 0) k0 (fun j a b hc => ?_) ?_
  · have e1 := tg_finishAt (L := L) (xs := xs) (d := d) (V := V) (W := W) ht a6 a b k16
    have r1 := sc_spI hr hp hv a b
    have hl := lsW_rg (scE K τ) a
    rw [lsW_s _ a] at hc
    rw [r86_4]
    by_cases z : lsW (scE K τ) j = -1
    · rw [if_pos (Or.inl z)] at hc
      rw [z]
      simp (disch := first | assumption | exact e_nk_i _ | exact e_nk_n | exact e_nk_r _ | exact e_bo_0 | exact e_bo_1 | exact e_bo_b _ | omega) only [e_cl_v, e_cl_x, e_add_0, e_add_s, Option.toList_some, Option.toList_none, List.cons_append, List.nil_append, iI_add, iI_sub, iI_mul, iI_lt, iI_eq, iI_le, r86_5, r86_6, r86_9, r86_12, r86_13, r86_14, r86_17, r86_18, r86_19, r86_22, r86_23, r86_24, r86_27, r86_30, r86_31, r86_32, r86_35, t2, e1]
      rw [if_pos b, if_pos trivial]
      exact hc
    · have e2 := tg_finishAt (L := L) (xs := xs) (d := d) (V := V) (W := W) ht a6 (p := lsW (scE K τ) j) (by omega) (by omega) k16
      have r2 := sc_spI hr hp hv (p := lsW (scE K τ) j) (by omega) (by omega)
      simp (disch := first | assumption | exact e_nk_i _ | exact e_nk_n | exact e_nk_r _ | exact e_bo_0 | exact e_bo_1 | exact e_bo_b _ | omega) only [e_cl_v, e_cl_x, e_add_0, e_add_s, Option.toList_some, Option.toList_none, List.cons_append, List.nil_append, iI_add, iI_sub, iI_mul, iI_lt, iI_eq, iI_le, r86_5, r86_6, r86_9, r86_12, r86_13, r86_14, r86_17, r86_18, r86_19, r86_22, r86_23, r86_24, r86_27, r86_30, r86_31, r86_32, r86_35, t2, e1, e2]
      rw [if_pos b, if_neg z]
      by_cases y : scE K τ (lsW (scE K τ) j) < scE K τ j
      · rw [if_pos (Or.inr y)] at hc
        first | rw [if_neg (by omega)] | rw [if_pos (by omega)]
        exact hc
      · rw [if_neg (by omega)] at hc
        first | rw [if_pos (by omega)] | rw [if_neg (by omega)]
        exact hc
  · rw [r86_4]
    simp (disch := first | assumption | exact e_nk_i _ | exact e_nk_n | exact e_nk_r _ | exact e_bo_0 | exact e_bo_1 | exact e_bo_b _ | omega) only [e_cl_v, e_cl_x, e_add_0, e_add_s, Option.toList_some, Option.toList_none, List.cons_append, List.nil_append, iI_add, iI_sub, iI_mul, iI_lt, iI_eq, iI_le, r86_5, r86_6, r86_9, r86_38, r86_39, t2]
    rw [if_neg (by omega)]
end Ec14
