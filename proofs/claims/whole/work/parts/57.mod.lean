section E57
variable {L : Nat} {xs : Nat → Int32} {d : Nat} {M : e_MI} {V : e_ML} {W : e_MD} {K : e_St} {h : e_H} {ρ ω β ε ρ2 ω2 β2 ε2 τ : Int → Int} {k : Int}
theorem mm_noWork (hK : e_KM M K) (hr : kR K) (h0 : M 184 0 = iI 0) {o w : Int} (ho : i32 o) (hw : i32 w) : e_lim L xs (d + 2) 199 0 [some (.ref 184), some (.int (iI o)), some (.int (iI w))] [] (e_hp M V W) = some (.inl (some (.int (bI (!decide ((0 ≤ o ∧ o ≤ K 310 - 1) ∧ 0 ≤ w ∧ w ≤ K (40 + o) - 1))))), e_hp (mF M (decide ((0 ≤ o ∧ o ≤ K 310 - 1) ∧ 0 ≤ w ∧ w ≤ K (40 + o) - 1)) 1) V W, 0, 0) := by
  have hn := hr.n
  have e1 := mm_noOrder (L := L) (xs := xs) (d := d) (V := V) (W := W) hK hr h0 ho
  by_cases hq : 0 ≤ o ∧ o ≤ K 310 - 1
  · have q1 := hr.wk (o := o) hq.1 (by omega)
    rw [decide_eq_true hq] at e1
    rw [mF_t] at e1
    have e2 := mm_worksOf (L := L) (xs := xs) (d := d + 1) (V := V) (W := W) hK (o := o) hq.1 (by omega)
    have e3 := mm_in (L := L) (xs := xs) (d := d + 1) (h := e_hp M V W) (x := w) (y2 := 0) (z2 := K (40 + o) - 1) hw (by omega) (by omega)
    have e4 := mm_fails (L := L) (xs := xs) (d := d + 1) (V := V) (W := W) (b := decide (0 ≤ w ∧ w ≤ K (40 + o) - 1)) (c := 1) h0 (by omega)
    simp (disch := first | assumption | exact e_nk_i _ | exact e_nk_n | exact e_nk_r _ | exact e_bo_0 | exact e_bo_1 | exact e_bo_b _ | omega) only [e_cl_v, e_cl_x, e_add_0, e_add_s, Option.toList_some, Option.toList_none, List.cons_append, List.nil_append, iI_add, iI_sub, iI_mul, iI_lt, iI_eq, iI_le, r199_0, r199_1, r199_2, r199_5, r199_8, r199_9, r199_10, r199_11, r199_12, r199_13, r199_16, r199_17, r199_18, r199_21, r199_22, r199_25, r199_28, r199_29, r199_32, r199_33, e1, e2, e3, e4, bI_0]
    by_cases hq2 : 0 ≤ w ∧ w ≤ K (40 + o) - 1
    · rw [decide_eq_true hq2, decide_eq_true (p := (0 ≤ o ∧ o ≤ K 310 - 1) ∧ 0 ≤ w ∧ w ≤ K (40 + o) - 1) ⟨hq, hq2⟩]
      rfl
    · rw [decide_eq_false hq2, decide_eq_false (p := (0 ≤ o ∧ o ≤ K 310 - 1) ∧ 0 ≤ w ∧ w ≤ K (40 + o) - 1) (fun a => hq2 a.2)]
      rfl
  · rw [decide_eq_false hq] at e1
    rw [decide_eq_false (p := (0 ≤ o ∧ o ≤ K 310 - 1) ∧ 0 ≤ w ∧ w ≤ K (40 + o) - 1) (fun a => hq a.1)]
    simp (disch := first | assumption | exact e_nk_i _ | exact e_nk_n | exact e_nk_r _ | exact e_bo_0 | exact e_bo_1 | exact e_bo_b _ | omega) only [e_cl_v, e_cl_x, e_add_0, e_add_s, Option.toList_some, Option.toList_none, List.cons_append, List.nil_append, iI_add, iI_sub, iI_mul, iI_lt, iI_eq, iI_le, r199_0, r199_1, r199_2, r199_5, r199_8, r199_9, r199_10, r199_11, r199_12, r199_13, r199_16, r199_17, r199_18, r199_21, r199_22, r199_25, r199_28, r199_29, r199_32, r199_33, e1, bI_0]
    rfl
theorem mm_isNotKept (hK : e_KM M K) (hr : kR K) (h0 : M 184 0 = iI 0) {s : Int} (hs : i32 s) : ∃ M2 : e_MI, e_lim L xs (d + 2) 273 0 [some (.ref 184), some (.int (iI s))] [] (e_hp M V W) = some (.inl (some (.int (bI (!decide ((0 ≤ s ∧ s ≤ 2) ∧ K (305 + s) = 1))))), e_hp M2 V W, 0, 0) ∧ M2 = (if (0 ≤ s ∧ s ≤ 2) then mF M (decide (K (305 + s) = 1)) 2 else mF M false 1) := by
  have e1 := mm_noSlot (L := L) (xs := xs) (d := d) (V := V) (W := W) h0 hs
  refine ⟨_, ?_, rfl⟩
  by_cases hq : 0 ≤ s ∧ s ≤ 2
  · rw [decide_eq_true hq, mF_t] at e1
    have q2 := hr.a (i := 305 + s) (by omega) (by omega)
    have e2 := hK (305 + s) (by omega) (by omega)
    have e4 := mm_fails (L := L) (xs := xs) (d := d + 1) (V := V) (W := W) (b := decide (K (305 + s) = 1)) (c := 2) h0 (by omega)
    rw [if_pos hq]
    by_cases hq2 : K (305 + s) = 1
    · rw [decide_eq_true hq2] at e4
      rw [decide_eq_true hq2, decide_eq_true (p := (0 ≤ s ∧ s ≤ 2) ∧ K (305 + s) = 1) ⟨hq, hq2⟩]
      rw [bI_t] at e4
      simp (disch := first | assumption | exact e_nk_i _ | exact e_nk_n | exact e_nk_r _ | exact e_bo_0 | exact e_bo_1 | exact e_bo_b _ | omega) only [e_cl_v, e_cl_x, e_add_0, e_add_s, Option.toList_some, Option.toList_none, List.cons_append, List.nil_append, iI_add, iI_sub, iI_mul, iI_lt, iI_eq, iI_le, r273_0, r273_1, r273_2, r273_5, r273_8, r273_9, r273_10, r273_13, r273_16, r273_17, r273_18, r273_19, r273_20, r273_23, r273_24, r273_27, r273_28, r273_29, r273_32, r273_35, r273_36, r273_39, r273_40, e1, e2, bI_0, iI_vin, iI_nat, if_true, if_pos hq2, e4]
      rfl
    · rw [decide_eq_false hq2] at e4
      rw [decide_eq_false hq2, decide_eq_false (p := (0 ≤ s ∧ s ≤ 2) ∧ K (305 + s) = 1) (fun a => hq2 a.2)]
      rw [bI_f] at e4
      simp (disch := first | assumption | exact e_nk_i _ | exact e_nk_n | exact e_nk_r _ | exact e_bo_0 | exact e_bo_1 | exact e_bo_b _ | omega) only [e_cl_v, e_cl_x, e_add_0, e_add_s, Option.toList_some, Option.toList_none, List.cons_append, List.nil_append, iI_add, iI_sub, iI_mul, iI_lt, iI_eq, iI_le, r273_0, r273_1, r273_2, r273_5, r273_8, r273_9, r273_10, r273_13, r273_16, r273_17, r273_18, r273_19, r273_20, r273_23, r273_24, r273_27, r273_28, r273_29, r273_32, r273_35, r273_36, r273_39, r273_40, e1, e2, bI_0, iI_vin, iI_nat, if_true, if_neg hq2, e4]
      rfl
  · rw [decide_eq_false hq] at e1
    rw [decide_eq_false (p := (0 ≤ s ∧ s ≤ 2) ∧ K (305 + s) = 1) (fun a => hq a.1), if_neg hq]
    simp (disch := first | assumption | exact e_nk_i _ | exact e_nk_n | exact e_nk_r _ | exact e_bo_0 | exact e_bo_1 | exact e_bo_b _ | omega) only [e_cl_v, e_cl_x, e_add_0, e_add_s, Option.toList_some, Option.toList_none, List.cons_append, List.nil_append, iI_add, iI_sub, iI_mul, iI_lt, iI_eq, iI_le, r273_0, r273_1, r273_2, r273_5, r273_8, r273_9, r273_10, r273_13, r273_16, r273_17, r273_18, r273_19, r273_20, r273_23, r273_24, r273_27, r273_28, r273_29, r273_32, r273_35, r273_36, r273_39, r273_40, e1, bI_0]
    rfl
/-- how good an order is by a rule -/
def kyW (K : e_St) (r o w : Int) : Int := if r = 0 then o else if r = 1 then tk K o w else if r = 2 then 0 - tk K o w else if r = 3 then K (24 + o) else if r = 4 then 0 - K (32 + o) else 0 - tF K o w
theorem mm_key (hK : e_KM M K) (hr : kR K) {r o w : Int} (hr5 : 0 ≤ r ∧ r ≤ 5) (ho : 0 ≤ o ∧ o ≤ 7) (hw : 0 ≤ w ∧ w ≤ 3) : e_lim L xs (d + 2) 226 0 [some (.ref 184), some (.int (iI r)), some (.int (iI o)), some (.int (iI w))] [] (e_hp M V W) = some (.inl (some (.int (iI (kyW K r o w)))), e_hp M V W, 0, 0) := by
  have e1 := mm_takes (L := L) (xs := xs) (d := d + 1) (V := V) (W := W) hK (o := o) (w := w) ho.1 (by omega) hw.1 (by omega)
  have e2 := mm_timeFrom (L := L) (xs := xs) (d := d) (V := V) (W := W) hK hr (o := o) (f := w) ho (by omega)
  have e3 := hK (24 + o) (by omega) (by omega)
  have e4 := hK (32 + o) (by omega) (by omega)
  simp (disch := first | assumption | exact e_nk_i _ | exact e_nk_n | exact e_nk_r _ | exact e_bo_0 | exact e_bo_1 | exact e_bo_b _ | omega) only [e_cl_v, e_cl_x, e_add_0, e_add_s, Option.toList_some, Option.toList_none, List.cons_append, List.nil_append, iI_add, iI_sub, iI_mul, iI_lt, iI_eq, iI_le, r226_0]
  rw [k_sw r hr5]
  unfold kyW
  by_cases c0 : r = 0
  · simp only [if_pos c0]
    simp (disch := first | assumption | exact e_nk_i _ | exact e_nk_n | exact e_nk_r _ | exact e_bo_0 | exact e_bo_1 | exact e_bo_b _ | omega) only [e_cl_v, e_cl_x, e_add_0, e_add_s, Option.toList_some, Option.toList_none, List.cons_append, List.nil_append, iI_add, iI_sub, iI_mul, iI_lt, iI_eq, iI_le, r226_0, r226_36, r226_37, r226_38, r226_39, r226_40, r226_41, r226_44, r226_45, r226_46, r226_47, r226_48, r226_49, r226_52, r226_53, r226_54, r226_55, r226_58, r226_60, r226_61, r226_62, r226_63, r226_64, r226_65, r226_66, r226_69, r226_71, r226_72, r226_73, r226_74, r226_75, r226_76, r226_77, r226_78, r226_79, r226_80, r226_83, r226_84]
  · simp only [if_neg c0]
    by_cases c1 : r = 1
    · simp only [if_pos c1]
      simp (disch := first | assumption | exact e_nk_i _ | exact e_nk_n | exact e_nk_r _ | exact e_bo_0 | exact e_bo_1 | exact e_bo_b _ | omega) only [e_cl_v, e_cl_x, e_add_0, e_add_s, Option.toList_some, Option.toList_none, List.cons_append, List.nil_append, iI_add, iI_sub, iI_mul, iI_lt, iI_eq, iI_le, r226_0, r226_36, r226_37, r226_38, r226_39, r226_40, r226_41, r226_44, r226_45, r226_46, r226_47, r226_48, r226_49, r226_52, r226_53, r226_54, r226_55, r226_58, r226_60, r226_61, r226_62, r226_63, r226_64, r226_65, r226_66, r226_69, r226_71, r226_72, r226_73, r226_74, r226_75, r226_76, r226_77, r226_78, r226_79, r226_80, r226_83, r226_84, e1]
    · simp only [if_neg c1]
      by_cases c2 : r = 2
      · simp only [if_pos c2]
        simp (disch := first | assumption | exact e_nk_i _ | exact e_nk_n | exact e_nk_r _ | exact e_bo_0 | exact e_bo_1 | exact e_bo_b _ | omega) only [e_cl_v, e_cl_x, e_add_0, e_add_s, Option.toList_some, Option.toList_none, List.cons_append, List.nil_append, iI_add, iI_sub, iI_mul, iI_lt, iI_eq, iI_le, r226_0, r226_36, r226_37, r226_38, r226_39, r226_40, r226_41, r226_44, r226_45, r226_46, r226_47, r226_48, r226_49, r226_52, r226_53, r226_54, r226_55, r226_58, r226_60, r226_61, r226_62, r226_63, r226_64, r226_65, r226_66, r226_69, r226_71, r226_72, r226_73, r226_74, r226_75, r226_76, r226_77, r226_78, r226_79, r226_80, r226_83, r226_84, e1]
      · simp only [if_neg c2]
        by_cases c3 : r = 3
        · simp only [if_pos c3]
          simp (disch := first | assumption | exact e_nk_i _ | exact e_nk_n | exact e_nk_r _ | exact e_bo_0 | exact e_bo_1 | exact e_bo_b _ | omega) only [e_cl_v, e_cl_x, e_add_0, e_add_s, Option.toList_some, Option.toList_none, List.cons_append, List.nil_append, iI_add, iI_sub, iI_mul, iI_lt, iI_eq, iI_le, r226_0, r226_36, r226_37, r226_38, r226_39, r226_40, r226_41, r226_44, r226_45, r226_46, r226_47, r226_48, r226_49, r226_52, r226_53, r226_54, r226_55, r226_58, r226_60, r226_61, r226_62, r226_63, r226_64, r226_65, r226_66, r226_69, r226_71, r226_72, r226_73, r226_74, r226_75, r226_76, r226_77, r226_78, r226_79, r226_80, r226_83, r226_84, iI_vin, iI_nat, if_true, e3]
        · simp only [if_neg c3]
          by_cases c4 : r = 4
          · simp only [if_pos c4]
            simp (disch := first | assumption | exact e_nk_i _ | exact e_nk_n | exact e_nk_r _ | exact e_bo_0 | exact e_bo_1 | exact e_bo_b _ | omega) only [e_cl_v, e_cl_x, e_add_0, e_add_s, Option.toList_some, Option.toList_none, List.cons_append, List.nil_append, iI_add, iI_sub, iI_mul, iI_lt, iI_eq, iI_le, r226_0, r226_36, r226_37, r226_38, r226_39, r226_40, r226_41, r226_44, r226_45, r226_46, r226_47, r226_48, r226_49, r226_52, r226_53, r226_54, r226_55, r226_58, r226_60, r226_61, r226_62, r226_63, r226_64, r226_65, r226_66, r226_69, r226_71, r226_72, r226_73, r226_74, r226_75, r226_76, r226_77, r226_78, r226_79, r226_80, r226_83, r226_84, iI_vin, iI_nat, if_true, e4]
          · simp only [if_neg c4]
            simp (disch := first | assumption | exact e_nk_i _ | exact e_nk_n | exact e_nk_r _ | exact e_bo_0 | exact e_bo_1 | exact e_bo_b _ | omega) only [e_cl_v, e_cl_x, e_add_0, e_add_s, Option.toList_some, Option.toList_none, List.cons_append, List.nil_append, iI_add, iI_sub, iI_mul, iI_lt, iI_eq, iI_le, r226_0, r226_36, r226_37, r226_38, r226_39, r226_40, r226_41, r226_44, r226_45, r226_46, r226_47, r226_48, r226_49, r226_52, r226_53, r226_54, r226_55, r226_58, r226_60, r226_61, r226_62, r226_63, r226_64, r226_65, r226_66, r226_69, r226_71, r226_72, r226_73, r226_74, r226_75, r226_76, r226_77, r226_78, r226_79, r226_80, r226_83, r226_84, e2]
/-- the place ahead that holds up the work at place k -/
def ahW (K : e_St) (ρ ω β ε : Int → Int) (k : Int) : Int :=
  if oAh ρ k ≠ -1 ∧ ε (oAh ρ k) = β k then oAh ρ k
  else if mAh K ρ ω k ≠ -1 ∧ ε (mAh K ρ ω k) + sT K (mcA K ρ ω k) (K (ρ (mAh K ρ ω k))) (K (ρ k)) = β k then mAh K ρ ω k
  else if tAh K ρ ω k ≠ -1 ∧ ε (tAh K ρ ω k) = β k then tAh K ρ ω k else -1
theorem ahW_rg (K : e_St) (ρ ω β ε : Int → Int) (hk : 0 ≤ k) : ahW K ρ ω β ε k = -1 ∨ (0 ≤ ahW K ρ ω β ε k ∧ ahW K ρ ω β ε k < k) := by
  have c1 := oAh_rg ρ hk
  have c2 := mAh_rg K ρ ω hk
  have c3 := tAh_rg K ρ ω hk
  unfold ahW
  repeat' split
  all_goals omega
theorem mm_aheadOf (hK : e_KM M K) (hr : kR K) (hS : e_SC M ρ ω β ε) (hk : 0 ≤ k ∧ k < 16) : e_lim L xs (d + 2) 245 0 [some (.ref 184), some (.int (iI k)), none] [] (e_hp M V W) = some (.inl (some (.int (iI (ahW K ρ ω β ε k)))), e_hp M V W, 0, 0) := by
  obtain ⟨h1, h2, h3, h4, g1, g2, g3, g4⟩ := hS
  have q1 := g1 k hk.1 hk.2
  have q2 := mcA_rg hr g1 g2 hk
  have q3 := g3 k hk.1 hk.2
  have q5 := hr.kd (o := ρ k) q1.1 (by omega)
  have c1 := oAh_rg ρ hk.1
  have c2 := mAh_rg K ρ ω hk.1
  have c3 := tAh_rg K ρ ω hk.1
  have eb := h3 k hk.1 hk.2
  have er := h1 k hk.1 hk.2
  have ek := hK (ρ k) (by omega) (by omega)
  have e1 := mm_orderAhead (L := L) (xs := xs) (d := d + 1) (V := V) (W := W) h1 g1 hk
  have e2 := mm_machineAhead (L := L) (xs := xs) (d := d) (V := V) (W := W) hK hr h1 h2 g1 g2 hk
  have e3 := mm_toolAhead (L := L) (xs := xs) (d := d) (V := V) (W := W) hK hr h1 h2 g1 g2 hk
  have e4 := mm_machineAt (L := L) (xs := xs) (d := d + 1) (V := V) (W := W) hK h1 h2 g1 g2 hk
  -- the third question
  have s3 : ∀ l2 : Option Value, e_nk l2 = true → e_lim L xs (d + 2) 245 92 [some (.ref 184), some (.int (iI k)), l2] [] (e_hp M V W) = some (.inl (some (.int (iI (if tAh K ρ ω k ≠ -1 ∧ ε (tAh K ρ ω k) = β k then tAh K ρ ω k else -1)))), e_hp M V W, 0, 0) := by
    intro l2 hl
    rcases c3 with c | c
    · rw [c] at e3 ⊢
      simp (disch := first | assumption | exact e_nk_i _ | exact e_nk_n | exact e_nk_r _ | exact e_bo_0 | exact e_bo_1 | exact e_bo_b _ | omega) only [e_cl_v, e_cl_x, e_add_0, e_add_s, Option.toList_some, Option.toList_none, List.cons_append, List.nil_append, iI_add, iI_sub, iI_mul, iI_lt, iI_eq, iI_le, r245_92, r245_93, r245_94, r245_97, r245_98, r245_99, r245_100, r245_103, r245_104, r245_107, r245_108, r245_109, r245_110, r245_113, r245_114, r245_115, r245_118, r245_119, r245_122, r245_123, e3]
      simp
    · have et := h4 (tAh K ρ ω k) (by omega) (by omega)
      have qt := g4 (tAh K ρ ω k) (by omega) (by omega)
      simp (disch := first | assumption | exact e_nk_i _ | exact e_nk_n | exact e_nk_r _ | exact e_bo_0 | exact e_bo_1 | exact e_bo_b _ | omega) only [e_cl_v, e_cl_x, e_add_0, e_add_s, Option.toList_some, Option.toList_none, List.cons_append, List.nil_append, iI_add, iI_sub, iI_mul, iI_lt, iI_eq, iI_le, r245_92, r245_93, r245_94, r245_97, r245_98, r245_99, r245_100, r245_103, r245_104, r245_107, r245_108, r245_109, r245_110, r245_113, r245_114, r245_115, r245_118, r245_119, r245_122, r245_123, e3, iI_vin, iI_nat, if_true, et, eb]
      rw [if_neg (by omega)]
      by_cases z : ε (tAh K ρ ω k) = β k
      · rw [if_pos z, if_pos (by omega)]
      · rw [if_neg z, if_neg (by omega)]
  have s2 : ∀ l2 : Option Value, e_nk l2 = true → e_lim L xs (d + 2) 245 28 [some (.ref 184), some (.int (iI k)), l2] [] (e_hp M V W) = some (.inl (some (.int (iI (if mAh K ρ ω k ≠ -1 ∧ ε (mAh K ρ ω k) + sT K (mcA K ρ ω k) (K (ρ (mAh K ρ ω k))) (K (ρ k)) = β k then mAh K ρ ω k else if tAh K ρ ω k ≠ -1 ∧ ε (tAh K ρ ω k) = β k then tAh K ρ ω k else -1)))), e_hp M V W, 0, 0) := by
    intro l2 hl
    rcases c2 with c | c
    · have s3a := s3 (some (.int (iI (mAh K ρ ω k)))) (e_nk_i _)
      rw [c] at e2 s3a ⊢
      simp (disch := first | assumption | exact e_nk_i _ | exact e_nk_n | exact e_nk_r _ | exact e_bo_0 | exact e_bo_1 | exact e_bo_b _ | omega) only [e_cl_v, e_cl_x, e_add_0, e_add_s, Option.toList_some, Option.toList_none, List.cons_append, List.nil_append, iI_add, iI_sub, iI_mul, iI_lt, iI_eq, iI_le, r245_28, r245_29, r245_30, r245_33, r245_34, r245_35, r245_36, r245_39, r245_40, r245_43, r245_44, r245_45, r245_46, r245_47, r245_48, r245_51, r245_52, r245_55, r245_56, r245_57, r245_60, r245_61, r245_62, r245_63, r245_64, r245_65, r245_68, r245_69, r245_70, r245_73, r245_74, r245_75, r245_76, r245_77, r245_80, r245_81, r245_82, r245_85, r245_86, r245_87, r245_90, r245_91, e2]
      simp only [ne_eq, not_true_eq_false, false_and, if_false, if_true]
      exact s3a
    · have s3a := s3 (some (.int (iI (mAh K ρ ω k)))) (e_nk_i _)
      have et := h4 (mAh K ρ ω k) (by omega) (by omega)
      have qt := g4 (mAh K ρ ω k) (by omega) (by omega)
      have er2 := h1 (mAh K ρ ω k) (by omega) (by omega)
      have qr2 := g1 (mAh K ρ ω k) (by omega) (by omega)
      have qk2 := hr.kd (o := ρ (mAh K ρ ω k)) qr2.1 (by omega)
      have ek2 := hK (ρ (mAh K ρ ω k)) (by omega) (by omega)
      have es := mm_settingOf (L := L) (xs := xs) (d := d + 1) (V := V) (W := W) hK (m := mcA K ρ ω k) (f := K (ρ (mAh K ρ ω k))) (t := K (ρ k)) (by omega) (by omega) (by omega)
      have qs := sT_rg hr (m := mcA K ρ ω k) (f := K (ρ (mAh K ρ ω k))) (t := K (ρ k)) (by omega) (by omega) (by omega)
      simp (disch := first | assumption | exact e_nk_i _ | exact e_nk_n | exact e_nk_r _ | exact e_bo_0 | exact e_bo_1 | exact e_bo_b _ | omega) only [e_cl_v, e_cl_x, e_add_0, e_add_s, Option.toList_some, Option.toList_none, List.cons_append, List.nil_append, iI_add, iI_sub, iI_mul, iI_lt, iI_eq, iI_le, r245_28, r245_29, r245_30, r245_33, r245_34, r245_35, r245_36, r245_39, r245_40, r245_43, r245_44, r245_45, r245_46, r245_47, r245_48, r245_51, r245_52, r245_55, r245_56, r245_57, r245_60, r245_61, r245_62, r245_63, r245_64, r245_65, r245_68, r245_69, r245_70, r245_73, r245_74, r245_75, r245_76, r245_77, r245_80, r245_81, r245_82, r245_85, r245_86, r245_87, r245_90, r245_91, e2, e4, iI_vin, iI_nat, if_true, Int.zero_add, et, eb, er, er2, ek, ek2, es]
      rw [if_neg (by omega)]
      by_cases z : ε (mAh K ρ ω k) + sT K (mcA K ρ ω k) (K (ρ (mAh K ρ ω k))) (K (ρ k)) = β k
      · rw [if_pos z, if_pos ⟨by omega, z⟩]
      · rw [if_neg z, if_neg (fun a => z a.2)]
        exact s3a
  unfold ahW
  rcases c1 with c | c
  · have s2a := s2 (some (.int (iI (oAh ρ k)))) (e_nk_i _)
    rw [c] at e1 s2a ⊢
    simp (disch := first | assumption | exact e_nk_i _ | exact e_nk_n | exact e_nk_r _ | exact e_bo_0 | exact e_bo_1 | exact e_bo_b _ | omega) only [e_cl_v, e_cl_x, e_add_0, e_add_s, Option.toList_some, Option.toList_none, List.cons_append, List.nil_append, iI_add, iI_sub, iI_mul, iI_lt, iI_eq, iI_le, r245_0, r245_1, r245_2, r245_5, r245_6, r245_7, r245_8, r245_11, r245_12, r245_15, r245_16, r245_17, r245_18, r245_21, r245_22, r245_23, r245_26, r245_27, e1]
    simp only [ne_eq, not_true_eq_false, false_and, if_false, if_true]
    exact s2a
  · have s2a := s2 (some (.int (iI (oAh ρ k)))) (e_nk_i _)
    have et := h4 (oAh ρ k) (by omega) (by omega)
    have qt := g4 (oAh ρ k) (by omega) (by omega)
    simp (disch := first | assumption | exact e_nk_i _ | exact e_nk_n | exact e_nk_r _ | exact e_bo_0 | exact e_bo_1 | exact e_bo_b _ | omega) only [e_cl_v, e_cl_x, e_add_0, e_add_s, Option.toList_some, Option.toList_none, List.cons_append, List.nil_append, iI_add, iI_sub, iI_mul, iI_lt, iI_eq, iI_le, r245_0, r245_1, r245_2, r245_5, r245_6, r245_7, r245_8, r245_11, r245_12, r245_15, r245_16, r245_17, r245_18, r245_21, r245_22, r245_23, r245_26, r245_27, e1, iI_vin, iI_nat, if_true, et, eb]
    rw [if_neg (by omega)]
    by_cases z : ε (oAh ρ k) = β k
    · rw [if_pos z, if_pos ⟨by omega, z⟩]
    · rw [if_neg z, if_neg (fun a => z a.2)]
      exact s2a
end E57
