section El20
variable {L : Nat} {xs : Nat → Int32} {d : Nat} {M M1 M2 M3 : e_MI} {V V2 : e_ML} {W : e_MD} {K K2 : e_St} {S : Int → e_St} {h : e_H} {c o j w z m k q p i f n a b t x B its u v : Int} {τ β ε : Int → Int}
theorem l_isPlan (H : CL M K c S) : ∃ M2 : e_MI, e_lim L xs (d + 7) 176 0 [some (.ref 184), none, none, none, none, none, none] [] (e_hp M V W) = some (.inl (some (.int (bI true))), e_hp M2 V W, 0, 0) ∧ fP M M2 ∧ (∀ p, 0 ≤ p → p < aW K → M2 199 p.toNat = iI (rwK K p)) := by
  have hr := H.g.1
  have hp := H.g.2.2.1
  obtain ⟨ha, hv0⟩ := H.g.2.1
  have hv : vR K (rwK K) := hv0
  have hvp : vP K (rwK K) (aW K) := vR.vp hr hv
  obtain ⟨M1, e1, f1, g1⟩ := l_reads (L := L) (xs := xs) (d := d + 3) (V := V) (W := W) H.la H.ck.sh hr H.g.2.1
  have H1 := H.of f1.l
  obtain ⟨M2, e2, f2, g2⟩ := l_isTimed (L := L) (xs := xs) (d := d + 5) (V := V) (W := W) H1.la H1.lb hr hp hvp ha g1
  have hft : fiR K (rwK K) (aW K) = ft K := rfl
  rw [hft] at e2 g2
  have H2 := H1.of f2.l
  have e3 := x_hasTimes (L := L) (xs := xs) (d := d + 6) (V := V) (W := W) H2.ck
  have e0 := H1.la.ws
  have h199 : ∀ p, 0 ≤ p → p < aW K → M2 199 p.toNat = iI (rwK K p) := fun p x y => by rw [f2 199 (by decide) (by decide) (by decide)]; exact g1 p x y
  by_cases hf : ft K = true
  · obtain ⟨hR, hE⟩ := g2 hf
    rw [hf, bI_t] at e2 e3
    have hE2 : LE M2 (bT K) (eT K) (aW K) := hE
    have he1 : e_lim L xs (d + 6) 174 0 [some (.ref 184), none, none] [] (e_hp M2 V W) = some (.inl (some (.int (iI (edW K)))), e_hp M2 V W, 0, 0) := l_endNow (L := L) (xs := xs) (d := d + 5) (V := V) (W := W) H2.la ha hE2
    have hfar := far_edW H.g H.lk hf
    have hrg := edW_rg H.g
    obtain ⟨M3, t, e4, r4, f4⟩ := l_next (L := L) (xs := xs) (d := d + 6) (V := V) (W := W) (M := M2) (n := edW K + 2) (by omega)
    have H3 := H2.of f4.l
    have hR3 : LRW M3 (rwK K) (aW K) := fun p x y => by rw [f4.1 199 (by decide), f4.1 200 (by decide)]; exact hR p x y
    have hE3 : LE M3 (scB K (rwK K)) (scE K (rwK K)) (aW K) := fun p x y => by rw [f4.1 201 (by decide), f4.1 202 (by decide)]; exact hE p x y
    have hE4 : LE M3 (bT K) (eT K) (aW K) := hE3
    refine ⟨M3, ?_, (f1.pp.tr f2.pp).tr f4.pp, fun p x y => by rw [f4.1 199 (by decide)]; exact h199 p x y⟩
    have hone : ¬ (iI 1 = iI 0) := by decide
    simp (disch := first | assumption | exact e_nk_i _ | exact e_nk_n | exact e_nk_r _ | exact e_bo_0 | exact e_bo_1 | exact e_bo_b _ | omega) only [e_cl_v, e_cl_x, e_add_0, e_add_s, Option.toList_some, Option.toList_none, List.cons_append, List.nil_append, iI_add, iI_sub, iI_mul, iI_lt, iI_eq, iI_le, r176_0, r176_1, r176_4, r176_7, r176_8, r176_9, r176_10, r176_11, r176_14, r176_17, r176_18, r176_19, r176_22, r176_25, r176_26, r176_29, r176_30, r176_31, r176_32, r176_35, r176_36, r176_37, r176_38, e1, e0, e2, e3, bI_t, if_true]
    refine l_planA H2 hf hR hE ?_
    simp (disch := first | assumption | exact e_nk_i _ | exact e_nk_n | exact e_nk_r _ | exact e_bo_0 | exact e_bo_1 | exact e_bo_b _ | omega) only [e_cl_v, e_cl_x, e_add_0, e_add_s, Option.toList_some, Option.toList_none, List.cons_append, List.nil_append, iI_add, iI_sub, iI_mul, iI_lt, iI_eq, iI_le, r176_83, r176_84, r176_85, r176_86]
    refine l_planB H2 hf hR hE ?_
    simp (disch := first | assumption | exact e_nk_i _ | exact e_nk_n | exact e_nk_r _ | exact e_bo_0 | exact e_bo_1 | exact e_bo_b _ | omega) only [e_cl_v, e_cl_x, e_add_0, e_add_s, Option.toList_some, Option.toList_none, List.cons_append, List.nil_append, iI_add, iI_sub, iI_mul, iI_lt, iI_eq, iI_le, r176_141, r176_142, r176_143, r176_146, r176_147, r176_148, r176_151, r176_152, r176_153, r176_155, r176_156, he1, e4]
    refine l_planC H3 hf hR3 hE3 (by omega) ?_
    have a1 := x_end (L := L) (xs := xs) (d := d + 3) (V := V) (W := W) H3.ck H3.g
    have a2 : e_lim L xs (d + 6) 174 0 [some (.ref 184), none, none] [] (e_hp M3 V W) = some (.inl (some (.int (iI (edW K)))), e_hp M3 V W, 0, 0) := l_endNow (L := L) (xs := xs) (d := d + 5) (V := V) (W := W) H3.la ha hE4
    have a3 := x_cost (L := L) (xs := xs) (d := d + 2) (V := V) (W := W) H3.ck H3.g
    have a4 := l_cost (L := L) (xs := xs) (d := d + 5) (V := V) (W := W) H3.la H3.lc hr hp hv ha hR3 hE3
    have a5 := x_late (L := L) (xs := xs) (d := d + 2) (V := V) (W := W) H3.ck H3.g
    have a6 := x_busy (L := L) (xs := xs) (d := d + 2) (V := V) (W := W) H3.ck H3.g (x := t) (by unfold i32; omega)
    have a7 := x_bound (L := L) (xs := xs) (d := d) (V := V) (W := W) H3.ck.sh hr hp
    have a8 := l_isCritical (L := L) (xs := xs) (d := d) (V := V) (W := W) H3.ck H3.g H3.la rfl hf hR3 hE3
    rw [if_pos hf] at a1 a3 a5
    rw [if_pos (by omega), if_pos hf] at a6
    have hbo : boW K ≤ edW K := boW_le hr hp ⟨hv, fun p x y => (fiR_iff ha.1).mp hf p x y⟩ ha.1
    have hbo2 : 0 ≤ boW K := (boM_rg hr 4).1
    have hlc : lg_cmp (lI (ctW K (enO K (rwK K)))) (lI (ctW K (enO K (rwK K)))) = iI 0 := by
      unfold lg_cmp
      simp
      rfl
    have rl := SU_le (f := fun o => if K (24 + o) < enO K (rwK K) o then 1 else 0) (n := K 310) (c := 1) (fun i _ _ => by split <;> omega) hr.n.1
    have rl2 : 0 ≤ ltN K ∧ ltN K ≤ K 310 * 1 := rl
    have rn := hr.n
    have rb := bz_rg (bT K) (eT K) t ha.1
    simp (disch := first | assumption | exact e_nk_i _ | exact e_nk_n | exact e_nk_r _ | exact e_bo_0 | exact e_bo_1 | exact e_bo_b _ | omega) only [e_cl_v, e_cl_x, e_add_0, e_add_s, Option.toList_some, Option.toList_none, List.cons_append, List.nil_append, iI_add, iI_sub, iI_mul, iI_lt, iI_eq, iI_le, r176_264, r176_265, r176_268, r176_271, r176_272, r176_275, r176_278, r176_279, r176_282, r176_285, r176_286, r176_289, r176_290, r176_293, r176_294, r176_297, r176_300, r176_301, r176_304, r176_305, r176_308, r176_309, r176_312, r176_314, r176_317, r176_318, r176_321, r176_324, r176_325, r176_328, r176_331, r176_332, r176_335, r176_338, r176_339, r176_342, r176_343, a1, a2, a3, a4, a5, a6, a7, a8, hlc, if_true, bI_t]
    rw [if_neg (by omega), if_neg (by omega)]
  · have hff : ft K = false := by simpa using hf
    rw [hff, bI_f] at e2 e3
    refine ⟨M2, ?_, f1.pp.tr f2.pp, h199⟩
    have hone : ¬ (iI 1 = iI 0) := by decide
    simp (disch := first | assumption | exact e_nk_i _ | exact e_nk_n | exact e_nk_r _ | exact e_bo_0 | exact e_bo_1 | exact e_bo_b _ | omega) only [e_cl_v, e_cl_x, e_add_0, e_add_s, Option.toList_some, Option.toList_none, List.cons_append, List.nil_append, iI_add, iI_sub, iI_mul, iI_lt, iI_eq, iI_le, r176_0, r176_1, r176_4, r176_7, r176_8, r176_9, r176_10, r176_11, r176_14, r176_17, r176_18, r176_19, r176_22, r176_25, r176_26, r176_29, r176_30, r176_31, r176_32, r176_35, r176_36, e1, e0, e2, e3, bI_t, if_true]
    rw [if_neg (by omega)]
end El20
