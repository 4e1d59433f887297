section El19
variable {L : Nat} {xs : Nat → Int32} {d : Nat} {M M1 M2 M3 : e_MI} {V V2 : e_ML} {W : e_MD} {K K2 : e_St} {S : Int → e_St} {h : e_H} {c o j w z m k q p i f n a b t x B its u v : Int} {τ β ε : Int → Int}
/-! the present plan is timed as told -/
theorem pl_at (hr : kR K) (hv : vR K τ) (hn : 0 ≤ aW K) (h0 : 0 ≤ p) (h1 : p < aW K) : plO K τ (τ p) (scW τ p) = p := by
  have w := wk_at hr (vR.vp hr hv) h0 h1
  exact ((plO_sp hr hv hn w.1 w.2.1).2.2 p h0 rfl rfl).symm
theorem l_planA {r : e_R} (H : CL M K c S) (hf : ft K = true) (hR : LRW M (rwK K) (aW K)) (hE : LE M (scB K (rwK K)) (scE K (rwK K)) (aW K))
    (hc : e_lim L xs (d + 7) 176 83 [some (.ref 184), some (.int (iI 1)), some (.int (iI (aW K))), none, none, none, none] [] (e_hp M V W) = some r) :
    e_lim L xs (d + 7) 176 39 [some (.ref 184), some (.int (iI 1)), some (.int (iI 0)), none, none, none, none] [] (e_hp M V W) = some r := by
  have hr := H.g.1
  obtain ⟨ha, hv0⟩ := H.g.2.1
  have hv : vR K (rwK K) := hv0
  have hvp : vP K (rwK K) (aW K) := vR.vp hr hv
  have e0 := H.la.ws
  refine G_loopI (C := fun j => e_lim L xs (d + 7) 176 39 [some (.ref 184), some (.int (iI 1)), some (.int (iI j)), none, none, none, none] [] (e_hp M V W)) (i := 0) (n := aW K) ha.1 (fun j x y hc => ?_) ?_
  · have w := wk_at hr hvp x y
    obtain ⟨e1, e2⟩ := hR j x y
    obtain ⟨⟨e3, _⟩, r3, _⟩ := hE j x y
    have e4 := x_begin (L := L) (xs := xs) (d := d + 3) (V := V) (W := W) H.ck H.g (o := rwK K j) (w := scW (rwK K) j) (by unfold i32; omega) (by unfold i32; omega)
    rw [if_pos (by omega), if_pos hf, pl_at hr hv ha.1 x y] at e4
    have hb : bT K j = scB K (rwK K) j := rfl
    rw [hb] at e4
    rw [r176_39]
    simp (disch := first | assumption | exact e_nk_i _ | exact e_nk_n | exact e_nk_r _ | exact e_bo_0 | exact e_bo_1 | exact e_bo_b _ | omega) only [e_cl_v, e_cl_x, e_add_0, e_add_s, Option.toList_some, Option.toList_none, List.cons_append, List.nil_append, iI_add, iI_sub, iI_mul, iI_lt, iI_eq, iI_le, r176_40, r176_41, r176_44, r176_47, r176_48, r176_51, r176_52, r176_55, r176_56, r176_57, r176_58, r176_61, r176_62, r176_63, r176_66, r176_67, r176_70, r176_71, r176_72, r176_75, r176_76, r176_77, r176_80, iI_vin, iI_nat, if_true, e0, e1, e2, e3, e4, if_pos y]
    exact hc
  · rw [r176_39]
    simp (disch := first | assumption | exact e_nk_i _ | exact e_nk_n | exact e_nk_r _ | exact e_bo_0 | exact e_bo_1 | exact e_bo_b _ | omega) only [e_cl_v, e_cl_x, e_add_0, e_add_s, Option.toList_some, Option.toList_none, List.cons_append, List.nil_append, iI_add, iI_sub, iI_mul, iI_lt, iI_eq, iI_le, r176_40, r176_41, r176_44, e0]
    rw [if_neg (by omega)]
    exact hc
theorem l_planB {r : e_R} (H : CL M K c S) (hf : ft K = true) (hR : LRW M (rwK K) (aW K)) (hE : LE M (scB K (rwK K)) (scE K (rwK K)) (aW K))
    (hc : e_lim L xs (d + 7) 176 141 [some (.ref 184), some (.int (iI 1)), some (.int (iI (ltN K))), some (.int (iI (K 310))), none, none, none] [] (e_hp M V W) = some r) :
    e_lim L xs (d + 7) 176 87 [some (.ref 184), some (.int (iI 1)), some (.int (iI 0)), some (.int (iI 0)), none, none, none] [] (e_hp M V W) = some r := by
  have hr := H.g.1
  have hp := H.g.2.2.1
  have hn := hr.n
  obtain ⟨ha, hv0⟩ := H.g.2.1
  have hv : vR K (rwK K) := hv0
  have e0 := H.la.nn
  rw [show some (Value.int (iI 0)) = some (Value.int (iI (SU (fun o => if K (24 + o) < enO K (rwK K) o then 1 else 0) 0))) from rfl]
  refine G_loopI (C := fun j => e_lim L xs (d + 7) 176 87 [some (.ref 184), some (.int (iI 1)), some (.int (iI (SU (fun o => if K (24 + o) < enO K (rwK K) o then 1 else 0) j))), some (.int (iI j)), none, none, none] [] (e_hp M V W)) (i := 0) (n := K 310) hn.1 (fun j x y hc => ?_) ?_
  · have e1 := x_endOf (L := L) (xs := xs) (d := d + 3) (V := V) (W := W) H.ck H.g (o := j) (by unfold i32; omega)
    rw [if_pos (by omega), if_pos hf] at e1
    have e2 := l_endOf (L := L) (xs := xs) (d := d + 6) (V := V) (W := W) H.la hr hp hv ha hR hE (o := j) ⟨x, y⟩
    have e3 := H.la.du x y
    have r1 := eo_rg hr hp hv ha.1 (o := j) ⟨x, y⟩
    have r1 : 0 ≤ enO K (rwK K) j ∧ enO K (rwK K) j ≤ 2001 := r1
    have r3 := hr.du (o := j) x (by omega)
    have rs := SU_le (f := fun o => if K (24 + o) < enO K (rwK K) o then 1 else 0) (n := j) (c := 1) (fun i _ _ => by split <;> omega) x
    rw [SU_s _ x] at hc
    rw [r176_87]
    by_cases c1 : K (24 + j) < enO K (rwK K) j
    · simp only [if_pos c1] at hc
      simp (disch := first | assumption | exact e_nk_i _ | exact e_nk_n | exact e_nk_r _ | exact e_bo_0 | exact e_bo_1 | exact e_bo_b _ | omega) only [e_cl_v, e_cl_x, e_add_0, e_add_s, Option.toList_some, Option.toList_none, List.cons_append, List.nil_append, iI_add, iI_sub, iI_mul, iI_lt, iI_eq, iI_le, r176_88, r176_89, r176_92, r176_95, r176_96, r176_99, r176_100, r176_103, r176_104, r176_105, r176_108, r176_111, r176_112, r176_113, r176_114, r176_115, r176_116, r176_119, r176_120, r176_123, r176_124, r176_125, r176_128, r176_129, r176_132, r176_133, r176_134, r176_135, r176_138, iI_vin, iI_nat, if_true, e0, e1, e2, e3, if_pos y, if_pos c1]
      exact hc
    · simp only [if_neg c1] at hc
      simp (disch := first | assumption | exact e_nk_i _ | exact e_nk_n | exact e_nk_r _ | exact e_bo_0 | exact e_bo_1 | exact e_bo_b _ | omega) only [e_cl_v, e_cl_x, e_add_0, e_add_s, Option.toList_some, Option.toList_none, List.cons_append, List.nil_append, iI_add, iI_sub, iI_mul, iI_lt, iI_eq, iI_le, r176_88, r176_89, r176_92, r176_95, r176_96, r176_99, r176_100, r176_103, r176_104, r176_105, r176_108, r176_111, r176_112, r176_113, r176_114, r176_115, r176_116, r176_119, r176_120, r176_123, r176_124, r176_125, r176_128, r176_129, r176_132, r176_133, r176_134, r176_135, r176_138, iI_vin, iI_nat, if_true, e0, e1, e2, e3, if_pos y, if_neg c1]
      exact hc
  · rw [r176_87]
    simp (disch := first | assumption | exact e_nk_i _ | exact e_nk_n | exact e_nk_r _ | exact e_bo_0 | exact e_bo_1 | exact e_bo_b _ | omega) only [e_cl_v, e_cl_x, e_add_0, e_add_s, Option.toList_some, Option.toList_none, List.cons_append, List.nil_append, iI_add, iI_sub, iI_mul, iI_lt, iI_eq, iI_le, r176_88, r176_89, r176_92, e0]
    rw [if_neg (by omega)]
    exact hc
theorem wa_at (hg : kG K) (h0 : 0 ≤ p) (h1 : p < aW K) (hb : bT K p ≤ t) (he : t < eT K p) : anWA K (mcA K (rwK K) (scW (rwK K)) p) t = rwK K p := by
  have hr := hg.1
  have hp := hg.2.2.1
  obtain ⟨ha, hv⟩ := hg.2.1
  have hvp : vP K (rwK K) (aW K) := vR.vp hr hv
  have hh : fsN (waP K (mcA K (rwK K) (scW (rwK K)) p) t) (aW K) = p := by
    refine fsN_hit h0 h1 (decide_eq_true ⟨rfl, hb, by omega⟩) fun q x y => ?_
    show decide _ = false
    rw [decide_eq_false_iff_not]
    intro hq
    have hm := sc_machI hr hp hvp x y h1 hq.1
    have s1 := sc_spI hr hp hvp h0 h1
    have hb2 : scB K (rwK K) p ≤ t := hb
    have he2 : t < scE K (rwK K) p := he
    have h3 := hq.2.2
    have h4 : t ≤ scE K (rwK K) q - 1 := h3
    rcases s1.2.2 with y1 | y1
    · have := s1.2.1
      rw [if_pos y1] at this
      omega
    · omega
  unfold anWA
  rw [hh, if_neg (by omega)]
theorem l_planC {r : e_R} {x2 : Int32} (H : CL M K c S) (hf : ft K = true) (hR : LRW M (rwK K) (aW K)) (hE : LE M (scB K (rwK K)) (scE K (rwK K)) (aW K)) (ht : 0 ≤ t ∧ t ≤ 2000)
    (hc : e_lim L xs (d + 7) 176 264 [some (.ref 184), some (.int (iI 1)), some (.int x2), some (.int (iI t)), some (.int (iI (bz (bT K) (eT K) (aW K) t))), some (.int (iI (aW K))), none] [] (e_hp M V W) = some r) :
    e_lim L xs (d + 7) 176 158 [some (.ref 184), some (.int (iI 1)), some (.int x2), some (.int (iI t)), some (.int (iI 0)), some (.int (iI 0)), none] [] (e_hp M V W) = some r := by
  have hr := H.g.1
  obtain ⟨ha, hv0⟩ := H.g.2.1
  have hv : vR K (rwK K) := hv0
  have hvp : vP K (rwK K) (aW K) := vR.vp hr hv
  have e0 := H.la.ws
  rw [show some (Value.int (iI 0)) = some (Value.int (iI (bz (bT K) (eT K) 0 t))) from rfl]
  refine G_loopI (C := fun j => e_lim L xs (d + 7) 176 158 [some (.ref 184), some (.int (iI 1)), some (.int x2), some (.int (iI t)), some (.int (iI (bz (bT K) (eT K) j t))), some (.int (iI j)), none] [] (e_hp M V W)) (i := 0) (n := aW K) ha.1 (fun j x y hc => ?_) ?_
  · obtain ⟨⟨a1, a2⟩, a3, ⟨a4, a5⟩, -⟩ := l_place H.la hr hvp ha.2 hR x y
    obtain ⟨⟨e1, e2⟩, r1, r2⟩ := hE j x y
    have e1 : M 201 j.toNat = iI (bT K j) := e1
    have e2 : M 202 j.toNat = iI (eT K j) := e2
    have r1 : 0 ≤ bT K j ∧ bT K j ≤ 2001 := r1
    have r2 : 0 ≤ eT K j ∧ eT K j ≤ 2001 := r2
    have rb := bz_rg (bT K) (eT K) t x
    have hs : bz (bT K) (eT K) (j + 1) t = bz (bT K) (eT K) j t + (if bT K j ≤ t ∧ t ≤ eT K j - 1 then 1 else 0) := SU_s _ x
    rw [hs] at hc
    rw [r176_158]
    by_cases c1 : t < bT K j
    · rw [if_neg (by omega)] at hc
      simp (disch := first | assumption | exact e_nk_i _ | exact e_nk_n | exact e_nk_r _ | exact e_bo_0 | exact e_bo_1 | exact e_bo_b _ | omega) only [e_cl_v, e_cl_x, e_add_0, e_add_s, Option.toList_some, Option.toList_none, List.cons_append, List.nil_append, iI_add, iI_sub, iI_mul, iI_lt, iI_eq, iI_le, r176_160, r176_161, r176_164, r176_167, r176_168, r176_169, r176_172, r176_174, r176_175, r176_178, r176_179, r176_180, r176_183, r176_185, r176_186, r176_189, r176_190, r176_193, r176_194, r176_196, r176_198, r176_200, r176_203, r176_204, r176_207, r176_208, r176_209, r176_211, r176_213, r176_216, r176_217, r176_220, r176_221, r176_224, r176_225, r176_226, r176_229, r176_231, r176_232, r176_233, r176_234, r176_237, r176_239, r176_240, r176_241, r176_242, r176_243, r176_246, r176_247, r176_250, r176_252, r176_253, r176_256, r176_257, r176_258, r176_261, iI_vin, iI_nat, if_true, e0, e1, e2, if_pos y, if_pos c1]
      exact G_less (by repeat (first | exact e_ll.rf | refine e_ll_c ?_ | refine e_ll_x ?_)) hc
    · by_cases c2 : t < eT K j
      · have e3 := x_workAt (L := L) (xs := xs) (d := d + 2) (V := V) (W := W) H.ck H.g (m := mcA K (rwK K) (scW (rwK K)) j) (x := t) (by unfold i32; omega) (by unfold i32; omega)
        rw [if_pos (by omega), if_pos hf, wa_at H.g x y (by omega) c2] at e3
        rw [if_pos (by omega)] at hc
        simp (disch := first | assumption | exact e_nk_i _ | exact e_nk_n | exact e_nk_r _ | exact e_bo_0 | exact e_bo_1 | exact e_bo_b _ | omega) only [e_cl_v, e_cl_x, e_add_0, e_add_s, Option.toList_some, Option.toList_none, List.cons_append, List.nil_append, iI_add, iI_sub, iI_mul, iI_lt, iI_eq, iI_le, r176_160, r176_161, r176_164, r176_167, r176_168, r176_169, r176_172, r176_174, r176_175, r176_178, r176_179, r176_180, r176_183, r176_185, r176_186, r176_189, r176_190, r176_193, r176_194, r176_196, r176_198, r176_200, r176_203, r176_204, r176_207, r176_208, r176_209, r176_211, r176_213, r176_216, r176_217, r176_220, r176_221, r176_224, r176_225, r176_226, r176_229, r176_231, r176_232, r176_233, r176_234, r176_237, r176_239, r176_240, r176_241, r176_242, r176_243, r176_246, r176_247, r176_250, r176_252, r176_253, r176_256, r176_257, r176_258, r176_261, iI_vin, iI_nat, if_true, e0, e1, e2, e3, a1, a2, a4, if_pos y, if_neg c1, if_pos c2]
        have h10 : ¬ ((1 : Int) = 0) := by omega
        simp only [h10, if_false]
        exact G_less (by repeat (first | exact e_ll.rf | refine e_ll_c ?_ | refine e_ll_x ?_)) hc
      · rw [if_neg (by omega)] at hc
        simp (disch := first | assumption | exact e_nk_i _ | exact e_nk_n | exact e_nk_r _ | exact e_bo_0 | exact e_bo_1 | exact e_bo_b _ | omega) only [e_cl_v, e_cl_x, e_add_0, e_add_s, Option.toList_some, Option.toList_none, List.cons_append, List.nil_append, iI_add, iI_sub, iI_mul, iI_lt, iI_eq, iI_le, r176_160, r176_161, r176_164, r176_167, r176_168, r176_169, r176_172, r176_174, r176_175, r176_178, r176_179, r176_180, r176_183, r176_185, r176_186, r176_189, r176_190, r176_193, r176_194, r176_196, r176_198, r176_200, r176_203, r176_204, r176_207, r176_208, r176_209, r176_211, r176_213, r176_216, r176_217, r176_220, r176_221, r176_224, r176_225, r176_226, r176_229, r176_231, r176_232, r176_233, r176_234, r176_237, r176_239, r176_240, r176_241, r176_242, r176_243, r176_246, r176_247, r176_250, r176_252, r176_253, r176_256, r176_257, r176_258, r176_261, iI_vin, iI_nat, if_true, e0, e1, e2, if_pos y, if_neg c1, if_neg c2]
        exact G_less (by repeat (first | exact e_ll.rf | refine e_ll_c ?_ | refine e_ll_x ?_)) hc
  · rw [r176_158]
    simp (disch := first | assumption | exact e_nk_i _ | exact e_nk_n | exact e_nk_r _ | exact e_bo_0 | exact e_bo_1 | exact e_bo_b _ | omega) only [e_cl_v, e_cl_x, e_add_0, e_add_s, Option.toList_some, Option.toList_none, List.cons_append, List.nil_append, iI_add, iI_sub, iI_mul, iI_lt, iI_eq, iI_le, r176_160, r176_161, r176_164, e0]
    rw [if_neg (by omega)]
    exact hc
end El19
