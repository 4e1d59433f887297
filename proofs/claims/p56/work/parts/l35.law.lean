section El35
variable {L : Nat} {xs : Nat → Int32} {d : Nat} {M M1 M2 M3 : e_MI} {V V1 V2 : e_ML} {W : e_MD} {K K2 : e_St} {S : Int → e_St} {h : e_H} {c o j w z m k q p i f a b t n x its u v : Int} {z1 z2 : Int32}
/-! a work is moved -/
theorem l_shift {ρ : Int → Int} (hn : n ≤ 16) (hf : 0 ≤ f ∧ f < n) (ht : 0 ≤ t ∧ t < n) (hR : ∀ p, 0 ≤ p → p < n → M 199 p.toNat = iI (ρ p)) : ∃ M2 : e_MI, fR M M2 ∧ (∀ p, 0 ≤ p → p < n → M2 199 p.toNat = iI (mvR ρ f t p)) ∧ ∀ r : e_R, e_lim L xs (d + 8) 185 296 [some (.ref 184), some (.int z1), some (.int z2), some (.int (iI f)), some (.int (iI t)), some (.int (iI (ρ f))), none, none, none] [] (e_hp M2 V W) = some r → e_lim L xs (d + 8) 185 215 [some (.ref 184), some (.int z1), some (.int z2), some (.int (iI f)), some (.int (iI t)), none, none, none, none] [] (e_hp M V W) = some r := by
  have e0 := hR f hf.1 hf.2
  -- the last step
  have last : ∀ (M1 : e_MI) (k : Int), fR M M1 → (∀ p, 0 ≤ p → p < n → p ≠ t → M1 199 p.toNat = iI (mvR ρ f t p)) → ∃ M2 : e_MI, fR M M2 ∧ (∀ p, 0 ≤ p → p < n → M2 199 p.toNat = iI (mvR ρ f t p)) ∧ ∀ r : e_R, e_lim L xs (d + 8) 185 296 [some (.ref 184), some (.int z1), some (.int z2), some (.int (iI f)), some (.int (iI t)), some (.int (iI (ρ f))), none, none, none] [] (e_hp M2 V W) = some r → e_lim L xs (d + 8) 185 287 [some (.ref 184), some (.int z1), some (.int z2), some (.int (iI f)), some (.int (iI t)), some (.int (iI (ρ f))), some (.int (iI k)), none, none] [] (e_hp M1 V W) = some r := by
    intro M1 k g1 g2
    refine ⟨e_u M1 199 (upd (M1 199) t.toNat (iI (ρ f))), fun a x => by rw [e_u_n _ _ x]; exact g1 a x, fun p x y => ?_, fun r hr9 => ?_⟩
    · rw [e_u_s]
      by_cases hp : p = t
      · rw [hp, upd_s]
        unfold mvR
        rw [if_pos rfl]
      · rw [upd_n _ _ (by omega)]
        exact g2 p x y hp
    · simp (disch := first | assumption | exact e_nk_i _ | exact e_nk_n | exact e_nk_r _ | exact e_bo_0 | exact e_bo_1 | exact e_bo_b _ | omega) only [e_cl_v, e_cl_x, e_add_0, e_add_s, Option.toList_some, Option.toList_none, List.cons_append, List.nil_append, iI_add, iI_sub, iI_mul, iI_lt, iI_eq, iI_le, r185_287, r185_288, r185_291, r185_293, r185_295, iI_vin, iI_nat, if_true]
      exact G_less (by repeat (first | exact e_ll.rf | refine e_ll_c ?_ | refine e_ll_x ?_)) hr9
  by_cases hft : f ≤ t
  · have key := G_lp (i := f) (n := t) (I := fun j M1 => fR M M1 ∧ ∀ p, 0 ≤ p → p < n → M1 199 p.toNat = iI (if f ≤ p ∧ p < j then ρ (p + 1) else ρ p))
      (P := fun j M1 => ∃ M2 : e_MI, fR M M2 ∧ (∀ p, 0 ≤ p → p < n → M2 199 p.toNat = iI (mvR ρ f t p)) ∧ ∀ r : e_R, e_lim L xs (d + 8) 185 296 [some (.ref 184), some (.int z1), some (.int z2), some (.int (iI f)), some (.int (iI t)), some (.int (iI (ρ f))), none, none, none] [] (e_hp M2 V W) = some r → e_lim L xs (d + 8) 185 226 [some (.ref 184), some (.int z1), some (.int z2), some (.int (iI f)), some (.int (iI t)), some (.int (iI (ρ f))), some (.int (iI j)), none, none] [] (e_hp M1 V W) = some r) (fun j M1 x y hI hc => ?_) (fun M1 hI => ?_) hft M ⟨fun _ _ => rfl, fun p x y => by rw [if_neg (by omega)]; exact hR p x y⟩
    · obtain ⟨M2, g1, g2, e⟩ := key
      refine ⟨M2, g1, g2, fun r hr9 => ?_⟩
      have e9 := e r hr9
      simp (disch := first | assumption | exact e_nk_i _ | exact e_nk_n | exact e_nk_r _ | exact e_bo_0 | exact e_bo_1 | exact e_bo_b _ | omega) only [e_cl_v, e_cl_x, e_add_0, e_add_s, Option.toList_some, Option.toList_none, List.cons_append, List.nil_append, iI_add, iI_sub, iI_mul, iI_lt, iI_eq, iI_le, r185_215, r185_216, r185_219, r185_220, r185_221, r185_223, r185_224, iI_vin, iI_nat, if_true, e0]
      exact e9
    · obtain ⟨i1, i2⟩ := hI
      have ea := i2 (j + 1) (by omega) (by omega)
      rw [if_neg (by omega)] at ea
      obtain ⟨M2, g1, g2, e⟩ := hc (e_u M1 199 (upd (M1 199) j.toNat (iI (ρ (j + 1))))) ⟨fun a z => by rw [e_u_n _ _ z]; exact i1 a z, fun p u v => by
        rw [e_u_s]
        by_cases hp : p = j
        · rw [hp, upd_s, if_pos (by omega)]
        · rw [upd_n _ _ (by omega), i2 p u v]
          by_cases h9 : f ≤ p ∧ p < j
          · rw [if_pos h9, if_pos (by omega)]
          · rw [if_neg h9, if_neg (by omega)]⟩
      refine ⟨M2, g1, g2, fun r hr9 => ?_⟩
      have e9 := e r hr9
      rw [r185_226]
      simp (disch := first | assumption | exact e_nk_i _ | exact e_nk_n | exact e_nk_r _ | exact e_bo_0 | exact e_bo_1 | exact e_bo_b _ | omega) only [e_cl_v, e_cl_x, e_add_0, e_add_s, Option.toList_some, Option.toList_none, List.cons_append, List.nil_append, iI_add, iI_sub, iI_mul, iI_lt, iI_eq, iI_le, r185_228, r185_230, r185_233, r185_234, r185_237, r185_239, r185_240, r185_243, r185_245, r185_246, r185_247, r185_248, r185_249, r185_252, iI_vin, iI_nat, if_true, ea, if_pos y]
      exact e9
    · obtain ⟨i1, i2⟩ := hI
      obtain ⟨M2, g1, g2, e⟩ := last M1 f i1 (fun p u v hp => by
        rw [i2 p u v]
        congr 1
        unfold mvR mvW
        rw [if_neg hp]
        by_cases h9 : p < t
        · rw [if_pos h9]
          by_cases h8 : p < f
          · rw [if_neg (by omega), if_pos h8]
          · rw [if_pos (by omega), if_neg h8]
        · rw [if_neg h9, if_neg (by omega), if_neg (by omega)]
          congr 1
          omega)
      refine ⟨M2, g1, g2, fun r hr9 => ?_⟩
      have e9 := e r hr9
      rw [r185_226]
      simp (disch := first | assumption | exact e_nk_i _ | exact e_nk_n | exact e_nk_r _ | exact e_bo_0 | exact e_bo_1 | exact e_bo_b _ | omega) only [e_cl_v, e_cl_x, e_add_0, e_add_s, Option.toList_some, Option.toList_none, List.cons_append, List.nil_append, iI_add, iI_sub, iI_mul, iI_lt, iI_eq, iI_le, r185_228, r185_230, r185_233, r185_234, r185_237, r185_239, r185_240, r185_243, r185_245, r185_246, r185_247, r185_248, r185_249, r185_252, r185_255, r185_256]
      rw [if_neg (by omega), r185_258]
      simp (disch := first | assumption | exact e_nk_i _ | exact e_nk_n | exact e_nk_r _ | exact e_bo_0 | exact e_bo_1 | exact e_bo_b _ | omega) only [e_cl_v, e_cl_x, e_add_0, e_add_s, Option.toList_some, Option.toList_none, List.cons_append, List.nil_append, iI_add, iI_sub, iI_mul, iI_lt, iI_eq, iI_le, r185_260, r185_262]
      first | rw [if_pos (by omega)] | rw [if_neg (by omega)]
      exact e9
  · have key := G_lp (i := 0) (n := f - t) (I := fun j M1 => fR M M1 ∧ ∀ p, 0 ≤ p → p < n → M1 199 p.toNat = iI (if f - j < p ∧ p ≤ f then ρ (p - 1) else ρ p))
      (P := fun j M1 => ∃ M2 : e_MI, fR M M2 ∧ (∀ p, 0 ≤ p → p < n → M2 199 p.toNat = iI (mvR ρ f t p)) ∧ ∀ r : e_R, e_lim L xs (d + 8) 185 296 [some (.ref 184), some (.int z1), some (.int z2), some (.int (iI f)), some (.int (iI t)), some (.int (iI (ρ f))), none, none, none] [] (e_hp M2 V W) = some r → e_lim L xs (d + 8) 185 258 [some (.ref 184), some (.int z1), some (.int z2), some (.int (iI f)), some (.int (iI t)), some (.int (iI (ρ f))), some (.int (iI (f - j))), none, none] [] (e_hp M1 V W) = some r) (fun j M1 x y hI hc => ?_) (fun M1 hI => ?_) (by omega) M ⟨fun _ _ => rfl, fun p x y => by rw [if_neg (by omega)]; exact hR p x y⟩
    · obtain ⟨M2, g1, g2, e⟩ := key
      refine ⟨M2, g1, g2, fun r hr9 => ?_⟩
      have e9 := e r hr9
      rw [show f - 0 = f by omega] at e9
      simp (disch := first | assumption | exact e_nk_i _ | exact e_nk_n | exact e_nk_r _ | exact e_bo_0 | exact e_bo_1 | exact e_bo_b _ | omega) only [e_cl_v, e_cl_x, e_add_0, e_add_s, Option.toList_some, Option.toList_none, List.cons_append, List.nil_append, iI_add, iI_sub, iI_mul, iI_lt, iI_eq, iI_le, r185_215, r185_216, r185_219, r185_220, r185_221, r185_223, r185_224, iI_vin, iI_nat, if_true, e0]
      rw [r185_226]
      simp (disch := first | assumption | exact e_nk_i _ | exact e_nk_n | exact e_nk_r _ | exact e_bo_0 | exact e_bo_1 | exact e_bo_b _ | omega) only [e_cl_v, e_cl_x, e_add_0, e_add_s, Option.toList_some, Option.toList_none, List.cons_append, List.nil_append, iI_add, iI_sub, iI_mul, iI_lt, iI_eq, iI_le, r185_228, r185_230, r185_233, r185_234, r185_237, r185_239, r185_240, r185_243, r185_245, r185_246, r185_247, r185_248, r185_249, r185_252, r185_255, r185_256]
      rw [if_neg (by omega)]
      exact e9
    · obtain ⟨i1, i2⟩ := hI
      have ea := i2 (f - j - 1) (by omega) (by omega)
      rw [if_neg (by omega)] at ea
      obtain ⟨M2, g1, g2, e⟩ := hc (e_u M1 199 (upd (M1 199) (f - j).toNat (iI (ρ (f - j - 1))))) ⟨fun a z => by rw [e_u_n _ _ z]; exact i1 a z, fun p u v => by
        rw [e_u_s]
        by_cases hp : p = f - j
        · rw [hp, upd_s, if_pos (by omega)]
        · rw [upd_n _ _ (by omega), i2 p u v]
          by_cases h9 : f - j < p ∧ p ≤ f
          · rw [if_pos h9, if_pos (by omega)]
          · rw [if_neg h9, if_neg (by omega)]⟩
      refine ⟨M2, g1, g2, fun r hr9 => ?_⟩
      have e9 := e r hr9
      rw [show f - (j + 1) = f - j + -1 by omega] at e9
      rw [r185_258]
      simp (disch := first | assumption | exact e_nk_i _ | exact e_nk_n | exact e_nk_r _ | exact e_bo_0 | exact e_bo_1 | exact e_bo_b _ | omega) only [e_cl_v, e_cl_x, e_add_0, e_add_s, Option.toList_some, Option.toList_none, List.cons_append, List.nil_append, iI_add, iI_sub, iI_mul, iI_lt, iI_eq, iI_le, r185_260, r185_262, r185_265, r185_266, r185_269, r185_271, r185_272, r185_275, r185_277, r185_278, r185_279, r185_280, r185_281, r185_284, iI_vin, iI_nat, if_true, ea]
      first | rw [if_neg (by omega)] | rw [if_pos (by omega)]
      exact e9
    · obtain ⟨i1, i2⟩ := hI
      obtain ⟨M2, g1, g2, e⟩ := last M1 (f - (f - t)) i1 (fun p u v hp => by
        rw [i2 p u v]
        congr 1
        unfold mvR mvW
        rw [if_neg hp]
        by_cases h9 : p < t
        · rw [if_pos h9, if_neg (by omega), if_pos (by omega)]
        · rw [if_neg h9]
          by_cases h8 : p ≤ f
          · rw [if_pos (by omega), if_pos (by omega)]
          · rw [if_neg (by omega), if_neg (by omega)]
            congr 1
            omega)
      refine ⟨M2, g1, g2, fun r hr9 => ?_⟩
      have e9 := e r hr9
      rw [r185_258]
      simp (disch := first | assumption | exact e_nk_i _ | exact e_nk_n | exact e_nk_r _ | exact e_bo_0 | exact e_bo_1 | exact e_bo_b _ | omega) only [e_cl_v, e_cl_x, e_add_0, e_add_s, Option.toList_some, Option.toList_none, List.cons_append, List.nil_append, iI_add, iI_sub, iI_mul, iI_lt, iI_eq, iI_le, r185_260, r185_262]
      first | rw [if_pos (by omega)] | rw [if_neg (by omega)]
      exact e9
theorem l_moving (H : CL M K c S) (hw : 2 ≤ aW K) : ∃ (M2 : e_MI) (f t : Int), ((0 ≤ f ∧ f < aW K) ∧ 0 ≤ t ∧ t < aW K) ∧ CL M2 (rtS K (mvR (rwK K) f t)) (svC c) (svS c S K) ∧ fTp M M2 ∧ (∀ p, 0 ≤ p → p < aW K → M2 199 p.toNat = iI (mvR (rwK K) f t p)) ∧ ∀ r : e_R, e_lim L xs (d + 8) 185 323 [some (.ref 184), some (.int z1), some (.int z2), none, none, none, none, none, none] [] (e_hp M2 V W) = some r → e_lim L xs (d + 8) 185 187 [some (.ref 184), some (.int z1), some (.int z2), none, none, none, none, none, none] [] (e_hp M V W) = some r := by
  have hr := H.g.1
  have hp := H.g.2.2.1
  obtain ⟨ha, hv0⟩ := H.g.2.1
  have hv : vR K (rwK K) := hv0
  obtain ⟨M1, f, e1, r1, f1⟩ := l_next (L := L) (xs := xs) (d := d + 7) (V := V) (W := W) (M := M) (n := aW K) (by omega)
  have H1 := H.of f1.l
  obtain ⟨M2, t, e2, r2, f2⟩ := l_next (L := L) (xs := xs) (d := d + 7) (V := V) (W := W) (M := M1) (n := aW K) (by omega)
  have H2 := H1.of f2.l
  obtain ⟨M3, e3, f3, g3⟩ := l_reads (L := L) (xs := xs) (d := d + 4) (V := V) (W := W) H2.la H2.ck.sh hr H.g.2.1
  have H3 := H2.of f3.l
  obtain ⟨M4, f4, g4, c4⟩ := l_shift (L := L) (xs := xs) (d := d) (V := V) (W := W) (M := M3) (ρ := rwK K) (n := aW K) (z1 := z1) (z2 := z2) ha.2 r1 r2 g3
  have H4 := H3.of f4.l
  have hvm : vR K (mvR (rwK K) f t) := mvR_v hv r1 r2
  obtain ⟨M5, e5, f5, -⟩ := l_isTimed (L := L) (xs := xs) (d := d + 6) (V := V) (W := W) H4.la H4.lb hr hp (vR.vp hr hvm) ha g4
  have H5 := H4.of f5.l
  obtain ⟨M6, e6, q6, -, g6⟩ := x_move (L := L) (xs := xs) (d := d) (V := V) (W := W) H5.ck H.g (f := f) (x := t) (by unfold i32; omega) (by unfold i32; omega)
  have hft : ft (mvK K f t) = fiR K (mvR (rwK K) f t) (aW K) := ft_rt H.g hvm
  rw [if_pos (by omega), hft] at e6
  have q6 := q6 (by omega)
  have H6 : CL M6 (rtS K (mvR (rwK K) f t)) (svC c) (svS c S K) := H5.ch q6 (fun a x => g6 a (by omega)) (kG_rt H.g hvm) eqL_rt
  have w0 := H.la.ws
  have w1 := H1.la.ws
  have w4 := H4.la.ws
  have h10 : ¬ (iI 1 = iI 0) := by decide
  refine ⟨M6, f, t, ⟨r1, r2⟩, H6, ?_, fun p x y => by rw [g6 199 (by decide), f5 199 (by decide) (by decide) (by decide)]; exact g4 p x y, fun r hr9 => ?_⟩
  · exact ((((f1.pp.fp.tr f2.pp.fp).tr f3.pp.fp).tr f4.pp.fp).tr f5.pp.fp).tr (fun a x y => g6 a (by omega))
  · have e3 : e_lim L xs (d + 7) 172 0 [some (.ref 184), none, none, none, none] [] (e_hp M2 V W) = some (.inl (some (.int (bI true))), e_hp M3 V W, 0, 0) := e3
    have tail : e_lim L xs (d + 8) 185 296 [some (.ref 184), some (.int z1), some (.int z2), some (.int (iI f)), some (.int (iI t)), some (.int (iI (rwK K f))), none, none, none] [] (e_hp M4 V W) = some r := by
      simp (disch := first | assumption | exact e_nk_i _ | exact e_nk_n | exact e_nk_r _ | exact e_bo_0 | exact e_bo_1 | exact e_bo_b _ | omega) only [e_cl_v, e_cl_x, e_add_0, e_add_s, Option.toList_some, Option.toList_none, List.cons_append, List.nil_append, iI_add, iI_sub, iI_mul, iI_lt, iI_eq, iI_le, r185_296, r185_297, r185_298, r185_301, r185_304, r185_306, r185_307, r185_310, r185_311, r185_313, r185_316, r185_318, w4, e5, e6, if_true]
      exact G_less (by repeat (first | exact e_ll.rf | refine e_ll_c ?_ | refine e_ll_x ?_)) hr9
    have c5 := c4 r tail
    simp (disch := first | assumption | exact e_nk_i _ | exact e_nk_n | exact e_nk_r _ | exact e_bo_0 | exact e_bo_1 | exact e_bo_b _ | omega) only [e_cl_v, e_cl_x, e_add_0, e_add_s, Option.toList_some, Option.toList_none, List.cons_append, List.nil_append, iI_add, iI_sub, iI_mul, iI_lt, iI_eq, iI_le, r185_187, r185_188, r185_189, r185_192, r185_195, r185_196, r185_197, r185_198, r185_201, r185_204, r185_206, r185_207, r185_210, w0, w1, e1, e2, e3, bI_t, if_neg h10]
    exact c5
/-- and the class's row is the same -/
theorem l_rows {r : e_R} (H : CL M K c S) (hR : ∀ p, 0 ≤ p → p < aW K → M 199 p.toNat = iI (rwK K p)) (hc : e_lim L xs (d + 8) 185 362 [some (.ref 184), some (.int z1), some (.int z2), none, none, none, none, none, none] [] (e_hp M V W) = some r) : e_lim L xs (d + 8) 185 323 [some (.ref 184), some (.int z1), some (.int z2), none, none, none, none, none, none] [] (e_hp M V W) = some r := by
  have ha := H.g.2.1.1
  have ew := H.la.ws
  have key := G_loopI (C := fun j => e_lim L xs (d + 8) 185 326 [some (.ref 184), some (.int z1), some (.int z2), none, none, none, none, some (.int (iI j)), none] [] (e_hp M V W)) (i := 0) (n := aW K) (r := r) ha.1 (fun j x y hc => ?_) ?_
  · simp (disch := first | assumption | exact e_nk_i _ | exact e_nk_n | exact e_nk_r _ | exact e_bo_0 | exact e_bo_1 | exact e_bo_b _ | omega) only [e_cl_v, e_cl_x, e_add_0, e_add_s, Option.toList_some, Option.toList_none, List.cons_append, List.nil_append, iI_add, iI_sub, iI_mul, iI_lt, iI_eq, iI_le, r185_323, r185_324]
    exact key
  · have e1 := x_rowAt (L := L) (xs := xs) (d := d + 5) (V := V) (W := W) H.ck.sh ha (p := j) (by unfold i32; omega)
    rw [if_pos (by omega)] at e1
    have e1 : e_lim L xs (d + 7) 113 0 [some (.ref 0), some (.int (iI j))] [] (e_hp M V W) = some (.inl (some (.int (iI (rwK K j)))), e_hp M V W, 0, 0) := e1
    have e2 := hR j x y
    rw [r185_326]
    simp (disch := first | assumption | exact e_nk_i _ | exact e_nk_n | exact e_nk_r _ | exact e_bo_0 | exact e_bo_1 | exact e_bo_b _ | omega) only [e_cl_v, e_cl_x, e_add_0, e_add_s, Option.toList_some, Option.toList_none, List.cons_append, List.nil_append, iI_add, iI_sub, iI_mul, iI_lt, iI_eq, iI_le, r185_328, r185_329, r185_332, r185_335, r185_336, r185_339, r185_341, r185_344, r185_345, r185_348, r185_350, r185_351, r185_354, r185_355, r185_356, r185_359, iI_vin, iI_nat, if_true, ew, e1, e2, if_pos y]
    exact hc
  · rw [r185_326]
    simp (disch := first | assumption | exact e_nk_i _ | exact e_nk_n | exact e_nk_r _ | exact e_bo_0 | exact e_bo_1 | exact e_bo_b _ | omega) only [e_cl_v, e_cl_x, e_add_0, e_add_s, Option.toList_some, Option.toList_none, List.cons_append, List.nil_append, iI_add, iI_sub, iI_mul, iI_lt, iI_eq, iI_le, r185_328, r185_329, r185_332, ew]
    rw [if_neg (by omega)]
    exact G_less (by repeat (first | exact e_ll.rf | refine e_ll_c ?_ | refine e_ll_x ?_)) hc
end El35
