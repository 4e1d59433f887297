section El34
variable {L : Nat} {xs : Nat → Int32} {d : Nat} {M M1 M2 M3 : e_MI} {V V1 V2 : e_ML} {W : e_MD} {K K2 : e_St} {S : Int → e_St} {h : e_H} {c o j w z m k q p i f a b t x its u v : Int}
/-! moves that are done are better, and undone -/
theorem x_undone {c0 : Int} {S0 : Int → e_St} (H : CL M K c0 S0) (hc : 1 ≤ c0) (he : eqL K (S0 (c0 - 1))) : ∃ M2 : e_MI, e_lim L xs (d + 7) 144 0 [some (.ref 0), none] [] (e_hp M V W) = some (.inl (some (.int (iI (c0 - 1)))), e_hp M2 V W, 0, 0) ∧ CL M2 (S0 (c0 - 1)) (c0 - 1) S0 ∧ ∀ a, 148 < a → M2 a = M a := by
  obtain ⟨M2, e, h1, h2⟩ := x_undo (L := L) (xs := xs) (d := d) (V := V) (W := W) H.ck H.g H.us
  rw [if_neg (by omega), if_neg (by omega)] at h1
  exact ⟨M2, e, H.un h1 (fun a x => h2 a (by omega)) (H.us _ (by omega) (by omega)) he (fun j x y => H.us j x (by omega)), h2⟩
theorem CL.c12 (H : CL M K c S) : 0 ≤ c ∧ c ≤ 12 := H.ck.hs.cc
/-- the end and the cost of what was improved -/
theorem l_better (H : CL M K c S) (hf : ft K = true) (hR : LRW M (rwK K) (aW K)) (hE : LE M (scB K (rwK K)) (scE K (rwK K)) (aW K)) : ∃ (M2 : e_MI) (V2 : e_ML) (S2 : Int → e_St), CL M2 K (svC c - 1) S2 ∧ fTp M M2 ∧ ∀ r : e_R, e_lim L xs (d + 8) 185 159 [some (.ref 184), some (.int (iI 1)), some (.int (iI (csW K))), none, none, none, none, none, none] [] (e_hp M2 V2 W) = some r → e_lim L xs (d + 8) 185 50 [some (.ref 184), some (.int (iI 1)), some (.int (iI (csW K))), none, none, none, none, none, none] [] (e_hp M V W) = some r := by
  have hr := H.g.1
  have hp := H.g.2.2.1
  obtain ⟨ha, hv0⟩ := H.g.2.1
  have hv : vR K (rwK K) := hv0
  have hE2 : LE M (bT K) (eT K) (aW K) := hE
  have a1 : e_lim L xs (d + 7) 174 0 [some (.ref 184), none, none] [] (e_hp M V W) = some (.inl (some (.int (iI (edW K)))), e_hp M V W, 0, 0) := l_endNow (L := L) (xs := xs) (d := d + 6) (V := V) (W := W) H.la ha hE2
  have a2 := l_cost (L := L) (xs := xs) (d := d + 6) (V := V) (W := W) H.la H.lc hr hp hv ha hR hE
  obtain ⟨M1, V1, e1, q1, -, g1, -⟩ := x_improve (L := L) (xs := xs) (d := d) (V := V) (W := W) H.ck H.g
  rw [if_pos hf] at e1
  have ck1 := q1 hf
  have hox := imX_ok (K := K) ha.1
  have hrg := edW_rg H.g
  have hcr := ctW_rg hr (e := enO K (rwK K)) (fun o u v => eo_rg hr hp hv ha.1 ⟨u, v⟩)
  have hsl := sv_last (S := S) (K := K) H.c12
  have h10 : ¬ ((1 : Int) = 0) := by omega
  -- undone again
  have back : ∀ (M5 : e_MI) (K5 : e_St), CL M5 K5 (svC c) (svS c S K) → eqL K5 K → ∃ M6 : e_MI, CL M6 K (svC c - 1) (svS c S K) ∧ (∀ a, 148 < a → M6 a = M5 a) ∧ e_lim L xs (d + 7) 144 0 [some (.ref 0), none] [] (e_hp M5 V1 W) = some (.inl (some (.int (iI (svC c - 1)))), e_hp M6 V1 W, 0, 0) := fun M5 K5 h5 he => by
    obtain ⟨M6, e6, h6, g6⟩ := x_undone (L := L) (xs := xs) (d := d) (V := V1) (W := W) h5 hsl.2.1 (by rw [hsl.1]; exact he)
    rw [hsl.1] at h6
    exact ⟨M6, h6, g6, e6⟩
  by_cases c1 : (imX K).2.2.1 = -1
  · have hK : imK K = K := by unfold imK; rw [if_pos c1]
    have han : anIm K = -1 := by unfold anIm; rw [if_pos c1]
    rw [hK] at ck1
    rw [han] at e1
    have H1 : CL M1 K (svC c) (svS c S K) := H.ch ck1 (fun a x => g1 a (by omega)) H.g (fun z _ => rfl)
    have a3 := x_checksum (L := L) (xs := xs) (d := d + 6) (V := V1) (W := W) H1.ck H.g
    obtain ⟨M2, e2, f2, -⟩ := l_isPlan (L := L) (xs := xs) (d := d) (V := V1) (W := W) H1
    have H2 := H1.of f2.l
    obtain ⟨M3, h3, g3, e3⟩ := back M2 K H2 (fun z _ => rfl)
    have a4 := x_checksum (L := L) (xs := xs) (d := d + 6) (V := V1) (W := W) h3.ck h3.g
    refine ⟨M3, V1, _, h3, fun a x y => by rw [g3 a (by omega), f2.1 a (by omega) (by omega) (by omega) (by omega) (by omega), g1 a (by omega)], fun r hr9 => ?_⟩
    simp (disch := first | assumption | exact e_nk_i _ | exact e_nk_n | exact e_nk_r _ | exact e_bo_0 | exact e_bo_1 | exact e_bo_b _ | omega) only [e_cl_v, e_cl_x, e_add_0, e_add_s, Option.toList_some, Option.toList_none, List.cons_append, List.nil_append, iI_add, iI_sub, iI_mul, iI_lt, iI_eq, iI_le, r185_50, r185_51, r185_54, r185_55, r185_56, r185_59, r185_61, r185_62, r185_65, r185_68, r185_70, r185_72, r185_73, a1, a2, e1, if_true]
    simp (disch := first | assumption | exact e_nk_i _ | exact e_nk_n | exact e_nk_r _ | exact e_bo_0 | exact e_bo_1 | exact e_bo_b _ | omega) only [e_cl_v, e_cl_x, e_add_0, e_add_s, Option.toList_some, Option.toList_none, List.cons_append, List.nil_append, iI_add, iI_sub, iI_mul, iI_lt, iI_eq, iI_le, r185_76, r185_77, r185_80, r185_83, r185_84, r185_87, a3, if_true]
    simp (disch := first | assumption | exact e_nk_i _ | exact e_nk_n | exact e_nk_r _ | exact e_bo_0 | exact e_bo_1 | exact e_bo_b _ | omega) only [e_cl_v, e_cl_x, e_add_0, e_add_s, Option.toList_some, Option.toList_none, List.cons_append, List.nil_append, iI_add, iI_sub, iI_mul, iI_lt, iI_eq, iI_le, r185_129, r185_130, r185_133, r185_136, r185_137, r185_140, r185_143, r185_146, r185_147, r185_150, r185_153, r185_154, e2, e3, a4, bI_t, if_true, if_neg h10]
    rw [if_neg (by omega)]
    exact G_less (by repeat (first | exact e_ll.rf | refine e_ll_c ?_ | refine e_ll_x ?_)) hr9
  · have hK : imK K = mvK K (imX K).2.2.1 (imX K).2.2.2 := by unfold imK; rw [if_neg c1]
    have han : anIm K = edW K - (imX K).1 := by unfold anIm; rw [if_neg c1]
    rcases hox with ⟨y, -⟩ | ⟨y1, y2, y3, y4, y5, y6⟩
    · exact absurd y c1
    · generalize hA : (imX K).2.2.1 = A at *
      generalize hB : (imX K).2.2.2 = B at *
      generalize hE1 : (imX K).1 = E at *
      generalize hC : (imX K).2.1 = C at *
      have hvm : vR K (mvR (rwK K) A B) := mvR_v hv y1 y2
      have hmk : mvK K A B = rtS K (mvR (rwK K) A B) := rfl
      rw [hK, hmk] at ck1
      rw [han] at e1
      have hg2 := kG_rt H.g hvm
      have he : eqL K (rtS K (mvR (rwK K) A B)) := eqL_rt
      have hrow : ∀ p, 0 ≤ p → p < aW K → rwK (rtS K (mvR (rwK K) A B)) p = mvR (rwK K) A B p := fun p x y => rtS_row ha.2 x y
      have H1 : CL M1 (rtS K (mvR (rwK K) A B)) (svC c) (svS c S K) := H.ch ck1 (fun a x => g1 a (by omega)) hg2 he
      have hft2 : ft (rtS K (mvR (rwK K) A B)) = true := by rw [ft_rt H.g hvm]; exact y3
      have hed2 : edW (rtS K (mvR (rwK K) A B)) = E := by rw [edW_rt H.g hvm]; exact y4.symm
      have hct2 : ctW (rtS K (mvR (rwK K) A B)) (enO (rtS K (mvR (rwK K) A B)) (rwK (rtS K (mvR (rwK K) A B)))) = C := by
        rw [ct_cg H.g he hvm hrow]
        exact y5.symm
      have hErg : 0 ≤ E ∧ E ≤ 2001 := by rw [← hed2]; exact edW_rg hg2
      have hCrg : 0 ≤ C ∧ C ≤ 144072000 := by rw [y5]; exact ctW_rg hr (fun o u v => eo_rg hr hp hvm ha.1 ⟨u, v⟩)
      have a3 := x_end (L := L) (xs := xs) (d := d + 4) (V := V1) (W := W) H1.ck hg2
      have a4 := x_cost (L := L) (xs := xs) (d := d + 3) (V := V1) (W := W) H1.ck hg2
      rw [if_pos hft2, hed2] at a3
      rw [if_pos hft2, hct2] at a4
      obtain ⟨M2, e2, f2, -⟩ := l_isPlan (L := L) (xs := xs) (d := d) (V := V1) (W := W) H1
      have H2 := H1.of f2.l
      obtain ⟨M3, h3, g3, e3⟩ := back M2 _ H2 (fun z hz => (he z hz).symm)
      have a5 := x_checksum (L := L) (xs := xs) (d := d + 6) (V := V1) (W := W) h3.ck h3.g
      refine ⟨M3, V1, _, h3, fun a x y => by rw [g3 a (by omega), f2.1 a (by omega) (by omega) (by omega) (by omega) (by omega), g1 a (by omega)], fun r hr9 => ?_⟩
      have hne : ¬ (edW K - E = -1) := by omega
      have heq : E = edW K - (edW K - E) := by omega
      have tail : e_lim L xs (d + 8) 185 129 [some (.ref 184), some (.int (iI 1)), some (.int (iI (csW K))), none, none, none, none, none, none] [] (e_hp M1 V1 W) = some r := by
        simp (disch := first | assumption | exact e_nk_i _ | exact e_nk_n | exact e_nk_r _ | exact e_bo_0 | exact e_bo_1 | exact e_bo_b _ | omega) only [e_cl_v, e_cl_x, e_add_0, e_add_s, Option.toList_some, Option.toList_none, List.cons_append, List.nil_append, iI_add, iI_sub, iI_mul, iI_lt, iI_eq, iI_le, r185_129, r185_130, r185_133, r185_136, r185_137, r185_140, r185_143, r185_146, r185_147, r185_150, r185_153, r185_154, e2, e3, a5, bI_t, if_true, if_neg h10]
        rw [if_neg (by omega)]
        exact hr9
      simp (disch := first | assumption | exact e_nk_i _ | exact e_nk_n | exact e_nk_r _ | exact e_bo_0 | exact e_bo_1 | exact e_bo_b _ | omega) only [e_cl_v, e_cl_x, e_add_0, e_add_s, Option.toList_some, Option.toList_none, List.cons_append, List.nil_append, iI_add, iI_sub, iI_mul, iI_lt, iI_eq, iI_le, r185_50, r185_51, r185_54, r185_55, r185_56, r185_59, r185_61, r185_62, r185_65, r185_68, r185_70, r185_72, r185_73, a1, a2, e1, if_neg hne]
      simp (disch := first | assumption | exact e_nk_i _ | exact e_nk_n | exact e_nk_r _ | exact e_bo_0 | exact e_bo_1 | exact e_bo_b _ | omega) only [e_cl_v, e_cl_x, e_add_0, e_add_s, Option.toList_some, Option.toList_none, List.cons_append, List.nil_append, iI_add, iI_sub, iI_mul, iI_lt, iI_eq, iI_le, r185_90, r185_91, r185_94, r185_97, r185_98, r185_100, r185_101, r185_104, r185_106, r185_109, r185_111, a3, if_pos heq]
      rw [if_neg (by omega)]
      by_cases c2 : edW K - E = 0
      · rw [if_pos c2]
        have hlt : lg_cmp (lI C) (lI (ctW K (enO K (rwK K)))) = iI (-1) := by
          unfold lg_cmp
          have h9 : lI C < lI (ctW K (enO K (rwK K))) := (lI_lt (by omega) (by omega)).mpr (by omega)
          rw [if_neg (fun h8 : lI (ctW K (enO K (rwK K))) < lI C => by have := (lI_lt (by omega) (by omega)).mp h8; omega), if_neg (fun h8 => by rw [h8] at h9; have := (lI_lt (a := ctW K (enO K (rwK K))) (b := ctW K (enO K (rwK K))) (by omega) (by omega)).mp h9; omega)]
          rfl
        simp (disch := first | assumption | exact e_nk_i _ | exact e_nk_n | exact e_nk_r _ | exact e_bo_0 | exact e_bo_1 | exact e_bo_b _ | omega) only [e_cl_v, e_cl_x, e_add_0, e_add_s, Option.toList_some, Option.toList_none, List.cons_append, List.nil_append, iI_add, iI_sub, iI_mul, iI_lt, iI_eq, iI_le, r185_114, r185_115, r185_118, r185_121, r185_123, r185_124, a4, hlt]
        rw [if_pos (by omega)]
        exact G_less (by repeat (first | exact e_ll.rf | refine e_ll_c ?_ | refine e_ll_x ?_)) tail
      · rw [if_neg c2]
        exact G_less (by repeat (first | exact e_ll.rf | refine e_ll_c ?_ | refine e_ll_x ?_)) tail
end El34
