section E53
variable {L : Nat} {xs : Nat → Int32} {d : Nat} {M : e_MI} {V : e_ML} {W : e_MD} {K : e_St} {h : e_H} {ρ ω β ε : Int → Int} {k : Int}
theorem upd_upd (f : Nat → Int32) (k : Nat) (x z : Int32) : upd (upd f k x) k z = upd f k z := by
  funext j
  unfold upd
  by_cases hj : j = k
  · rw [if_pos hj, if_pos hj]
  · rw [if_neg hj, if_neg hj, if_neg hj]
theorem upd_s (f : Nat → Int32) (k : Nat) (x : Int32) : upd f k x k = x := by unfold upd; rw [if_pos rfl]
theorem upd_n (f : Nat → Int32) {k j : Nat} (x : Int32) (hj : j ≠ k) : upd f k x j = f j := by unfold upd; rw [if_neg hj]
theorem e_ll_c {l1 l2 : e_L} {o : Option Value} (h : e_ll l1 l2) : e_ll (o :: l1) (o :: l2) := by
  refine ⟨by simp [h.1], fun i v hv => ?_⟩
  cases i with
  | zero => exact hv
  | succ i => exact h.2 i v hv
theorem e_ll_x {l1 l2 : e_L} {o : Option Value} (h : e_ll l1 l2) : e_ll (none :: l1) (o :: l2) := by
  refine ⟨by simp [h.1], fun i v hv => ?_⟩
  cases i with
  | zero => simp at hv
  | succ i => exact h.2 i v hv
/-- the places that were timed last -/
def e_SC (M : e_MI) (ρ ω β ε : Int → Int) : Prop := e_ar (M 188) 16 ρ ∧ e_ar (M 189) 16 ω ∧ e_ar (M 190) 16 β ∧ e_ar (M 191) 16 ε ∧ rgO ρ ∧ rgW ω ∧ rgT β ∧ rgT ε
theorem sT_rg (hr : kR K) {m f t : Int} (h0 : 0 ≤ m ∧ m ≤ 3) (h1 : 0 ≤ f ∧ f ≤ 3) (h2 : 0 ≤ t ∧ t ≤ 3) : 0 ≤ sT K m f t ∧ sT K m f t ≤ 20 := by
  unfold sT
  split
  · omega
  · have := hr.se (i := 16 * m + 4 * f + t) (by omega) (by omega)
    rw [show 144 + (16 * m + 4 * f + t) = 144 + 16 * m + 4 * f + t by omega] at this
    exact this
theorem tk_rg (hr : kR K) {o w : Int} (h0 : 0 ≤ o ∧ o ≤ 7) (h1 : 0 ≤ w ∧ w ≤ 3) : 0 ≤ tk K o w ∧ tk K o w ≤ 81 := by
  have a := hr.am (o := o) h0.1 (by omega)
  have b := hr.tm (i := 4 * o + w) (by omega) (by omega)
  rw [show 80 + (4 * o + w) = 80 + 4 * o + w by omega] at b
  unfold tk
  constructor
  · exact Int.mul_nonneg a.1 b.1
  · have := Int.mul_le_mul a.2 b.2 b.1 (by omega)
    omega
theorem mm_pA (hK : e_KM M K) (hr : kR K) (hS : e_SC M ρ ω β ε) (hk : 0 ≤ k ∧ k < 16) {l3 l4 l5 l6 l7 : Option Value} (n3 : e_nk l3 = true) (n4 : e_nk l4 = true) : e_lim L xs (d + 1) 218 51 [some (.ref 184), some (.int (iI k)), some (.int (iI (ρ k))), l3, l4, l5, l6, l7] [] (e_hp M V W) = e_lim L xs (d + 1) 218 93 [some (.ref 184), some (.int (iI k)), some (.int (iI (ρ k))), some (.int (iI (if oAh ρ k ≠ -1 ∧ K (16 + ρ k) < ε (oAh ρ k) then ε (oAh ρ k) else K (16 + ρ k)))), some (.int (iI (oAh ρ k))), l5, l6, l7] [] (e_hp M V W) := by
  obtain ⟨h1, h2, h3, h4, g1, g2, g3, g4⟩ := hS
  have q1 := g1 k hk.1 hk.2
  have q2 := hr.re (o := ρ k) q1.1 (by omega)
  have e1 := hK (16 + ρ k) (by omega) (by omega)
  have e2 := mm_orderAhead (L := L) (xs := xs) (d := d) (V := V) (W := W) h1 g1 hk
  rcases zLP_cases (fun p => decide (ρ p = ρ k)) k hk.1 with ⟨a, b⟩ | ⟨a, b, c, e⟩
  · have hq : oAh ρ k = -1 := a
    rw [hq] at e2 ⊢
    simp (disch := first | assumption | exact e_nk_i _ | exact e_nk_n | exact e_nk_r _ | exact e_bo_0 | exact e_bo_1 | exact e_bo_b _ | omega) only [e_cl_v, e_cl_x, e_add_0, e_add_s, Option.toList_some, Option.toList_none, List.cons_append, List.nil_append, iI_add, iI_sub, iI_mul, iI_lt, iI_eq, iI_le, r218_51, r218_52, r218_55, r218_57, r218_58, r218_59, r218_60, r218_61, r218_62, r218_63, r218_66, r218_68, r218_70, r218_71, r218_74, r218_75, r218_78, r218_80, r218_81, r218_82, r218_85, r218_86, r218_89, r218_91, r218_92, iI_vin, iI_nat, if_true, e1, e2, if_neg]
  · have hq : 0 ≤ oAh ρ k := a
    have hq2 : oAh ρ k < k := b
    have q3 := g4 (oAh ρ k) (by omega) (by omega)
    have e3 := h4 (oAh ρ k) (by omega) (by omega)
    simp (disch := first | assumption | exact e_nk_i _ | exact e_nk_n | exact e_nk_r _ | exact e_bo_0 | exact e_bo_1 | exact e_bo_b _ | omega) only [e_cl_v, e_cl_x, e_add_0, e_add_s, Option.toList_some, Option.toList_none, List.cons_append, List.nil_append, iI_add, iI_sub, iI_mul, iI_lt, iI_eq, iI_le, r218_51, r218_52, r218_55, r218_57, r218_58, r218_59, r218_60, r218_61, r218_62, r218_63, r218_66, r218_68, r218_70, r218_71, r218_74, r218_75, r218_78, r218_80, r218_81, r218_82, r218_85, r218_86, r218_89, r218_91, r218_92, iI_vin, iI_nat, if_true, e1, e2, e3]
    rw [if_neg (by omega)]
    by_cases z : K (16 + ρ k) < ε (oAh ρ k)
    · rw [if_pos z, if_pos (by omega)]
    · rw [if_neg z, if_neg (by omega)]
theorem mm_pB (hK : e_KM M K) (hr : kR K) (hS : e_SC M ρ ω β ε) (hk : 0 ≤ k ∧ k < 16) {b : Int} (hb : 0 ≤ b ∧ b < 3000) {l4 l5 l6 l7 : Option Value} (n4 : e_nk l4 = true) (n5 : e_nk l5 = true) : e_lim L xs (d + 2) 218 93 [some (.ref 184), some (.int (iI k)), some (.int (iI (ρ k))), some (.int (iI b)), l4, l5, l6, l7] [] (e_hp M V W) = e_lim L xs (d + 2) 218 160 [some (.ref 184), some (.int (iI k)), some (.int (iI (ρ k))), some (.int (iI (if b < (if mAh K ρ ω k = -1 then 0 else ε (mAh K ρ ω k) + sT K (mcA K ρ ω k) (K (ρ (mAh K ρ ω k))) (K (ρ k))) then (if mAh K ρ ω k = -1 then 0 else ε (mAh K ρ ω k) + sT K (mcA K ρ ω k) (K (ρ (mAh K ρ ω k))) (K (ρ k))) else b))), some (.int (iI (mAh K ρ ω k))), some (.int (iI (if mAh K ρ ω k = -1 then 0 else ε (mAh K ρ ω k) + sT K (mcA K ρ ω k) (K (ρ (mAh K ρ ω k))) (K (ρ k))))), l6, l7] [] (e_hp M V W) := by
  obtain ⟨h1, h2, h3, h4, g1, g2, g3, g4⟩ := hS
  have q1 := g1 k hk.1 hk.2
  have q2 := mcA_rg hr g1 g2 hk
  have q5 := hr.kd (o := ρ k) q1.1 (by omega)
  have e1 := mm_machineAt (L := L) (xs := xs) (d := d + 1) (V := V) (W := W) hK h1 h2 g1 g2 hk
  have e2 := mm_machineAhead (L := L) (xs := xs) (d := d) (V := V) (W := W) hK hr h1 h2 g1 g2 hk
  have e5 := hK (ρ k) (by omega) (by omega)
  rcases zLP_cases (fun p => decide (mcA K ρ ω p = mcA K ρ ω k)) k hk.1 with ⟨a, b1⟩ | ⟨a, b1, c, e⟩
  · have hq : mAh K ρ ω k = -1 := a
    rw [hq] at e2 ⊢
    simp (disch := first | assumption | exact e_nk_i _ | exact e_nk_n | exact e_nk_r _ | exact e_bo_0 | exact e_bo_1 | exact e_bo_b _ | omega) only [e_cl_v, e_cl_x, e_add_0, e_add_s, Option.toList_some, Option.toList_none, List.cons_append, List.nil_append, iI_add, iI_sub, iI_mul, iI_lt, iI_eq, iI_le, r218_93, r218_94, r218_95, r218_98, r218_100, r218_102, r218_103, r218_106, r218_107, r218_110, r218_111, r218_114, r218_116, r218_117, r218_118, r218_119, r218_120, r218_123, r218_124, r218_127, r218_128, r218_129, r218_132, r218_134, r218_135, r218_136, r218_137, r218_138, r218_141, r218_142, r218_143, r218_144, r218_145, r218_148, r218_149, r218_151, r218_153, r218_154, r218_157, r218_159, iI_vin, iI_nat, if_true, e1, e2, if_neg]
  · have hq : 0 ≤ mAh K ρ ω k := a
    have hq2 : mAh K ρ ω k < k := b1
    have q3 := g4 (mAh K ρ ω k) (by omega) (by omega)
    have e3 := h4 (mAh K ρ ω k) (by omega) (by omega)
    have q6 := g1 (mAh K ρ ω k) (by omega) (by omega)
    have e6 := h1 (mAh K ρ ω k) (by omega) (by omega)
    have q7 := hr.kd (o := ρ (mAh K ρ ω k)) q6.1 (by omega)
    have e7 := hK (ρ (mAh K ρ ω k)) (by omega) (by omega)
    have e8 := mm_settingOf (L := L) (xs := xs) (d := d + 1) (V := V) (W := W) hK (m := mcA K ρ ω k) (f := K (ρ (mAh K ρ ω k))) (t := K (ρ k)) (by omega) (by omega) (by omega)
    have q8 := sT_rg hr (m := mcA K ρ ω k) (f := K (ρ (mAh K ρ ω k))) (t := K (ρ k)) (by omega) (by omega) (by omega)
    have hne : ¬ mAh K ρ ω k = -1 := by omega
    simp only [if_neg hne]
    simp (disch := first | assumption | exact e_nk_i _ | exact e_nk_n | exact e_nk_r _ | exact e_bo_0 | exact e_bo_1 | exact e_bo_b _ | omega) only [e_cl_v, e_cl_x, e_add_0, e_add_s, Option.toList_some, Option.toList_none, List.cons_append, List.nil_append, iI_add, iI_sub, iI_mul, iI_lt, iI_eq, iI_le, r218_93, r218_94, r218_95, r218_98, r218_100, r218_102, r218_103, r218_106, r218_107, r218_110, r218_111, r218_114, r218_116, r218_117, r218_118, r218_119, r218_120, r218_123, r218_124, r218_127, r218_128, r218_129, r218_132, r218_134, r218_135, r218_136, r218_137, r218_138, r218_141, r218_142, r218_143, r218_144, r218_145, r218_148, r218_149, r218_151, r218_153, r218_154, r218_157, r218_159, iI_vin, iI_nat, if_true, Int.zero_add, e1, e2, e3, e5, e6, e7, e8, if_neg hne]
    split
    · rfl
    · rfl
theorem mm_pC (hK : e_KM M K) (hr : kR K) (hS : e_SC M ρ ω β ε) (hk : 0 ≤ k ∧ k < 16) {b : Int} (hb : 0 ≤ b ∧ b < 3000) {l4 l5 l6 l7 : Option Value} (n4 : e_nk l4 = true) : e_lim L xs (d + 2) 218 160 [some (.ref 184), some (.int (iI k)), some (.int (iI (ρ k))), some (.int (iI b)), l4, l5, l6, l7] [] (e_hp M V W) = e_lim L xs (d + 2) 218 192 [some (.ref 184), some (.int (iI k)), some (.int (iI (ρ k))), some (.int (iI (if tAh K ρ ω k ≠ -1 ∧ b < ε (tAh K ρ ω k) then ε (tAh K ρ ω k) else b))), some (.int (iI (tAh K ρ ω k))), l5, l6, l7] [] (e_hp M V W) := by
  obtain ⟨h1, h2, h3, h4, g1, g2, g3, g4⟩ := hS
  have e2 := mm_toolAhead (L := L) (xs := xs) (d := d) (V := V) (W := W) hK hr h1 h2 g1 g2 hk
  have cs : tAh K ρ ω k = -1 ∨ (0 ≤ tAh K ρ ω k ∧ tAh K ρ ω k < k) := by
    unfold tAh
    split
    · exact Or.inl rfl
    · rcases zLP_cases (fun p => decide (tlA K ρ ω p = tlA K ρ ω k)) k hk.1 with ⟨a, b⟩ | ⟨a, b, c, e⟩
      · exact Or.inl a
      · exact Or.inr ⟨a, b⟩
  rcases cs with hq | ⟨hq, hq2⟩
  · rw [hq] at e2 ⊢
    simp (disch := first | assumption | exact e_nk_i _ | exact e_nk_n | exact e_nk_r _ | exact e_bo_0 | exact e_bo_1 | exact e_bo_b _ | omega) only [e_cl_v, e_cl_x, e_add_0, e_add_s, Option.toList_some, Option.toList_none, List.cons_append, List.nil_append, iI_add, iI_sub, iI_mul, iI_lt, iI_eq, iI_le, r218_160, r218_161, r218_162, r218_165, r218_167, r218_169, r218_170, r218_173, r218_174, r218_177, r218_179, r218_180, r218_181, r218_184, r218_185, r218_188, r218_190, r218_191, iI_vin, iI_nat, if_true, e2]
    rw [if_neg (by omega)]
  · have q3 := g4 (tAh K ρ ω k) (by omega) (by omega)
    have e3 := h4 (tAh K ρ ω k) (by omega) (by omega)
    simp (disch := first | assumption | exact e_nk_i _ | exact e_nk_n | exact e_nk_r _ | exact e_bo_0 | exact e_bo_1 | exact e_bo_b _ | omega) only [e_cl_v, e_cl_x, e_add_0, e_add_s, Option.toList_some, Option.toList_none, List.cons_append, List.nil_append, iI_add, iI_sub, iI_mul, iI_lt, iI_eq, iI_le, r218_160, r218_161, r218_162, r218_165, r218_167, r218_169, r218_170, r218_173, r218_174, r218_177, r218_179, r218_180, r218_181, r218_184, r218_185, r218_188, r218_190, r218_191, iI_vin, iI_nat, if_true, e2, e3]
    rw [if_neg (by omega)]
    by_cases z : b < ε (tAh K ρ ω k)
    · rw [if_pos z, if_pos (by omega)]
    · rw [if_neg z, if_neg (by omega)]
theorem mm_pD (hK : e_KM M K) (hr : kR K) (hS : e_SC M ρ ω β ε) (hk : 0 ≤ k ∧ k < 16) {T : Int} (hT : 0 ≤ T ∧ T ≤ 81) (r : Int → e_R) (hr1 : ∀ b : Int, r b = if b = 2001 then (.inl (some (.int (iI 0))), e_hp (e_u (e_u M 190 (upd (M 190) k.toNat (iI 2001))) 191 (upd (M 191) k.toNat (iI 2001))) V W, 0, 0) else (.inl (some (.int (iI 1))), e_hp (e_u (e_u M 190 (upd (M 190) k.toNat (iI b))) 191 (upd (M 191) k.toNat (iI (b + T)))) V W, 0, 0)) : ∀ (n : Nat) (low : Int), 0 ≤ low → low < 3000 → (2001 - low).toNat ≤ n → e_lim L xs (d + 3) 218 205 [some (.ref 184), some (.int (iI k)), none, some (.int (iI low)), none, none, some (.int (iI T)), none] [] (e_hp M V W) = some (r (zFF (blB K β ε k (mcA K ρ ω k)) T low))
  | n, low, hl, hl2, hn => by
    obtain ⟨h1, h2, h3, h4, g1, g2, g3, g4⟩ := hS
    rw [r218_205]
    by_cases hz : 2000 < low + T
    · simp (disch := first | assumption | exact e_nk_i _ | exact e_nk_n | exact e_nk_r _ | exact e_bo_0 | exact e_bo_1 | exact e_bo_b _ | omega) only [e_cl_v, e_cl_x, e_add_0, e_add_s, Option.toList_some, Option.toList_none, List.cons_append, List.nil_append, iI_add, iI_sub, iI_mul, iI_lt, iI_eq, iI_le, r218_206, r218_208, r218_209, r218_212, r218_215, r218_216, r218_217, r218_218, r218_220, r218_223, r218_225, r218_227, r218_228, r218_231, r218_232, r218_235, r218_236, r218_237, r218_238, r218_239, r218_242, r218_243, r218_244, r218_246, r218_247, r218_248, r218_249, r218_250, r218_252, r218_253, r218_254, r218_255, r218_258, r218_259, r218_262, r218_263, r218_266, r218_267, r218_268, r218_271, r218_272, r218_275, r218_276, r218_277, iI_vin, iI_nat, if_true]
      rw [if_pos (by omega), zFF_big hT.1 hl hz, hr1, if_pos rfl]
      simp (disch := first | assumption | exact e_nk_i _ | exact e_nk_n | exact e_nk_r _ | exact e_bo_0 | exact e_bo_1 | exact e_bo_b _ | omega) only [e_cl_v, e_cl_x, e_add_0, e_add_s, Option.toList_some, Option.toList_none, List.cons_append, List.nil_append, iI_add, iI_sub, iI_mul, iI_lt, iI_eq, iI_le, e_u_n]
    · have e1 := mm_hindered (L := L) (xs := xs) (d := d) (V := V) (W := W) hK hr h1 h2 h3 h4 g1 g2 g3 g4 hk (lo := low) (tm := T) hl hT.1 (by omega)
      have hlb := lB_cases (blB K β ε k (mcA K ρ ω k)) low T hT.1 hl
      rw [show (d + 3 : Nat) = (d + 2) + 1 from rfl]
      by_cases hq : lB (blB K β ε k (mcA K ρ ω k)) low T = -1
      · rw [hq] at e1
        simp (disch := first | assumption | exact e_nk_i _ | exact e_nk_n | exact e_nk_r _ | exact e_bo_0 | exact e_bo_1 | exact e_bo_b _ | omega) only [e_cl_v, e_cl_x, e_add_0, e_add_s, Option.toList_some, Option.toList_none, List.cons_append, List.nil_append, iI_add, iI_sub, iI_mul, iI_lt, iI_eq, iI_le, r218_206, r218_208, r218_209, r218_212, r218_215, r218_216, r218_217, r218_218, r218_220, r218_223, r218_225, r218_227, r218_228, r218_231, r218_232, r218_235, r218_236, r218_237, r218_238, r218_239, r218_242, r218_243, r218_244, r218_246, r218_247, r218_248, r218_249, iI_vin, iI_nat, if_true, e1]
        rw [if_neg (by omega), zFF_fit hT.1 hl (by omega) hq, hr1, if_neg (by omega)]
        simp (disch := first | assumption | exact e_nk_i _ | exact e_nk_n | exact e_nk_r _ | exact e_bo_0 | exact e_bo_1 | exact e_bo_b _ | omega) only [e_cl_v, e_cl_x, e_add_0, e_add_s, Option.toList_some, Option.toList_none, List.cons_append, List.nil_append, iI_add, iI_sub, iI_mul, iI_lt, iI_eq, iI_le, e_u_n]
      · rcases hlb with ⟨a, b⟩ | ⟨a, b, c, e⟩
        · exact absurd a hq
        · match n, hn with
          | 0, hn => omega
          | n + 1, hn =>
            have ih := mm_pD hK hr ⟨h1, h2, h3, h4, g1, g2, g3, g4⟩ hk hT r hr1 n (lB (blB K β ε k (mcA K ρ ω k)) low T + 1) (by omega) (by omega) (by omega)
            rw [← zFF_jump hl a b c] at ih
            simp (disch := first | assumption | exact e_nk_i _ | exact e_nk_n | exact e_nk_r _ | exact e_bo_0 | exact e_bo_1 | exact e_bo_b _ | omega) only [e_cl_v, e_cl_x, e_add_0, e_add_s, Option.toList_some, Option.toList_none, List.cons_append, List.nil_append, iI_add, iI_sub, iI_mul, iI_lt, iI_eq, iI_le, r218_206, r218_208, r218_209, r218_212, r218_215, r218_216, r218_217, r218_218, r218_220, r218_223, r218_225, r218_227, r218_228, r218_250, r218_252, r218_253, r218_254, r218_255, iI_vin, iI_nat, if_true, e1]
            rw [if_neg (by omega), if_neg hq]
            exact G_less (l2 := [some (.ref 184), some (.int (iI k)), none, some (.int (iI (lB (blB K β ε k (mcA K ρ ω k)) low T + 1))), none, none, some (.int (iI T)), none]) (by repeat (first | exact e_ll.rf | refine e_ll_c ?_ | refine e_ll_x ?_)) ih
def loA (K : e_St) (ρ ε : Int → Int) (k : Int) : Int := if oAh ρ k ≠ -1 ∧ K (16 + ρ k) < ε (oAh ρ k) then ε (oAh ρ k) else K (16 + ρ k)
def loS (K : e_St) (ρ ω ε : Int → Int) (k : Int) : Int := if mAh K ρ ω k = -1 then 0 else ε (mAh K ρ ω k) + sT K (mcA K ρ ω k) (K (ρ (mAh K ρ ω k))) (K (ρ k))
def loB (K : e_St) (ρ ω ε : Int → Int) (k : Int) : Int := if loA K ρ ε k < loS K ρ ω ε k then loS K ρ ω ε k else loA K ρ ε k
theorem loW_eq (K : e_St) (ρ ω ε : Int → Int) (k : Int) : loW K ρ ω ε k = if tAh K ρ ω k ≠ -1 ∧ loB K ρ ω ε k < ε (tAh K ρ ω k) then ε (tAh K ρ ω k) else loB K ρ ω ε k := rfl
theorem lo_rg (hr : kR K) (hS : e_SC M ρ ω β ε) (hk : 0 ≤ k ∧ k < 16) : (0 ≤ loA K ρ ε k ∧ loA K ρ ε k < 2500) ∧ (0 ≤ loB K ρ ω ε k ∧ loB K ρ ω ε k < 2500) ∧ (0 ≤ loW K ρ ω ε k ∧ loW K ρ ω ε k < 2500) := by
  obtain ⟨h1, h2, h3, h4, g1, g2, g3, g4⟩ := hS
  have q1 := g1 k hk.1 hk.2
  have q2 := hr.re (o := ρ k) q1.1 (by omega)
  have q3 := mcA_rg hr g1 g2 hk
  have q5 := hr.kd (o := ρ k) q1.1 (by omega)
  have c1 : oAh ρ k = -1 ∨ (0 ≤ ε (oAh ρ k) ∧ ε (oAh ρ k) ≤ 2001) := by
    rcases zLP_cases (fun p => decide (ρ p = ρ k)) k hk.1 with ⟨a, b⟩ | ⟨a, b, c, e⟩
    · exact Or.inl a
    · have a1 : 0 ≤ oAh ρ k := a
      have a2 : oAh ρ k < k := b
      exact Or.inr (g4 _ a1 (by omega))
  have c2 : tAh K ρ ω k = -1 ∨ (0 ≤ ε (tAh K ρ ω k) ∧ ε (tAh K ρ ω k) ≤ 2001) := by
    unfold tAh
    split
    · exact Or.inl rfl
    · rcases zLP_cases (fun p => decide (tlA K ρ ω p = tlA K ρ ω k)) k hk.1 with ⟨a, b⟩ | ⟨a, b, c, e⟩
      · exact Or.inl a
      · exact Or.inr (g4 _ a (by omega))
  have c3 : mAh K ρ ω k = -1 ∨ ((0 ≤ ε (mAh K ρ ω k) ∧ ε (mAh K ρ ω k) ≤ 2001) ∧ 0 ≤ sT K (mcA K ρ ω k) (K (ρ (mAh K ρ ω k))) (K (ρ k)) ∧ sT K (mcA K ρ ω k) (K (ρ (mAh K ρ ω k))) (K (ρ k)) ≤ 20) := by
    rcases zLP_cases (fun p => decide (mcA K ρ ω p = mcA K ρ ω k)) k hk.1 with ⟨a, b⟩ | ⟨a, b, c, e⟩
    · exact Or.inl a
    · have a1 : 0 ≤ mAh K ρ ω k := a
      have a2 : mAh K ρ ω k < k := b
      have q6 := g1 (mAh K ρ ω k) (by omega) (by omega)
      have q7 := hr.kd (o := ρ (mAh K ρ ω k)) q6.1 (by omega)
      exact Or.inr ⟨g4 _ a1 (by omega), sT_rg hr (by omega) (by omega) (by omega)⟩
  have r1 : 0 ≤ loA K ρ ε k ∧ loA K ρ ε k < 2500 := by
    unfold loA
    split <;> omega
  have r2 : 0 ≤ loS K ρ ω ε k ∧ loS K ρ ω ε k < 2500 := by
    unfold loS
    split <;> omega
  have r3 : 0 ≤ loB K ρ ω ε k ∧ loB K ρ ω ε k < 2500 := by
    unfold loB
    split <;> omega
  refine ⟨r1, r3, ?_⟩
  rw [loW_eq]
  split <;> omega
/-- where the work at place k ends -/
def enW (K : e_St) (ρ ω β ε : Int → Int) (k : Int) : Int := if bgW K ρ ω β ε k = 2001 then 2001 else bgW K ρ ω β ε k + tk K (ρ k) (ω k)
theorem mm_putsB (hK : e_KM M K) (hr : kR K) (hS : e_SC M ρ ω β ε) (hk : 0 ≤ k ∧ k < 16) {l3 l4 l5 l6 l7 : Option Value} (n3 : e_nk l3 = true) (n4 : e_nk l4 = true) (n5 : e_nk l5 = true) (n6 : e_nk l6 = true) : e_lim L xs (d + 3) 218 51 [some (.ref 184), some (.int (iI k)), some (.int (iI (ρ k))), l3, l4, l5, l6, l7] [] (e_hp M V W) = some (.inl (some (.int (bI (decide (bgW K ρ ω β ε k ≠ 2001))))), e_hp (e_u (e_u M 190 (upd (M 190) k.toNat (iI (bgW K ρ ω β ε k)))) 191 (upd (M 191) k.toNat (iI (enW K ρ ω β ε k)))) V W, 0, 0) := by
  have g1 := hS.2.2.2.2.1 k hk.1 hk.2
  have g2 := hS.2.2.2.2.2.1 k hk.1 hk.2
  have g4 := hS.2.2.2.2.2.2.2
  have hl := lo_rg hr hS hk
  have hT := tk_rg hr (o := ρ k) (w := ω k) g1 g2
  have e2 := hS.2.1 k hk.1 hk.2
  have q2 := hr.re (o := ρ k) g1.1 (by omega)
  rw [show (d + 3 : Nat) = (d + 2) + 1 from rfl, mm_pA hK hr hS hk n3 n4]
  have eB := mm_pB (L := L) (xs := xs) (d := d + 1) (V := V) (W := W) hK hr hS hk (b := loA K ρ ε k) (by omega) (l4 := some (.int (iI (oAh ρ k)))) (l5 := l5) (l6 := l6) (l7 := l7) (e_nk_i _) n5
  have eC := mm_pC (L := L) (xs := xs) (d := d + 1) (V := V) (W := W) hK hr hS hk (b := loB K ρ ω ε k) (by omega) (l4 := some (.int (iI (mAh K ρ ω k)))) (l5 := some (.int (iI (loS K ρ ω ε k)))) (l6 := l6) (l7 := l7) (e_nk_i _)
  refine eB.trans (eC.trans ?_)
  rw [← loW_eq]
  have e3 := mm_takes (L := L) (xs := xs) (d := d + 2) (V := V) (W := W) hK (o := ρ k) (w := ω k) g1.1 (by omega) g2.1 (by omega)
  rw [show d + 1 + 2 = (d + 2) + 1 from rfl]
  simp (disch := first | assumption | exact e_nk_i _ | exact e_nk_n | exact e_nk_r _ | exact e_bo_0 | exact e_bo_1 | exact e_bo_b _ | omega) only [e_cl_v, e_cl_x, e_add_0, e_add_s, Option.toList_some, Option.toList_none, List.cons_append, List.nil_append, iI_add, iI_sub, iI_mul, iI_lt, iI_eq, iI_le, r218_192, r218_193, r218_194, r218_195, r218_198, r218_199, r218_200, r218_203, iI_vin, iI_nat, if_true, e2, e3]
  refine G_less (l2 := [some (.ref 184), some (.int (iI k)), none, some (.int (iI (loW K ρ ω ε k))), none, none, some (.int (iI (tk K (ρ k) (ω k)))), none]) (by repeat (first | exact e_ll.rf | refine e_ll_c ?_ | refine e_ll_x ?_)) ?_
  have := mm_pD (L := L) (xs := xs) (d := d) (V := V) (W := W) hK hr hS hk (T := tk K (ρ k) (ω k)) hT (fun b => if b = 2001 then (.inl (some (.int (iI 0))), e_hp (e_u (e_u M 190 (upd (M 190) k.toNat (iI 2001))) 191 (upd (M 191) k.toNat (iI 2001))) V W, 0, 0) else (.inl (some (.int (iI 1))), e_hp (e_u (e_u M 190 (upd (M 190) k.toNat (iI b))) 191 (upd (M 191) k.toNat (iI (b + tk K (ρ k) (ω k))))) V W, 0, 0)) (fun b => rfl) (2001 - loW K ρ ω ε k).toNat (loW K ρ ω ε k) (by omega) (by omega) (by omega)
  rw [show (d + 2 + 1 : Nat) = d + 3 from rfl, this]
  unfold enW
  have hb : zFF (blB K β ε k (mcA K ρ ω k)) (tk K (ρ k) (ω k)) (loW K ρ ω ε k) = bgW K ρ ω β ε k := rfl
  rw [hb]
  by_cases hz : bgW K ρ ω β ε k = 2001
  · rw [if_pos hz, if_pos hz, hz]
    rfl
  · rw [if_neg hz, if_neg hz, decide_eq_true hz]
    rfl
theorem bg_rg (hr : kR K) (hS : e_SC M ρ ω β ε) (hk : 0 ≤ k ∧ k < 16) : (0 ≤ bgW K ρ ω β ε k ∧ bgW K ρ ω β ε k ≤ 2001) ∧ (0 ≤ enW K ρ ω β ε k ∧ enW K ρ ω β ε k ≤ 2001) := by
  have hl := lo_rg hr hS hk
  have hT := tk_rg hr (o := ρ k) (w := ω k) (hS.2.2.2.2.1 k hk.1 hk.2) (hS.2.2.2.2.2.1 k hk.1 hk.2)
  have := zFF_spec (p := blB K β ε k (mcA K ρ ω k)) (time := tk K (ρ k) (ω k)) hT.1 (2001 - loW K ρ ω ε k).toNat (loW K ρ ω ε k) (by omega) (by omega)
  have hb : zFF (blB K β ε k (mcA K ρ ω k)) (tk K (ρ k) (ω k)) (loW K ρ ω ε k) = bgW K ρ ω β ε k := rfl
  rw [hb] at this
  unfold enW
  rcases this with ⟨a, b⟩ | ⟨a, b, c, e⟩
  · rw [if_pos a]
    omega
  · split <;> omega
/-- an order comes to place k: what is in the rows then -/
def puW (ρ ω : Int → Int) (k o : Int) : Int → Int := uI ω k (cnt ρ o k)
def puB (K : e_St) (ρ ω β ε : Int → Int) (k o : Int) : Int → Int := uI β k (bgW K (uI ρ k o) (puW ρ ω k o) β ε k)
def puE (K : e_St) (ρ ω β ε : Int → Int) (k o : Int) : Int → Int := uI ε k (enW K (uI ρ k o) (puW ρ ω k o) β ε k)
theorem rgO.up (h : rgO ρ) {z v : Int} (hv : 0 ≤ v ∧ v ≤ 7) : rgO (uI ρ z v) := by
  intro p a b
  unfold uI
  split
  · exact hv
  · exact h p a b
theorem rgW.up (h : rgW ω) {z v : Int} (hv : 0 ≤ v ∧ v ≤ 3) : rgW (uI ω z v) := by
  intro p a b
  unfold uI
  split
  · exact hv
  · exact h p a b
theorem rgT.up (h : rgT β) {z v : Int} (hv : 0 ≤ v ∧ v ≤ 2001) : rgT (uI β z v) := by
  intro p a b
  unfold uI
  split
  · exact hv
  · exact h p a b
theorem mm_puts (hK : e_KM M K) (hr : kR K) (hS : e_SC M ρ ω β ε) (hk : 0 ≤ k ∧ k < 16) {o : Int} (ho : 0 ≤ o ∧ o ≤ 7) (hc : cnt ρ o k ≤ 3) : ∃ M2 : e_MI, e_lim L xs (d + 3) 218 0 [some (.ref 184), some (.int (iI k)), some (.int (iI o)), none, none, none, none, none] [] (e_hp M V W) = some (.inl (some (.int (bI (decide (puB K ρ ω β ε k o k ≠ 2001))))), e_hp M2 V W, 0, 0) ∧ e_SC M2 (uI ρ k o) (puW ρ ω k o) (puB K ρ ω β ε k o) (puE K ρ ω β ε k o) ∧ ∀ a, a ≠ 188 → a ≠ 189 → a ≠ 190 → a ≠ 191 → M2 a = M a := by
  obtain ⟨h1, h2, h3, h4, g1, g2, g3, g4⟩ := hS
  have hc0 := cnt_rg ρ o hk.1
  obtain ⟨M1, hM1⟩ : ∃ M1 : e_MI, M1 = e_u (e_u M 188 (upd (M 188) k.toNat (iI o))) 189 (upd (M 189) k.toNat (iI (cnt ρ o k))) := ⟨_, rfl⟩
  have m1 : ∀ a, a ≠ 188 → a ≠ 189 → M1 a = M a := fun a x z => by rw [hM1, e_u_n _ _ z, e_u_n _ _ x]
  have hS1 : e_SC M1 (uI ρ k o) (puW ρ ω k o) β ε := by
    refine ⟨?_, ?_, ?_, ?_, g1.up ho, g2.up (by omega), g3, g4⟩
    · rw [hM1, e_u_n _ _ (by decide), e_u_s]
      exact h1.up hk.1
    · rw [hM1, e_u_s]
      exact h2.up hk.1
    · rw [m1 _ (by decide) (by decide)]
      exact h3
    · rw [m1 _ (by decide) (by decide)]
      exact h4
  have hK1 : e_KM M1 K := by
    unfold e_KM
    rw [m1 _ (by decide) (by decide)]
    exact hK
  have hbr := bg_rg hr hS1 hk
  have he := mm_putsB (L := L) (xs := xs) (d := d) (V := V) (W := W) hK1 hr hS1 hk (l3 := some (.int (iI k))) (l4 := none) (l5 := none) (l6 := none) (l7 := none) (e_nk_i _) e_nk_n e_nk_n e_nk_n
  refine ⟨e_u (e_u M1 190 (upd (M1 190) k.toNat (iI (bgW K (uI ρ k o) (puW ρ ω k o) β ε k)))) 191 (upd (M1 191) k.toNat (iI (enW K (uI ρ k o) (puW ρ ω k o) β ε k))), ?_, ⟨?_, ?_, ?_, ?_, g1.up ho, g2.up (by omega), g3.up hbr.1, g4.up hbr.2⟩, ?_⟩
  · have hpb : puB K ρ ω β ε k o k = bgW K (uI ρ k o) (puW ρ ω k o) β ε k := uI_s _ _ _
    rw [hpb, ← he, uI_s, hM1]
    simp (disch := first | assumption | exact e_nk_i _ | exact e_nk_n | exact e_nk_r _ | exact e_bo_0 | exact e_bo_1 | exact e_bo_b _ | omega) only [e_cl_v, e_cl_x, e_add_0, e_add_s, Option.toList_some, Option.toList_none, List.cons_append, List.nil_append, iI_add, iI_sub, iI_mul, iI_lt, iI_eq, iI_le, r218_0, r218_1, r218_4, r218_5, r218_6, r218_7, r218_8, r218_11, r218_12, r218_13, r218_14, r218_15, iI_vin, iI_nat, if_true, e_u_n]
    have hr16 : ∃ r, e_lim L xs (d + 3) 218 51 [some (.ref 184), some (.int (iI k)), some (.int (iI o)), some (.int (iI k)), none, none, none, none] [] (e_hp M1 V W) = some r := by
      rw [uI_s] at he
      exact ⟨_, he⟩
    obtain ⟨r, hr16⟩ := hr16
    rw [hM1] at hr16
    rw [hr16]
    refine G_loopI (C := fun i => e_lim L xs (d + 3) 218 16 [some (.ref 184), some (.int (iI k)), some (.int (iI o)), some (.int (iI i)), none, none, none, none] [] (e_hp (e_u (e_u M 188 (upd (M 188) k.toNat (iI o))) 189 (upd (M 189) k.toNat (iI (cnt ρ o i)))) V W)) (i := 0) hk.1 (fun j a b hc => ?_) ?_
    · have q1 := g1 j a (by omega)
      have e1 := h1 j a (by omega)
      have q2 := cnt_rg ρ o a
      have hs := cnt_s ρ o a
      rw [hs] at hc
      rw [r218_16]
      simp (disch := first | assumption | exact e_nk_i _ | exact e_nk_n | exact e_nk_r _ | exact e_bo_0 | exact e_bo_1 | exact e_bo_b _ | omega) only [e_cl_v, e_cl_x, e_add_0, e_add_s, Option.toList_some, Option.toList_none, List.cons_append, List.nil_append, iI_add, iI_sub, iI_mul, iI_lt, iI_eq, iI_le, r218_17, r218_18, r218_21, r218_22, r218_25, r218_26, r218_27, r218_28, r218_29, r218_32, r218_33, r218_34, r218_35, r218_38, r218_39, r218_42, r218_43, r218_44, r218_45, r218_48, iI_vin, iI_nat, if_true, e_u_n, e_u_s, upd_s, upd_n, upd_upd, e_u_u, e1]
      rw [if_pos b]
      by_cases hq : ρ j = o
      · rw [if_pos hq] at hc ⊢
        exact hc
      · rw [if_neg hq] at hc ⊢
        exact hc
    · rw [r218_16]
      simp (disch := first | assumption | exact e_nk_i _ | exact e_nk_n | exact e_nk_r _ | exact e_bo_0 | exact e_bo_1 | exact e_bo_b _ | omega) only [e_cl_v, e_cl_x, e_add_0, e_add_s, Option.toList_some, Option.toList_none, List.cons_append, List.nil_append, iI_add, iI_sub, iI_mul, iI_lt, iI_eq, iI_le, r218_17, r218_18]
      rw [if_neg (by omega)]
      exact hr16
  · rw [e_u_n _ _ (by decide), e_u_n _ _ (by decide)]
    exact hS1.1
  · rw [e_u_n _ _ (by decide), e_u_n _ _ (by decide)]
    exact hS1.2.1
  · rw [e_u_n _ _ (by decide), e_u_s]
    exact hS1.2.2.1.up hk.1
  · rw [e_u_s]
    exact hS1.2.2.2.1.up hk.1
  · intro a x1 x2 x3 x4
    rw [e_u_n _ _ x4, e_u_n _ _ x3, m1 a x1 x2]
end E53
