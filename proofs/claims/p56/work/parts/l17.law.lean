section El17
variable {L : Nat} {xs : Nat → Int32} {d : Nat} {M M1 M2 M3 : e_MI} {V V2 : e_ML} {W : e_MD} {K K2 : e_St} {S : Int → e_St} {h : e_H} {c o j w z m k q p i f n a b t x B its u v : Int} {τ β ε : Int → Int}
/-! critical works go back without a gap -/
theorem lsW_mx (hε : ∀ p, 0 ≤ p → 0 ≤ ε p) (hn : 0 < n) : ε (lsW ε n) = mX ε n ∧ 0 ≤ lsW ε n ∧ lsW ε n < n := by
  have : ∀ k : Nat, ε (lsW ε ((k : Int) + 1)) = mX ε ((k : Int) + 1) ∧ 0 ≤ lsW ε ((k : Int) + 1) ∧ lsW ε ((k : Int) + 1) < (k : Int) + 1 := by
    intro k
    induction k with
    | zero =>
      have h0 := hε 0 (by omega)
      rw [lsW_s ε (by omega), mX_max ε (by omega)]
      have e1 : lsW ε ((0 : Nat) : Int) = -1 := rfl
      have e2 : mX ε ((0 : Nat) : Int) = 0 := rfl
      rw [e1, e2, if_pos (Or.inl rfl)]
      refine ⟨?_, by omega, by omega⟩
      show ε 0 = max 0 (ε 0)
      omega
    | succ k ih =>
      rw [lsW_s ε (by omega), mX_max ε (by omega)]
      rw [show (((k + 1 : Nat) : Int)) = (k : Int) + 1 by omega]
      obtain ⟨i1, i2, i3⟩ := ih
      by_cases c1 : lsW ε ((k : Int) + 1) = -1 ∨ ε (lsW ε ((k : Int) + 1)) < ε ((k : Int) + 1)
      · rw [if_pos c1]
        refine ⟨by omega, by omega, by omega⟩
      · rw [if_neg c1]
        refine ⟨by omega, by omega, by omega⟩
  have h := this (n - 1).toNat
  rw [show (((n - 1).toNat : Nat) : Int) + 1 = n by omega] at h
  exact h
/-- what places are: order, work, machine, tool, as the law's rows have them -/
theorem l_place (HA : LA M K) (hr : kR K) (hv : vP K τ n) (hn : n ≤ 16) (hR : LRW M τ n) (h0 : 0 ≤ p) (h1 : p < n) : (M 199 p.toNat = iI (τ p) ∧ M 200 p.toNat = iI (scW τ p)) ∧ ((0 ≤ τ p ∧ τ p < 8) ∧ 0 ≤ scW τ p ∧ scW τ p ≤ 3) ∧ (M 191 (4 * τ p + scW τ p).toNat = iI (mcA K τ (scW τ) p) ∧ 0 ≤ mcA K τ (scW τ) p ∧ mcA K τ (scW τ) p ≤ 3) ∧ (M 193 (4 * τ p + scW τ p).toNat = iI (tlA K τ (scW τ) p) ∧ -1 ≤ tlA K τ (scW τ) p ∧ tlA K τ (scW τ) p ≤ 2) ∧ M 185 (τ p).toNat = iI (K (τ p)) ∧ 0 ≤ K (τ p) ∧ K (τ p) ≤ 3 := by
  have w := wk_at hr hv h0 h1
  have g := hv.rg hr h0 h1
  exact ⟨hR p h0 h1, ⟨by omega, by omega⟩, ⟨HA.mc w.1.1 w.1.2 w.2.1.1 w.2.1.2, g.2.2.1⟩, ⟨HA.tl w.1.1 w.1.2 w.2.1.1 w.2.1.2, g.2.2.2⟩, HA.kd w.1.1 w.1.2, hr.kd w.1.1 (by omega)⟩
theorem l_critBy {r : e_R} {l1 l3 l4 l8 l9 : Option Value} (HA : LA M K) (hr : kR K) (hv : vP K τ n) (hn : n ≤ 16) (hR : LRW M τ n) (hE : LE M β ε n) (hu : 0 ≤ u ∧ u < n) (hq : 0 ≤ v ∧ v < n)
    (hc : e_lim L xs d 177 231 [some (.ref 184), l1, some (.int (iI v)), l3, l4, some (.int (iI u)), some (.int (iI (4 * τ u + scW τ u))), some (.int (iI (4 * τ v + scW τ v))), some (.int (bI (decide (ε u = β v ∧ (τ u = τ v ∨ (tlA K τ (scW τ) u ≠ -1 ∧ tlA K τ (scW τ) u = tlA K τ (scW τ) v)))))), l9] [] (e_hp M V W) = some r) :
    e_lim L xs d 177 164 [some (.ref 184), l1, some (.int (iI v)), l3, l4, some (.int (iI u)), some (.int (iI (4 * τ u + scW τ u))), some (.int (iI (4 * τ v + scW τ v))), l8, l9] [] (e_hp M V W) = some r := by
  obtain ⟨⟨a1, a2⟩, a3, ⟨a4, a5⟩, ⟨a6, a7⟩, a8, a9⟩ := l_place HA hr hv hn hR hu.1 hu.2
  obtain ⟨⟨b1, b2⟩, b3, ⟨b4, b5⟩, ⟨b6, b7⟩, b8, b9⟩ := l_place HA hr hv hn hR hq.1 hq.2
  obtain ⟨⟨_, e1⟩, _, r1⟩ := hE u hu.1 hu.2
  obtain ⟨⟨e2, _⟩, r2, _⟩ := hE v hq.1 hq.2
  by_cases c1 : ε u = β v
  · by_cases c2 : τ u = τ v
    · rw [decide_eq_true ⟨c1, Or.inl c2⟩, bI_t] at hc
      simp (disch := first | assumption | exact e_nk_i _ | exact e_nk_n | exact e_nk_r _ | exact e_bo_0 | exact e_bo_1 | exact e_bo_b _ | omega) only [e_cl_v, e_cl_x, e_add_0, e_add_s, Option.toList_some, Option.toList_none, List.cons_append, List.nil_append, iI_add, iI_sub, iI_mul, iI_lt, iI_eq, iI_le, r177_164, r177_165, r177_168, r177_170, r177_171, r177_172, r177_175, r177_176, r177_177, r177_180, r177_181, r177_184, r177_186, r177_187, r177_188, r177_191, r177_192, r177_193, r177_196, r177_197, r177_200, r177_202, r177_203, r177_204, r177_207, r177_208, r177_211, r177_213, r177_214, r177_215, r177_218, r177_220, r177_221, r177_224, r177_225, r177_228, r177_229, iI_vin, iI_nat, if_true, a1, b1, a6, b6, e1, e2, if_pos c1, if_pos c2]
      exact hc
    · by_cases c3 : tlA K τ (scW τ) u = -1
      · rw [decide_eq_false (by omega), bI_f] at hc
        simp (disch := first | assumption | exact e_nk_i _ | exact e_nk_n | exact e_nk_r _ | exact e_bo_0 | exact e_bo_1 | exact e_bo_b _ | omega) only [e_cl_v, e_cl_x, e_add_0, e_add_s, Option.toList_some, Option.toList_none, List.cons_append, List.nil_append, iI_add, iI_sub, iI_mul, iI_lt, iI_eq, iI_le, r177_164, r177_165, r177_168, r177_170, r177_171, r177_172, r177_175, r177_176, r177_177, r177_180, r177_181, r177_184, r177_186, r177_187, r177_188, r177_191, r177_192, r177_193, r177_196, r177_197, r177_200, r177_202, r177_203, r177_204, r177_207, r177_208, r177_211, r177_213, r177_214, r177_215, r177_218, r177_220, r177_221, r177_224, r177_225, r177_228, r177_229, iI_vin, iI_nat, if_true, a1, b1, a6, b6, e1, e2, if_pos c1, if_neg c2, if_pos c3]
        exact hc
      · by_cases c4 : tlA K τ (scW τ) u = tlA K τ (scW τ) v
        · rw [decide_eq_true ⟨c1, Or.inr ⟨c3, c4⟩⟩, bI_t] at hc
          simp (disch := first | assumption | exact e_nk_i _ | exact e_nk_n | exact e_nk_r _ | exact e_bo_0 | exact e_bo_1 | exact e_bo_b _ | omega) only [e_cl_v, e_cl_x, e_add_0, e_add_s, Option.toList_some, Option.toList_none, List.cons_append, List.nil_append, iI_add, iI_sub, iI_mul, iI_lt, iI_eq, iI_le, r177_164, r177_165, r177_168, r177_170, r177_171, r177_172, r177_175, r177_176, r177_177, r177_180, r177_181, r177_184, r177_186, r177_187, r177_188, r177_191, r177_192, r177_193, r177_196, r177_197, r177_200, r177_202, r177_203, r177_204, r177_207, r177_208, r177_211, r177_213, r177_214, r177_215, r177_218, r177_220, r177_221, r177_224, r177_225, r177_228, r177_229, iI_vin, iI_nat, if_true, a1, b1, a6, b6, e1, e2, if_pos c1, if_neg c2, if_neg c3, if_pos c4]
          exact hc
        · rw [decide_eq_false (by omega), bI_f] at hc
          simp (disch := first | assumption | exact e_nk_i _ | exact e_nk_n | exact e_nk_r _ | exact e_bo_0 | exact e_bo_1 | exact e_bo_b _ | omega) only [e_cl_v, e_cl_x, e_add_0, e_add_s, Option.toList_some, Option.toList_none, List.cons_append, List.nil_append, iI_add, iI_sub, iI_mul, iI_lt, iI_eq, iI_le, r177_164, r177_165, r177_168, r177_170, r177_171, r177_172, r177_175, r177_176, r177_177, r177_180, r177_181, r177_184, r177_186, r177_187, r177_188, r177_191, r177_192, r177_193, r177_196, r177_197, r177_200, r177_202, r177_203, r177_204, r177_207, r177_208, r177_211, r177_213, r177_214, r177_215, r177_218, r177_220, r177_221, r177_224, r177_225, r177_228, r177_229, iI_vin, iI_nat, if_true, a1, b1, a6, b6, e1, e2, if_pos c1, if_neg c2, if_neg c3, if_neg c4]
          exact hc
  · rw [decide_eq_false (by omega), bI_f] at hc
    simp (disch := first | assumption | exact e_nk_i _ | exact e_nk_n | exact e_nk_r _ | exact e_bo_0 | exact e_bo_1 | exact e_bo_b _ | omega) only [e_cl_v, e_cl_x, e_add_0, e_add_s, Option.toList_some, Option.toList_none, List.cons_append, List.nil_append, iI_add, iI_sub, iI_mul, iI_lt, iI_eq, iI_le, r177_164, r177_165, r177_168, r177_170, r177_171, r177_172, r177_175, r177_176, r177_177, r177_180, r177_181, r177_184, r177_186, r177_187, r177_188, r177_191, r177_192, r177_193, r177_196, r177_197, r177_200, r177_202, r177_203, r177_204, r177_207, r177_208, r177_211, r177_213, r177_214, r177_215, r177_218, r177_220, r177_221, r177_224, r177_225, r177_228, r177_229, iI_vin, iI_nat, if_true, a1, b1, a6, b6, e1, e2, if_neg c1]
    exact hc
theorem l_critSet {r : e_R} {x8 : Int32} {l1 l3 l4 l9 : Option Value} (HA : LA M K) (hr : kR K) (hv : vP K τ n) (hn : n ≤ 16) (hR : LRW M τ n) (hE : LE M β ε n) (hu : 0 ≤ u ∧ u < n) (hq : 0 ≤ v ∧ v < n)
    (hc : e_lim L xs (d + 1) 177 306 [some (.ref 184), l1, some (.int (iI v)), l3, l4, some (.int (iI u)), some (.int (iI (4 * τ u + scW τ u))), some (.int (iI (4 * τ v + scW τ v))), some (.int x8), some (.int (bI (decide (mcA K τ (scW τ) u = mcA K τ (scW τ) v ∧ ε u + sT K (mcA K τ (scW τ) u) (K (τ u)) (K (τ v)) = β v))))] [] (e_hp M V W) = some r) :
    e_lim L xs (d + 1) 177 231 [some (.ref 184), l1, some (.int (iI v)), l3, l4, some (.int (iI u)), some (.int (iI (4 * τ u + scW τ u))), some (.int (iI (4 * τ v + scW τ v))), some (.int x8), l9] [] (e_hp M V W) = some r := by
  obtain ⟨⟨a1, a2⟩, a3, ⟨a4, a5⟩, ⟨a6, a7⟩, a8, a9⟩ := l_place HA hr hv hn hR hu.1 hu.2
  obtain ⟨⟨b1, b2⟩, b3, ⟨b4, b5⟩, ⟨b6, b7⟩, b8, b9⟩ := l_place HA hr hv hn hR hq.1 hq.2
  obtain ⟨⟨_, e1⟩, _, r1⟩ := hE u hu.1 hu.2
  obtain ⟨⟨e2, _⟩, r2, _⟩ := hE v hq.1 hq.2
  have e5 := l_set (L := L) (xs := xs) (d := d) (V := V) (W := W) HA (m := mcA K τ (scW τ) u) (a := K (τ u)) (b := K (τ v)) a5 a9 b9
  have rs := sT_rg hr a5 (f := K (τ u)) (t := K (τ v)) (by omega) (by omega)
  by_cases c1 : mcA K τ (scW τ) u = mcA K τ (scW τ) v
  · by_cases c2 : ε u + sT K (mcA K τ (scW τ) u) (K (τ u)) (K (τ v)) = β v
    · rw [decide_eq_true ⟨c1, c2⟩, bI_t] at hc
      simp (disch := first | assumption | exact e_nk_i _ | exact e_nk_n | exact e_nk_r _ | exact e_bo_0 | exact e_bo_1 | exact e_bo_b _ | omega) only [e_cl_v, e_cl_x, e_add_0, e_add_s, Option.toList_some, Option.toList_none, List.cons_append, List.nil_append, iI_add, iI_sub, iI_mul, iI_lt, iI_eq, iI_le, r177_231, r177_232, r177_235, r177_237, r177_238, r177_239, r177_242, r177_244, r177_245, r177_248, r177_249, r177_252, r177_254, r177_255, r177_256, r177_257, r177_260, r177_262, r177_263, r177_264, r177_267, r177_268, r177_271, r177_273, r177_274, r177_275, r177_276, r177_279, r177_280, r177_283, r177_284, r177_285, r177_286, r177_289, r177_290, r177_291, r177_294, r177_295, r177_296, r177_299, r177_300, r177_303, r177_304, iI_vin, iI_nat, if_true, a1, b1, a4, b4, a8, b8, e1, e2, e5, if_pos c1, if_pos c2]
      exact hc
    · rw [decide_eq_false (by omega), bI_f] at hc
      simp (disch := first | assumption | exact e_nk_i _ | exact e_nk_n | exact e_nk_r _ | exact e_bo_0 | exact e_bo_1 | exact e_bo_b _ | omega) only [e_cl_v, e_cl_x, e_add_0, e_add_s, Option.toList_some, Option.toList_none, List.cons_append, List.nil_append, iI_add, iI_sub, iI_mul, iI_lt, iI_eq, iI_le, r177_231, r177_232, r177_235, r177_237, r177_238, r177_239, r177_242, r177_244, r177_245, r177_248, r177_249, r177_252, r177_254, r177_255, r177_256, r177_257, r177_260, r177_262, r177_263, r177_264, r177_267, r177_268, r177_271, r177_273, r177_274, r177_275, r177_276, r177_279, r177_280, r177_283, r177_284, r177_285, r177_286, r177_289, r177_290, r177_291, r177_294, r177_295, r177_296, r177_299, r177_300, r177_303, r177_304, iI_vin, iI_nat, if_true, a1, b1, a4, b4, a8, b8, e1, e2, e5, if_pos c1, if_neg c2]
      exact hc
  · rw [decide_eq_false (by omega), bI_f] at hc
    simp (disch := first | assumption | exact e_nk_i _ | exact e_nk_n | exact e_nk_r _ | exact e_bo_0 | exact e_bo_1 | exact e_bo_b _ | omega) only [e_cl_v, e_cl_x, e_add_0, e_add_s, Option.toList_some, Option.toList_none, List.cons_append, List.nil_append, iI_add, iI_sub, iI_mul, iI_lt, iI_eq, iI_le, r177_231, r177_232, r177_235, r177_237, r177_238, r177_239, r177_242, r177_244, r177_245, r177_248, r177_249, r177_252, r177_254, r177_255, r177_256, r177_257, r177_260, r177_262, r177_263, r177_264, r177_267, r177_268, r177_271, r177_273, r177_274, r177_275, r177_276, r177_279, r177_280, r177_283, r177_284, r177_285, r177_286, r177_289, r177_290, r177_291, r177_294, r177_295, r177_296, r177_299, r177_300, r177_303, r177_304, iI_vin, iI_nat, if_true, a1, b1, a4, b4, a8, b8, e1, e2, e5, if_neg c1]
    exact hc
/-- one critical work -/
theorem l_crit93 {r : e_R} {x1 : Int32} {l4 : Option Value} (HA : LA M K) (hr : kR K) (hv : vP K τ (aW K)) (ha : 0 ≤ aW K ∧ aW K ≤ 16) (hR : LRW M τ (aW K)) (hE : LE M β ε (aW K)) (hu : 0 ≤ u ∧ u < aW K) (hz : -10 ≤ z ∧ z ≤ 20)
    (hs : (v = -1 ∧ ε u = mX ε (aW K)) ∨ ((0 ≤ v ∧ v < aW K) ∧ u < v ∧ ((τ v = τ u ∧ β v = ε u) ∨ (mcA K τ (scW τ) v = mcA K τ (scW τ) u ∧ β v = ε u + sT K (mcA K τ (scW τ) v) (K (τ u)) (K (τ v))) ∨ (tlA K τ (scW τ) v ≠ -1 ∧ tlA K τ (scW τ) v = tlA K τ (scW τ) u ∧ β v = ε u))))
    (hc : e_lim L xs (d + 2) 177 31 [some (.ref 184), some (.int x1), some (.int (iI u)), some (.int (iI (z - 1))), none, none, none, none, none, none] [] (e_hp M V W) = some r) :
    e_lim L xs (d + 2) 177 93 [some (.ref 184), some (.int x1), some (.int (iI v)), some (.int (iI z)), l4, some (.int (iI u)), none, none, none, none] [] (e_hp M V W) = some r := by
  have e0 := HA.ws
  have e1 := l_endNow (L := L) (xs := xs) (d := d) (V := V) (W := W) HA ha hE
  obtain ⟨⟨_, e2⟩, _, r2⟩ := hE u hu.1 hu.2
  have hne : ¬ u = aW K := by omega
  have rx := mX_rg (f := ε) (n := aW K) (c := 2001) ha.1 (by omega) (fun p x y => (hE p x y).2.2.2)
  rcases hs with ⟨hv1, he⟩ | ⟨hv1, hlt, hs⟩
  · subst hv1
    simp (disch := first | assumption | exact e_nk_i _ | exact e_nk_n | exact e_nk_r _ | exact e_bo_0 | exact e_bo_1 | exact e_bo_b _ | omega) only [e_cl_v, e_cl_x, e_add_0, e_add_s, Option.toList_some, Option.toList_none, List.cons_append, List.nil_append, iI_add, iI_sub, iI_mul, iI_lt, iI_eq, iI_le, r177_93, r177_95, r177_96, r177_99, r177_102, r177_103, r177_104, r177_107, r177_108, r177_111, r177_113, r177_114, r177_115, r177_118, r177_121, r177_122, r177_123, r177_124, r177_125, iI_vin, iI_nat, if_true, e0, e1, e2, if_neg hne]
    rw [if_pos he]
    simp (disch := first | assumption | exact e_nk_i _ | exact e_nk_n | exact e_nk_r _ | exact e_bo_0 | exact e_bo_1 | exact e_bo_b _ | omega) only [e_cl_v, e_cl_x, e_add_0, e_add_s, Option.toList_some, Option.toList_none, List.cons_append, List.nil_append, iI_add, iI_sub, iI_mul, iI_lt, iI_eq, iI_le, r177_324, r177_326, r177_327, r177_330]
    rw [show z + -1 = z - 1 by omega]
    exact G_less (by repeat (first | exact e_ll.rf | refine e_ll_c ?_ | refine e_ll_x ?_)) hc
  · have hv2 : ¬ v = -1 := by omega
    obtain ⟨⟨a1, a2⟩, a3, -⟩ := l_place HA hr hv ha.2 hR hu.1 hu.2
    obtain ⟨⟨b1, b2⟩, b3, -⟩ := l_place HA hr hv ha.2 hR hv1.1 hv1.2
    simp (disch := first | assumption | exact e_nk_i _ | exact e_nk_n | exact e_nk_r _ | exact e_bo_0 | exact e_bo_1 | exact e_bo_b _ | omega) only [e_cl_v, e_cl_x, e_add_0, e_add_s, Option.toList_some, Option.toList_none, List.cons_append, List.nil_append, iI_add, iI_sub, iI_mul, iI_lt, iI_eq, iI_le, r177_93, r177_95, r177_96, r177_99, r177_102, r177_103, r177_104, r177_107, r177_108, r177_111, r177_113, r177_114, r177_115, r177_118, r177_121, r177_122, r177_123, r177_124, r177_125, iI_vin, iI_nat, if_true, e0, if_neg hne, if_neg hv2]
    simp (disch := first | assumption | exact e_nk_i _ | exact e_nk_n | exact e_nk_r _ | exact e_bo_0 | exact e_bo_1 | exact e_bo_b _ | omega) only [e_cl_v, e_cl_x, e_add_0, e_add_s, Option.toList_some, Option.toList_none, List.cons_append, List.nil_append, iI_add, iI_sub, iI_mul, iI_lt, iI_eq, iI_le, r177_128, r177_129, r177_130, r177_133, r177_135, r177_136, r177_137, r177_138, r177_141, r177_143, r177_144, r177_145, r177_147, r177_148, r177_149, r177_152, r177_153, r177_154, r177_155, r177_156, r177_159, r177_160, r177_161, r177_162, iI_vin, iI_nat, if_true, a1, a2, b1, b2]
    refine l_critBy HA hr hv ha.2 hR hE hu hv1 ?_
    refine l_critSet HA hr hv ha.2 hR hE hu hv1 ?_
    have hfin : ∀ (x y : Bool), (x = true ∨ y = true) → e_lim L xs (d + 2) 177 306 [some (.ref 184), some (.int x1), some (.int (iI v)), some (.int (iI z)), l4, some (.int (iI u)), some (.int (iI (4 * τ u + scW τ u))), some (.int (iI (4 * τ v + scW τ v))), some (.int (bI x)), some (.int (bI y))] [] (e_hp M V W) = some r := by
      intro x y hxy
      cases x with
      | true =>
        simp (disch := first | assumption | exact e_nk_i _ | exact e_nk_n | exact e_nk_r _ | exact e_bo_0 | exact e_bo_1 | exact e_bo_b _ | omega) only [e_cl_v, e_cl_x, e_add_0, e_add_s, Option.toList_some, Option.toList_none, List.cons_append, List.nil_append, iI_add, iI_sub, iI_mul, iI_lt, iI_eq, iI_le, r177_306, r177_308, r177_309, r177_312, r177_314, bI_0]
        rw [if_pos hlt]
        simp only [Bool.true_eq_false, if_false]
        simp (disch := first | assumption | exact e_nk_i _ | exact e_nk_n | exact e_nk_r _ | exact e_bo_0 | exact e_bo_1 | exact e_bo_b _ | omega) only [e_cl_v, e_cl_x, e_add_0, e_add_s, Option.toList_some, Option.toList_none, List.cons_append, List.nil_append, iI_add, iI_sub, iI_mul, iI_lt, iI_eq, iI_le, r177_324, r177_326, r177_327, r177_330]
        rw [show z + -1 = z - 1 by omega]
        exact G_less (by repeat (first | exact e_ll.rf | refine e_ll_c ?_ | refine e_ll_x ?_)) hc
      | false =>
        cases y with
        | true =>
          simp (disch := first | assumption | exact e_nk_i _ | exact e_nk_n | exact e_nk_r _ | exact e_bo_0 | exact e_bo_1 | exact e_bo_b _ | omega) only [e_cl_v, e_cl_x, e_add_0, e_add_s, Option.toList_some, Option.toList_none, List.cons_append, List.nil_append, iI_add, iI_sub, iI_mul, iI_lt, iI_eq, iI_le, r177_306, r177_308, r177_309, r177_312, r177_314, r177_317, r177_319, bI_0]
          rw [if_pos hlt]
          simp only [Bool.true_eq_false, if_false, if_true]
          simp (disch := first | assumption | exact e_nk_i _ | exact e_nk_n | exact e_nk_r _ | exact e_bo_0 | exact e_bo_1 | exact e_bo_b _ | omega) only [e_cl_v, e_cl_x, e_add_0, e_add_s, Option.toList_some, Option.toList_none, List.cons_append, List.nil_append, iI_add, iI_sub, iI_mul, iI_lt, iI_eq, iI_le, r177_324, r177_326, r177_327, r177_330]
          rw [show z + -1 = z - 1 by omega]
          exact G_less (by repeat (first | exact e_ll.rf | refine e_ll_c ?_ | refine e_ll_x ?_)) hc
        | false => simp at hxy
    refine hfin _ _ ?_
    rcases hs with ⟨s1, s2⟩ | ⟨s1, s2⟩ | ⟨s1, s2, s3⟩
    · exact Or.inl (decide_eq_true ⟨s2.symm, Or.inl s1.symm⟩)
    · refine Or.inr (decide_eq_true ⟨s1.symm, ?_⟩)
      rw [← s1, s2]
    · exact Or.inl (decide_eq_true ⟨s3.symm, Or.inr ⟨by omega, s2.symm⟩⟩)
end El17
section El17b
variable {L : Nat} {xs : Nat → Int32} {d : Nat} {M M1 M2 M3 : e_MI} {V V2 : e_ML} {W : e_MD} {K K2 : e_St} {S : Int → e_St} {h : e_H} {c o j w z m k q p i f n a b t x B its u v : Int} {τ β ε : Int → Int}
/-- the place of a critical work is found again -/
theorem l_critAt {r : e_R} {x1 x2 : Int32} (HA : LA M K) (hr : kR K) (hv : vR K τ) (ha : 0 ≤ aW K ∧ aW K ≤ 16) (hR : LRW M τ (aW K)) (hu : 0 ≤ u ∧ u < aW K) (hz : -10 ≤ z ∧ z ≤ 20)
    (hc : e_lim L xs d 177 93 [some (.ref 184), some (.int x1), some (.int x2), some (.int (iI z)), some (.int (iI (10 * τ u + scW τ u))), some (.int (iI u)), none, none, none, none] [] (e_hp M V W) = some r) :
    e_lim L xs d 177 48 [some (.ref 184), some (.int x1), some (.int x2), some (.int (iI z)), some (.int (iI (10 * τ u + scW τ u))), some (.int (iI 0)), none, none, none, none] [] (e_hp M V W) = some r := by
  have e0 := HA.ws
  have hvp := vR.vp hr hv
  have wu := wk_at hr hvp hu.1 hu.2
  have hn10 := iI_ne (b := 10) (by omega) (by omega)
  have hun : ∀ j, 0 ≤ j → j < aW K → τ j = τ u → scW τ j = scW τ u → j = u := fun j x y e1 e2 => by
    have h1 := (plO_sp hr hv ha.1 wu.1 (w := scW τ u) wu.2.1).2.2
    exact (h1 j x e1 e2).trans (h1 u hu.1 rfl rfl).symm
  refine G_find (C := fun j => e_lim L xs d 177 48 [some (.ref 184), some (.int x1), some (.int x2), some (.int (iI z)), some (.int (iI (10 * τ u + scW τ u))), some (.int (iI j)), none, none, none, none] [] (e_hp M V W)) (p := fun j => decide (τ j = τ u ∧ scW τ j = scW τ u)) (i := 0) (n := aW K) ha.1 (fun j x y hp hc => ?_) (fun j x y hp _ => ?_) (fun hall => ?_)
  · obtain ⟨⟨a1, a2⟩, a3, -⟩ := l_place HA hr hvp ha.2 hR x y
    rw [decide_eq_false_iff_not] at hp
    rw [r177_48]
    simp (disch := first | assumption | exact e_nk_i _ | exact e_nk_n | exact e_nk_r _ | exact e_bo_0 | exact e_bo_1 | exact e_bo_b _ | omega) only [e_cl_v, e_cl_x, e_add_0, e_add_s, Option.toList_some, Option.toList_none, List.cons_append, List.nil_append, iI_add, iI_sub, iI_mul, iI_lt, iI_eq, iI_le, r177_50, r177_51, r177_54, r177_57, r177_58, r177_61, r177_63, r177_64, r177_66, r177_68, r177_69, r177_72, r177_73, r177_76, r177_78, r177_79, r177_81, r177_83, r177_84, r177_87, r177_90, iI_vin, iI_nat, if_true, e0, a1, a2, if_pos y, iI_div]
    by_cases c1 : τ j = (10 * τ u + scW τ u) / 10
    · rw [if_pos c1]
      rw [if_neg (by omega)]
      exact hc
    · rw [if_neg c1]
      exact hc
  · rw [decide_eq_true_eq] at hp
    have hj := hun j x y hp.1 hp.2
    subst hj
    obtain ⟨⟨a1, a2⟩, a3, -⟩ := l_place HA hr hvp ha.2 hR x y
    rw [r177_48]
    simp (disch := first | assumption | exact e_nk_i _ | exact e_nk_n | exact e_nk_r _ | exact e_bo_0 | exact e_bo_1 | exact e_bo_b _ | omega) only [e_cl_v, e_cl_x, e_add_0, e_add_s, Option.toList_some, Option.toList_none, List.cons_append, List.nil_append, iI_add, iI_sub, iI_mul, iI_lt, iI_eq, iI_le, r177_50, r177_51, r177_54, r177_57, r177_58, r177_61, r177_63, r177_64, r177_66, r177_68, r177_69, r177_72, r177_73, r177_76, r177_78, r177_79, r177_81, r177_83, r177_84, iI_vin, iI_nat, if_true, e0, a1, a2, if_pos y, iI_div]
    rw [if_pos (by omega), if_pos (by omega)]
    exact hc
  · have := hall u hu.1 hu.2
    rw [decide_eq_false_iff_not] at this
    exact absurd ⟨rfl, rfl⟩ this
theorem l_isCritical {τ : Int → Int} (H : CK M K c S) (hg : kG K) (HA : LA M K) (hτ : τ = rwK K) (hf : ft K = true) (hR : LRW M τ (aW K)) (hE : LE M (scB K τ) (scE K τ) (aW K)) : e_lim L xs (d + 6) 177 0 [some (.ref 184), none, none, none, none, none, none, none, none, none] [] (e_hp M V W) = some (.inl (some (.int (bI true))), e_hp M V W, 0, 0) := by
  have hr := hg.1
  have hp := hg.2.2.1
  obtain ⟨ha, hv⟩ := hg.2.1
  have hv2 : vR K τ := by rw [hτ]; exact hv
  have hvp := vR.vp hr hv2
  have e0 := HA.ws
  have e1 := x_critical (L := L) (xs := xs) (d := d) (V := V) (W := W) H hg
  rw [if_pos hf] at e1
  have hcr : crN K = chN (aK K τ) (lsW (scE K τ) (aW K)) := by rw [hτ]; rfl
  have hak : ∀ k, 0 ≤ k → k < 16 → aK K τ k = -1 ∨ (0 ≤ aK K τ k ∧ aK K τ k < k) := fun k x y => by
    by_cases hq : aK K τ k = -1
    · exact Or.inl hq
    · exact Or.inr (aK_sp K τ x hq).1
  by_cases hw : aW K = 0
  · have hl : lsW (scE K τ) (aW K) = -1 := by rw [hw]; rfl
    have hz : crN K = 0 := by
      rw [hcr, hl]
      unfold chN
      have hch : ∀ i : Nat, chW (aK K τ) (-1) i = -1 := fun i => by
        induction i with
        | zero => rfl
        | succ i ih => unfold chW; rw [if_pos ih]
      rw [zLP_none (by omega) (fun q _ _ => by rw [decide_eq_false_iff_not]; exact fun x => x (hch _))]
      rfl
    rw [hz] at e1
    rw [hw] at e0
    simp (disch := first | assumption | exact e_nk_i _ | exact e_nk_n | exact e_nk_r _ | exact e_bo_0 | exact e_bo_1 | exact e_bo_b _ | omega) only [e_cl_v, e_cl_x, e_add_0, e_add_s, Option.toList_some, Option.toList_none, List.cons_append, List.nil_append, iI_add, iI_sub, iI_mul, iI_lt, iI_eq, iI_le, r177_0, r177_1, r177_4, r177_7, r177_8, r177_9, r177_12, r177_15, r177_16, r177_19, r177_20, r177_23, r177_24, e0, e1, if_true]
    rfl
  · have hpos : 0 < aW K := by omega
    have hsp := fun p (x : 0 ≤ p) (y : p < aW K) => sc_spI hr hp hvp x y
    -- ends beyond the row do not matter: the last critical work
    have hls : scE K τ (lsW (scE K τ) (aW K)) = mX (scE K τ) (aW K) ∧ 0 ≤ lsW (scE K τ) (aW K) ∧ lsW (scE K τ) (aW K) < aW K := by
      have hcg : ∀ n : Nat, (n : Int) ≤ aW K → lsW (fun p => if p < aW K then scE K τ p else 0) n = lsW (scE K τ) n ∧ lsW (scE K τ) n < n ∧ mX (fun p => if p < aW K then scE K τ p else 0) n = mX (scE K τ) n := by
        intro n
        induction n with
        | zero => intro _; exact ⟨rfl, by show (-1 : Int) < 0; omega, rfl⟩
        | succ n ih =>
          intro hn
          obtain ⟨i1, i2, i3⟩ := ih (by omega)
          rw [show ((n + 1 : Nat) : Int) = (n : Int) + 1 by omega, lsW_s _ (by omega), lsW_s _ (by omega), mX_max _ (by omega), mX_max _ (by omega), i1, i3]
          rw [if_pos (show (n : Int) < aW K by omega), if_pos (show lsW (scE K τ) n < aW K by omega)]
          refine ⟨rfl, ?_, rfl⟩
          split <;> omega
      obtain ⟨c1, c2, c3⟩ := hcg (aW K).toNat (by omega)
      rw [Int.toNat_of_nonneg ha.1] at c1 c2 c3
      have hm := lsW_mx (ε := fun p => if p < aW K then scE K τ p else 0) (n := aW K) (fun p x => by
        by_cases y : p < aW K
        · simp only [if_pos y]
          exact (hsp p x y).1.2.1
        · simp only [if_neg y]
          omega) hpos
      rw [c1, c3] at hm
      refine ⟨?_, hm.2⟩
      rw [← hm.1]
      show _ = if lsW (scE K τ) (aW K) < aW K then _ else _
      rw [if_pos c2]
    generalize hlast : lsW (scE K τ) (aW K) = l0 at *
    obtain ⟨n1, n2, n3⟩ := chN_sp hak (k := l0) ⟨by omega, by omega⟩
    have hdn := ch_dn K τ (k := aW K) ha
    rw [hlast] at hdn
    rw [← hcr] at n1 n2 n3
    have hcz : ∀ i : Nat, (i : Int) < crN K → 0 ≤ chW (aK K τ) l0 i ∧ chW (aK K τ) l0 i < aW K := fun i x => by
      have h1 := n2 i x
      rcases hdn i with y | y
      · omega
      · exact y
    have hanc : ∀ p : Int, 0 ≤ p → p < crN K → anCA K p = 10 * τ (chW (aK K τ) l0 (crN K - 1 - p).toNat) + scW τ (chW (aK K τ) l0 (crN K - 1 - p).toNat) := fun p x y => by
      have hck : crK K p = chW (aK K τ) l0 (crN K - 1 - p).toNat := by
        rw [← hlast, hτ]
        rfl
      unfold anCA
      rw [hck, hτ]
    simp (disch := first | assumption | exact e_nk_i _ | exact e_nk_n | exact e_nk_r _ | exact e_bo_0 | exact e_bo_1 | exact e_bo_b _ | omega) only [e_cl_v, e_cl_x, e_add_0, e_add_s, Option.toList_some, Option.toList_none, List.cons_append, List.nil_append, iI_add, iI_sub, iI_mul, iI_lt, iI_eq, iI_le, r177_0, r177_1, r177_4, r177_7, r177_8, r177_9, r177_12, r177_15, r177_16, r177_19, r177_20, r177_23, r177_24, r177_25, r177_26, r177_27, r177_28, r177_29, r177_30, e0, e1]
    rw [if_neg hw]
    have main : e_lim L xs (d + 6) 177 31 [some (.ref 184), some (.int (iI (crN K))), some (.int (iI (if (0 : Int) = 0 then -1 else chW (aK K τ) l0 ((0 : Int) - 1).toNat))), some (.int (iI (crN K - 1 - 0))), none, none, none, none, none, none] [] (e_hp M V W) = some (.inl (some (.int (bI true))), e_hp M V W, 0, 0) := by
      refine G_loopI (C := fun j => e_lim L xs (d + 6) 177 31 [some (.ref 184), some (.int (iI (crN K))), some (.int (iI (if j = 0 then -1 else chW (aK K τ) l0 (j - 1).toNat))), some (.int (iI (crN K - 1 - j))), none, none, none, none, none, none] [] (e_hp M V W)) (i := 0) (n := crN K) n1.1 (fun j x y hc => ?_) ?_
      · have e2 := x_criticalAt (L := L) (xs := xs) (d := d) (V := V) (W := W) H hg (p := crN K - 1 - j) (by unfold i32; omega)
        have han := hanc (crN K - 1 - j) (by omega) (by omega)
        rw [show crN K - 1 - (crN K - 1 - j) = j by omega] at han
        rw [if_pos hf, if_pos (by omega), han] at e2
        have hcu := hcz j.toNat (by omega)
        rw [if_neg (by omega), show j + 1 - 1 = j by omega, show crN K - 1 - (j + 1) = crN K - 1 - j - 1 by omega] at hc
        have hpl := l_place HA hr hvp ha.2 hR hcu.1 hcu.2
        have hvr : -1 ≤ (if j = 0 then -1 else chW (aK K τ) l0 (j - 1).toNat) ∧ (if j = 0 then -1 else chW (aK K τ) l0 (j - 1).toNat) < aW K := by
          by_cases hj : j = 0
          · rw [if_pos hj]; omega
          · rw [if_neg hj]
            have := hcz (j - 1).toNat (by omega)
            omega
        have hstep : (if j = 0 then -1 else chW (aK K τ) l0 (j - 1).toNat) = -1 ∧ scE K τ (chW (aK K τ) l0 j.toNat) = mX (scE K τ) (aW K) ∨ ((0 ≤ (if j = 0 then -1 else chW (aK K τ) l0 (j - 1).toNat) ∧ (if j = 0 then -1 else chW (aK K τ) l0 (j - 1).toNat) < aW K) ∧ chW (aK K τ) l0 j.toNat < (if j = 0 then -1 else chW (aK K τ) l0 (j - 1).toNat) ∧ ((τ (if j = 0 then -1 else chW (aK K τ) l0 (j - 1).toNat) = τ (chW (aK K τ) l0 j.toNat) ∧ scB K τ (if j = 0 then -1 else chW (aK K τ) l0 (j - 1).toNat) = scE K τ (chW (aK K τ) l0 j.toNat)) ∨ (mcA K τ (scW τ) (if j = 0 then -1 else chW (aK K τ) l0 (j - 1).toNat) = mcA K τ (scW τ) (chW (aK K τ) l0 j.toNat) ∧ scB K τ (if j = 0 then -1 else chW (aK K τ) l0 (j - 1).toNat) = scE K τ (chW (aK K τ) l0 j.toNat) + sT K (mcA K τ (scW τ) (if j = 0 then -1 else chW (aK K τ) l0 (j - 1).toNat)) (K (τ (chW (aK K τ) l0 j.toNat))) (K (τ (if j = 0 then -1 else chW (aK K τ) l0 (j - 1).toNat)))) ∨ (tlA K τ (scW τ) (if j = 0 then -1 else chW (aK K τ) l0 (j - 1).toNat) ≠ -1 ∧ tlA K τ (scW τ) (if j = 0 then -1 else chW (aK K τ) l0 (j - 1).toNat) = tlA K τ (scW τ) (chW (aK K τ) l0 j.toNat) ∧ scB K τ (if j = 0 then -1 else chW (aK K τ) l0 (j - 1).toNat) = scE K τ (chW (aK K τ) l0 j.toNat)))) := by
          by_cases hj : j = 0
          · subst hj
            rw [if_pos rfl]
            exact Or.inl ⟨rfl, hls.1⟩
          · rw [if_neg hj]
            have h1 := hcz (j - 1).toNat (by omega)
            have hst : chW (aK K τ) l0 j.toNat = aK K τ (chW (aK K τ) l0 (j - 1).toNat) := by
              rw [show j.toNat = (j - 1).toNat + 1 by omega]
              conv => lhs; unfold chW
              rw [if_neg (by omega)]
            have hne : aK K τ (chW (aK K τ) l0 (j - 1).toNat) ≠ -1 := by rw [← hst]; omega
            have hsp2 := aK_sp K τ h1.1 hne
            rw [← hst] at hsp2
            exact Or.inr ⟨h1, hsp2.1.2, hsp2.2⟩
        generalize (if j = 0 then -1 else chW (aK K τ) l0 (j - 1).toNat) = vv at *
        rw [r177_31]
        simp (disch := first | assumption | exact e_nk_i _ | exact e_nk_n | exact e_nk_r _ | exact e_bo_0 | exact e_bo_1 | exact e_bo_b _ | omega) only [e_cl_v, e_cl_x, e_add_0, e_add_s, Option.toList_some, Option.toList_none, List.cons_append, List.nil_append, iI_add, iI_sub, iI_mul, iI_lt, iI_eq, iI_le, r177_32, r177_35, r177_36, r177_39, r177_40, r177_43, r177_45, r177_46, e2]
        rw [if_neg (by omega)]
        refine l_critAt HA hr hv2 ha hR hcu (by omega) ?_
        exact l_crit93 HA hr hvp ha hR hE hcu (by omega) hstep hc
      · rw [r177_31]
        simp (disch := first | assumption | exact e_nk_i _ | exact e_nk_n | exact e_nk_r _ | exact e_bo_0 | exact e_bo_1 | exact e_bo_b _ | omega) only [e_cl_v, e_cl_x, e_add_0, e_add_s, Option.toList_some, Option.toList_none, List.cons_append, List.nil_append, iI_add, iI_sub, iI_mul, iI_lt, iI_eq, iI_le, r177_32, r177_333, r177_334]
        rw [if_pos (by omega)]
        rfl
    rw [if_pos rfl, show crN K - 1 - 0 = crN K - 1 by omega] at main
    exact main
end El17b
