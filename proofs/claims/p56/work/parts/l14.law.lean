section El14
variable {L : Nat} {xs : Nat → Int32} {d : Nat} {M M1 M2 M3 : e_MI} {V V2 : e_ML} {W : e_MD} {K K2 : e_St} {S : Int → e_St} {h : e_H} {c o j w z m k q p i f n a b t x B its : Int} {τ β ε : Int → Int}
theorem maF_rg (ha : 0 ≤ a ∧ a ≤ 2101) (hε : ∀ p, 0 ≤ p → p < k → 0 ≤ ε p ∧ ε p ≤ 2001) (h0 : 0 ≤ i) (hi : i ≤ k) : 0 ≤ maF a τ ε o i.toNat ∧ maF a τ ε o i.toNat ≤ 2101 := by
  have h1 := maF_le (τ := τ) (ε := ε) (o := o) (B := 2101) ha.2 i.toNat (fun p x y _ => by have := hε p x (by omega); omega)
  have h2 := (maF_ge τ ε a o i.toNat).1
  omega
theorem maF_s (τ ε : Int → Int) (a o : Int) (h0 : 0 ≤ i) : maF a τ ε o (i + 1).toNat = if τ i = o then max (maF a τ ε o i.toNat) (ε i) else maF a τ ε o i.toNat := by
  rw [show (i + 1).toNat = i.toNat + 1 by omega]
  show (if τ (i.toNat : Int) = o then max (maF a τ ε o i.toNat) (ε (i.toNat : Int)) else maF a τ ε o i.toNat) = _
  rw [Int.toNat_of_nonneg h0]
/-- ends of the works ahead in the order, and how many they are -/
theorem l_timedA {r : e_R} {l1 : Option Value} (hk : 0 ≤ k ∧ k < 16) (ho : 0 ≤ o ∧ o < 8) (ha : 0 ≤ a ∧ a ≤ 2101) (hτ : ∀ p, 0 ≤ p → p < k → M 199 p.toNat = iI (τ p) ∧ 0 ≤ τ p ∧ τ p < 8) (hε : ∀ p, 0 ≤ p → p < k → M 202 p.toNat = iI (ε p) ∧ 0 ≤ ε p ∧ ε p ≤ 2001)
    (hc : e_lim L xs (d + 1) 170 82 [some (.ref 184), l1, some (.int (iI k)), some (.int (iI o)), some (.int (iI (maF a τ ε o k.toNat))), some (.int (iI k)), none, none, none] [] (e_hp (e_u M 200 (upd (M 200) k.toNat (iI (cnt τ o k)))) V W) = some r) :
    e_lim L xs (d + 1) 170 32 [some (.ref 184), l1, some (.int (iI k)), some (.int (iI o)), some (.int (iI a)), some (.int (iI 0)), none, none, none] [] (e_hp (e_u M 200 (upd (M 200) k.toNat (iI 0))) V W) = some r := by
  refine G_loopI (C := fun i => e_lim L xs (d + 1) 170 32 [some (.ref 184), l1, some (.int (iI k)), some (.int (iI o)), some (.int (iI (maF a τ ε o i.toNat))), some (.int (iI i)), none, none, none] [] (e_hp (e_u M 200 (upd (M 200) k.toNat (iI (cnt τ o i)))) V W)) (i := 0) (n := k) hk.1 (fun j x y hc => ?_) ?_
  · obtain ⟨e1, r1⟩ := hτ j x y
    obtain ⟨e2, r2⟩ := hε j x y
    have rb := maF_rg (τ := τ) (o := o) (i := j) ha (fun p u v => (hε p u v).2) x (by omega)
    have rc := cnt_rg τ o x
    have hs := cnt_s τ o x
    have hm := maF_s τ ε a o x
    rw [hs, hm] at hc
    rw [r170_32]
    by_cases hq : τ j = o
    · rw [if_pos hq, if_pos hq] at hc
      simp (disch := first | assumption | exact e_nk_i _ | exact e_nk_n | exact e_nk_r _ | exact e_bo_0 | exact e_bo_1 | exact e_bo_b _ | omega) only [e_cl_v, e_cl_x, e_add_0, e_add_s, Option.toList_some, Option.toList_none, List.cons_append, List.nil_append, iI_add, iI_sub, iI_mul, iI_lt, iI_eq, iI_le, r170_34, r170_35, r170_38, r170_39, r170_42, r170_44, r170_45, r170_46, r170_49, r170_52, r170_53, r170_56, r170_57, r170_58, r170_59, r170_60, r170_61, r170_62, r170_64, r170_65, r170_68, r170_70, r170_71, r170_74, r170_76, r170_79, iI_vin, iI_nat, if_true, e_u_n, e_u_s, upd_s, upd_uu, e_u_u, e1, e2, iI_mx, if_pos y, if_pos hq]
      exact hc
    · rw [if_neg hq, if_neg hq, Int.add_zero] at hc
      simp (disch := first | assumption | exact e_nk_i _ | exact e_nk_n | exact e_nk_r _ | exact e_bo_0 | exact e_bo_1 | exact e_bo_b _ | omega) only [e_cl_v, e_cl_x, e_add_0, e_add_s, Option.toList_some, Option.toList_none, List.cons_append, List.nil_append, iI_add, iI_sub, iI_mul, iI_lt, iI_eq, iI_le, r170_34, r170_35, r170_38, r170_39, r170_42, r170_44, r170_45, r170_46, r170_49, r170_52, r170_53, r170_56, r170_57, r170_58, r170_59, r170_60, r170_61, r170_62, r170_64, r170_65, r170_68, r170_70, r170_71, r170_74, r170_76, r170_79, iI_vin, iI_nat, if_true, e_u_n, e_u_s, upd_s, upd_uu, e_u_u, e1, e2, iI_mx, if_pos y, if_neg hq]
      exact hc
  · rw [r170_32]
    simp (disch := first | assumption | exact e_nk_i _ | exact e_nk_n | exact e_nk_r _ | exact e_bo_0 | exact e_bo_1 | exact e_bo_b _ | omega) only [e_cl_v, e_cl_x, e_add_0, e_add_s, Option.toList_some, Option.toList_none, List.cons_append, List.nil_append, iI_add, iI_sub, iI_mul, iI_lt, iI_eq, iI_le, r170_34, r170_35]
    rw [if_neg (by omega)]
    exact hc
/-- one place's tool -/
theorem l_timedT {r : e_R} {l1 : Option Value} {low : Int} (HA : LA M K) (hr : kR K) (hv : vP K τ k) (hR : LRW M τ k) (hk : k < 16) (hi : 0 ≤ i ∧ i < k) (hε : M 202 i.toNat = iI (ε i) ∧ 0 ≤ ε i ∧ ε i ≤ 2001) (hl : 0 ≤ low ∧ low ≤ 2200) (ht : -1 ≤ its ∧ its ≤ 2) (hm : i32 m) (ho : i32 o)
    (hc : e_lim L xs (d + 1) 170 119 [some (.ref 184), l1, some (.int (iI k)), some (.int (iI o)), some (.int (iI (if its ≠ -1 ∧ tlA K τ (scW τ) i = its then max low (ε i) else low))), some (.int (iI m)), some (.int (iI its)), some (.int (iI (i + 1))), none] [] (e_hp M V W) = some r) :
    e_lim L xs (d + 1) 170 211 [some (.ref 184), l1, some (.int (iI k)), some (.int (iI o)), some (.int (iI low)), some (.int (iI m)), some (.int (iI its)), some (.int (iI i)), some (.int (iI (4 * τ i + scW τ i)))] [] (e_hp M V W) = some r := by
  have w := wk_at hr hv (p := i) hi.1 hi.2
  have e3 := HA.tl w.1.1 w.1.2 w.2.1.1 w.2.1.2
  have r3 := hr.tl (i := 4 * τ i + scW τ i) (by omega) (by omega)
  rw [show 112 + (4 * τ i + scW τ i) = 112 + 4 * τ i + scW τ i by omega] at r3
  obtain ⟨e2, r2⟩ := hε
  have ht2 : tlA K τ (scW τ) i = K (112 + 4 * τ i + scW τ i) := rfl
  rw [ht2] at hc
  by_cases c1 : its = -1
  · rw [if_neg (by omega)] at hc
    simp (disch := first | assumption | exact e_nk_i _ | exact e_nk_n | exact e_nk_r _ | exact e_bo_0 | exact e_bo_1 | exact e_bo_b _ | omega) only [e_cl_v, e_cl_x, e_add_0, e_add_s, Option.toList_some, Option.toList_none, List.cons_append, List.nil_append, iI_add, iI_sub, iI_mul, iI_lt, iI_eq, iI_le, r170_211, r170_213, r170_214, r170_217, r170_218, r170_221, r170_223, r170_224, r170_226, r170_229, r170_231, r170_232, r170_235, r170_237, r170_238, r170_241, r170_243, r170_246, iI_vin, iI_nat, if_true, e2, e3, iI_mx, if_pos c1]
    exact G_less (by repeat (first | exact e_ll.rf | refine e_ll_c ?_ | refine e_ll_x ?_)) hc
  · by_cases c2 : K (112 + 4 * τ i + scW τ i) = its
    · rw [if_pos ⟨c1, c2⟩] at hc
      simp (disch := first | assumption | exact e_nk_i _ | exact e_nk_n | exact e_nk_r _ | exact e_bo_0 | exact e_bo_1 | exact e_bo_b _ | omega) only [e_cl_v, e_cl_x, e_add_0, e_add_s, Option.toList_some, Option.toList_none, List.cons_append, List.nil_append, iI_add, iI_sub, iI_mul, iI_lt, iI_eq, iI_le, r170_211, r170_213, r170_214, r170_217, r170_218, r170_221, r170_223, r170_224, r170_226, r170_229, r170_231, r170_232, r170_235, r170_237, r170_238, r170_241, r170_243, r170_246, iI_vin, iI_nat, if_true, e2, e3, iI_mx, if_neg c1, if_pos c2]
      exact G_less (by repeat (first | exact e_ll.rf | refine e_ll_c ?_ | refine e_ll_x ?_)) hc
    · rw [if_neg (by omega)] at hc
      simp (disch := first | assumption | exact e_nk_i _ | exact e_nk_n | exact e_nk_r _ | exact e_bo_0 | exact e_bo_1 | exact e_bo_b _ | omega) only [e_cl_v, e_cl_x, e_add_0, e_add_s, Option.toList_some, Option.toList_none, List.cons_append, List.nil_append, iI_add, iI_sub, iI_mul, iI_lt, iI_eq, iI_le, r170_211, r170_213, r170_214, r170_217, r170_218, r170_221, r170_223, r170_224, r170_226, r170_229, r170_231, r170_232, r170_235, r170_237, r170_238, r170_241, r170_243, r170_246, iI_vin, iI_nat, if_true, e2, e3, iI_mx, if_neg c1, if_neg c2]
      exact G_less (by repeat (first | exact e_ll.rf | refine e_ll_c ?_ | refine e_ll_x ?_)) hc
/-- what can be latest on the machine -/
def latP (K : e_St) (τ : Int → Int) (m k : Int) : Int → Bool := fun p => decide (zLP (fun q => decide (mcA K τ (scW τ) q = m)) k ≤ p)
/-- one place -/
theorem l_timedM {r : e_R} {l1 : Option Value} {low : Int} (HA : LA M K) (hr : kR K) (hv : vP K τ k) (hR : LRW M τ k) (hk : k < 16) (hi : 0 ≤ i ∧ i < k) (hε : M 202 i.toNat = iI (ε i) ∧ 0 ≤ ε i ∧ ε i ≤ 2001) (hl : 0 ≤ low ∧ low ≤ 2101) (ht : -1 ≤ its ∧ its ≤ 2) (hm : 0 ≤ m ∧ m ≤ 3) (ho : 0 ≤ o ∧ o < K 310)
    (hc : e_lim L xs (d + 1) 170 119 [some (.ref 184), l1, some (.int (iI k)), some (.int (iI o)), some (.int (iI (let y := if mcA K τ (scW τ) i = m then max low (ε i + if latP K τ m k i = true then sT K m (K (τ i)) (K o) else 0) else low
        if its ≠ -1 ∧ tlA K τ (scW τ) i = its then max y (ε i) else y))), some (.int (iI m)), some (.int (iI its)), some (.int (iI (i + 1))), none] [] (e_hp M V W) = some r) :
    e_lim L xs (d + 1) 170 119 [some (.ref 184), l1, some (.int (iI k)), some (.int (iI o)), some (.int (iI low)), some (.int (iI m)), some (.int (iI its)), some (.int (iI i)), none] [] (e_hp M V W) = some r := by
  have w := wk_at hr hv (p := i) hi.1 hi.2
  have hn := hr.n
  obtain ⟨e1, e2⟩ := hR i hi.1 hi.2
  have e3 := HA.mc w.1.1 w.1.2 w.2.1.1 w.2.1.2
  have r3 := hr.mc (i := 4 * τ i + scW τ i) (by omega) (by omega)
  rw [show 48 + (4 * τ i + scW τ i) = 48 + 4 * τ i + scW τ i by omega] at r3
  have hm2 : mcA K τ (scW τ) i = K (48 + 4 * τ i + scW τ i) := rfl
  simp only at hc
  rw [hm2] at hc
  rw [r170_119]
  by_cases c1 : K (48 + 4 * τ i + scW τ i) = m
  · rw [if_pos c1] at hc
    have e4 := l_isLatest (L := L) (xs := xs) (d := d) (V := V) (W := W) HA hr hv hR (by omega) hi hm
    have k1 := hr.kd (o := τ i) w.1.1 (by omega)
    have k2 := hr.kd (o := o) ho.1 (by omega)
    have e5 := l_set (L := L) (xs := xs) (d := d) (V := V) (W := W) HA (m := m) (a := K (τ i)) (b := K o) hm k1 k2
    have rs := sT_rg hr hm (f := K (τ i)) (t := K o) (by omega) (by omega)
    have e6 := HA.kd w.1.1 w.1.2
    have e7 := HA.kd ho.1 ho.2
    by_cases c2 : zLP (fun q => decide (mcA K τ (scW τ) q = m)) k ≤ i
    · have hl2 : latP K τ m k i = true := decide_eq_true c2
      rw [if_pos hl2] at hc
      rw [decide_eq_true c2, bI_t] at e4
      simp (disch := first | assumption | exact e_nk_i _ | exact e_nk_n | exact e_nk_r _ | exact e_bo_0 | exact e_bo_1 | exact e_bo_b _ | omega) only [e_cl_v, e_cl_x, e_add_0, e_add_s, Option.toList_some, Option.toList_none, List.cons_append, List.nil_append, iI_add, iI_sub, iI_mul, iI_lt, iI_eq, iI_le, r170_121, r170_122, r170_125, r170_126, r170_127, r170_130, r170_132, r170_133, r170_134, r170_135, r170_138, r170_140, r170_141, r170_142, r170_144, r170_145, r170_148, r170_150, r170_151, r170_153, r170_156, r170_158, r170_159, r170_162, r170_164, r170_165, r170_166, r170_168, r170_169, r170_171, r170_174, r170_177, r170_178, r170_180, r170_181, r170_184, r170_185, r170_188, r170_190, r170_191, r170_192, r170_193, r170_196, r170_197, r170_198, r170_201, r170_204, r170_205, r170_206, r170_209, iI_vin, iI_nat, if_true, e1, e2, e3, hε.1, e4, e5, e6, e7, iI_mx, if_pos hi.2, if_pos c1]
      exact l_timedT HA hr hv hR hk hi hε (by omega) ht (by unfold i32; omega) (by unfold i32; omega) hc
    · have hl2 : latP K τ m k i = false := decide_eq_false c2
      have hl3 : (if latP K τ m k i = true then sT K m (K (τ i)) (K o) else 0) = 0 := if_neg (by rw [hl2]; decide)
      rw [hl3] at hc
      rw [decide_eq_false c2, bI_f] at e4
      simp (disch := first | assumption | exact e_nk_i _ | exact e_nk_n | exact e_nk_r _ | exact e_bo_0 | exact e_bo_1 | exact e_bo_b _ | omega) only [e_cl_v, e_cl_x, e_add_0, e_add_s, Option.toList_some, Option.toList_none, List.cons_append, List.nil_append, iI_add, iI_sub, iI_mul, iI_lt, iI_eq, iI_le, r170_121, r170_122, r170_125, r170_126, r170_127, r170_130, r170_132, r170_133, r170_134, r170_135, r170_138, r170_140, r170_141, r170_142, r170_144, r170_145, r170_148, r170_150, r170_151, r170_153, r170_156, r170_158, r170_159, r170_162, r170_164, r170_165, r170_166, r170_168, r170_169, r170_171, r170_174, r170_177, r170_178, r170_180, r170_181, r170_184, r170_185, r170_188, r170_190, r170_191, r170_192, r170_193, r170_196, r170_197, r170_198, r170_201, r170_204, r170_205, r170_206, r170_209, iI_vin, iI_nat, if_true, e1, e2, e3, hε.1, e4, e5, e6, e7, iI_mx, if_pos hi.2, if_pos c1]
      exact l_timedT HA hr hv hR hk hi hε (by omega) ht (by unfold i32; omega) (by unfold i32; omega) hc
  · rw [if_neg c1] at hc
    simp (disch := first | assumption | exact e_nk_i _ | exact e_nk_n | exact e_nk_r _ | exact e_bo_0 | exact e_bo_1 | exact e_bo_b _ | omega) only [e_cl_v, e_cl_x, e_add_0, e_add_s, Option.toList_some, Option.toList_none, List.cons_append, List.nil_append, iI_add, iI_sub, iI_mul, iI_lt, iI_eq, iI_le, r170_121, r170_122, r170_125, r170_126, r170_127, r170_130, r170_132, r170_133, r170_134, r170_135, r170_138, r170_140, r170_141, r170_142, r170_144, r170_145, r170_148, r170_150, r170_151, r170_153, iI_vin, iI_nat, if_true, e1, e2, e3, hε.1, if_pos hi.2, if_neg c1]
    exact l_timedT HA hr hv hR hk hi hε (by omega) ht (by unfold i32; omega) (by unfold i32; omega) hc
end El14
