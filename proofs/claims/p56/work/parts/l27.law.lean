section El27
variable {L : Nat} {xs : Nat → Int32} {d : Nat} {M M1 M2 M3 : e_MI} {V V2 : e_ML} {W : e_MD} {K K2 : e_St} {S : Int → e_St} {h : e_H} {c o j w z m k q p i n a b t x its u v : Int} {l : List Int} {B : Nat → Int}
/-- a line is over: what it is worth -/
theorem l_lineLeaf {x2 x5 : Int32} (HA : LA M K) (hr : kR K) (hm : 0 ≤ m ∧ m ≤ 3) (hq : -1 ≤ q ∧ q ≤ 3) (hl : ∀ x ∈ l, 0 ≤ x ∧ x < K 310) (h8 : l.length ≤ 8) (HL : LN M l) (HB : BS M B) :
    e_lim L xs (d + 2) 182 96 [some (.ref 184), some (.int (iI (l.length : Int))), some (.int x2), some (.int (iI m)), some (.int (iI q)), some (.int x5), none, none, none, none, none, none] [] (e_hp M V W) = some (.inl none, e_hp (e_u M 184 (upd (upd (upd (upd (upd (M 184) 29 (iI (l.length : Int))) 30 (iI (min (B 0) (b4 (rvL K m q l) 0)))) 31 (iI (min (B 1) (b4 (rvL K m q l) 1)))) 32 (iI (min (B 2) (b4 (rvL K m q l) 2)))) 33 (iI (min (B 3) (b4 (rvL K m q l) 3))))) V W, 0, 0) := by
  obtain ⟨⟨b0, b1, b2, b3⟩, br⟩ := HB
  have c0 := br 0 (by omega)
  have c1 := br 1 (by omega)
  have c2 := br 2 (by omega)
  have c3 := br 3 (by omega)
  have hn := hr.n
  simp (disch := first | assumption | exact e_nk_i _ | exact e_nk_n | exact e_nk_r _ | exact e_bo_0 | exact e_bo_1 | exact e_bo_b _ | omega) only [e_cl_v, e_cl_x, e_add_0, e_add_s, Option.toList_some, Option.toList_none, List.cons_append, List.nil_append, iI_add, iI_sub, iI_mul, iI_lt, iI_eq, iI_le, r182_96, r182_97, r182_99, r182_100, r182_102, r182_103, r182_105, r182_107, r182_109, r182_110, r182_112, r182_113]
  have hst : ∀ (s : rvT), s = rvL K m q (l.take (0 : Int).toNat) → e_lim L xs (d + 2) 182 115 [some (.ref 184), some (.int (iI (l.length : Int))), some (.int x2), some (.int (iI m)), some (.int (iI q)), some (.int x5), some (.int (iI s.1)), some (.int (iI s.2.1)), some (.int (iI s.2.2.1)), some (.int (iI s.2.2.2.1)), some (.int (iI s.2.2.2.2)), some (.int (iI 0))] [] (e_hp M V W) = some (.inl none, e_hp (e_u M 184 (upd (upd (upd (upd (upd (M 184) 29 (iI (l.length : Int))) 30 (iI (min (B 0) (b4 (rvL K m q l) 0)))) 31 (iI (min (B 1) (b4 (rvL K m q l) 1)))) 32 (iI (min (B 2) (b4 (rvL K m q l) 2)))) 33 (iI (min (B 3) (b4 (rvL K m q l) 3))))) V W, 0, 0) := by
    intro s hs
    subst hs
    refine G_loopI (C := fun j => e_lim L xs (d + 2) 182 115 [some (.ref 184), some (.int (iI (l.length : Int))), some (.int x2), some (.int (iI m)), some (.int (iI q)), some (.int x5), some (.int (iI (rvL K m q (l.take j.toNat)).1)), some (.int (iI (rvL K m q (l.take j.toNat)).2.1)), some (.int (iI (rvL K m q (l.take j.toNat)).2.2.1)), some (.int (iI (rvL K m q (l.take j.toNat)).2.2.2.1)), some (.int (iI (rvL K m q (l.take j.toNat)).2.2.2.2)), some (.int (iI j))] [] (e_hp M V W)) (i := 0) (n := (l.length : Int)) (by omega) (fun j x y hc => ?_) ?_
    · have hj : j.toNat < l.length := by omega
      have ho := hl (l.getD j.toNat 0) (getD_mem hj)
      have e1 := HL j.toNat hj
      have rg := rgV_all (m := m) (q := q) hr j.toNat (by omega) h8 hl
      rw [show (j + 1).toNat = j.toNat + 1 by omega, take_s hj, rvL_a] at hc
      generalize l.getD j.toNat 0 = o at *
      generalize rvL K m q (l.take j.toNat) = s at *
      obtain ⟨s1, s2, s3, s4, s5⟩ := s
      obtain ⟨r1, r2, r3, r4, r5⟩ := rg
      simp only at r1 r2 r3 r4 r5 hc ⊢
      have t1 := tO_0 (m := m) hr ho
      have t2 := tO_0 (m := q) hr ho
      have w1 := hr.we (o := o) ho.1 (by omega)
      have d1 := hr.du (o := o) ho.1 (by omega)
      have e2 := l_timeOn (L := L) (xs := xs) (d := d) (V := V) (W := W) HA hr ho (m := m) (by unfold i32; omega)
      have e3 := l_timeOn (L := L) (xs := xs) (d := d) (V := V) (W := W) HA hr ho (m := q) (by unfold i32; omega)
      have e4 := HA.we ho.1 ho.2
      have e5 := HA.du ho.1 ho.2
      have mm := mul_rg (a := K (32 + o)) (b := s1 + tO K o m) (A := 9) (C := 324 * 8) w1 (by omega)
      have hrv : rvS K m q (s1, s2, s3, s4, s5) o = (s1 + tO K o m, (if q = -1 then s2 else max s2 (s1 + tO K o m) + tO K o q), s3 + K (32 + o) * (s1 + tO K o m), max s4 (s1 + tO K o m - K (24 + o)), s5 + if K (24 + o) < s1 + tO K o m then 1 else 0) := rfl
      rw [hrv] at hc
      simp only at hc
      rw [r182_115]
      by_cases c4 : q = -1
      · rw [if_pos c4] at hc
        by_cases c5 : K (24 + o) < s1 + tO K o m
        · rw [if_pos c5] at hc
          simp (disch := first | assumption | exact e_nk_i _ | exact e_nk_n | exact e_nk_r _ | exact e_bo_0 | exact e_bo_1 | exact e_bo_b _ | omega) only [e_cl_v, e_cl_x, e_add_0, e_add_s, Option.toList_some, Option.toList_none, List.cons_append, List.nil_append, iI_add, iI_sub, iI_mul, iI_lt, iI_eq, iI_le, r182_117, r182_118, r182_121, r182_123, r182_124, r182_125, r182_128, r182_130, r182_131, r182_132, r182_135, r182_136, r182_138, r182_140, r182_141, r182_144, r182_146, r182_148, r182_151, r182_152, r182_153, r182_156, r182_158, r182_159, r182_161, r182_164, r182_165, r182_167, r182_169, r182_170, r182_173, r182_174, r182_177, r182_179, r182_180, r182_181, r182_183, r182_184, r182_185, r182_187, r182_189, r182_191, r182_192, r182_195, r182_196, r182_199, r182_201, r182_202, r182_203, r182_204, r182_207, r182_209, r182_211, r182_213, r182_214, r182_217, r182_218, r182_221, r182_223, r182_224, r182_225, r182_228, r182_229, r182_232, r182_233, r182_234, r182_236, r182_239, iI_vin, iI_nat, if_true, e1, e2, e4, e5, iI_mx, if_pos y, if_pos c4, if_pos c5]
          exact hc
        · rw [if_neg c5] at hc
          simp (disch := first | assumption | exact e_nk_i _ | exact e_nk_n | exact e_nk_r _ | exact e_bo_0 | exact e_bo_1 | exact e_bo_b _ | omega) only [e_cl_v, e_cl_x, e_add_0, e_add_s, Option.toList_some, Option.toList_none, List.cons_append, List.nil_append, iI_add, iI_sub, iI_mul, iI_lt, iI_eq, iI_le, r182_117, r182_118, r182_121, r182_123, r182_124, r182_125, r182_128, r182_130, r182_131, r182_132, r182_135, r182_136, r182_138, r182_140, r182_141, r182_144, r182_146, r182_148, r182_151, r182_152, r182_153, r182_156, r182_158, r182_159, r182_161, r182_164, r182_165, r182_167, r182_169, r182_170, r182_173, r182_174, r182_177, r182_179, r182_180, r182_181, r182_183, r182_184, r182_185, r182_187, r182_189, r182_191, r182_192, r182_195, r182_196, r182_199, r182_201, r182_202, r182_203, r182_204, r182_207, r182_209, r182_211, r182_213, r182_214, r182_217, r182_218, r182_221, r182_223, r182_224, r182_225, r182_228, r182_229, r182_232, r182_233, r182_234, r182_236, r182_239, iI_vin, iI_nat, if_true, e1, e2, e4, e5, iI_mx, if_pos y, if_pos c4, if_neg c5]
          exact hc
      · rw [if_neg c4] at hc
        by_cases c5 : K (24 + o) < s1 + tO K o m
        · rw [if_pos c5] at hc
          simp (disch := first | assumption | exact e_nk_i _ | exact e_nk_n | exact e_nk_r _ | exact e_bo_0 | exact e_bo_1 | exact e_bo_b _ | omega) only [e_cl_v, e_cl_x, e_add_0, e_add_s, Option.toList_some, Option.toList_none, List.cons_append, List.nil_append, iI_add, iI_sub, iI_mul, iI_lt, iI_eq, iI_le, r182_117, r182_118, r182_121, r182_123, r182_124, r182_125, r182_128, r182_130, r182_131, r182_132, r182_135, r182_136, r182_138, r182_140, r182_141, r182_144, r182_146, r182_148, r182_151, r182_152, r182_153, r182_156, r182_158, r182_159, r182_161, r182_164, r182_165, r182_167, r182_169, r182_170, r182_173, r182_174, r182_177, r182_179, r182_180, r182_181, r182_183, r182_184, r182_185, r182_187, r182_189, r182_191, r182_192, r182_195, r182_196, r182_199, r182_201, r182_202, r182_203, r182_204, r182_207, r182_209, r182_211, r182_213, r182_214, r182_217, r182_218, r182_221, r182_223, r182_224, r182_225, r182_228, r182_229, r182_232, r182_233, r182_234, r182_236, r182_239, iI_vin, iI_nat, if_true, e1, e2, e3, e4, e5, iI_mx, if_pos y, if_neg c4, if_pos c5]
          exact hc
        · rw [if_neg c5] at hc
          simp (disch := first | assumption | exact e_nk_i _ | exact e_nk_n | exact e_nk_r _ | exact e_bo_0 | exact e_bo_1 | exact e_bo_b _ | omega) only [e_cl_v, e_cl_x, e_add_0, e_add_s, Option.toList_some, Option.toList_none, List.cons_append, List.nil_append, iI_add, iI_sub, iI_mul, iI_lt, iI_eq, iI_le, r182_117, r182_118, r182_121, r182_123, r182_124, r182_125, r182_128, r182_130, r182_131, r182_132, r182_135, r182_136, r182_138, r182_140, r182_141, r182_144, r182_146, r182_148, r182_151, r182_152, r182_153, r182_156, r182_158, r182_159, r182_161, r182_164, r182_165, r182_167, r182_169, r182_170, r182_173, r182_174, r182_177, r182_179, r182_180, r182_181, r182_183, r182_184, r182_185, r182_187, r182_189, r182_191, r182_192, r182_195, r182_196, r182_199, r182_201, r182_202, r182_203, r182_204, r182_207, r182_209, r182_211, r182_213, r182_214, r182_217, r182_218, r182_221, r182_223, r182_224, r182_225, r182_228, r182_229, r182_232, r182_233, r182_234, r182_236, r182_239, iI_vin, iI_nat, if_true, e1, e2, e3, e4, e5, iI_mx, if_pos y, if_neg c4, if_neg c5]
          exact hc
    · have rg := rgV_all (m := m) (q := q) hr l.length (Nat.le_refl _) h8 hl
      rw [Int.toNat_natCast, List.take_length]
      rw [List.take_length] at rg
      generalize rvL K m q l = s at *
      obtain ⟨s1, s2, s3, s4, s5⟩ := s
      obtain ⟨r1, r2, r3, r4, r5⟩ := rg
      simp only at r1 r2 r3 r4 r5 ⊢
      rw [r182_115]
      simp (disch := first | assumption | exact e_nk_i _ | exact e_nk_n | exact e_nk_r _ | exact e_bo_0 | exact e_bo_1 | exact e_bo_b _ | omega) only [e_cl_v, e_cl_x, e_add_0, e_add_s, Option.toList_some, Option.toList_none, List.cons_append, List.nil_append, iI_add, iI_sub, iI_mul, iI_lt, iI_eq, iI_le, r182_117, r182_118]
      rw [if_neg (by omega)]
      simp (disch := first | assumption | exact e_nk_i _ | exact e_nk_n | exact e_nk_r _ | exact e_bo_0 | exact e_bo_1 | exact e_bo_b _ | omega) only [e_cl_v, e_cl_x, e_add_0, e_add_s, Option.toList_some, Option.toList_none, List.cons_append, List.nil_append, iI_add, iI_sub, iI_mul, iI_lt, iI_eq, iI_le, r182_242, r182_243, r182_244, r182_247, r182_248, r182_249, r182_252, r182_254, r182_257, r182_260, r182_261, r182_262, r182_265, r182_267, r182_270, r182_273, r182_274, r182_275, r182_278, r182_280, r182_283, r182_286, r182_287, r182_288, r182_291, r182_293, r182_296, r182_299, e_u_s, e_u_u, upd_n, upd_s, b0, b1, b2, b3, iI_mn]
      rfl
  exact hst (rvL K m q (l.take (0 : Int).toNat)) rfl
end El27
