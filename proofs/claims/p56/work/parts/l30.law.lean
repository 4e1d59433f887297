section El30
variable {L : Nat} {xs : Nat → Int32} {d : Nat} {M M1 M2 M3 : e_MI} {V V2 : e_ML} {W : e_MD} {K K2 : e_St} {S : Int → e_St} {h : e_H} {c o j w z m k q p i a b t x its u v : Int} {l : List Int} {B : Nat → Int}
theorem one_rg (hr : kR K) : 0 ≤ wtW K m ∧ wtW K m ≤ 240000 := by
  have hF := Full_wy (m := m) (w := 0) hr (by omega)
  have hl : ∀ x ∈ wyL K m 0, 0 ≤ x ∧ x < K 310 := fun x hx => by have := (hF.2 x).mp hx; exact ⟨this.1, this.2.1⟩
  have h8 := nd_len hr.n.1 hF.1 hl
  have hn := hr.n
  have := rgV_all (m := m) (q := -1) hr (wyL K m 0).length (Nat.le_refl _) (by omega) hl
  rw [List.take_length] at this
  have h3 := this.2.2.1
  rw [att0] at h3
  omega
/-- one machine, and with the next one -/
theorem l_oneM (H : CL M K c S) (hm : 0 ≤ m ∧ m < 3) : ∃ M2 : e_MI, (CL M2 K c S ∧ fTp M M2) ∧ ∀ r, e_lim L xs (d + 15) 183 2 [some (.ref 184), some (.int (iI (m + 1))), none, none] [] (e_hp M2 V W) = some r → e_lim L xs (d + 15) 183 2 [some (.ref 184), some (.int (iI m)), none, none] [] (e_hp M V W) = some r := by
  have hr := H.g.1
  have hn := hr.n
  have hm3 : 0 ≤ m ∧ m ≤ 3 := by omega
  obtain ⟨z, hz, hz1, hz2⟩ := iI_of (M 184 33)
  -- on one machine
  have hF1 : fN M (e_u M 184 (upd (upd (upd (M 184) 30 (iI 2147483647)) 31 (iI 2147483647)) 32 (iI 2147483647))) := ⟨fun a x _ => e_u_n _ _ x, fun j x => by rw [e_u_s, upd_n _ _ (by omega), upd_n _ _ (by omega), upd_n _ _ (by omega)]⟩
  have H1 := H.of hF1.ll
  have hB1 : BS (e_u M 184 (upd (upd (upd (M 184) 30 (iI 2147483647)) 31 (iI 2147483647)) 32 (iI 2147483647))) (fun i => if i = 3 then z else 2147483647) := ⟨⟨by rw [e_u_s, upd_n _ _ (by decide), upd_n _ _ (by decide), upd_s]; rfl, by rw [e_u_s, upd_n _ _ (by decide), upd_s]; rfl, by rw [e_u_s, upd_s]; rfl, by rw [e_u_s, upd_n _ _ (by decide), upd_n _ _ (by decide), upd_n _ _ (by decide), hz]; rfl⟩, fun i hi => by simp only; split <;> omega⟩
  have hmk : MK K [] 0 := ⟨by decide, fun o x y => by simp⟩
  obtain ⟨M2, B2, e2, f2, -, s2, t2, u2, r2, v2, w2⟩ := l_triesLines (L := L) (xs := xs) (d := d + 12 - (K 310).toNat) (V := V) (W := W) hr hm3 (q := -1) (by omega) (K 310).toNat [] 0 _ _ (by simp; omega) List.nodup_nil (fun x hx => by cases hx) hmk (fun i hi => by simp at hi) H1.la hB1
  rw [show d + 12 - (K 310).toNat + (K 310).toNat + 2 = d + 14 by omega] at e2
  have e2 : e_lim L xs (d + 14) 182 0 [some (.ref 184), some (.int (iI 0)), some (.int (iI 0)), some (.int (iI m)), some (.int (iI (-1))), none, none, none, none, none, none, none] [] (e_hp (e_u M 184 (upd (upd (upd (M 184) 30 (iI 2147483647)) 31 (iI 2147483647)) 32 (iI 2147483647))) V W) = some (.inl none, e_hp M2 V W, 0, 0) := e2
  have H2 := H1.of f2.ll
  have hlm : r2.length = (wyL K m 2).length := Full_len v2 (Full_wy hr (by omega))
  have hl1 : (wyL K m 1).length = (wyL K m 2).length := Full_len (Full_wy (m := m) (w := 1) hr (by omega)) (Full_wy hr (by omega))
  rw [hlm] at w2
  obtain ⟨b0, b1, b2⟩ := one_told hr hm3 (B := fun i => if i = 3 then z else 2147483647) (B2 := B2) ⟨⟨rfl, rfl, rfl⟩, by show -2147483648 ≤ z; omega⟩ t2 u2
  obtain ⟨⟨s0, s1, s3, s4⟩, -⟩ := s2
  rw [b0] at s0
  rw [b2] at s3
  have en := H2.la.nn
  -- the class's answers
  obtain ⟨M3, e3, f3, g3⟩ := x_weighted (L := L) (xs := xs) (d := d + 9) (V := V) (W := W) H2.ck H2.g (m := m) (by unfold i32; omega)
  rw [if_pos hm3] at e3
  have H3 := H2.qu f3 (fun a x => g3 a (by omega))
  obtain ⟨M4, e4, f4, g4⟩ := x_fewestLate (L := L) (xs := xs) (d := d + 9) (V := V) (W := W) f3 H.g (m := m) (by unfold i32; omega)
  rw [if_pos hm3] at e4
  have H4 := H3.qu f4 (fun a x => g4 a (by omega))
  have e5 := x_load (L := L) (xs := xs) (d := d + 10) (V := V) (W := W) f4.sh hr (m := m) (by unfold i32; omega)
  rw [if_pos hm3] at e5
  obtain ⟨M5, e6, f6, g6⟩ := x_lateness (L := L) (xs := xs) (d := d + 9) (V := V) (W := W) f4 H.g (m := m) (by unfold i32; omega)
  rw [if_pos hm3] at e6
  have H5 := H4.qu f6 (fun a x => g6 a (by omega))
  have hk5 : ∀ a, 178 < a → M5 a = M2 a := fun a x => by rw [g6 a x, g4 a x, g3 a x]
  have w5 : M5 184 29 = iI ((wyL K m 2).length : Int) := by rw [hk5 184 (by decide)]; exact w2
  obtain ⟨M6, e7, f7, g7⟩ := l_isGone (L := L) (xs := xs) (d := d + 7) (V := V) (W := W) H5 hm3 w5
  have H6 := H5.qu f7 (fun a x => g7 a (by omega))
  -- on two machines
  have hq3 : 0 ≤ (m + 1) % 3 ∧ (m + 1) % 3 ≤ 3 := by omega
  have hF7 : fN M6 (e_u M6 184 (upd (M6 184) 33 (iI 2147483647))) := ⟨fun a x _ => e_u_n _ _ x, fun j x => by rw [e_u_s, upd_n _ _ (by omega)]⟩
  have H7 := H6.of hF7.ll
  have hk6 : ∀ a, 178 < a → M6 a = M2 a := fun a x => by rw [g7 a x, hk5 a x]
  obtain ⟨z1, y1, y2, y3⟩ := iI_of (M6 184 31)
  have l0 := (one_rg (K := K) (m := m) hr)
  have hB7 : BS (e_u M6 184 (upd (M6 184) 33 (iI 2147483647))) (fun i => if i = 0 then wtW K m else if i = 1 then z1 else if i = 2 then ((goW K m).2.length : Int) else 2147483647) := ⟨⟨by rw [e_u_s, upd_n _ _ (by decide), hk6 184 (by decide)]; exact s0, by rw [e_u_s, upd_n _ _ (by decide), y1]; rfl, by rw [e_u_s, upd_n _ _ (by decide), hk6 184 (by decide)]; exact s3, by rw [e_u_s, upd_s]; rfl⟩, fun i hi => by
    have := wy_len (m := m) hr
    simp only
    split
    · omega
    · split
      · omega
      · split <;> omega⟩
  obtain ⟨M8, B8, e8, f8, -, s8, t8, u8, -⟩ := l_triesLines (L := L) (xs := xs) (d := d + 12 - (K 310).toNat) (V := V) (W := W) hr hm3 (q := (m + 1) % 3) (by omega) (K 310).toNat [] 0 _ _ (by simp; omega) List.nodup_nil (fun x hx => by cases hx) hmk (fun i hi => by simp at hi) H7.la hB7
  rw [show d + 12 - (K 310).toNat + (K 310).toNat + 2 = d + 14 by omega] at e8
  have e8 : e_lim L xs (d + 14) 182 0 [some (.ref 184), some (.int (iI 0)), some (.int (iI 0)), some (.int (iI m)), some (.int (iI ((m + 1) % 3))), none, none, none, none, none, none, none] [] (e_hp (e_u M6 184 (upd (M6 184) 33 (iI 2147483647))) V W) = some (.inl none, e_hp M8 V W, 0, 0) := e8
  have H8 := H7.of f8.ll
  have b8 := two_told hr hm3 hq3 (B := fun i => if i = 0 then wtW K m else if i = 1 then z1 else if i = 2 then ((goW K m).2.length : Int) else 2147483647) (B2 := B8) ⟨rfl, fun i hi => (hB7.2 i hi).1⟩ t8 u8
  have s83 := s8.1.2.2.2
  rw [b8] at s83
  obtain ⟨M9, e9, f9, g9⟩ := x_two (L := L) (xs := xs) (d := d + 10) (V := V) (W := W) H8.ck H8.g (m := m) (q := (m + 1) % 3) (by unfold i32; omega) (by unfold i32; omega)
  rw [if_pos (by omega)] at e9
  have g83 : M9 184 33 = iI (twW K m ((m + 1) % 3)) := by rw [g9 184 (by decide)]; exact s83
  refine ⟨M9, ⟨H8.qu f9 (fun a x => g9 a (by omega)), fun a x y => by rw [g9 a (by omega), f8.ll.1 a (by omega), hF7.ll.1 a (by omega), g7 a (by omega), g6 a (by omega), g4 a (by omega), g3 a (by omega), f2.ll.1 a (by omega), hF1.ll.1 a (by omega)]⟩, fun r hr9 => ?_⟩
  -- the sum of all times
  have sum : ∀ r : e_R, e_lim L xs (d + 15) 183 60 [some (.ref 184), some (.int (iI m)), some (.int (iI (lO K m))), some (.int (iI (K 310)))] [] (e_hp M2 V W) = some r → e_lim L xs (d + 15) 183 37 [some (.ref 184), some (.int (iI m)), some (.int (iI 0)), some (.int (iI 0))] [] (e_hp M2 V W) = some r := by
    intro r hr2
    refine G_loopI (C := fun j => e_lim L xs (d + 15) 183 37 [some (.ref 184), some (.int (iI m)), some (.int (iI (SU (fun o => tO K o m) j))), some (.int (iI j))] [] (e_hp M2 V W)) (i := 0) (n := K 310) hn.1 (fun j x y hc => ?_) ?_
    · have a1 := l_timeOn (L := L) (xs := xs) (d := d + 13) (V := V) (W := W) H2.la hr ⟨x, y⟩ (m := m) (by unfold i32; omega)
      rw [SU_s _ x] at hc
      rw [r183_37]
      simp (disch := first | assumption | exact e_nk_i _ | exact e_nk_n | exact e_nk_r _ | exact e_bo_0 | exact e_bo_1 | exact e_bo_b _ | omega) only [e_cl_v, e_cl_x, e_add_0, e_add_s, Option.toList_some, Option.toList_none, List.cons_append, List.nil_append, iI_add, iI_sub, iI_mul, iI_lt, iI_eq, iI_le, r183_38, r183_39, r183_42, r183_45, r183_46, r183_47, r183_48, r183_49, r183_52, r183_53, r183_54, r183_57, en, a1, if_pos y]
      exact hc
    · rw [r183_37]
      simp (disch := first | assumption | exact e_nk_i _ | exact e_nk_n | exact e_nk_r _ | exact e_bo_0 | exact e_bo_1 | exact e_bo_b _ | omega) only [e_cl_v, e_cl_x, e_add_0, e_add_s, Option.toList_some, Option.toList_none, List.cons_append, List.nil_append, iI_add, iI_sub, iI_mul, iI_lt, iI_eq, iI_le, r183_38, r183_39, r183_42, en]
      rw [if_neg (by omega)]
      exact hr2
  have hlx := lO_rg (m := m) hr
  have k30 : M3 184 30 = iI (wtW K m) := by rw [g3 184 (by decide)]; exact s0
  have k32 : M4 184 32 = iI ((goW K m).2.length : Int) := by rw [g4 184 (by decide), g3 184 (by decide)]; exact s3
  have hn3 := iI_ne (b := 3) (by omega) (by omega)
  have hrem := iI_rem (a := m + 1) (b := 3) (by omega) (by omega) (by omega) (by omega)
  rw [r183_2]
  simp (disch := first | assumption | exact e_nk_i _ | exact e_nk_n | exact e_nk_r _ | exact e_bo_0 | exact e_bo_1 | exact e_bo_b _ | omega) only [e_cl_v, e_cl_x, e_add_0, e_add_s, Option.toList_some, Option.toList_none, List.cons_append, List.nil_append, iI_add, iI_sub, iI_mul, iI_lt, iI_eq, iI_le, r183_3, r183_4, r183_7, r183_8, r183_10, r183_13, r183_14, r183_16, r183_19, r183_20, r183_22, r183_25, r183_26, r183_27, r183_28, r183_29, r183_30, r183_33, r183_34, r183_35, r183_36, e_u_s, e_u_u, upd_uu, e2, if_pos hm.2]
  refine sum _ ?_
  have hgl := wy_len (m := m) hr
  have tail : e_lim L xs (d + 15) 183 130 [some (.ref 184), some (.int (iI m)), some (.int (iI (lO K m))), some (.int (iI (K 310)))] [] (e_hp M5 V W) = some r := by
    simp (disch := first | assumption | exact e_nk_i _ | exact e_nk_n | exact e_nk_r _ | exact e_bo_0 | exact e_bo_1 | exact e_bo_b _ | omega) only [e_cl_v, e_cl_x, e_add_0, e_add_s, Option.toList_some, Option.toList_none, List.cons_append, List.nil_append, iI_add, iI_sub, iI_mul, iI_lt, iI_eq, iI_le, r183_130, r183_131, r183_132, r183_135, r183_138, r183_139, r183_140, r183_141, r183_142, r183_143, r183_144, e7, bI_0, hn3]
    rw [if_neg (by decide)]
    simp only [iI_add, hrem]
    simp (disch := first | assumption | exact e_nk_i _ | exact e_nk_n | exact e_nk_r _ | exact e_bo_0 | exact e_bo_1 | exact e_bo_b _ | omega) only [e_cl_v, e_cl_x, e_add_0, e_add_s, Option.toList_some, Option.toList_none, List.cons_append, List.nil_append, iI_add, iI_sub, iI_mul, iI_lt, iI_eq, iI_le, r183_145, r183_146, r183_147, r183_149, r183_152, r183_153, r183_154, r183_155, r183_156, r183_157, r183_160, r183_161, r183_164, r183_165, r183_166, r183_169, r183_170, r183_173, r183_176, r183_177, r183_178, r183_181, e8, e9, g83, e_u_s]
    simp only [if_true]
    exact G_less (by repeat (first | exact e_ll.rf | refine e_ll_c ?_ | refine e_ll_x ?_)) hr9
  by_cases c1 : (wyL K m 2).length = 0
  · have hz0 : wyL K m 1 = [] := List.length_eq_zero_iff.mp (by omega)
    have hlt : ltW K m = 0 := by
      have h1 : oneL K m false = [] := hz0
      unfold ltW
      rw [h1]
      rfl
    rw [hlt] at e6
    have w50 : M5 184 29 = iI 0 := by rw [w5, c1]; rfl
    simp (disch := first | assumption | exact e_nk_i _ | exact e_nk_n | exact e_nk_r _ | exact e_bo_0 | exact e_bo_1 | exact e_bo_b _ | omega) only [e_cl_v, e_cl_x, e_add_0, e_add_s, Option.toList_some, Option.toList_none, List.cons_append, List.nil_append, iI_add, iI_sub, iI_mul, iI_lt, iI_eq, iI_le, r183_60, r183_61, r183_64, r183_65, r183_68, r183_69, r183_72, r183_75, r183_76, r183_79, r183_80, r183_83, r183_84, r183_87, r183_90, r183_91, r183_94, r183_95, r183_98, r183_99, r183_102, r183_103, r183_104, r183_105, r183_108, r183_109, r183_112, r183_113, r183_116, r183_119, r183_120, r183_123, r183_124, r183_127, e3, e4, e5, e6, k30, k32, w50, if_true]
    exact tail
  · have hne : wyL K m 1 ≠ [] := fun e => c1 (by rw [← hl1, e]; rfl)
    have b1 := b1 hne
    rw [b1] at s1
    have k31 : M5 184 31 = iI (ltW K m) := by rw [hk5 184 (by decide)]; exact s1
    simp (disch := first | assumption | exact e_nk_i _ | exact e_nk_n | exact e_nk_r _ | exact e_bo_0 | exact e_bo_1 | exact e_bo_b _ | omega) only [e_cl_v, e_cl_x, e_add_0, e_add_s, Option.toList_some, Option.toList_none, List.cons_append, List.nil_append, iI_add, iI_sub, iI_mul, iI_lt, iI_eq, iI_le, r183_60, r183_61, r183_64, r183_65, r183_68, r183_69, r183_72, r183_75, r183_76, r183_79, r183_80, r183_83, r183_84, r183_87, r183_90, r183_91, r183_94, r183_95, r183_98, r183_99, r183_102, r183_103, r183_104, r183_105, r183_108, r183_109, r183_112, r183_113, r183_116, r183_119, r183_120, r183_123, r183_124, r183_127, e3, e4, e5, e6, k30, k31, k32, w5, if_true]
    rw [if_neg (by omega)]
    exact tail
theorem l_isOne (H : CL M K c S) : ∃ M2 : e_MI, e_lim L xs (d + 15) 183 0 [some (.ref 184), none, none, none] [] (e_hp M V W) = some (.inl (some (.int (bI true))), e_hp M2 V W, 0, 0) ∧ CL M2 K c S ∧ fTp M M2 := by
  have key := G_lp (i := 0) (n := 3) (I := fun _ M1 => CL M1 K c S ∧ fTp M M1) (P := fun j M1 => ∃ M2 : e_MI, e_lim L xs (d + 15) 183 2 [some (.ref 184), some (.int (iI j)), none, none] [] (e_hp M1 V W) = some (.inl (some (.int (bI true))), e_hp M2 V W, 0, 0) ∧ CL M2 K c S ∧ fTp M M2) (fun j M1 x y hI hc => ?_) (fun M1 hI => ?_) (by omega) M ⟨H, fTp.rf M⟩
  · obtain ⟨M2, e, r⟩ := key
    refine ⟨M2, ?_, r⟩
    rw [← e]
    simp (disch := first | assumption | exact e_nk_i _ | exact e_nk_n | exact e_nk_r _ | exact e_bo_0 | exact e_bo_1 | exact e_bo_b _ | omega) only [e_cl_v, e_cl_x, e_add_0, e_add_s, Option.toList_some, Option.toList_none, List.cons_append, List.nil_append, iI_add, iI_sub, iI_mul, iI_lt, iI_eq, iI_le, r183_0, r183_1]
  · obtain ⟨M2, ⟨h1, h3⟩, h2⟩ := l_oneM (L := L) (xs := xs) (d := d) (V := V) (W := W) hI.1 ⟨x, y⟩
    obtain ⟨M3, e, r⟩ := hc M2 ⟨h1, hI.2.tr h3⟩
    exact ⟨M3, h2 _ e, r⟩
  · refine ⟨M1, ?_, hI⟩
    rw [r183_2]
    simp (disch := first | assumption | exact e_nk_i _ | exact e_nk_n | exact e_nk_r _ | exact e_bo_0 | exact e_bo_1 | exact e_bo_b _ | omega) only [e_cl_v, e_cl_x, e_add_0, e_add_s, Option.toList_some, Option.toList_none, List.cons_append, List.nil_append, iI_add, iI_sub, iI_mul, iI_lt, iI_eq, iI_le, r183_3, r183_4, r183_184, r183_185]
    rw [if_neg (by omega)]
    rfl
end El30
