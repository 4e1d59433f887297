section El37
variable {L : Nat} {xs : Nat → Int32} {d : Nat} {M M1 M2 M3 : e_MI} {V V1 V2 : e_ML} {W : e_MD} {K K2 : e_St} {S : Int → e_St} {h : e_H} {c o j w z m k q p i f b t n x its er u v : Int} {U : Int → Int} {s : Int × (Int → Int)} {a : Nat}
/-! an order is drawn -/
/-- one number is drawn into a row of the law's -/
def fS (a : Nat) (j v : Int) (M M2 : e_MI) : Prop := (∀ b, b ≠ 184 → b ≠ a → M2 b = M b) ∧ (∀ k, k ≠ 0 → M2 184 k = M 184 k) ∧ ∀ i, M2 a i = if i = j.toNat then iI v else M a i
theorem fS.mk (h : fX M M1) (ha : a ≠ 184) : fS a j v M (e_u M1 a (upd (M1 a) j.toNat (iI v))) :=
  ⟨fun b x y => by rw [e_u_n _ _ y, h.1 b x], fun k x => by rw [e_u_n _ _ (Ne.symm ha), h.2 k x], fun i => by
    rw [e_u_s]
    unfold upd
    rw [h.1 a ha]⟩
theorem l_d1 (hj : 0 ≤ j ∧ j < 8) : ∃ (M2 : e_MI) (v : Int), (0 ≤ v ∧ v ≤ 2) ∧ fS 185 j v M M2 ∧ ∀ r : e_R, e_lim L xs (d + 9) 166 32 [some (.ref 184), some (.int (iI j)), none, none, none, none, none] [] (e_hp M2 V W) = some r → e_lim L xs (d + 9) 166 21 [some (.ref 184), some (.int (iI j)), none, none, none, none, none] [] (e_hp M V W) = some r := by
  obtain ⟨M1, v, e1, r1, f1⟩ := l_next (L := L) (xs := xs) (d := d + 8) (V := V) (W := W) (M := M) (n := 3) (by omega)
  refine ⟨_, v, by omega, fS.mk f1 (by decide), fun r hr => ?_⟩
  simp (disch := first | assumption | exact e_nk_i _ | exact e_nk_n | exact e_nk_r _ | exact e_bo_0 | exact e_bo_1 | exact e_bo_b _ | omega) only [e_cl_v, e_cl_x, e_add_0, e_add_s, Option.toList_some, Option.toList_none, List.cons_append, List.nil_append, iI_add, iI_sub, iI_mul, iI_lt, iI_eq, iI_le, r166_21, r166_22, r166_25, r166_26, r166_27, r166_28, r166_31, iI_vin, iI_nat, if_true, e1]
  exact hr
theorem l_d2 (hj : 0 ≤ j ∧ j < 8) : ∃ (M2 : e_MI) (v : Int), (1 ≤ v ∧ v ≤ 9) ∧ fS 186 j v M M2 ∧ ∀ r : e_R, e_lim L xs (d + 9) 166 58 [some (.ref 184), some (.int (iI j)), none, none, none, none, none] [] (e_hp M2 V W) = some r → e_lim L xs (d + 9) 166 32 [some (.ref 184), some (.int (iI j)), none, none, none, none, none] [] (e_hp M V W) = some r := by
  obtain ⟨M1, z, e1, r1, f1⟩ := l_next (L := L) (xs := xs) (d := d + 8) (V := V) (W := W) (M := M) (n := 2) (by omega)
  by_cases hz : z = 0
  · obtain ⟨M2, v, e2, r2, f2⟩ := l_next (L := L) (xs := xs) (d := d + 8) (V := V) (W := W) (M := M1) (n := 3) (by omega)
    refine ⟨_, 1 + v, by omega, fS.mk (f1.t f2) (by decide), fun r hr => ?_⟩
    simp (disch := first | assumption | exact e_nk_i _ | exact e_nk_n | exact e_nk_r _ | exact e_bo_0 | exact e_bo_1 | exact e_bo_b _ | omega) only [e_cl_v, e_cl_x, e_add_0, e_add_s, Option.toList_some, Option.toList_none, List.cons_append, List.nil_append, iI_add, iI_sub, iI_mul, iI_lt, iI_eq, iI_le, r166_32, r166_33, r166_36, r166_37, r166_38, r166_39, r166_40, r166_41, r166_44, r166_47, r166_48, r166_51, r166_53, r166_56, r166_57, iI_vin, iI_nat, if_true, e1, e2, if_pos hz]
    exact hr
  · obtain ⟨M2, v, e2, r2, f2⟩ := l_next (L := L) (xs := xs) (d := d + 8) (V := V) (W := W) (M := M1) (n := 9) (by omega)
    refine ⟨_, 1 + v, by omega, fS.mk (f1.t f2) (by decide), fun r hr => ?_⟩
    simp (disch := first | assumption | exact e_nk_i _ | exact e_nk_n | exact e_nk_r _ | exact e_bo_0 | exact e_bo_1 | exact e_bo_b _ | omega) only [e_cl_v, e_cl_x, e_add_0, e_add_s, Option.toList_some, Option.toList_none, List.cons_append, List.nil_append, iI_add, iI_sub, iI_mul, iI_lt, iI_eq, iI_le, r166_32, r166_33, r166_36, r166_37, r166_38, r166_39, r166_40, r166_41, r166_44, r166_47, r166_48, r166_51, r166_53, r166_56, r166_57, iI_vin, iI_nat, if_true, e1, e2, if_neg hz]
    exact hr
theorem l_d3 (hj : 0 ≤ j ∧ j < 8) : ∃ (M2 : e_MI) (v : Int), (0 ≤ v ∧ v ≤ 39) ∧ fS 187 j v M M2 ∧ ∀ r : e_R, e_lim L xs (d + 9) 166 82 [some (.ref 184), some (.int (iI j)), none, none, none, none, none] [] (e_hp M2 V W) = some r → e_lim L xs (d + 9) 166 58 [some (.ref 184), some (.int (iI j)), none, none, none, none, none] [] (e_hp M V W) = some r := by
  obtain ⟨M1, z, e1, r1, f1⟩ := l_next (L := L) (xs := xs) (d := d + 8) (V := V) (W := W) (M := M) (n := 3) (by omega)
  by_cases hz : z = 0
  · obtain ⟨M2, v, e2, r2, f2⟩ := l_next (L := L) (xs := xs) (d := d + 8) (V := V) (W := W) (M := M1) (n := 40) (by omega)
    refine ⟨_, v, by omega, fS.mk (f1.t f2) (by decide), fun r hr => ?_⟩
    simp (disch := first | assumption | exact e_nk_i _ | exact e_nk_n | exact e_nk_r _ | exact e_bo_0 | exact e_bo_1 | exact e_bo_b _ | omega) only [e_cl_v, e_cl_x, e_add_0, e_add_s, Option.toList_some, Option.toList_none, List.cons_append, List.nil_append, iI_add, iI_sub, iI_mul, iI_lt, iI_eq, iI_le, r166_58, r166_59, r166_62, r166_63, r166_64, r166_65, r166_68, r166_71, r166_72, r166_74, r166_77, r166_80, r166_81, iI_vin, iI_nat, if_true, e1, e2, if_pos hz]
    exact hr
  · refine ⟨_, 0, by omega, fS.mk f1 (by decide), fun r hr => ?_⟩
    simp (disch := first | assumption | exact e_nk_i _ | exact e_nk_n | exact e_nk_r _ | exact e_bo_0 | exact e_bo_1 | exact e_bo_b _ | omega) only [e_cl_v, e_cl_x, e_add_0, e_add_s, Option.toList_some, Option.toList_none, List.cons_append, List.nil_append, iI_add, iI_sub, iI_mul, iI_lt, iI_eq, iI_le, r166_58, r166_59, r166_62, r166_63, r166_64, r166_65, r166_68, r166_71, r166_72, r166_74, r166_77, r166_80, r166_81, iI_vin, iI_nat, if_true, e1, if_neg hz]
    exact hr
theorem l_d4 (hj : 0 ≤ j ∧ j < 8) : ∃ (M2 : e_MI) (v : Int), (0 ≤ v ∧ v ≤ 299) ∧ fS 188 j v M M2 ∧ ∀ r : e_R, e_lim L xs (d + 9) 166 108 [some (.ref 184), some (.int (iI j)), none, none, none, none, none] [] (e_hp M2 V W) = some r → e_lim L xs (d + 9) 166 82 [some (.ref 184), some (.int (iI j)), none, none, none, none, none] [] (e_hp M V W) = some r := by
  obtain ⟨M1, z, e1, r1, f1⟩ := l_next (L := L) (xs := xs) (d := d + 8) (V := V) (W := W) (M := M) (n := 2) (by omega)
  by_cases hz : z = 0
  · obtain ⟨M2, v, e2, r2, f2⟩ := l_next (L := L) (xs := xs) (d := d + 8) (V := V) (W := W) (M := M1) (n := 60) (by omega)
    refine ⟨_, v, by omega, fS.mk (f1.t f2) (by decide), fun r hr => ?_⟩
    simp (disch := first | assumption | exact e_nk_i _ | exact e_nk_n | exact e_nk_r _ | exact e_bo_0 | exact e_bo_1 | exact e_bo_b _ | omega) only [e_cl_v, e_cl_x, e_add_0, e_add_s, Option.toList_some, Option.toList_none, List.cons_append, List.nil_append, iI_add, iI_sub, iI_mul, iI_lt, iI_eq, iI_le, r166_82, r166_83, r166_86, r166_87, r166_88, r166_89, r166_90, r166_93, r166_96, r166_98, r166_101, r166_104, r166_107, iI_vin, iI_nat, if_true, e1, e2, if_pos hz]
    exact hr
  · obtain ⟨M2, v, e2, r2, f2⟩ := l_next (L := L) (xs := xs) (d := d + 8) (V := V) (W := W) (M := M1) (n := 300) (by omega)
    refine ⟨_, v, by omega, fS.mk (f1.t f2) (by decide), fun r hr => ?_⟩
    simp (disch := first | assumption | exact e_nk_i _ | exact e_nk_n | exact e_nk_r _ | exact e_bo_0 | exact e_bo_1 | exact e_bo_b _ | omega) only [e_cl_v, e_cl_x, e_add_0, e_add_s, Option.toList_some, Option.toList_none, List.cons_append, List.nil_append, iI_add, iI_sub, iI_mul, iI_lt, iI_eq, iI_le, r166_82, r166_83, r166_86, r166_87, r166_88, r166_89, r166_90, r166_93, r166_96, r166_98, r166_101, r166_104, r166_107, iI_vin, iI_nat, if_true, e1, e2, if_neg hz]
    exact hr
theorem l_d5 (hj : 0 ≤ j ∧ j < 8) : ∃ (M2 : e_MI) (v : Int), (1 ≤ v ∧ v ≤ 9) ∧ fS 189 j v M M2 ∧ ∀ r : e_R, e_lim L xs (d + 9) 166 122 [some (.ref 184), some (.int (iI j)), none, none, none, none, none] [] (e_hp M2 V W) = some r → e_lim L xs (d + 9) 166 108 [some (.ref 184), some (.int (iI j)), none, none, none, none, none] [] (e_hp M V W) = some r := by
  obtain ⟨M1, v, e1, r1, f1⟩ := l_next (L := L) (xs := xs) (d := d + 8) (V := V) (W := W) (M := M) (n := 9) (by omega)
  refine ⟨_, 1 + v, by omega, fS.mk f1 (by decide), fun r hr => ?_⟩
  simp (disch := first | assumption | exact e_nk_i _ | exact e_nk_n | exact e_nk_r _ | exact e_bo_0 | exact e_bo_1 | exact e_bo_b _ | omega) only [e_cl_v, e_cl_x, e_add_0, e_add_s, Option.toList_some, Option.toList_none, List.cons_append, List.nil_append, iI_add, iI_sub, iI_mul, iI_lt, iI_eq, iI_le, r166_108, r166_109, r166_112, r166_113, r166_114, r166_115, r166_117, r166_120, r166_121, iI_vin, iI_nat, if_true, e1]
  exact hr
/-- what a drawing keeps: the class's state, and what is not drawn yet -/
def DD (M : e_MI) (K : e_St) (c : Int) (S : Int → e_St) : Prop := (CK M K c S ∧ kG K ∧ ∀ j, 0 ≤ j → j < c → kG (S j)) ∧ ((K 308 = 0 ∧ K 309 = 1) ∧ ∀ i, 0 ≤ i → i < 3 → K (238 + i) = 4) ∧ (K 311 = 0 ∧ M 184 18 = iI 0)
/-- the orders' cells -/
def DO (M : e_MI) (K : e_St) : Prop := ∀ o, 0 ≤ o → o < K 310 → (M 185 o.toNat = iI (K o) ∧ M 186 o.toNat = iI (K (8 + o)) ∧ M 187 o.toNat = iI (K (16 + o)) ∧ M 188 o.toNat = iI (K (24 + o)) ∧ M 189 o.toNat = iI (K (32 + o))) ∧ K (40 + o) = 0
def DZ (M : e_MI) (K : e_St) (n : Int) : Prop := (M 184 16 = iI n ∧ M 184 17 = iI 0) ∧ (∀ o : Int, 0 ≤ o → o < 8 → M 190 o.toNat = iI 0) ∧ ∀ i : Int, 0 ≤ i → i < 64 → M 194 i.toNat = iI (K (144 + i))
theorem nwK_n (h : z < 241 ∨ 308 ≤ z) : nwK K z = K z := by
  unfold nwK
  rw [raK_n (by omega), gkK_n (by omega)]
theorem l_ordered (hn : 1 ≤ n ∧ n ≤ 5) (H : DD M K c S) (HO : DO M K) (HZ : DZ M K n) (hk : K 310 = 0) : ∃ (M2 : e_MI) (K2 : e_St) (c2 : Int) (S2 : Int → e_St), (DD M2 K2 c2 S2 ∧ DO M2 K2 ∧ DZ M2 K2 n ∧ K2 310 = n) ∧ fTp M M2 ∧ ∀ r : e_R, e_lim L xs (d + 9) 166 171 [some (.ref 184), none, none, none, none, none, none] [] (e_hp M2 V W) = some r → e_lim L xs (d + 9) 166 13 [some (.ref 184), some (.int (iI 0)), none, none, none, none, none] [] (e_hp M V W) = some r := by
  have key := G_lp (i := 0) (n := n) (I := fun j M1 => fTp M M1 ∧ ∃ (K1 : e_St) (c1 : Int) (S1 : Int → e_St), DD M1 K1 c1 S1 ∧ DO M1 K1 ∧ DZ M1 K1 n ∧ K1 310 = j)
    (P := fun j M1 => ∃ (M2 : e_MI) (K2 : e_St) (c2 : Int) (S2 : Int → e_St), (DD M2 K2 c2 S2 ∧ DO M2 K2 ∧ DZ M2 K2 n ∧ K2 310 = n) ∧ fTp M M2 ∧ ∀ r : e_R, e_lim L xs (d + 9) 166 171 [some (.ref 184), none, none, none, none, none, none] [] (e_hp M2 V W) = some r → e_lim L xs (d + 9) 166 13 [some (.ref 184), some (.int (iI j)), none, none, none, none, none] [] (e_hp M1 V W) = some r) (fun j M1 x y hI hc => ?_) (fun M1 hI => ?_) (by omega) M ⟨fun _ _ _ => rfl, K, c, S, H, HO, HZ, hk⟩
  · exact key
  · obtain ⟨t0, K1, c1, S1, HD, H1, H2, hk1⟩ := hI
    obtain ⟨⟨ck, hg, hus⟩, ⟨⟨r0, r1⟩, rw4⟩, rs0, rs1⟩ := HD
    obtain ⟨⟨z1, z2⟩, z3, z4⟩ := H2
    obtain ⟨N1, a1, b1, g1, k1⟩ := l_d1 (L := L) (xs := xs) (d := d) (V := V) (W := W) (M := M1) (j := j) (by omega)
    obtain ⟨N2, a2, b2, g2, k2⟩ := l_d2 (L := L) (xs := xs) (d := d) (V := V) (W := W) (M := N1) (j := j) (by omega)
    obtain ⟨N3, a3, b3, g3, k3⟩ := l_d3 (L := L) (xs := xs) (d := d) (V := V) (W := W) (M := N2) (j := j) (by omega)
    obtain ⟨N4, a4, b4, g4, k4⟩ := l_d4 (L := L) (xs := xs) (d := d) (V := V) (W := W) (M := N3) (j := j) (by omega)
    obtain ⟨N5, a5, b5, g5, k5⟩ := l_d5 (L := L) (xs := xs) (d := d) (V := V) (W := W) (M := N4) (j := j) (by omega)
    have al : ∀ b, b ≠ 184 → b ≠ 185 → b ≠ 186 → b ≠ 187 → b ≠ 188 → b ≠ 189 → N5 b = M1 b := fun b w1 w2 w3 w4 w5 w6 => by rw [g5.1 b w1 w6, g4.1 b w1 w5, g3.1 b w1 w4, g2.1 b w1 w3, g1.1 b w1 w2]
    have al4 : ∀ k, k ≠ 0 → N5 184 k = M1 184 k := fun k w => by rw [g5.2.1 k w, g4.2.1 k w, g3.2.1 k w, g2.2.1 k w, g1.2.1 k w]
    have m1 : ∀ i, N5 185 i = if i = j.toNat then iI a1 else M1 185 i := fun i => by rw [g5.1 185 (by decide) (by decide), g4.1 185 (by decide) (by decide), g3.1 185 (by decide) (by decide), g2.1 185 (by decide) (by decide)]; exact g1.2.2 i
    have m2 : ∀ i, N5 186 i = if i = j.toNat then iI a2 else M1 186 i := fun i => by rw [g5.1 186 (by decide) (by decide), g4.1 186 (by decide) (by decide), g3.1 186 (by decide) (by decide), g2.2.2 i, g1.1 186 (by decide) (by decide)]
    have m3 : ∀ i, N5 187 i = if i = j.toNat then iI a3 else M1 187 i := fun i => by rw [g5.1 187 (by decide) (by decide), g4.1 187 (by decide) (by decide), g3.2.2 i, g2.1 187 (by decide) (by decide), g1.1 187 (by decide) (by decide)]
    have m4 : ∀ i, N5 188 i = if i = j.toNat then iI a4 else M1 188 i := fun i => by rw [g5.1 188 (by decide) (by decide), g4.2.2 i, g3.1 188 (by decide) (by decide), g2.1 188 (by decide) (by decide), g1.1 188 (by decide) (by decide)]
    have m5 : ∀ i, N5 189 i = if i = j.toNat then iI a5 else M1 189 i := fun i => by rw [g5.2.2 i, g4.1 189 (by decide) (by decide), g3.1 189 (by decide) (by decide), g2.1 189 (by decide) (by decide), g1.1 189 (by decide) (by decide)]
    have ck5 : CK N5 K1 c1 S1 := ck.of (fun a x y => al a (by omega) (by omega) (by omega) (by omega) (by omega) (by omega))
    have hn8 := hg.1.n
    have hnn : 0 ≤ K1 310 ∧ K1 310 < 8 := by omega
    obtain ⟨s1, s2, s3, s4⟩ := coK_sp (a := a1) (b := a2) (e := a3) (f := a4) (g := a5) hg.1 hg.2.2.1 hg.2.2.2.2 (by omega) (by omega)
    have hgN : kG (nwK (coK K1 a1 a2 a3 a4 a5)) := kG_nw s1 (by rw [s2]; exact hg.2.1.1) s3 (fun i x y => by rw [coK_n hnn (by omega)]; exact hg.2.2.2.1.2.2 i x y) s4
    obtain ⟨N6, e6, q6, -, g6⟩ := x_order (L := L) (xs := xs) (d := d + 1) (V := V) (W := W) ck5 hg (m := a1) (f := a2) (x := a3) (y := a4) (l := a5) (by unfold i32; omega) (by unfold i32; omega) (by unfold i32; omega) (by unfold i32; omega) (by unfold i32; omega) (fun _ _ => ⟨s1, hgN⟩)
    rw [if_pos (by omega), if_pos hnn.2, hk1] at e6
    have q6 := q6 ⟨by omega, hnn.2⟩
    have zn : ∀ z, (48 ≤ z ∧ z < 241) ∨ z = 308 ∨ z = 309 ∨ z = 311 → nwK (coK K1 a1 a2 a3 a4 a5) z = K1 z := fun z hz => by rw [nwK_n (by omega), coK_n hnn (by omega)]
    have zo : ∀ z, z < 48 → nwK (coK K1 a1 a2 a3 a4 a5) z = coK K1 a1 a2 a3 a4 a5 z := fun z hz => nwK_n (by omega)
    have z310 : nwK (coK K1 a1 a2 a3 a4 a5) 310 = j + 1 := by rw [nwK_n (by omega), coK_310, hk1]
    have al6 : ∀ b, 148 < b → N6 b = N5 b := fun b w => g6 b (by omega)
    have hO : DO N6 (nwK (coK K1 a1 a2 a3 a4 a5)) := fun o w1 w2 => by
      rw [z310] at w2
      rw [zo o (by omega), zo (8 + o) (by omega), zo (16 + o) (by omega), zo (24 + o) (by omega), zo (32 + o) (by omega), zo (40 + o) (by omega), al6 185 (by decide), al6 186 (by decide), al6 187 (by decide), al6 188 (by decide), al6 189 (by decide), m1, m2, m3, m4, m5]
      by_cases hq : o = j
      · rw [hq, if_pos rfl, if_pos rfl, if_pos rfl, if_pos rfl, if_pos rfl, ← hk1, coK_8 hnn, coK_40 hnn]
        unfold coK
        refine ⟨⟨?_, rfl, ?_, ?_, ?_⟩, rfl⟩
        · rw [uI_n _ _ (by omega), uI_n _ _ (by omega), uI_n _ _ (by omega), uI_n _ _ (by omega), uI_n _ _ (by omega), uI_n _ _ (by omega), uI_s]
        · rw [uI_n _ _ (by omega), uI_n _ _ (by omega), uI_n _ _ (by omega), uI_n _ _ (by omega), uI_s]
        · rw [uI_n _ _ (by omega), uI_n _ _ (by omega), uI_n _ _ (by omega), uI_s]
        · rw [uI_n _ _ (by omega), uI_n _ _ (by omega), uI_s]
      · rw [if_neg (by omega), if_neg (by omega), if_neg (by omega), if_neg (by omega), if_neg (by omega), coK_n hnn (by omega), coK_n hnn (by omega), coK_n hnn (by omega), coK_n hnn (by omega), coK_n hnn (by omega), coK_n hnn (by omega)]
        exact H1 o w1 (by omega)
    obtain ⟨M2, K2, c2, S2, w1, w2, e⟩ := hc N6 ⟨t0.tr (fun b w1 w2 => by rw [al6 b (by omega)]; exact al b (by omega) (by omega) (by omega) (by omega) (by omega) (by omega)), _, _, _, ⟨⟨q6, hgN, sv_g ck.hs.cc hg hus⟩, ⟨⟨by rw [zn 308 (by omega)]; exact r0, by rw [zn 309 (by omega)]; exact r1⟩, fun i w1 w2 => by rw [zn (238 + i) (by omega)]; exact rw4 i w1 w2⟩, by rw [zn 311 (by omega)]; exact rs0, by rw [al6 184 (by decide), al4 18 (by decide)]; exact rs1⟩, hO, ⟨⟨by rw [al6 184 (by decide), al4 16 (by decide)]; exact z1, by rw [al6 184 (by decide), al4 17 (by decide)]; exact z2⟩, fun o w1 w2 => by rw [al6 190 (by decide), al 190 (by decide) (by decide) (by decide) (by decide) (by decide) (by decide)]; exact z3 o w1 w2, fun i w1 w2 => by rw [al6 194 (by decide), al 194 (by decide) (by decide) (by decide) (by decide) (by decide) (by decide), zn (144 + i) (by omega)]; exact z4 i w1 w2⟩, z310⟩
    refine ⟨M2, K2, c2, S2, w1, w2, fun r hr9 => ?_⟩
    have e9 := e r hr9
    have tail : e_lim L xs (d + 9) 166 122 [some (.ref 184), some (.int (iI j)), none, none, none, none, none] [] (e_hp N5 V W) = some r := by
      have p1 := m1 j.toNat
      have p2 := m2 j.toNat
      have p3 := m3 j.toNat
      have p4 := m4 j.toNat
      have p5 := m5 j.toNat
      rw [if_pos rfl] at p1 p2 p3 p4 p5
      simp (disch := first | assumption | exact e_nk_i _ | exact e_nk_n | exact e_nk_r _ | exact e_bo_0 | exact e_bo_1 | exact e_bo_b _ | omega) only [e_cl_v, e_cl_x, e_add_0, e_add_s, Option.toList_some, Option.toList_none, List.cons_append, List.nil_append, iI_add, iI_sub, iI_mul, iI_lt, iI_eq, iI_le, r166_122, r166_123, r166_126, r166_127, r166_130, r166_131, r166_132, r166_133, r166_136, r166_137, r166_138, r166_139, r166_142, r166_143, r166_144, r166_145, r166_148, r166_149, r166_150, r166_151, r166_154, r166_155, r166_156, r166_159, r166_160, r166_163, r166_164, r166_165, r166_168, iI_vin, iI_nat, if_true, p1, p2, p3, p4, p5, e6]
      exact e9
    have e10 := k1 _ (k2 _ (k3 _ (k4 _ (k5 _ tail))))
    rw [r166_13]
    simp (disch := first | assumption | exact e_nk_i _ | exact e_nk_n | exact e_nk_r _ | exact e_bo_0 | exact e_bo_1 | exact e_bo_b _ | omega) only [e_cl_v, e_cl_x, e_add_0, e_add_s, Option.toList_some, Option.toList_none, List.cons_append, List.nil_append, iI_add, iI_sub, iI_mul, iI_lt, iI_eq, iI_le, r166_14, r166_15, r166_18, z1, if_pos y]
    exact e10
  · obtain ⟨t0, K1, c1, S1, HD, H1, H2, hk1⟩ := hI
    refine ⟨M1, K1, c1, S1, ⟨HD, H1, H2, hk1⟩, t0, fun r hr9 => ?_⟩
    have z1 := H2.1.1
    rw [r166_13]
    simp (disch := first | assumption | exact e_nk_i _ | exact e_nk_n | exact e_nk_r _ | exact e_bo_0 | exact e_bo_1 | exact e_bo_b _ | omega) only [e_cl_v, e_cl_x, e_add_0, e_add_s, Option.toList_some, Option.toList_none, List.cons_append, List.nil_append, iI_add, iI_sub, iI_mul, iI_lt, iI_eq, iI_le, r166_14, r166_15, r166_18, z1]
    rw [if_neg (by omega)]
    exact G_less (by repeat (first | exact e_ll.rf | refine e_ll_c ?_ | refine e_ll_x ?_)) hr9
end El37
