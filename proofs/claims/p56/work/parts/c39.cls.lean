section Ec39
variable {L : Nat} {xs : Nat → Int32} {d : Nat} {M M2 M3 : e_MI} {V : e_ML} {W : e_MD} {K K1 K2 : e_St} {S : Int → e_St} {h : e_H} {s s0 s1 t t2 a b2 n : Nat} {c o w z m k q p i f l b e mc tl T x y v N : Int} {sc : Bool} {ρ ν μ χ β ε τ u : Int → Int}
/-! the class's public changes, on -/
theorem x_order (H : CK M K c S) (hg : kG K) (hm : i32 m) (hf0 : i32 f) (hx : i32 x) (hy : i32 y) (hl : i32 l) (hg2 : ((0 ≤ m ∧ m ≤ 3) ∧ (1 ≤ f ∧ f ≤ 9)) ∧ ((0 ≤ x ∧ x ≤ 200) ∧ (0 ≤ y ∧ y ≤ 500)) ∧ (1 ≤ l ∧ l ≤ 9) → K 310 < 8 → kR (coK K m f x y l) ∧ kG (nwK (coK K m f x y l))) : ∃ M2 : e_MI, e_lim L xs (d + 7) 104 0 [some (.ref 0), some (.int (iI m)), some (.int (iI f)), some (.int (iI x)), some (.int (iI y)), some (.int (iI l)), none] [] (e_hp M V W) = (if ((0 ≤ m ∧ m ≤ 3) ∧ (1 ≤ f ∧ f ≤ 9)) ∧ ((0 ≤ x ∧ x ≤ 200) ∧ (0 ≤ y ∧ y ≤ 500)) ∧ (1 ≤ l ∧ l ≤ 9) then (if K 310 < 8 then some (.inl (some (.int (iI (K 310)))), e_hp M2 V W, 0, 0) else some (.inr 1, e_hp M2 V W, 1, 6)) else some (.inr 0, e_hp M2 V W, 1, 6)) ∧ ((((0 ≤ m ∧ m ≤ 3) ∧ (1 ≤ f ∧ f ≤ 9)) ∧ ((0 ≤ x ∧ x ≤ 200) ∧ (0 ≤ y ∧ y ≤ 500)) ∧ (1 ≤ l ∧ l ≤ 9)) ∧ K 310 < 8 → CK M2 (nwK (coK K m f x y l)) (svC c) (svS c S K)) ∧ (¬((((0 ≤ m ∧ m ≤ 3) ∧ (1 ≤ f ∧ f ≤ 9)) ∧ ((0 ≤ x ∧ x ≤ 200) ∧ (0 ≤ y ∧ y ≤ 500)) ∧ (1 ≤ l ∧ l ≤ 9)) ∧ K 310 < 8) → M2 = M) ∧ ∀ a, a < 1 ∨ 148 < a → M2 a = M a := by
  have hn := hg.1.n
  have aw := hg.2.1.1
  have c0 := H.sh.cn
  have st := m_requireState (L := L) (xs := xs) (d := d + 6) (h := e_hp M V W) true
  have sf := m_requireState (L := L) (xs := xs) (d := d + 6) (h := e_hp M V W) false
  rw [if_pos rfl, bI_t] at st
  rw [if_neg (by decide), bI_f] at sf
  have rt := m_requireArgument (L := L) (xs := xs) (d := d + 6) (h := e_hp M V W) true
  have rf := m_requireArgument (L := L) (xs := xs) (d := d + 6) (h := e_hp M V W) false
  rw [if_pos rfl, bI_t] at rt
  rw [if_neg (by decide), bI_f] at rf
  have i0 := m_isWithin (L := L) (xs := xs) (d := d + 6) (h := e_hp M V W) (x := m) (y2 := 0) (z2 := 3) hm (by omega) (by omega)
  have i1 := m_isWithin (L := L) (xs := xs) (d := d + 6) (h := e_hp M V W) (x := f) (y2 := 1) (z2 := 9) hf0 (by omega) (by omega)
  have i2 := m_isWithin (L := L) (xs := xs) (d := d + 6) (h := e_hp M V W) (x := x) (y2 := 0) (z2 := 200) hx (by omega) (by omega)
  have i3 := m_isWithin (L := L) (xs := xs) (d := d + 6) (h := e_hp M V W) (x := y) (y2 := 0) (z2 := 500) hy (by omega) (by omega)
  have i4 := m_isWithin (L := L) (xs := xs) (d := d + 6) (h := e_hp M V W) (x := l) (y2 := 1) (z2 := 9) hl (by omega) (by omega)
  by_cases q0 : 0 ≤ m ∧ m ≤ 3
  · rw [decide_eq_true q0, bI_t] at i0
    by_cases q1 : 1 ≤ f ∧ f ≤ 9
    · rw [decide_eq_true q1, bI_t] at i1
      by_cases q2 : 0 ≤ x ∧ x ≤ 200
      · rw [decide_eq_true q2, bI_t] at i2
        by_cases q3 : 0 ≤ y ∧ y ≤ 500
        · rw [decide_eq_true q3, bI_t] at i3
          by_cases q4 : 1 ≤ l ∧ l ≤ 9
          · rw [decide_eq_true q4, bI_t] at i4
            have hA : ((0 ≤ m ∧ m ≤ 3) ∧ (1 ≤ f ∧ f ≤ 9)) ∧ ((0 ≤ x ∧ x ≤ 200) ∧ (0 ≤ y ∧ y ≤ 500)) ∧ (1 ≤ l ∧ l ≤ 9) := ⟨⟨q0, q1⟩, ⟨q2, q3⟩, q4⟩
            by_cases h2 : K 310 < 8
            · obtain ⟨g1, g2⟩ := hg2 hA h2
              obtain ⟨M1, e4, k1, k2, k3, k4, hf⟩ := x_rem (L := L) (xs := xs) (d := d + 3) (V := V) (W := W) H hg
              have c2 := k1.cn
              obtain ⟨M2, e5, hB, hA2, hf2⟩ := s_addOrder (L := L) (xs := xs) (d := d + 4) (V := V) (W := W) k1.sb hg.1 h2 (m := m) (f := f) (x := x) (y := y) (l := l)
              obtain ⟨M3, M4, e6, e7, hC, hf3⟩ := x_afresh (L := L) (xs := xs) (d := d) (V := V) (W := W) hB g1 (by omega) g2 (k2.of fun a x y => hf2 a (by omega) (by omega)) (k3.g.of fun a x y => hf2 a (by omega) (by omega)) (k4.of fun a x y => hf2 a (by omega) (by omega))
              refine ⟨M4, ?_, fun _ => hC, fun y => absurd ⟨hA, h2⟩ y, fun a y => by rw [hf3 a (by omega), hf2 a (by omega) (by omega), hf a (by omega)]⟩
              rw [if_pos hA, if_pos h2]
              simp (disch := first | assumption | exact e_nk_i _ | exact e_nk_n | exact e_nk_r _ | exact e_bo_0 | exact e_bo_1 | exact e_bo_b _ | omega) only [e_cl_v, e_cl_x, e_add_0, e_add_s, Option.toList_some, Option.toList_none, List.cons_append, List.nil_append, iI_add, iI_sub, iI_mul, iI_lt, iI_eq, iI_le, r104_0, r104_1, r104_2, r104_3, r104_6, r104_9, r104_10, r104_11, r104_13, r104_16, r104_19, r104_20, r104_23, r104_24, r104_27, r104_28, r104_29, r104_32, r104_35, r104_38, r104_40, r104_41, r104_44, r104_47, r104_50, r104_51, r104_54, r104_55, r104_58, r104_60, r104_61, r104_63, r104_66, r104_69, r104_70, r104_73, r104_76, r104_78, r104_81, r104_82, r104_85, r104_86, r104_89, r104_90, r104_93, r104_94, r104_97, r104_100, r104_101, r104_104, r104_107, r104_109, r104_110, r104_113, r104_114, r104_115, r104_116, r104_118, r104_120, r104_123, r104_124, r104_127, r104_130, r104_131, r104_134, r104_136, i0, i1, i2, i3, i4, rt, c0, st, e4, c2, e5, e6, e7]
              simp [h2]
            · refine ⟨M, ?_, fun y => absurd y.2 h2, fun _ => rfl, fun _ _ => rfl⟩
              rw [if_pos hA, if_neg h2]
              simp (disch := first | assumption | exact e_nk_i _ | exact e_nk_n | exact e_nk_r _ | exact e_bo_0 | exact e_bo_1 | exact e_bo_b _ | omega) only [e_cl_v, e_cl_x, e_add_0, e_add_s, Option.toList_some, Option.toList_none, List.cons_append, List.nil_append, iI_add, iI_sub, iI_mul, iI_lt, iI_eq, iI_le, r104_0, r104_1, r104_2, r104_3, r104_6, r104_9, r104_10, r104_11, r104_13, r104_16, r104_19, r104_20, r104_23, r104_24, r104_27, r104_28, r104_29, r104_32, r104_35, r104_38, r104_40, r104_41, r104_44, r104_47, r104_50, r104_51, r104_54, r104_55, r104_58, r104_60, r104_61, r104_63, r104_66, r104_69, r104_70, r104_73, r104_76, r104_78, r104_81, r104_82, r104_85, r104_86, i0, i1, i2, i3, i4, rt, c0, sf]
              simp [h2]
          · refine ⟨M, ?_, fun y => absurd y.1.2.2 q4, fun _ => rfl, fun _ _ => rfl⟩
            rw [if_neg (fun y => q4 y.2.2)]
            rw [decide_eq_false q4, bI_f] at i4
            simp (disch := first | assumption | exact e_nk_i _ | exact e_nk_n | exact e_nk_r _ | exact e_bo_0 | exact e_bo_1 | exact e_bo_b _ | omega) only [e_cl_v, e_cl_x, e_add_0, e_add_s, Option.toList_some, Option.toList_none, List.cons_append, List.nil_append, iI_add, iI_sub, iI_mul, iI_lt, iI_eq, iI_le, r104_0, r104_1, r104_2, r104_3, r104_6, r104_9, r104_10, r104_11, r104_13, r104_16, r104_19, r104_20, r104_23, r104_24, r104_27, r104_28, r104_29, r104_32, r104_35, r104_38, r104_40, r104_41, r104_44, r104_47, r104_50, r104_51, r104_54, r104_55, r104_58, r104_60, r104_61, r104_63, r104_66, i0, i1, i2, i3, i4, rt, rf]
            simp
        · refine ⟨M, ?_, fun y => absurd y.1.2.1.2 q3, fun _ => rfl, fun _ _ => rfl⟩
          rw [if_neg (fun y => q3 y.2.1.2)]
          rw [decide_eq_false q3, bI_f] at i3
          simp (disch := first | assumption | exact e_nk_i _ | exact e_nk_n | exact e_nk_r _ | exact e_bo_0 | exact e_bo_1 | exact e_bo_b _ | omega) only [e_cl_v, e_cl_x, e_add_0, e_add_s, Option.toList_some, Option.toList_none, List.cons_append, List.nil_append, iI_add, iI_sub, iI_mul, iI_lt, iI_eq, iI_le, r104_0, r104_1, r104_2, r104_3, r104_6, r104_9, r104_10, r104_11, r104_13, r104_16, r104_19, r104_20, r104_23, r104_24, r104_27, r104_28, r104_29, r104_32, r104_35, r104_38, r104_40, r104_41, r104_44, r104_47, r104_50, r104_51, r104_54, r104_55, i0, i1, i2, i3, rt, rf]
          simp
      · refine ⟨M, ?_, fun y => absurd y.1.2.1.1 q2, fun _ => rfl, fun _ _ => rfl⟩
        rw [if_neg (fun y => q2 y.2.1.1)]
        rw [decide_eq_false q2, bI_f] at i2
        simp (disch := first | assumption | exact e_nk_i _ | exact e_nk_n | exact e_nk_r _ | exact e_bo_0 | exact e_bo_1 | exact e_bo_b _ | omega) only [e_cl_v, e_cl_x, e_add_0, e_add_s, Option.toList_some, Option.toList_none, List.cons_append, List.nil_append, iI_add, iI_sub, iI_mul, iI_lt, iI_eq, iI_le, r104_0, r104_1, r104_2, r104_3, r104_6, r104_9, r104_10, r104_11, r104_13, r104_16, r104_19, r104_20, r104_23, r104_24, r104_27, r104_28, r104_29, r104_32, r104_35, r104_38, r104_40, r104_41, r104_44, r104_47, r104_50, r104_51, r104_54, r104_55, i0, i1, i2, rt, rf]
        simp
    · refine ⟨M, ?_, fun y => absurd y.1.1.2 q1, fun _ => rfl, fun _ _ => rfl⟩
      rw [if_neg (fun y => q1 y.1.2)]
      rw [decide_eq_false q1, bI_f] at i1
      simp (disch := first | assumption | exact e_nk_i _ | exact e_nk_n | exact e_nk_r _ | exact e_bo_0 | exact e_bo_1 | exact e_bo_b _ | omega) only [e_cl_v, e_cl_x, e_add_0, e_add_s, Option.toList_some, Option.toList_none, List.cons_append, List.nil_append, iI_add, iI_sub, iI_mul, iI_lt, iI_eq, iI_le, r104_0, r104_1, r104_2, r104_3, r104_6, r104_9, r104_10, r104_11, r104_13, r104_16, r104_19, r104_20, r104_23, r104_24, i0, i1, rf]
      simp
  · refine ⟨M, ?_, fun y => absurd y.1.1.1 q0, fun _ => rfl, fun _ _ => rfl⟩
    rw [if_neg (fun y => q0 y.1.1)]
    rw [decide_eq_false q0, bI_f] at i0
    simp (disch := first | assumption | exact e_nk_i _ | exact e_nk_n | exact e_nk_r _ | exact e_bo_0 | exact e_bo_1 | exact e_bo_b _ | omega) only [e_cl_v, e_cl_x, e_add_0, e_add_s, Option.toList_some, Option.toList_none, List.cons_append, List.nil_append, iI_add, iI_sub, iI_mul, iI_lt, iI_eq, iI_le, r104_0, r104_1, r104_2, r104_3, r104_6, r104_9, r104_10, r104_11, r104_13, r104_16, r104_19, r104_20, r104_23, r104_24, i0, rf]
    simp
end Ec39
