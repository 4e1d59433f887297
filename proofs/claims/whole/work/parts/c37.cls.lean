section Ec37
variable {L : Nat} {xs : Nat → Int32} {d : Nat} {M M2 M3 : e_MI} {V : e_ML} {W : e_MD} {K K1 K2 : e_St} {S : Int → e_St} {h : e_H} {s s0 s1 t t2 a b2 n : Nat} {c o w z m k q p i f l b e mc tl T x y v N : Int} {sc : Bool} {ρ ν μ χ β ε τ u : Int → Int}
/-! the class's public changes, on -/
theorem x_cut (H : CK M K c S) (hg : kG K) (ho : i32 o) (hv : i32 x) (hg2 : (0 ≤ o ∧ o ≤ K 310 - 1) → (1 ≤ x ∧ x ≤ K (8 + o) - 1) → (K 310 < 8 ∧ aW K + K (40 + o) ≤ 16) → kG (nwK (cuK K o x))) : ∃ M2 : e_MI, e_lim L xs (d + 7) 111 0 [some (.ref 0), some (.int (iI o)), some (.int (iI x)), none] [] (e_hp M V W) = (if 0 ≤ o ∧ o ≤ K 310 - 1 then (if 1 ≤ x ∧ x ≤ K (8 + o) - 1 then (if K 310 < 8 ∧ aW K + K (40 + o) ≤ 16 then some (.inl (some (.int (iI (K 310)))), e_hp M2 V W, 0, 0) else some (.inr 1, e_hp M2 V W, 1, 6)) else some (.inr 0, e_hp M2 V W, 1, 6)) else some (.inr 2, e_hp M2 V W, 1, 6)) ∧ ((0 ≤ o ∧ o ≤ K 310 - 1) ∧ (1 ≤ x ∧ x ≤ K (8 + o) - 1) ∧ (K 310 < 8 ∧ aW K + K (40 + o) ≤ 16) → CK M2 (nwK (cuK K o x)) (svC c) (svS c S K)) ∧ (¬((0 ≤ o ∧ o ≤ K 310 - 1) ∧ (1 ≤ x ∧ x ≤ K (8 + o) - 1) ∧ (K 310 < 8 ∧ aW K + K (40 + o) ≤ 16)) → M2 = M) ∧ ∀ a, a < 1 ∨ 148 < a → M2 a = M a := by
  have hn := hg.1.n
  have aw := hg.2.1.1
  have c0 := H.sh.cn
  have c1 := H.sh.cw
  have e0 := x_isOrder (L := L) (xs := xs) (d := d + 5) (V := V) (W := W) H.sh hg.1 ho
  have e1 := m_requireIndex (L := L) (xs := xs) (d := d + 6) (h := e_hp M V W) (decide (0 ≤ o ∧ o ≤ K 310 - 1))
  have st := m_requireState (L := L) (xs := xs) (d := d + 6) (h := e_hp M V W) true
  have sf := m_requireState (L := L) (xs := xs) (d := d + 6) (h := e_hp M V W) false
  rw [if_pos rfl, bI_t] at st
  rw [if_neg (by decide), bI_f] at sf
  by_cases h0 : 0 ≤ o ∧ o ≤ K 310 - 1
  · rw [if_pos (decide_eq_true h0)] at e1
    have am := hg.1.am (o := o) h0.1 (by omega)
    have wk := hg.1.wk (o := o) h0.1 (by omega)
    have e2 := s_orderCell (L := L) (xs := xs) (d := d + 5) (V := V) (W := W) H.sh hn.2 h0.1 (show o < K 310 by omega) (j := 1) (by omega) (by omega)
    rw [show 8 * 1 + o = 8 + o by omega] at e2
    have i1 := m_isWithin (L := L) (xs := xs) (d := d + 6) (h := e_hp M V W) (x := x) (y2 := 1) (z2 := K (8 + o) - 1) hv (by omega) (by omega)
    have r1 := m_requireArgument (L := L) (xs := xs) (d := d + 6) (h := e_hp M V W) (decide (1 ≤ x ∧ x ≤ K (8 + o) - 1))
    have e3 := s_worksIn (L := L) (xs := xs) (d := d + 5) (V := V) (W := W) H.sh hn.2 h0.1 (show o < K 310 by omega)
    by_cases h1 : 1 ≤ x ∧ x ≤ K (8 + o) - 1
    · rw [if_pos (decide_eq_true h1)] at r1
      by_cases h2 : K 310 < 8 ∧ aW K + K (40 + o) ≤ 16
      · obtain ⟨M1, e4, k1, k2, k3, k4, hf⟩ := x_rem (L := L) (xs := xs) (d := d + 3) (V := V) (W := W) H hg
        have c2 := k1.cn
        obtain ⟨M2, e5, hB, hf2⟩ := s_cutLot (L := L) (xs := xs) (d := d + 3) (V := V) (W := W) k1.sb hg.1 hg.2.2.1 hg.2.2.2.2 (o := o) (x := x) (by omega) h2.1 h1
        obtain ⟨s1, s2, -, -, -, -, -⟩ := cuS_sp (a := x) hg.1 hg.2.2.1 hg.2.2.2.2 (o := o) (by omega) h2.1 h1 (K (40 + o)).toNat (by omega)
        obtain ⟨M3, M4, e6, e7, hC, hf3⟩ := x_afresh (L := L) (xs := xs) (d := d) (V := V) (W := W) hB s1 (by show aW (cuS K o x (K (40 + o)).toNat) ≤ 16; omega) (hg2 h0 h1 h2) (k2.of fun a x y => hf2 a (by omega) (by omega) (by omega)) (k3.g.of fun a x y => hf2 a (by omega) (by omega) (by omega)) (k4.of fun a x y => hf2 a (by omega) (by omega) (by omega))
        refine ⟨M4, ?_, fun _ => hC, fun y => absurd ⟨h0, h1, h2⟩ y, fun a y => by rw [hf3 a (by omega), hf2 a (by omega) (by omega) (by omega), hf a (by omega)]⟩
        rw [if_pos h0, if_pos h1, if_pos h2]
        simp (disch := first | assumption | exact e_nk_i _ | exact e_nk_n | exact e_nk_r _ | exact e_bo_0 | exact e_bo_1 | exact e_bo_b _ | omega) only [e_cl_v, e_cl_x, e_add_0, e_add_s, Option.toList_some, Option.toList_none, List.cons_append, List.nil_append, iI_add, iI_sub, iI_mul, iI_lt, iI_eq, iI_le, r111_0, r111_1, r111_2, r111_5, r111_8, r111_9, r111_10, r111_11, r111_14, r111_15, r111_16, r111_19, r111_20, r111_21, r111_24, r111_27, r111_28, r111_31, r111_34, r111_36, r111_39, r111_40, r111_43, r111_46, r111_47, r111_50, r111_51, r111_54, r111_55, r111_57, r111_60, r111_61, r111_64, r111_65, r111_68, r111_69, r111_72, r111_73, r111_76, r111_79, r111_80, r111_83, r111_86, r111_87, r111_88, r111_91, r111_92, r111_93, r111_96, r111_97, r111_100, r111_103, r111_104, r111_107, r111_108, e0, e1, e2, i1, r1, c0, c1, e3, st, e4, c2, e5, e6, e7]
        rw [if_pos h2.1]
        first | rw [if_pos (by omega)] | rw [if_neg (by omega)]
      · refine ⟨M, ?_, fun y => absurd y.2.2 h2, fun _ => rfl, fun _ _ => rfl⟩
        rw [if_pos h0, if_pos h1, if_neg h2]
        simp (disch := first | assumption | exact e_nk_i _ | exact e_nk_n | exact e_nk_r _ | exact e_bo_0 | exact e_bo_1 | exact e_bo_b _ | omega) only [e_cl_v, e_cl_x, e_add_0, e_add_s, Option.toList_some, Option.toList_none, List.cons_append, List.nil_append, iI_add, iI_sub, iI_mul, iI_lt, iI_eq, iI_le, r111_0, r111_1, r111_2, r111_5, r111_8, r111_9, r111_10, r111_11, r111_14, r111_15, r111_16, r111_19, r111_20, r111_21, r111_24, r111_27, r111_28, r111_31, r111_34, r111_36, r111_39, r111_40, r111_43, r111_46, r111_47, r111_50, r111_51, r111_54, r111_55, r111_57, r111_60, r111_61, r111_64, r111_65, e0, e1, e2, i1, r1, c0, c1, e3, sf]
        by_cases h3 : K 310 < 8
        · rw [if_pos h3]
          first | rw [if_neg (by omega)] | rw [if_pos (by omega)]
        · rw [if_neg h3]
    · rw [if_neg (by rw [decide_eq_true_eq]; exact h1)] at r1
      refine ⟨M, ?_, fun y => absurd y.2.1 h1, fun _ => rfl, fun _ _ => rfl⟩
      rw [if_pos h0, if_neg h1]
      simp (disch := first | assumption | exact e_nk_i _ | exact e_nk_n | exact e_nk_r _ | exact e_bo_0 | exact e_bo_1 | exact e_bo_b _ | omega) only [e_cl_v, e_cl_x, e_add_0, e_add_s, Option.toList_some, Option.toList_none, List.cons_append, List.nil_append, iI_add, iI_sub, iI_mul, iI_lt, iI_eq, iI_le, r111_0, r111_1, r111_2, r111_5, r111_8, r111_9, r111_10, r111_11, r111_14, r111_15, r111_16, r111_19, r111_20, r111_21, r111_24, r111_27, r111_28, r111_31, r111_34, r111_36, r111_39, r111_40, r111_43, r111_46, r111_47, r111_50, r111_51, r111_54, r111_55, r111_57, r111_60, r111_61, r111_64, r111_65, r111_68, r111_69, r111_72, r111_73, r111_76, r111_79, r111_80, r111_83, r111_86, r111_87, r111_88, r111_91, r111_92, r111_93, r111_96, r111_97, r111_100, r111_103, r111_104, r111_107, r111_108, e0, e1, e2, i1, r1]
  · rw [if_neg (by rw [decide_eq_true_eq]; exact h0)] at e1
    refine ⟨M, ?_, fun y => absurd y.1 h0, fun _ => rfl, fun _ _ => rfl⟩
    rw [if_neg h0]
    simp (disch := first | assumption | exact e_nk_i _ | exact e_nk_n | exact e_nk_r _ | exact e_bo_0 | exact e_bo_1 | exact e_bo_b _ | omega) only [e_cl_v, e_cl_x, e_add_0, e_add_s, Option.toList_some, Option.toList_none, List.cons_append, List.nil_append, iI_add, iI_sub, iI_mul, iI_lt, iI_eq, iI_le, r111_0, r111_1, r111_2, r111_5, r111_8, r111_9, r111_10, r111_11, r111_14, r111_15, r111_16, r111_19, r111_20, r111_21, r111_24, r111_27, r111_28, r111_31, r111_34, r111_36, r111_39, r111_40, r111_43, r111_46, r111_47, r111_50, r111_51, r111_54, r111_55, r111_57, r111_60, r111_61, r111_64, r111_65, r111_68, r111_69, r111_72, r111_73, r111_76, r111_79, r111_80, r111_83, r111_86, r111_87, r111_88, r111_91, r111_92, r111_93, r111_96, r111_97, r111_100, r111_103, r111_104, r111_107, r111_108, e0, e1]
end Ec37
