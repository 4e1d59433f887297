section Ec38
variable {L : Nat} {xs : Nat → Int32} {d : Nat} {M M2 M3 : e_MI} {V : e_ML} {W : e_MD} {K K1 K2 : e_St} {S : Int → e_St} {h : e_H} {s s0 s1 t t2 a b2 n : Nat} {c o w z m k q p i f l b e mc tl T x y v N : Int} {sc : Bool} {ρ ν μ χ β ε τ u : Int → Int}
/-! the class's public changes, on -/
theorem x_work (H : CK M K c S) (hg : kG K) (ho : i32 o) (hm : i32 m) (hx : i32 x) (hl : i32 l) (hg2 : (0 ≤ o ∧ o ≤ K 310 - 1) → ((0 ≤ m ∧ m ≤ 3) ∧ (1 ≤ x ∧ x ≤ 9) ∧ (-1 ≤ l ∧ l ≤ 2)) → (K (40 + o) < 4 ∧ aW K < 16) → kG (nwK (adK K o m x l))) : ∃ M2 : e_MI, e_lim L xs (d + 7) 105 0 [some (.ref 0), some (.int (iI o)), some (.int (iI m)), some (.int (iI x)), some (.int (iI l))] [] (e_hp M V W) = (if 0 ≤ o ∧ o ≤ K 310 - 1 then (if (0 ≤ m ∧ m ≤ 3) ∧ (1 ≤ x ∧ x ≤ 9) ∧ (-1 ≤ l ∧ l ≤ 2) then (if K (40 + o) < 4 ∧ aW K < 16 then some (.inl (some (.int (iI (K (40 + o) + 1)))), e_hp M2 V W, 0, 0) else some (.inr 1, e_hp M2 V W, 1, 6)) else some (.inr 0, e_hp M2 V W, 1, 6)) else some (.inr 2, e_hp M2 V W, 1, 6)) ∧ ((0 ≤ o ∧ o ≤ K 310 - 1) ∧ ((0 ≤ m ∧ m ≤ 3) ∧ (1 ≤ x ∧ x ≤ 9) ∧ (-1 ≤ l ∧ l ≤ 2)) ∧ (K (40 + o) < 4 ∧ aW K < 16) → CK M2 (nwK (adK K o m x l)) (svC c) (svS c S K)) ∧ (¬((0 ≤ o ∧ o ≤ K 310 - 1) ∧ ((0 ≤ m ∧ m ≤ 3) ∧ (1 ≤ x ∧ x ≤ 9) ∧ (-1 ≤ l ∧ l ≤ 2)) ∧ (K (40 + o) < 4 ∧ aW K < 16)) → M2 = M) ∧ ∀ a, a < 1 ∨ 148 < a → M2 a = M a := by
  have hn := hg.1.n
  have aw := hg.2.1.1
  have c1 := H.sh.cw
  have e0 := x_isOrder (L := L) (xs := xs) (d := d + 5) (V := V) (W := W) H.sh hg.1 ho
  have e1 := m_requireIndex (L := L) (xs := xs) (d := d + 6) (h := e_hp M V W) (decide (0 ≤ o ∧ o ≤ K 310 - 1))
  have st := m_requireState (L := L) (xs := xs) (d := d + 6) (h := e_hp M V W) true
  have sf := m_requireState (L := L) (xs := xs) (d := d + 6) (h := e_hp M V W) false
  rw [if_pos rfl, bI_t] at st
  rw [if_neg (by decide), bI_f] at sf
  have rt := m_requireArgument (L := L) (xs := xs) (d := d + 6) (h := e_hp M V W) true
  have rf := m_requireArgument (L := L) (xs := xs) (d := d + 6) (h := e_hp M V W) false
  rw [if_pos rfl, bI_t] at rt
  rw [if_neg (by decide), bI_f] at rf
  have i0 := m_isMachine (L := L) (xs := xs) (d := d + 5) (M := M) (V := V) (W := W) (z := m) hm
  have i1 := m_isWithin (L := L) (xs := xs) (d := d + 6) (h := e_hp M V W) (x := x) (y2 := 1) (z2 := 9) hx (by omega) (by omega)
  have i2 := m_isWithin (L := L) (xs := xs) (d := d + 6) (h := e_hp M V W) (x := l) (y2 := 0) (z2 := 2) hl (by omega) (by omega)
  by_cases h0 : 0 ≤ o ∧ o ≤ K 310 - 1
  · rw [if_pos (decide_eq_true h0)] at e1
    have wk := hg.1.wk (o := o) h0.1 (by omega)
    have e3 := s_worksIn (L := L) (xs := xs) (d := d + 5) (V := V) (W := W) H.sh hn.2 h0.1 (show o < K 310 by omega)
    by_cases q1 : 0 ≤ m ∧ m ≤ 3
    · rw [decide_eq_true q1, bI_t] at i0
      by_cases q2 : 1 ≤ x ∧ x ≤ 9
      · rw [decide_eq_true q2, bI_t] at i1
        by_cases q3 : -1 ≤ l ∧ l ≤ 2
        · have il : l ≠ -1 → decide (0 ≤ l ∧ l ≤ 2) = true := fun y => decide_eq_true (by omega)
          by_cases h2 : K (40 + o) < 4 ∧ aW K < 16
          · obtain ⟨g1, g2, g3, g4, g5⟩ := adK_sp (m := m) (t := x) (l := l) hg.1 hg.2.2.1 hg.2.2.2.2 (o := o) (by omega) (by omega) ⟨q1, q2, q3⟩
            obtain ⟨M1, e4, k1, k2, k3, k4, hf⟩ := x_rem (L := L) (xs := xs) (d := d + 3) (V := V) (W := W) H hg
            obtain ⟨M2, e5, hB, hf2⟩ := s_addWork (L := L) (xs := xs) (d := d + 4) (V := V) (W := W) k1.sb hg.1 (o := o) (m := m) (x := x) (l := l) (by omega) (by omega) g2
            obtain ⟨M3, M4, e6, e7, hC, hf3⟩ := x_afresh (L := L) (xs := xs) (d := d) (V := V) (W := W) hB g1 (by omega) (hg2 h0 ⟨q1, q2, q3⟩ h2) (k2.of fun a x y => hf2 a (by omega) (by omega) (by omega)) (k3.g.of fun a x y => hf2 a (by omega) (by omega) (by omega)) (k4.of fun a x y => hf2 a (by omega) (by omega) (by omega))
            have n310 : nwK (adK K o m x l) 310 = K 310 := by
              show raK (gkK (adK K o m x l)) 310 = _
              rw [raK_n (by omega)]
              unfold gkK
              rw [if_neg (by omega)]
              exact g5
            have n40 : nwK (adK K o m x l) (40 + o) = K (40 + o) + 1 := by
              show raK (gkK (adK K o m x l)) (40 + o) = _
              rw [raK_n (by omega)]
              unfold gkK
              rw [if_neg (by omega)]
              exact adK_40
            have e8 := s_worksIn (L := L) (xs := xs) (d := d + 5) (V := V) (W := W) hC.sh (by rw [n310]; omega) h0.1 (show o < nwK (adK K o m x l) 310 by rw [n310]; omega)
            rw [n40] at e8
            refine ⟨M4, ?_, fun _ => hC, fun y => absurd ⟨h0, ⟨q1, q2, q3⟩, h2⟩ y, fun a y => by rw [hf3 a (by omega), hf2 a (by omega) (by omega) (by omega), hf a (by omega)]⟩
            rw [if_pos h0, if_pos ⟨q1, q2, q3⟩, if_pos h2]
            by_cases hq : l = -1
            · subst hq
              simp (disch := first | assumption | exact e_nk_i _ | exact e_nk_n | exact e_nk_r _ | exact e_bo_0 | exact e_bo_1 | exact e_bo_b _ | omega) only [e_cl_v, e_cl_x, e_add_0, e_add_s, Option.toList_some, Option.toList_none, List.cons_append, List.nil_append, iI_add, iI_sub, iI_mul, iI_lt, iI_eq, iI_le, r105_0, r105_1, r105_2, r105_5, r105_8, r105_9, r105_12, r105_15, r105_16, r105_17, r105_19, r105_22, r105_25, r105_26, r105_29, r105_30, r105_33, r105_35, r105_36, r105_39, r105_41, r105_42, r105_43, r105_46, r105_49, r105_50, r105_53, r105_54, r105_57, r105_58, r105_61, r105_62, r105_65, r105_66, r105_69, r105_70, r105_73, r105_76, r105_78, r105_81, r105_82, r105_85, r105_86, r105_89, r105_90, r105_93, r105_94, r105_97, r105_100, r105_101, r105_104, r105_105, r105_106, r105_107, r105_109, r105_112, r105_113, r105_116, r105_119, r105_120, r105_123, r105_124, r105_127, r105_128, r105_131, e0, e1, i0, i1, rt, e3, c1, st, e4, e5, e6, e7, e8]
              simp [h2]
            · rw [il hq, bI_t] at i2
              simp (disch := first | assumption | exact e_nk_i _ | exact e_nk_n | exact e_nk_r _ | exact e_bo_0 | exact e_bo_1 | exact e_bo_b _ | omega) only [e_cl_v, e_cl_x, e_add_0, e_add_s, Option.toList_some, Option.toList_none, List.cons_append, List.nil_append, iI_add, iI_sub, iI_mul, iI_lt, iI_eq, iI_le, r105_0, r105_1, r105_2, r105_5, r105_8, r105_9, r105_12, r105_15, r105_16, r105_17, r105_19, r105_22, r105_25, r105_26, r105_29, r105_30, r105_33, r105_35, r105_36, r105_39, r105_41, r105_42, r105_43, r105_46, r105_49, r105_50, r105_53, r105_54, r105_57, r105_58, r105_61, r105_62, r105_65, r105_66, r105_69, r105_70, r105_73, r105_76, r105_78, r105_81, r105_82, r105_85, r105_86, r105_89, r105_90, r105_93, r105_94, r105_97, r105_100, r105_101, r105_104, r105_105, r105_106, r105_107, r105_109, r105_112, r105_113, r105_116, r105_119, r105_120, r105_123, r105_124, r105_127, r105_128, r105_131, e0, e1, i0, i1, i2, rt, e3, c1, st, e4, e5, e6, e7, e8]
              simp [h2, hq]
          · refine ⟨M, ?_, fun y => absurd y.2.2 h2, fun _ => rfl, fun _ _ => rfl⟩
            rw [if_pos h0, if_pos ⟨q1, q2, q3⟩, if_neg h2]
            by_cases hq : l = -1
            · subst hq
              simp (disch := first | assumption | exact e_nk_i _ | exact e_nk_n | exact e_nk_r _ | exact e_bo_0 | exact e_bo_1 | exact e_bo_b _ | omega) only [e_cl_v, e_cl_x, e_add_0, e_add_s, Option.toList_some, Option.toList_none, List.cons_append, List.nil_append, iI_add, iI_sub, iI_mul, iI_lt, iI_eq, iI_le, r105_0, r105_1, r105_2, r105_5, r105_8, r105_9, r105_12, r105_15, r105_16, r105_17, r105_19, r105_22, r105_25, r105_26, r105_29, r105_30, r105_33, r105_35, r105_36, r105_39, r105_41, r105_42, r105_43, r105_46, r105_49, r105_50, r105_53, r105_54, r105_57, r105_58, r105_61, r105_62, r105_65, r105_66, r105_69, r105_70, r105_73, r105_76, r105_78, r105_81, r105_82, r105_85, r105_86, e0, e1, i0, i1, rt, e3, c1, sf]
              by_cases h3 : K (40 + o) < 4
              · have h4 : ¬ aW K < 16 := fun y => h2 ⟨h3, y⟩
                simp [h3, h4]
              · simp [h3]
            · rw [il hq, bI_t] at i2
              simp (disch := first | assumption | exact e_nk_i _ | exact e_nk_n | exact e_nk_r _ | exact e_bo_0 | exact e_bo_1 | exact e_bo_b _ | omega) only [e_cl_v, e_cl_x, e_add_0, e_add_s, Option.toList_some, Option.toList_none, List.cons_append, List.nil_append, iI_add, iI_sub, iI_mul, iI_lt, iI_eq, iI_le, r105_0, r105_1, r105_2, r105_5, r105_8, r105_9, r105_12, r105_15, r105_16, r105_17, r105_19, r105_22, r105_25, r105_26, r105_29, r105_30, r105_33, r105_35, r105_36, r105_39, r105_41, r105_42, r105_43, r105_46, r105_49, r105_50, r105_53, r105_54, r105_57, r105_58, r105_61, r105_62, r105_65, r105_66, r105_69, r105_70, r105_73, r105_76, r105_78, r105_81, r105_82, r105_85, r105_86, e0, e1, i0, i1, i2, rt, e3, c1, sf]
              by_cases h3 : K (40 + o) < 4
              · have h4 : ¬ aW K < 16 := fun y => h2 ⟨h3, y⟩
                simp [h3, h4, hq]
              · simp [h3, hq]
        · refine ⟨M, ?_, fun y => absurd y.2.1.2.2 q3, fun _ => rfl, fun _ _ => rfl⟩
          rw [if_pos h0, if_neg (fun y => q3 y.2.2)]
          have hq : l ≠ -1 := by omega
          rw [decide_eq_false (by omega), bI_f] at i2
          have hq2 : ¬ iI l = iI (-1) := fun y => hq ((iI_eq hl (by omega)).mp y)
          simp (disch := first | assumption | exact e_nk_i _ | exact e_nk_n | exact e_nk_r _ | exact e_bo_0 | exact e_bo_1 | exact e_bo_b _ | omega) only [e_cl_v, e_cl_x, e_add_0, e_add_s, Option.toList_some, Option.toList_none, List.cons_append, List.nil_append, iI_add, iI_sub, iI_mul, iI_lt, iI_eq, iI_le, r105_0, r105_1, r105_2, r105_5, r105_8, r105_9, r105_12, r105_15, r105_16, r105_17, r105_19, r105_22, r105_25, r105_26, r105_29, r105_30, r105_33, r105_35, r105_36, r105_39, r105_41, r105_42, r105_43, r105_46, r105_49, r105_50, r105_53, r105_54, e0, e1, i0, i1, i2, rt, rf]
          simp [hq2]
      · refine ⟨M, ?_, fun y => absurd y.2.1.2.1 q2, fun _ => rfl, fun _ _ => rfl⟩
        rw [if_pos h0, if_neg (fun y => q2 y.2.1)]
        rw [decide_eq_false q2, bI_f] at i1
        simp (disch := first | assumption | exact e_nk_i _ | exact e_nk_n | exact e_nk_r _ | exact e_bo_0 | exact e_bo_1 | exact e_bo_b _ | omega) only [e_cl_v, e_cl_x, e_add_0, e_add_s, Option.toList_some, Option.toList_none, List.cons_append, List.nil_append, iI_add, iI_sub, iI_mul, iI_lt, iI_eq, iI_le, r105_0, r105_1, r105_2, r105_5, r105_8, r105_9, r105_12, r105_15, r105_16, r105_17, r105_19, r105_22, r105_25, r105_26, r105_29, r105_30, e0, e1, i0, i1, rf]
        simp
    · refine ⟨M, ?_, fun y => absurd y.2.1.1 q1, fun _ => rfl, fun _ _ => rfl⟩
      rw [if_pos h0, if_neg (fun y => q1 y.1)]
      rw [decide_eq_false q1, bI_f] at i0
      simp (disch := first | assumption | exact e_nk_i _ | exact e_nk_n | exact e_nk_r _ | exact e_bo_0 | exact e_bo_1 | exact e_bo_b _ | omega) only [e_cl_v, e_cl_x, e_add_0, e_add_s, Option.toList_some, Option.toList_none, List.cons_append, List.nil_append, iI_add, iI_sub, iI_mul, iI_lt, iI_eq, iI_le, r105_0, r105_1, r105_2, r105_5, r105_8, r105_9, r105_12, r105_15, r105_16, r105_17, r105_19, r105_22, r105_25, r105_26, r105_29, r105_30, e0, e1, i0, rf]
      simp
  · rw [if_neg (by rw [decide_eq_true_eq]; exact h0)] at e1
    refine ⟨M, ?_, fun y => absurd y.1 h0, fun _ => rfl, fun _ _ => rfl⟩
    rw [if_neg h0]
    simp (disch := first | assumption | exact e_nk_i _ | exact e_nk_n | exact e_nk_r _ | exact e_bo_0 | exact e_bo_1 | exact e_bo_b _ | omega) only [e_cl_v, e_cl_x, e_add_0, e_add_s, Option.toList_some, Option.toList_none, List.cons_append, List.nil_append, iI_add, iI_sub, iI_mul, iI_lt, iI_eq, iI_le, r105_0, r105_1, r105_2, r105_5, r105_8, e0, e1]
end Ec38
