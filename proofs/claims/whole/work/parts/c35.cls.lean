section Ec35
variable {L : Nat} {xs : Nat → Int32} {d : Nat} {M M2 M3 : e_MI} {V : e_ML} {W : e_MD} {K K1 K2 : e_St} {S : Int → e_St} {h : e_H} {s s0 s1 t t2 a b2 n : Nat} {c o w z m k q p i f l b e mc tl T x y v N : Int} {sc : Bool} {ρ ν μ χ β ε τ u : Int → Int}
/-! the class's public changes, on -/
theorem x_afresh (hB : SB M 1 K1) (hr : kR K1) (ha : aW K1 ≤ 16) (hg2 : kG (nwK K1)) (hH : HS M c S) (hT : TG0 M 133) (hT2 : TG0 M 149) : ∃ M2 M3 : e_MI, e_lim L xs (d + 6) 46 0 [some (.ref 1)] [] (e_hp M V W) = some (.inl none, e_hp M2 V W, 0, 0) ∧ e_lim L xs (d + 6) 160 0 [some (.ref 0)] [] (e_hp M2 V W) = some (.inl none, e_hp M3 V W, 0, 0) ∧ CK M3 (nwK K1) c S ∧ ∀ a, a < 1 ∨ 148 < a → M3 a = M a := by
  obtain ⟨M2, e1, h1, f1⟩ := s_startAfresh (L := L) (xs := xs) (d := d + 3) (V := V) (W := W) hB hr ha
  obtain ⟨M3, e2, h2, f2⟩ := x_then (L := L) (xs := xs) (d := d) (V := V) (W := W) h1 hg2 (hH.of fun a x y => f1 a (by omega) (by omega)) (hT.of fun a x y => f1 a (by omega) (by omega)) (hT2.of fun a x y => f1 a (by omega) (by omega))
  exact ⟨M2, M3, e1, e2, h2, fun a x => by rw [f2 a (by omega), f1 a (by omega) (by omega)]⟩
theorem x_drop (H : CK M K c S) (hg : kG K) (ho : i32 o) (hg2 : 0 ≤ o ∧ o ≤ K 310 - 1 → kG (nwK (dpK K o))) : ∃ M2 : e_MI, e_lim L xs (d + 7) 109 0 [some (.ref 0), some (.int (iI o))] [] (e_hp M V W) = (if 0 ≤ o ∧ o ≤ K 310 - 1 then some (.inl (some (.int (iI (K 310 - 1)))), e_hp M2 V W, 0, 0) else some (.inr 2, e_hp M2 V W, 1, 6)) ∧ (0 ≤ o ∧ o ≤ K 310 - 1 → CK M2 (nwK (dpK K o)) (svC c) (svS c S K)) ∧ (¬(0 ≤ o ∧ o ≤ K 310 - 1) → M2 = M) ∧ ∀ a, a < 1 ∨ 148 < a → M2 a = M a := by
  have e0 := x_isOrder (L := L) (xs := xs) (d := d + 5) (V := V) (W := W) H.sh hg.1 ho
  have e1 := m_requireIndex (L := L) (xs := xs) (d := d + 6) (h := e_hp M V W) (decide (0 ≤ o ∧ o ≤ K 310 - 1))
  by_cases h0 : 0 ≤ o ∧ o ≤ K 310 - 1
  · rw [if_pos (decide_eq_true h0)] at e1
    obtain ⟨hr2, ha2, hp2, hd2⟩ := dpK_sp hg.1 hg.2.2.1 hg.2.2.2.2 (o := o) (by omega)
    have hwk := hg.1.wk (o := o) h0.1 (by have := hg.1.n; omega)
    obtain ⟨M1, e2, h1, h2, h3, h4, hf⟩ := x_rem (L := L) (xs := xs) (d := d + 3) (V := V) (W := W) H hg
    obtain ⟨M2, e3, hB, hf2⟩ := s_removeOrder (L := L) (xs := xs) (d := d + 3) (V := V) (W := W) h1.sb hg.1 (o := o) (by omega) ha2
    obtain ⟨M3, M4, e4, e5, hC, hf3⟩ := x_afresh (L := L) (xs := xs) (d := d) (V := V) (W := W) hB hr2 (by have := hg.2.1.1; omega) (hg2 h0) (h2.of fun a x y => hf2 a (by omega) (by omega) (by omega)) (h3.g.of fun a x y => hf2 a (by omega) (by omega) (by omega)) (h4.of fun a x y => hf2 a (by omega) (by omega) (by omega))
    have c0 : M4 1 0 = iI (K 310 - 1) := hC.sh.cn
    refine ⟨M4, ?_, fun _ => hC, fun y => absurd h0 y, fun a y => ?_⟩
    · rw [if_pos h0]
      simp (disch := first | assumption | exact e_nk_i _ | exact e_nk_n | exact e_nk_r _ | exact e_bo_0 | exact e_bo_1 | exact e_bo_b _ | omega) only [e_cl_v, e_cl_x, e_add_0, e_add_s, Option.toList_some, Option.toList_none, List.cons_append, List.nil_append, iI_add, iI_sub, iI_mul, iI_lt, iI_eq, iI_le, r109_0, r109_1, r109_2, r109_5, r109_8, r109_9, r109_12, r109_13, r109_16, r109_19, r109_20, r109_23, r109_24, r109_27, r109_28, r109_31, r109_34, r109_35, r109_38, r109_39, r109_42, r109_45, e0, e1, e2, e3, e4, e5, c0]
    · by_cases ha0 : a < 1
      · rw [hf3 a (by omega), hf2 a (by omega) (by omega) (by omega), hf a (by omega)]
      · rw [hf3 a (by omega), hf2 a (by omega) (by omega) (by omega), hf a (by omega)]
  · rw [if_neg (by rw [decide_eq_true_eq]; exact h0)] at e1
    refine ⟨M, ?_, fun y => absurd y h0, fun _ => rfl, fun _ _ => rfl⟩
    rw [if_neg h0]
    simp (disch := first | assumption | exact e_nk_i _ | exact e_nk_n | exact e_nk_r _ | exact e_bo_0 | exact e_bo_1 | exact e_bo_b _ | omega) only [e_cl_v, e_cl_x, e_add_0, e_add_s, Option.toList_some, Option.toList_none, List.cons_append, List.nil_append, iI_add, iI_sub, iI_mul, iI_lt, iI_eq, iI_le, r109_0, r109_1, r109_2, r109_5, r109_8, r109_9, r109_12, r109_13, r109_16, r109_19, r109_20, r109_23, r109_24, r109_27, r109_28, r109_31, r109_34, r109_35, r109_38, r109_39, r109_42, r109_45, e0, e1]
theorem x_workers (H : CK M K c S) (hg : kG K) (hi : i32 i) (hv : i32 v) (hg2 : (0 ≤ i ∧ i ≤ 2) ∧ 0 ≤ v ∧ v ≤ 4 → kG (uI K (238 + i) v)) : ∃ M2 : e_MI, e_lim L xs (d + 7) 119 0 [some (.ref 0), some (.int (iI i)), some (.int (iI v)), none] [] (e_hp M V W) = (if (0 ≤ i ∧ i ≤ 2) ∧ 0 ≤ v ∧ v ≤ 4 then some (.inl (some (.int (iI (K (238 + i))))), e_hp M2 V W, 0, 0) else some (.inr 0, e_hp M2 V W, 1, 6)) ∧ ((0 ≤ i ∧ i ≤ 2) ∧ 0 ≤ v ∧ v ≤ 4 → CK M2 (uI K (238 + i) v) (svC c) (svS c S K)) ∧ (¬((0 ≤ i ∧ i ≤ 2) ∧ 0 ≤ v ∧ v ≤ 4) → M2 = M) ∧ ∀ a, a < 1 ∨ 148 < a → M2 a = M a := by
  have i1 := m_isWithin (L := L) (xs := xs) (d := d + 6) (h := e_hp M V W) (x := i) (y2 := 0) (z2 := 2) hi (by omega) (by omega)
  have i2 := m_isWithin (L := L) (xs := xs) (d := d + 6) (h := e_hp M V W) (x := v) (y2 := 0) (z2 := 4) hv (by omega) (by omega)
  have rt := m_requireArgument (L := L) (xs := xs) (d := d + 6) (h := e_hp M V W) true
  have rf := m_requireArgument (L := L) (xs := xs) (d := d + 6) (h := e_hp M V W) false
  rw [if_pos rfl, bI_t] at rt
  rw [if_neg (by decide), bI_f] at rf
  by_cases h0 : (0 ≤ i ∧ i ≤ 2) ∧ 0 ≤ v ∧ v ≤ 4
  · rw [decide_eq_true h0.1, bI_t] at i1
    rw [decide_eq_true h0.2, bI_t] at i2
    obtain ⟨M1, e1, h1, h2, h3, h4, hf⟩ := x_rem (L := L) (xs := xs) (d := d + 3) (V := V) (W := W) H hg
    have e2 := m_atI (L := L) (xs := xs) (d := d + 6) (M := M1) (V := V) (W := W) si_6 (z := i) h0.1.1 (by omega) (h1.sf h0.1.1 (by omega))
    have e3 := m_putI (L := L) (xs := xs) (d := d + 6) (M := M1) (V := V) (W := W) (v := iI v) si_6 (z := i) h0.1.1 (by omega)
    have hS := SH_workers h1 hg.1 hg.2.1.1.2 (i := i) (v := v) (by omega)
    have hu : ∀ a, a ≠ 6 → e_u M1 6 (upd (M1 6) i.toNat (iI v)) a = M1 a := fun a y => e_u_n _ _ y
    obtain ⟨M3, e4, hC, hf3⟩ := x_then (L := L) (xs := xs) (d := d) (V := V) (W := W) hS (hg2 h0) (h2.of fun a x y => hu a (by omega)) (h3.g.of fun a x y => hu a (by omega)) (h4.of fun a x y => hu a (by omega))
    refine ⟨M3, ?_, fun _ => hC, fun y => absurd h0 y, fun a y => by rw [hf3 a (by omega), hu a (by omega), hf a (by omega)]⟩
    rw [if_pos h0]
    simp (disch := first | assumption | exact e_nk_i _ | exact e_nk_n | exact e_nk_r _ | exact e_bo_0 | exact e_bo_1 | exact e_bo_b _ | omega) only [e_cl_v, e_cl_x, e_add_0, e_add_s, Option.toList_some, Option.toList_none, List.cons_append, List.nil_append, iI_add, iI_sub, iI_mul, iI_lt, iI_eq, iI_le, r119_0, r119_1, r119_2, r119_3, r119_6, r119_9, r119_10, r119_11, r119_12, r119_15, r119_18, r119_19, r119_22, r119_23, r119_26, r119_27, r119_30, r119_31, r119_34, r119_37, r119_38, r119_41, r119_44, r119_45, r119_48, r119_49, r119_50, r119_53, r119_56, r119_57, r119_58, r119_61, r119_62, r119_65, r119_66, i1, i2, rt, e1, e2, e3, e4]
    simp
  · refine ⟨M, ?_, fun y => absurd y h0, fun _ => rfl, fun _ _ => rfl⟩
    rw [if_neg h0]
    by_cases q1 : 0 ≤ i ∧ i ≤ 2
    · rw [decide_eq_true q1, bI_t] at i1
      rw [decide_eq_false (fun y => h0 ⟨q1, y⟩), bI_f] at i2
      simp (disch := first | assumption | exact e_nk_i _ | exact e_nk_n | exact e_nk_r _ | exact e_bo_0 | exact e_bo_1 | exact e_bo_b _ | omega) only [e_cl_v, e_cl_x, e_add_0, e_add_s, Option.toList_some, Option.toList_none, List.cons_append, List.nil_append, iI_add, iI_sub, iI_mul, iI_lt, iI_eq, iI_le, r119_0, r119_1, r119_2, r119_3, r119_6, r119_9, r119_10, r119_11, r119_12, r119_15, r119_18, r119_19, r119_22, r119_23, r119_26, r119_27, r119_30, r119_31, r119_34, r119_37, r119_38, r119_41, r119_44, r119_45, r119_48, r119_49, r119_50, r119_53, r119_56, r119_57, r119_58, r119_61, r119_62, r119_65, r119_66, i1, i2, rf]
      simp
    · rw [decide_eq_false q1, bI_f] at i1
      simp (disch := first | assumption | exact e_nk_i _ | exact e_nk_n | exact e_nk_r _ | exact e_bo_0 | exact e_bo_1 | exact e_bo_b _ | omega) only [e_cl_v, e_cl_x, e_add_0, e_add_s, Option.toList_some, Option.toList_none, List.cons_append, List.nil_append, iI_add, iI_sub, iI_mul, iI_lt, iI_eq, iI_le, r119_0, r119_1, r119_2, r119_3, r119_6, r119_9, r119_10, r119_11, r119_12, r119_15, r119_18, r119_19, r119_22, r119_23, r119_26, r119_27, r119_30, r119_31, r119_34, r119_37, r119_38, r119_41, r119_44, r119_45, r119_48, r119_49, r119_50, r119_53, r119_56, r119_57, r119_58, r119_61, r119_62, r119_65, r119_66, i1, rf]
      simp
end Ec35
