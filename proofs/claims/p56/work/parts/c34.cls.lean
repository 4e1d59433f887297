section Ec34
variable {L : Nat} {xs : Nat → Int32} {d : Nat} {M M2 M3 : e_MI} {V : e_ML} {W : e_MD} {K K2 : e_St} {S : Int → e_St} {h : e_H} {s s0 s1 t t2 a b2 n : Nat} {c o w z m k q p i f l b e mc tl T x y v N : Int} {sc : Bool} {ρ ν μ χ β ε τ u : Int → Int}
/-! the class's public changes -/
/-- remembered -/
theorem x_rem (H : CK M K c S) (hg : kG K) : ∃ M1 : e_MI, e_lim L xs (d + 3) 1 0 [some (.ref 11), some (.ref 1), none] [] (e_hp M V W) = some (.inl none, e_hp M1 V W, 0, 0) ∧ SH M1 1 K ∧ HS M1 (svC c) (svS c S K) ∧ PR M1 K ∧ TG0 M1 149 ∧ ∀ a, a < 11 ∨ 132 < a → M1 a = M a := by
  obtain ⟨M1, e, h1, hf⟩ := h_remember (L := L) (xs := xs) (d := d) (V := V) (W := W) H.sh H.hs hg.1 hg.2.1.1
  exact ⟨M1, e, H.sh.of fun a x y => hf a (by omega), h1, H.pr.of fun a x y => hf a (by omega), H.tg.of fun a x y => hf a (by omega), hf⟩
/-- changed, then timed -/
theorem x_then (hS : SH M 1 K2) (hg2 : kG K2) (hH : HS M c S) (hT : TG0 M 133) (hT2 : TG0 M 149) : ∃ M2 : e_MI, e_lim L xs (d + 6) 147 0 [some (.ref 0)] [] (e_hp M V W) = some (.inl none, e_hp M2 V W, 0, 0) ∧ CK M2 K2 c S ∧ ∀ a, a < 133 ∨ 148 < a → M2 a = M a := by
  obtain ⟨M2, e, hp, hf⟩ := x_refresh (L := L) (xs := xs) (d := d) (V := V) (W := W) hS hg2 hT
  exact ⟨M2, e, ⟨hS.of fun a x y => hf a (by omega), hH.of fun a x y => hf a (by omega), hp, hT2.of fun a x y => hf a (by omega)⟩, hf⟩
theorem PR.g (h : PR M K) : TG0 M 133 := fwE.g h
theorem x_setting (H : CK M K c S) (hg : kG K) (hm : i32 m) (hf0 : i32 f) (hx : i32 x) (hv : i32 v) (hg2 : ((0 ≤ m ∧ m ≤ 3) ∧ (0 ≤ f ∧ f ≤ 3) ∧ (0 ≤ x ∧ x ≤ 3)) → ((0 ≤ v ∧ v ≤ 20) ∧ f ≠ x) → kG (uI K (144 + 16 * m + 4 * f + x) v)) : ∃ M2 : e_MI, e_lim L xs (d + 7) 108 0 [some (.ref 0), some (.int (iI m)), some (.int (iI f)), some (.int (iI x)), some (.int (iI v)), none] [] (e_hp M V W) = (if ((0 ≤ m ∧ m ≤ 3) ∧ (0 ≤ f ∧ f ≤ 3) ∧ (0 ≤ x ∧ x ≤ 3)) ∧ ((0 ≤ v ∧ v ≤ 20) ∧ f ≠ x) then some (.inl (some (.int (iI (sT K m f x)))), e_hp M2 V W, 0, 0) else some (.inr 0, e_hp M2 V W, 1, 6)) ∧ (((0 ≤ m ∧ m ≤ 3) ∧ (0 ≤ f ∧ f ≤ 3) ∧ (0 ≤ x ∧ x ≤ 3)) ∧ ((0 ≤ v ∧ v ≤ 20) ∧ f ≠ x) → CK M2 (uI K (144 + 16 * m + 4 * f + x) v) (svC c) (svS c S K)) ∧ (¬(((0 ≤ m ∧ m ≤ 3) ∧ (0 ≤ f ∧ f ≤ 3) ∧ (0 ≤ x ∧ x ≤ 3)) ∧ ((0 ≤ v ∧ v ≤ 20) ∧ f ≠ x)) → M2 = M) ∧ ∀ a, a < 1 ∨ 148 < a → M2 a = M a := by
  have e0 := m_isMachine (L := L) (xs := xs) (d := d + 5) (M := M) (V := V) (W := W) (z := m) hm
  have i1 := m_isWithin (L := L) (xs := xs) (d := d + 6) (h := e_hp M V W) (x := f) (y2 := 0) (z2 := 3) hf0 (by omega) (by omega)
  have i2 := m_isWithin (L := L) (xs := xs) (d := d + 6) (h := e_hp M V W) (x := x) (y2 := 0) (z2 := 3) hx (by omega) (by omega)
  have i3 := m_isWithin (L := L) (xs := xs) (d := d + 6) (h := e_hp M V W) (x := v) (y2 := 0) (z2 := 20) hv (by omega) (by omega)
  have rt := m_requireArgument (L := L) (xs := xs) (d := d + 6) (h := e_hp M V W) true
  have rf := m_requireArgument (L := L) (xs := xs) (d := d + 6) (h := e_hp M V W) false
  rw [if_pos rfl, bI_t] at rt
  rw [if_neg (by decide), bI_f] at rf
  by_cases hA : (0 ≤ m ∧ m ≤ 3) ∧ (0 ≤ f ∧ f ≤ 3) ∧ (0 ≤ x ∧ x ≤ 3)
  · rw [decide_eq_true hA.1, bI_t] at e0
    rw [decide_eq_true hA.2.1, bI_t] at i1
    rw [decide_eq_true hA.2.2, bI_t] at i2
    by_cases hB : (0 ≤ v ∧ v ≤ 20) ∧ f ≠ x
    · rw [decide_eq_true hB.1, bI_t] at i3
      obtain ⟨M1, e1, h1, h2, h3, h4, hf⟩ := x_rem (L := L) (xs := xs) (d := d + 3) (V := V) (W := W) H hg
      have es := s_settingOf (L := L) (xs := xs) (d := d + 5) (V := V) (W := W) h1 hg.2.2.2.2 (m := m) (f := f) (q := x) (by omega) (by omega) (by omega)
      obtain ⟨M2, e2, hS, hf2⟩ := s_tellSetting (L := L) (xs := xs) (d := d + 5) (V := V) (W := W) h1 hg.1 hA.1 hA.2.1 hA.2.2 (v := v)
      obtain ⟨M3, e3, h5, hf3⟩ := x_then (L := L) (xs := xs) (d := d) (V := V) (W := W) hS (hg2 hA hB) (h2.of fun a x y => hf2 a (by omega)) (h3.g.of fun a x y => hf2 a (by omega)) (h4.of fun a x y => hf2 a (by omega))
      refine ⟨M3, ?_, fun _ => h5, fun y => absurd ⟨hA, hB⟩ y, fun a y => by rw [hf3 a (by omega), hf2 a (by omega), hf a (by omega)]⟩
      rw [if_pos ⟨hA, hB⟩]
      simp (disch := first | assumption | exact e_nk_i _ | exact e_nk_n | exact e_nk_r _ | exact e_bo_0 | exact e_bo_1 | exact e_bo_b _ | omega) only [e_cl_v, e_cl_x, e_add_0, e_add_s, Option.toList_some, Option.toList_none, List.cons_append, List.nil_append, iI_add, iI_sub, iI_mul, iI_lt, iI_eq, iI_le, r108_0, r108_1, r108_4, r108_7, r108_8, r108_9, r108_10, r108_13, r108_16, r108_17, r108_18, r108_19, r108_22, r108_25, r108_26, r108_29, r108_30, r108_33, r108_35, r108_36, r108_38, r108_41, r108_44, r108_45, r108_46, r108_49, r108_50, r108_53, r108_54, r108_57, r108_58, r108_61, r108_62, r108_65, r108_68, r108_69, r108_72, r108_73, r108_74, r108_75, r108_78, r108_80, r108_81, r108_84, r108_85, r108_86, r108_87, r108_89, r108_92, r108_93, r108_96, r108_98, e0, i1, i2, i3, rt, e1, es, e2, e3]
      have := hB.2
      simp [this]
    · refine ⟨M, ?_, fun y => absurd y.2 hB, fun _ => rfl, fun _ _ => rfl⟩
      rw [if_neg (fun y => hB y.2)]
      by_cases hv2 : 0 ≤ v ∧ v ≤ 20
      · rw [decide_eq_true hv2, bI_t] at i3
        have hfx : f = x := Classical.byContradiction fun y => hB ⟨hv2, y⟩
        subst hfx
        simp (disch := first | assumption | exact e_nk_i _ | exact e_nk_n | exact e_nk_r _ | exact e_bo_0 | exact e_bo_1 | exact e_bo_b _ | omega) only [e_cl_v, e_cl_x, e_add_0, e_add_s, Option.toList_some, Option.toList_none, List.cons_append, List.nil_append, iI_add, iI_sub, iI_mul, iI_lt, iI_eq, iI_le, r108_0, r108_1, r108_4, r108_7, r108_8, r108_9, r108_10, r108_13, r108_16, r108_17, r108_18, r108_19, r108_22, r108_25, r108_26, r108_29, r108_30, r108_33, r108_35, r108_36, r108_38, r108_41, r108_44, r108_45, r108_46, r108_49, r108_50, r108_53, r108_54, r108_57, r108_58, r108_61, r108_62, r108_65, r108_68, r108_69, r108_72, r108_73, r108_74, r108_75, r108_78, r108_80, r108_81, r108_84, r108_85, r108_86, r108_87, r108_89, r108_92, r108_93, r108_96, r108_98, e0, i1, i2, i3, rt, rf]
        simp
      · rw [decide_eq_false hv2, bI_f] at i3
        simp (disch := first | assumption | exact e_nk_i _ | exact e_nk_n | exact e_nk_r _ | exact e_bo_0 | exact e_bo_1 | exact e_bo_b _ | omega) only [e_cl_v, e_cl_x, e_add_0, e_add_s, Option.toList_some, Option.toList_none, List.cons_append, List.nil_append, iI_add, iI_sub, iI_mul, iI_lt, iI_eq, iI_le, r108_0, r108_1, r108_4, r108_7, r108_8, r108_9, r108_10, r108_13, r108_16, r108_17, r108_18, r108_19, r108_22, r108_25, r108_26, r108_29, r108_30, r108_33, r108_35, r108_36, r108_38, r108_41, r108_44, r108_45, r108_46, r108_49, r108_50, r108_53, r108_54, r108_57, r108_58, r108_61, r108_62, r108_65, r108_68, r108_69, r108_72, r108_73, r108_74, r108_75, r108_78, r108_80, r108_81, r108_84, r108_85, r108_86, r108_87, r108_89, r108_92, r108_93, r108_96, r108_98, e0, i1, i2, i3, rt, rf]
        simp
  · refine ⟨M, ?_, fun y => absurd y.1 hA, fun _ => rfl, fun _ _ => rfl⟩
    rw [if_neg (fun y => hA y.1)]
    by_cases q1 : 0 ≤ m ∧ m ≤ 3
    · rw [decide_eq_true q1, bI_t] at e0
      by_cases q2 : 0 ≤ f ∧ f ≤ 3
      · rw [decide_eq_true q2, bI_t] at i1
        rw [decide_eq_false (fun y => hA ⟨q1, q2, y⟩), bI_f] at i2
        simp (disch := first | assumption | exact e_nk_i _ | exact e_nk_n | exact e_nk_r _ | exact e_bo_0 | exact e_bo_1 | exact e_bo_b _ | omega) only [e_cl_v, e_cl_x, e_add_0, e_add_s, Option.toList_some, Option.toList_none, List.cons_append, List.nil_append, iI_add, iI_sub, iI_mul, iI_lt, iI_eq, iI_le, r108_0, r108_1, r108_4, r108_7, r108_8, r108_9, r108_10, r108_13, r108_16, r108_17, r108_18, r108_19, r108_22, r108_25, r108_26, r108_29, r108_30, r108_33, r108_35, r108_36, r108_38, r108_41, r108_44, r108_45, r108_46, r108_49, r108_50, r108_53, r108_54, r108_57, r108_58, r108_61, r108_62, r108_65, r108_68, r108_69, r108_72, r108_73, r108_74, r108_75, r108_78, r108_80, r108_81, r108_84, r108_85, r108_86, r108_87, r108_89, r108_92, r108_93, r108_96, r108_98, e0, i1, i2, rf]
        simp
      · rw [decide_eq_false q2, bI_f] at i1
        simp (disch := first | assumption | exact e_nk_i _ | exact e_nk_n | exact e_nk_r _ | exact e_bo_0 | exact e_bo_1 | exact e_bo_b _ | omega) only [e_cl_v, e_cl_x, e_add_0, e_add_s, Option.toList_some, Option.toList_none, List.cons_append, List.nil_append, iI_add, iI_sub, iI_mul, iI_lt, iI_eq, iI_le, r108_0, r108_1, r108_4, r108_7, r108_8, r108_9, r108_10, r108_13, r108_16, r108_17, r108_18, r108_19, r108_22, r108_25, r108_26, r108_29, r108_30, r108_33, r108_35, r108_36, r108_38, r108_41, r108_44, r108_45, r108_46, r108_49, r108_50, r108_53, r108_54, r108_57, r108_58, r108_61, r108_62, r108_65, r108_68, r108_69, r108_72, r108_73, r108_74, r108_75, r108_78, r108_80, r108_81, r108_84, r108_85, r108_86, r108_87, r108_89, r108_92, r108_93, r108_96, r108_98, e0, i1, rf]
        simp
    · rw [decide_eq_false q1, bI_f] at e0
      simp (disch := first | assumption | exact e_nk_i _ | exact e_nk_n | exact e_nk_r _ | exact e_bo_0 | exact e_bo_1 | exact e_bo_b _ | omega) only [e_cl_v, e_cl_x, e_add_0, e_add_s, Option.toList_some, Option.toList_none, List.cons_append, List.nil_append, iI_add, iI_sub, iI_mul, iI_lt, iI_eq, iI_le, r108_0, r108_1, r108_4, r108_7, r108_8, r108_9, r108_10, r108_13, r108_16, r108_17, r108_18, r108_19, r108_22, r108_25, r108_26, r108_29, r108_30, r108_33, r108_35, r108_36, r108_38, r108_41, r108_44, r108_45, r108_46, r108_49, r108_50, r108_53, r108_54, r108_57, r108_58, r108_61, r108_62, r108_65, r108_68, r108_69, r108_72, r108_73, r108_74, r108_75, r108_78, r108_80, r108_81, r108_84, r108_85, r108_86, r108_87, r108_89, r108_92, r108_93, r108_96, r108_98, e0, rf]
      simp
end Ec34
