section Ec35
variable {L : Nat} {xs : Nat → Int32} {d : Nat} {M M2 M3 : e_MI} {V : e_ML} {W : e_MD} {K K1 K2 : e_St} {S : Int → e_St} {h : e_H} {s s0 s1 t t2 a b2 n : Nat} {c o w z m k q p i f l b e mc tl T x y v N : Int} {sc : Bool} {ρ ν μ χ β ε τ u : Int → Int}
/-! the class's public changes, on -/
theorem x_afresh (hB : SB M 1 K1) (hr : kR K1) (ha : aW K1 ≤ 16) (hg2 : kG (nwK K1)) (hH : HS M c S) (hT : TG0 M 133) (hT2 : TG0 M 149) : ∃ M2 M3 : e_MI, e_lim L xs (d + 6) 43 0 [some (.ref 1)] [] (e_hp M V W) = some (.inl none, e_hp M2 V W, 0, 0) ∧ e_lim L xs (d + 6) 147 0 [some (.ref 0)] [] (e_hp M2 V W) = some (.inl none, e_hp M3 V W, 0, 0) ∧ CK M3 (nwK K1) c S ∧ ∀ a, a < 1 ∨ 148 < a → M3 a = M a := by
  obtain ⟨M2, e1, h1, f1⟩ := s_startAfresh (L := L) (xs := xs) (d := d + 3) (V := V) (W := W) hB hr ha
  obtain ⟨M3, e2, h2, f2⟩ := x_then (L := L) (xs := xs) (d := d) (V := V) (W := W) h1 hg2 (hH.of fun a x y => f1 a (by omega) (by omega)) (hT.of fun a x y => f1 a (by omega) (by omega)) (hT2.of fun a x y => f1 a (by omega) (by omega))
  exact ⟨M2, M3, e1, e2, h2, fun a x => by rw [f2 a (by omega), f1 a (by omega) (by omega)]⟩
theorem x_workers (H : CK M K c S) (hg : kG K) (hi : i32 i) (hv : i32 v) (hg2 : (0 ≤ i ∧ i ≤ 2) ∧ 0 ≤ v ∧ v ≤ 4 → kG (uI K (238 + i) v)) : ∃ M2 : e_MI, e_lim L xs (d + 7) 110 0 [some (.ref 0), some (.int (iI i)), some (.int (iI v)), none] [] (e_hp M V W) = (if (0 ≤ i ∧ i ≤ 2) ∧ 0 ≤ v ∧ v ≤ 4 then some (.inl (some (.int (iI (K (238 + i))))), e_hp M2 V W, 0, 0) else some (.inr 0, e_hp M2 V W, 1, 6)) ∧ ((0 ≤ i ∧ i ≤ 2) ∧ 0 ≤ v ∧ v ≤ 4 → CK M2 (uI K (238 + i) v) (svC c) (svS c S K)) ∧ (¬((0 ≤ i ∧ i ≤ 2) ∧ 0 ≤ v ∧ v ≤ 4) → M2 = M) ∧ ∀ a, a < 1 ∨ 148 < a → M2 a = M a := by
  have i1 := m_isWithin (L := L) (xs := xs) (d := d + 6) (h := e_hp M V W) (x := i) (y2 := 0) (z2 := 2) hi (by omega) (by omega)
  have i2 := m_isWithin (L := L) (xs := xs) (d := d + 6) (h := e_hp M V W) (x := v) (y2 := 0) (z2 := 4) hv (by omega) (by omega)
  have rt := m_requireArgument (L := L) (xs := xs) (d := d + 6) (h := e_hp M V W) true
  have rf := m_requireArgument (L := L) (xs := xs) (d := d + 6) (h := e_hp M V W) false
  rw [if_pos rfl, bI_t] at rt
  rw [if_neg (by decide), bI_f] at rf
  by_cases h0 : (0 ≤ i ∧ i ≤ 2) ∧ 0 ≤ v ∧ v ≤ 4
  · rw [decide_eq_true h0.1, bI_t] at i1
    rw [decide_eq_true h0.2, bI_t] at i2
    obtain ⟨M1, e1, h1, h2, h3, h4, hf⟩ := x_rem (L := L) (xs := xs) (d := d + 3) (V := V) (W := W) H hg
    have e2 := m_atI (L := L) (xs := xs) (d := d + 6) (M := M1) (V := V) (W := W) si_6 (z := i) h0.1.1 (by omega) (h1.sf h0.1.1 (by omega))
    have e3 := m_putI (L := L) (xs := xs) (d := d + 6) (M := M1) (V := V) (W := W) (v := iI v) si_6 (z := i) h0.1.1 (by omega)
    have hS := SH_workers h1 hg.1 hg.2.1.1.2 (i := i) (v := v) (by omega)
    have hu : ∀ a, a ≠ 6 → e_u M1 6 (upd (M1 6) i.toNat (iI v)) a = M1 a := fun a y => e_u_n _ _ y
    obtain ⟨M3, e4, hC, hf3⟩ := x_then (L := L) (xs := xs) (d := d) (V := V) (W := W) hS (hg2 h0) (h2.of fun a x y => hu a (by omega)) (h3.g.of fun a x y => hu a (by omega)) (h4.of fun a x y => hu a (by omega))
    refine ⟨M3, ?_, fun _ => hC, fun y => absurd h0 y, fun a y => by rw [hf3 a (by omega), hu a (by omega), hf a (by omega)]⟩
    rw [if_pos h0]
    simp (disch := first | assumption | exact e_nk_i _ | exact e_nk_n | exact e_nk_r _ | exact e_bo_0 | exact e_bo_1 | exact e_bo_b _ | omega) only [e_cl_v, e_cl_x, e_add_0, e_add_s, Option.toList_some, Option.toList_none, List.cons_append, List.nil_append, iI_add, iI_sub, iI_mul, iI_lt, iI_eq, iI_le, r110_0, r110_1, r110_2, r110_3, r110_6, r110_9, r110_10, r110_11, r110_12, r110_15, r110_18, r110_19, r110_22, r110_23, r110_26, r110_27, r110_30, r110_31, r110_34, r110_37, r110_38, r110_41, r110_44, r110_45, r110_48, r110_49, r110_50, r110_53, r110_56, r110_57, r110_58, r110_61, r110_62, r110_65, r110_66, i1, i2, rt, e1, e2, e3, e4]
    simp
  · refine ⟨M, ?_, fun y => absurd y h0, fun _ => rfl, fun _ _ => rfl⟩
    rw [if_neg h0]
    by_cases q1 : 0 ≤ i ∧ i ≤ 2
    · rw [decide_eq_true q1, bI_t] at i1
      rw [decide_eq_false (fun y => h0 ⟨q1, y⟩), bI_f] at i2
      simp (disch := first | assumption | exact e_nk_i _ | exact e_nk_n | exact e_nk_r _ | exact e_bo_0 | exact e_bo_1 | exact e_bo_b _ | omega) only [e_cl_v, e_cl_x, e_add_0, e_add_s, Option.toList_some, Option.toList_none, List.cons_append, List.nil_append, iI_add, iI_sub, iI_mul, iI_lt, iI_eq, iI_le, r110_0, r110_1, r110_2, r110_3, r110_6, r110_9, r110_10, r110_11, r110_12, r110_15, r110_18, r110_19, r110_22, r110_23, r110_26, r110_27, r110_30, r110_31, r110_34, r110_37, r110_38, r110_41, r110_44, r110_45, r110_48, r110_49, r110_50, r110_53, r110_56, r110_57, r110_58, r110_61, r110_62, r110_65, r110_66, i1, i2, rf]
      simp
    · rw [decide_eq_false q1, bI_f] at i1
      simp (disch := first | assumption | exact e_nk_i _ | exact e_nk_n | exact e_nk_r _ | exact e_bo_0 | exact e_bo_1 | exact e_bo_b _ | omega) only [e_cl_v, e_cl_x, e_add_0, e_add_s, Option.toList_some, Option.toList_none, List.cons_append, List.nil_append, iI_add, iI_sub, iI_mul, iI_lt, iI_eq, iI_le, r110_0, r110_1, r110_2, r110_3, r110_6, r110_9, r110_10, r110_11, r110_12, r110_15, r110_18, r110_19, r110_22, r110_23, r110_26, r110_27, r110_30, r110_31, r110_34, r110_37, r110_38, r110_41, r110_44, r110_45, r110_48, r110_49, r110_50, r110_53, r110_56, r110_57, r110_58, r110_61, r110_62, r110_65, r110_66, i1, rf]
      simp
end Ec35
