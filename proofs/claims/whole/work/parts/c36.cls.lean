section Ec36
variable {L : Nat} {xs : Nat → Int32} {d : Nat} {M M2 M3 : e_MI} {V : e_ML} {W : e_MD} {K K1 K2 : e_St} {S : Int → e_St} {h : e_H} {s s0 s1 t t2 a b2 n : Nat} {c o w z m k q p i f l b e mc tl T x y v N : Int} {sc : Bool} {ρ ν μ χ β ε τ u : Int → Int}
/-! the class's public changes, on -/
theorem x_setAmount (H : CK M K c S) (hg : kG K) (ho : i32 o) (hv : i32 v) (hg2 : (0 ≤ o ∧ o ≤ K 310 - 1) ∧ 1 ≤ v ∧ v ≤ 9 → kR (uI K (8 + o) v) ∧ aW (uI K (8 + o) v) = aW K ∧ kG (saK K o v)) : ∃ M2 : e_MI, e_lim L xs (d + 7) 110 0 [some (.ref 0), some (.int (iI o)), some (.int (iI v)), none] [] (e_hp M V W) = (if 0 ≤ o ∧ o ≤ K 310 - 1 then (if 1 ≤ v ∧ v ≤ 9 then some (.inl (some (.int (iI (K (8 + o))))), e_hp M2 V W, 0, 0) else some (.inr 0, e_hp M2 V W, 1, 6)) else some (.inr 2, e_hp M2 V W, 1, 6)) ∧ ((0 ≤ o ∧ o ≤ K 310 - 1) ∧ 1 ≤ v ∧ v ≤ 9 → CK M2 (saK K o v) (svC c) (svS c S K)) ∧ (¬((0 ≤ o ∧ o ≤ K 310 - 1) ∧ 1 ≤ v ∧ v ≤ 9) → M2 = M) ∧ ∀ a, a < 1 ∨ 148 < a → M2 a = M a := by
  have hn := hg.1.n
  have e0 := x_isOrder (L := L) (xs := xs) (d := d + 5) (V := V) (W := W) H.sh hg.1 ho
  have e1 := m_requireIndex (L := L) (xs := xs) (d := d + 6) (h := e_hp M V W) (decide (0 ≤ o ∧ o ≤ K 310 - 1))
  have i1 := m_isWithin (L := L) (xs := xs) (d := d + 6) (h := e_hp M V W) (x := v) (y2 := 1) (z2 := 9) hv (by omega) (by omega)
  have r1 := m_requireArgument (L := L) (xs := xs) (d := d + 6) (h := e_hp M V W) (decide (1 ≤ v ∧ v ≤ 9))
  by_cases h0 : 0 ≤ o ∧ o ≤ K 310 - 1
  · rw [if_pos (decide_eq_true h0)] at e1
    by_cases h1 : 1 ≤ v ∧ v ≤ 9
    · rw [if_pos (decide_eq_true h1)] at r1
      obtain ⟨g1, g2, g3⟩ := hg2 ⟨h0, h1⟩
      obtain ⟨M1, e2, k1, k2, k3, k4, hf⟩ := x_rem (L := L) (xs := xs) (d := d + 3) (V := V) (W := W) H hg
      have e3 := s_orderCell (L := L) (xs := xs) (d := d + 5) (V := V) (W := W) k1 hn.2 h0.1 (show o < K 310 by omega) (j := 1) (by omega) (by omega)
      rw [show 8 * 1 + o = 8 + o by omega] at e3
      have e4 := s_setOrderCell (L := L) (xs := xs) (d := d + 5) (M := M1) (V := V) (W := W) (v := iI v) h0.1 (show o < 8 by omega) (j := 1) (by omega) (by omega)
      have hS := SH_amount k1 hg.1 hg.2.1.1.2 (o := o) (v := v) (by omega)
      have hu : ∀ a, a ≠ 2 → e_u M1 2 (upd (M1 2) (o * 6 + 1).toNat (iI v)) a = M1 a := fun a y => e_u_n _ _ y
      obtain ⟨M2, e5, hS2, hf2⟩ := s_layRowS (L := L) (xs := xs) (d := d + 4) (V := V) (W := W) hS g1 (by have := hg.2.1.1.2; omega)
      obtain ⟨M3, e6, hC, hf3⟩ := x_then (L := L) (xs := xs) (d := d) (V := V) (W := W) hS2 g3 (k2.of fun a x y => by rw [hf2 a (by omega), hu a (by omega)]) (k3.g.of fun a x y => by rw [hf2 a (by omega), hu a (by omega)]) (k4.of fun a x y => by rw [hf2 a (by omega), hu a (by omega)])
      refine ⟨M3, ?_, fun _ => hC, fun y => absurd ⟨h0, h1⟩ y, fun a y => by rw [hf3 a (by omega), hf2 a (by omega), hu a (by omega), hf a (by omega)]⟩
      rw [if_pos h0, if_pos h1]
      simp (disch := first | assumption | exact e_nk_i _ | exact e_nk_n | exact e_nk_r _ | exact e_bo_0 | exact e_bo_1 | exact e_bo_b _ | omega) only [e_cl_v, e_cl_x, e_add_0, e_add_s, Option.toList_some, Option.toList_none, List.cons_append, List.nil_append, iI_add, iI_sub, iI_mul, iI_lt, iI_eq, iI_le, r110_0, r110_1, r110_2, r110_5, r110_8, r110_9, r110_10, r110_12, r110_15, r110_18, r110_19, r110_22, r110_23, r110_26, r110_29, r110_30, r110_33, r110_34, r110_35, r110_38, r110_39, r110_40, r110_43, r110_44, r110_45, r110_46, r110_49, r110_50, r110_53, r110_56, r110_57, r110_60, r110_61, e0, e1, i1, r1, e2, e3, e4, e5, e6]
    · rw [if_neg (by rw [decide_eq_true_eq]; exact h1)] at r1
      refine ⟨M, ?_, fun y => absurd y.2 h1, fun _ => rfl, fun _ _ => rfl⟩
      rw [if_pos h0, if_neg h1]
      simp (disch := first | assumption | exact e_nk_i _ | exact e_nk_n | exact e_nk_r _ | exact e_bo_0 | exact e_bo_1 | exact e_bo_b _ | omega) only [e_cl_v, e_cl_x, e_add_0, e_add_s, Option.toList_some, Option.toList_none, List.cons_append, List.nil_append, iI_add, iI_sub, iI_mul, iI_lt, iI_eq, iI_le, r110_0, r110_1, r110_2, r110_5, r110_8, r110_9, r110_10, r110_12, r110_15, r110_18, r110_19, r110_22, r110_23, r110_26, r110_29, r110_30, r110_33, r110_34, r110_35, r110_38, r110_39, r110_40, r110_43, r110_44, r110_45, r110_46, r110_49, r110_50, r110_53, r110_56, r110_57, r110_60, r110_61, e0, e1, i1, r1]
  · rw [if_neg (by rw [decide_eq_true_eq]; exact h0)] at e1
    refine ⟨M, ?_, fun y => absurd y.1 h0, fun _ => rfl, fun _ _ => rfl⟩
    rw [if_neg h0]
    simp (disch := first | assumption | exact e_nk_i _ | exact e_nk_n | exact e_nk_r _ | exact e_bo_0 | exact e_bo_1 | exact e_bo_b _ | omega) only [e_cl_v, e_cl_x, e_add_0, e_add_s, Option.toList_some, Option.toList_none, List.cons_append, List.nil_append, iI_add, iI_sub, iI_mul, iI_lt, iI_eq, iI_le, r110_0, r110_1, r110_2, r110_5, r110_8, r110_9, r110_10, r110_12, r110_15, r110_18, r110_19, r110_22, r110_23, r110_26, r110_29, r110_30, r110_33, r110_34, r110_35, r110_38, r110_39, r110_40, r110_43, r110_44, r110_45, r110_46, r110_49, r110_50, r110_53, r110_56, r110_57, r110_60, r110_61, e0, e1]
theorem x_undo (H : CK M K c S) (hg : kG K) (hgS : ∀ j, 0 ≤ j → j < c → kG (S j)) : ∃ M2 : e_MI, e_lim L xs (d + 7) 155 0 [some (.ref 0), none] [] (e_hp M V W) = some (.inl (some (.int (iI (c - 1)))), e_hp M2 V W, 0, 0) ∧ CK M2 (if c = 0 then K else S (c - 1)) (if c = 0 then 0 else c - 1) S ∧ ∀ a, 148 < a → M2 a = M a := by
  by_cases hc : c = 0
  · subst hc
    have e1 := h_goBack0 (L := L) (xs := xs) (d := d + 3) (V := V) (W := W) H.hs
    obtain ⟨M2, e2, hC, hf⟩ := x_then (L := L) (xs := xs) (d := d) (V := V) (W := W) H.sh hg H.hs H.pr.g H.tg
    refine ⟨M2, ?_, ?_, fun a y => hf a (by omega)⟩
    · simp (disch := first | assumption | exact e_nk_i _ | exact e_nk_n | exact e_nk_r _ | exact e_bo_0 | exact e_bo_1 | exact e_bo_b _ | omega) only [e_cl_v, e_cl_x, e_add_0, e_add_s, Option.toList_some, Option.toList_none, List.cons_append, List.nil_append, iI_add, iI_sub, iI_mul, iI_lt, iI_eq, iI_le, r155_0, r155_1, r155_4, r155_5, r155_8, r155_11, r155_12, r155_13, r155_16, r155_17, e1, e2]
      rfl
    · rw [if_pos rfl, if_pos rfl]
      exact hC
  · have c0 : 0 ≤ c := by
      obtain ⟨nx, -, h2, -⟩ := H.hs
      exact h2.1
    have hs := hgS (c - 1) (by omega) (by omega)
    obtain ⟨M1, e1, h1, h2, hf1⟩ := h_goBack (L := L) (xs := xs) (d := d + 3) (V := V) (W := W) H.hs hc hs.1 hs.2.1.1
    obtain ⟨M2, e2, hC, hf⟩ := x_then (L := L) (xs := xs) (d := d) (V := V) (W := W) h2 hs h1 (H.pr.g.of fun a x y => hf1 a (by omega)) (H.tg.of fun a x y => hf1 a (by omega))
    refine ⟨M2, ?_, ?_, fun a y => ?_⟩
    · simp (disch := first | assumption | exact e_nk_i _ | exact e_nk_n | exact e_nk_r _ | exact e_bo_0 | exact e_bo_1 | exact e_bo_b _ | omega) only [e_cl_v, e_cl_x, e_add_0, e_add_s, Option.toList_some, Option.toList_none, List.cons_append, List.nil_append, iI_add, iI_sub, iI_mul, iI_lt, iI_eq, iI_le, r155_0, r155_1, r155_4, r155_5, r155_8, r155_11, r155_12, r155_13, r155_16, r155_17, e1, e2]
    · rw [if_neg hc, if_neg hc]
      exact hC
    · rw [hf a (by omega), hf1 a (by omega)]
end Ec36
