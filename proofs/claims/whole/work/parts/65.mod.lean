section E65
variable {L : Nat} {xs : Nat → Int32} {d : Nat} {M : e_MI} {V : e_ML} {W : e_MD} {K : e_St} {h : e_H} {k : Int}
/-! what was saved -/
def e_SV (M : e_MI) (c : Int) (S : Int → e_St) : Prop := M 184 3 = iI c ∧ (0 ≤ c ∧ c ≤ 12) ∧ ∀ j z, 0 ≤ j → j < c → 0 ≤ z → z < 312 → M 186 (312 * j + z).toNat = iI (S j z)
def frS (M M2 : e_MI) : Prop := (∀ a, a ≠ 184 → a ≠ 186 → M2 a = M a) ∧ ∀ j, j ≠ 3 → M2 184 j = M 184 j
theorem frS.t {M2 M3 : e_MI} (h : frS M M2) (h2 : frS M2 M3) : frS M M3 := ⟨fun a x0 x1 => by rw [h2.1 a x0 x1, h.1 a x0 x1], fun j x0 => by rw [h2.2 j x0, h.2 j x0]⟩
theorem frS.KM {M2 : e_MI} (h : frS M M2) (hK : e_KM M K) : e_KM M2 K := by
  unfold e_KM
  rw [h.1 _ (by decide) (by decide)]
  exact hK
theorem mm_savesB {S : Int → e_St} {c : Int} (hK : e_KM M K) (hS : e_SV M c S) (hc : c ≤ 11) {l1 : Option Value} : ∃ M2 : e_MI, e_lim L xs d 181 55 [some (.ref 184), l1] [] (e_hp M V W) = some (.inl none, e_hp M2 V W, 0, 0) ∧ e_SV M2 (c + 1) (fun j => if j = c then K else S j) ∧ frS M M2 := by
  obtain ⟨h1, h2, h3⟩ := hS
  have key := G_lp (i := 0) (n := 312) (I := fun i M1 => frS M M1 ∧ M1 184 3 = iI c ∧ (∀ z, 0 ≤ z → z < i → M1 186 (312 * c + z).toNat = iI (K z)) ∧ ∀ z : Int, 0 ≤ z → z < 312 * c → M1 186 z.toNat = M 186 z.toNat) (P := fun i M1 => ∃ M2 : e_MI, e_lim L xs d 181 57 [some (.ref 184), some (.int (iI i))] [] (e_hp M1 V W) = some (.inl none, e_hp M2 V W, 0, 0) ∧ e_SV M2 (c + 1) (fun j => if j = c then K else S j) ∧ frS M M2) (fun j M1 a b hI hc2 => ?_) (fun M1 hI => ?_) (by omega) M ⟨⟨fun _ _ _ => rfl, fun _ _ => rfl⟩, h1, fun z a b => by omega, fun _ _ _ => rfl⟩
  · obtain ⟨M2, e, r⟩ := key
    refine ⟨M2, ?_, r⟩
    rw [← e]
    simp (disch := first | assumption | exact e_nk_i _ | exact e_nk_n | exact e_nk_r _ | exact e_bo_0 | exact e_bo_1 | exact e_bo_b _ | omega) only [e_cl_v, e_cl_x, e_add_0, e_add_s, Option.toList_some, Option.toList_none, List.cons_append, List.nil_append, iI_add, iI_sub, iI_mul, iI_lt, iI_eq, iI_le, r181_55, r181_56]
  · obtain ⟨i1, i2, i3, i4⟩ := hI
    have e1 := (i1.KM hK) j a (by omega)
    obtain ⟨M2, e, r⟩ := hc2 (e_u M1 186 (upd (M1 186) (312 * c + j).toNat (iI (K j)))) ⟨i1.t ⟨fun a x y => e_u_n _ _ y, fun j x => by rw [e_u_n _ _ (by decide)]⟩, by rw [e_u_n _ _ (by decide), i2], fun z x y => by
      rw [e_u_s]
      by_cases hq : z = j
      · rw [hq, upd_s]
      · rw [upd_n _ _ (by omega)]
        exact i3 z x (by omega), fun z x y => by
      rw [e_u_s, upd_n _ _ (by omega)]
      exact i4 z x y⟩
    refine ⟨M2, ?_, r⟩
    rw [← e, r181_57]
    simp (disch := first | assumption | exact e_nk_i _ | exact e_nk_n | exact e_nk_r _ | exact e_bo_0 | exact e_bo_1 | exact e_bo_b _ | omega) only [e_cl_v, e_cl_x, e_add_0, e_add_s, Option.toList_some, Option.toList_none, List.cons_append, List.nil_append, iI_add, iI_sub, iI_mul, iI_lt, iI_eq, iI_le, r181_58, r181_61, r181_64, r181_65, r181_68, r181_71, r181_72, r181_75, r181_76, r181_77, r181_78, r181_79, r181_82, r181_83, r181_84, r181_85, r181_88, iI_vin, iI_nat, if_true, i2, e1]
    rw [if_pos b]
  · obtain ⟨i1, i2, i3, i4⟩ := hI
    refine ⟨e_u M1 184 (upd (M1 184) 3 (iI (c + 1))), ?_, ⟨by rw [e_u_s, upd_s], by omega, fun j z a b x y => ?_⟩, i1.t ⟨fun a x y => e_u_n _ _ x, fun j x => by rw [e_u_s, upd_n _ _ x]⟩⟩
    · rw [r181_57]
      simp (disch := first | assumption | exact e_nk_i _ | exact e_nk_n | exact e_nk_r _ | exact e_bo_0 | exact e_bo_1 | exact e_bo_b _ | omega) only [e_cl_v, e_cl_x, e_add_0, e_add_s, Option.toList_some, Option.toList_none, List.cons_append, List.nil_append, iI_add, iI_sub, iI_mul, iI_lt, iI_eq, iI_le, r181_58, r181_61, r181_91, r181_92, r181_93, r181_96, r181_97, r181_98, r181_101, i2]
      rw [if_neg (by omega)]
    · rw [e_u_n _ _ (by decide)]
      show _ = iI ((if j = c then K else S j) z)
      by_cases hj : j = c
      · rw [if_pos hj, hj]
        exact i3 z x y
      · rw [if_neg hj, i4 (312 * j + z) (by omega) (by omega)]
        exact h3 j z a (by omega) x y
/-- what is saved after a change -/
def svC (c : Int) : Int := if c = 12 then 12 else c + 1
def svS (c : Int) (S : Int → e_St) (K : e_St) : Int → e_St := if c = 12 then (fun j => if j = 11 then K else S (j + 1)) else fun j => if j = c then K else S j
theorem mm_saves {S : Int → e_St} {c : Int} (hK : e_KM M K) (hS : e_SV M c S) : ∃ M2 : e_MI, e_lim L xs d 181 0 [some (.ref 184), none] [] (e_hp M V W) = some (.inl none, e_hp M2 V W, 0, 0) ∧ e_SV M2 (svC c) (svS c S K) ∧ frS M M2 := by
  unfold svC svS
  have hS0 := hS
  obtain ⟨h1, h2, h3⟩ := hS
  by_cases hc : c = 12
  · rw [if_pos hc, if_pos hc]
    subst hc
    have key := G_lp (i := 0) (n := 3432) (I := fun i M1 => frS M M1 ∧ M1 184 3 = iI 11 ∧ (∀ z : Int, 0 ≤ z → z < i → M1 186 z.toNat = M 186 (z + 312).toNat) ∧ ∀ z : Int, i ≤ z → M1 186 z.toNat = M 186 z.toNat) (P := fun i M1 => ∃ M2 : e_MI, e_lim L xs d 181 21 [some (.ref 184), some (.int (iI i))] [] (e_hp M1 V W) = some (.inl none, e_hp M2 V W, 0, 0) ∧ e_SV M2 12 (fun j => if j = 11 then K else S (j + 1)) ∧ frS M M2) (fun j M1 a b hI hc2 => ?_) (fun M1 hI => ?_) (by omega) (e_u M 184 (upd (M 184) 3 (iI 11))) ⟨⟨fun a x y => e_u_n _ _ x, fun j x => by rw [e_u_s, upd_n _ _ x]⟩, by rw [e_u_s, upd_s], fun z a b => by omega, fun z _ => by rw [e_u_n _ _ (by decide)]⟩
    · obtain ⟨M2, e, r⟩ := key
      refine ⟨M2, ?_, r⟩
      rw [← e]
      simp (disch := first | assumption | exact e_nk_i _ | exact e_nk_n | exact e_nk_r _ | exact e_bo_0 | exact e_bo_1 | exact e_bo_b _ | omega) only [e_cl_v, e_cl_x, e_add_0, e_add_s, Option.toList_some, Option.toList_none, List.cons_append, List.nil_append, iI_add, iI_sub, iI_mul, iI_lt, iI_eq, iI_le, r181_0, r181_1, r181_4, r181_6, r181_9, r181_10, r181_11, r181_14, r181_15, r181_16, r181_19, r181_20, h1]
      simp
    · obtain ⟨i1, i2, i3, i4⟩ := hI
      have g1 := i4 (j + 312) (by omega)
      obtain ⟨M2, e, r⟩ := hc2 (e_u M1 186 (upd (M1 186) j.toNat (M 186 (j + 312).toNat))) ⟨i1.t ⟨fun a x y => e_u_n _ _ y, fun j x => by rw [e_u_n _ _ (by decide)]⟩, by rw [e_u_n _ _ (by decide), i2], fun z x y => by
        rw [e_u_s]
        by_cases hq : z = j
        · rw [hq, upd_s]
        · rw [upd_n _ _ (by omega)]
          exact i3 z x (by omega), fun z x => by
        rw [e_u_s, upd_n _ _ (by omega)]
        exact i4 z (by omega)⟩
      refine ⟨M2, ?_, r⟩
      rw [← e, r181_21]
      simp (disch := first | assumption | exact e_nk_i _ | exact e_nk_n | exact e_nk_r _ | exact e_bo_0 | exact e_bo_1 | exact e_bo_b _ | omega) only [e_cl_v, e_cl_x, e_add_0, e_add_s, Option.toList_some, Option.toList_none, List.cons_append, List.nil_append, iI_add, iI_sub, iI_mul, iI_lt, iI_eq, iI_le, r181_22, r181_25, r181_26, r181_29, r181_30, r181_33, r181_34, r181_37, r181_38, r181_39, r181_42, r181_43, r181_46, r181_47, r181_48, r181_49, r181_52, iI_vin, iI_nat, if_true, i2, g1]
      rw [if_pos (by omega)]
    · obtain ⟨i1, i2, i3, i4⟩ := hI
      obtain ⟨M2, e, r1, r2⟩ := mm_savesB (L := L) (xs := xs) (d := d) (M := M1) (V := V) (W := W) (S := fun j => S (j + 1)) (c := 11) (i1.KM hK) ⟨i2, by omega, fun j z a b x y => by
        rw [i3 _ (by omega) (by omega), show 312 * j + z + 312 = 312 * (j + 1) + z by omega]
        exact h3 (j + 1) z (by omega) (by omega) x y⟩ (Int.le_refl _) (l1 := some (.int (iI 3432)))
      refine ⟨M2, ?_, r1, i1.t r2⟩
      rw [← e, r181_21]
      simp (disch := first | assumption | exact e_nk_i _ | exact e_nk_n | exact e_nk_r _ | exact e_bo_0 | exact e_bo_1 | exact e_bo_b _ | omega) only [e_cl_v, e_cl_x, e_add_0, e_add_s, Option.toList_some, Option.toList_none, List.cons_append, List.nil_append, iI_add, iI_sub, iI_mul, iI_lt, iI_eq, iI_le, r181_22, r181_25, r181_26, r181_29, r181_30, i2]
      simp
  · rw [if_neg hc, if_neg hc]
    obtain ⟨M2, e, r1, r2⟩ := mm_savesB (L := L) (xs := xs) (d := d) (M := M) (V := V) (W := W) (S := S) (c := c) hK hS0 (by omega) (l1 := none)
    refine ⟨M2, ?_, r1, r2⟩
    rw [← e]
    simp (disch := first | assumption | exact e_nk_i _ | exact e_nk_n | exact e_nk_r _ | exact e_bo_0 | exact e_bo_1 | exact e_bo_b _ | omega) only [e_cl_v, e_cl_x, e_add_0, e_add_s, Option.toList_some, Option.toList_none, List.cons_append, List.nil_append, iI_add, iI_sub, iI_mul, iI_lt, iI_eq, iI_le, r181_0, r181_1, r181_4, r181_6, h1]
    rw [if_neg hc]
theorem mm_undo {S : Int → e_St} {c : Int} (hK : e_KM M K) (hS : e_SV M c S) : ∃ M2 : e_MI, e_lim L xs d 182 0 [some (.ref 184), none] [] (e_hp M V W) = some (.inl (some (.int (iI (c - 1)))), e_hp M2 V W, 0, 0) ∧ e_KM M2 (if c = 0 then K else S (c - 1)) ∧ e_SV M2 (if c = 0 then 0 else c - 1) S ∧ M2 184 0 = iI 0 ∧ (∀ a, a ≠ 184 → a ≠ 185 → M2 a = M a) ∧ ∀ j, j ≠ 0 → j ≠ 3 → M2 184 j = M 184 j := by
  obtain ⟨h1, h2, h3⟩ := hS
  by_cases hc : c = 0
  · rw [if_pos hc, if_pos hc]
    subst hc
    refine ⟨mT M, ?_, mT_K hK, ⟨by rw [mT_j M (by decide), h1], by omega, fun j z a b => by omega⟩, mT_0 M, fun a x _ => mT_a M x, fun j x _ => mT_j M x⟩
    simp (disch := first | assumption | exact e_nk_i _ | exact e_nk_n | exact e_nk_r _ | exact e_bo_0 | exact e_bo_1 | exact e_bo_b _ | omega) only [e_cl_v, e_cl_x, e_add_0, e_add_s, Option.toList_some, Option.toList_none, List.cons_append, List.nil_append, iI_add, iI_sub, iI_mul, iI_lt, iI_eq, iI_le, r182_0, r182_1, r182_2, r182_5, r182_6, r182_9, r182_12, r182_13, e_u_s, upd_n, h1]
    simp
  · rw [if_neg hc, if_neg hc]
    have key := G_lp (i := 0) (n := 312) (I := fun i M1 => (∀ a, a ≠ 184 → a ≠ 185 → M1 a = M a) ∧ (∀ j, j ≠ 0 → j ≠ 3 → M1 184 j = M 184 j) ∧ M1 184 3 = iI (c - 1) ∧ M1 184 0 = iI 0 ∧ e_ar (M1 185) i (S (c - 1))) (P := fun i M1 => ∃ M2 : e_MI, e_lim L xs d 182 26 [some (.ref 184), some (.int (iI i))] [] (e_hp M1 V W) = some (.inl (some (.int (iI (c - 1)))), e_hp M2 V W, 0, 0) ∧ e_KM M2 (S (c - 1)) ∧ e_SV M2 (c - 1) S ∧ M2 184 0 = iI 0 ∧ (∀ a, a ≠ 184 → a ≠ 185 → M2 a = M a) ∧ ∀ j, j ≠ 0 → j ≠ 3 → M2 184 j = M 184 j) (fun j M1 a b hI hc2 => ?_) (fun M1 hI => ?_) (by omega) (e_u M 184 (upd (upd (M 184) 0 (iI 0)) 3 (iI (c - 1)))) ⟨fun a x _ => e_u_n _ _ x, fun j x y => by rw [e_u_s, upd_n _ _ y, upd_n _ _ x], by rw [e_u_s, upd_s], by rw [e_u_s, upd_n _ _ (by decide), upd_s], fun z a b => by omega⟩
    · obtain ⟨M2, e, r⟩ := key
      refine ⟨M2, ?_, r⟩
      rw [← e]
      simp (disch := first | assumption | exact e_nk_i _ | exact e_nk_n | exact e_nk_r _ | exact e_bo_0 | exact e_bo_1 | exact e_bo_b _ | omega) only [e_cl_v, e_cl_x, e_add_0, e_add_s, Option.toList_some, Option.toList_none, List.cons_append, List.nil_append, iI_add, iI_sub, iI_mul, iI_lt, iI_eq, iI_le, r182_0, r182_1, r182_2, r182_5, r182_6, r182_9, r182_14, r182_15, r182_16, r182_19, r182_20, r182_21, r182_24, r182_25, e_u_s, e_u_u, upd_n, h1]
      rw [if_neg hc]
    · obtain ⟨i1, i2, i3, i4, i5⟩ := hI
      have g1 := h3 (c - 1) j (by omega) (by omega) a b
      rw [← i1 186 (by decide) (by decide)] at g1
      obtain ⟨M2, e, r⟩ := hc2 (e_u M1 185 (upd (M1 185) j.toNat (iI (S (c - 1) j)))) ⟨fun a x y => by rw [e_u_n _ _ y, i1 a x y], fun j x y => by rw [e_u_n _ _ (by decide), i2 j x y], by rw [e_u_n _ _ (by decide), i3], by rw [e_u_n _ _ (by decide), i4], by rw [e_u_s]; exact i5.mr a⟩
      refine ⟨M2, ?_, r⟩
      rw [← e, r182_26]
      simp (disch := first | assumption | exact e_nk_i _ | exact e_nk_n | exact e_nk_r _ | exact e_bo_0 | exact e_bo_1 | exact e_bo_b _ | omega) only [e_cl_v, e_cl_x, e_add_0, e_add_s, Option.toList_some, Option.toList_none, List.cons_append, List.nil_append, iI_add, iI_sub, iI_mul, iI_lt, iI_eq, iI_le, r182_27, r182_30, r182_33, r182_34, r182_37, r182_38, r182_39, r182_42, r182_45, r182_46, r182_49, r182_50, r182_51, r182_52, r182_53, r182_54, r182_57, iI_vin, iI_nat, if_true, i3, g1]
      rw [if_pos b]
    · obtain ⟨i1, i2, i3, i4, i5⟩ := hI
      refine ⟨M1, ?_, i5, ⟨i3, by omega, fun j z a b x y => by rw [i1 186 (by decide) (by decide)]; exact h3 j z a (by omega) x y⟩, i4, i1, i2⟩
      rw [r182_26]
      simp (disch := first | assumption | exact e_nk_i _ | exact e_nk_n | exact e_nk_r _ | exact e_bo_0 | exact e_bo_1 | exact e_bo_b _ | omega) only [e_cl_v, e_cl_x, e_add_0, e_add_s, Option.toList_some, Option.toList_none, List.cons_append, List.nil_append, iI_add, iI_sub, iI_mul, iI_lt, iI_eq, iI_le, r182_27, r182_30, r182_60, r182_61, r182_64, i3]
      rw [if_neg (by omega)]
end E65
