section Ec24
variable {L : Nat} {xs : Nat → Int32} {d : Nat} {M M2 M3 : e_MI} {V : e_ML} {W : e_MD} {K K2 : e_St} {S : Int → e_St} {h : e_H} {s s0 s1 t t2 a b2 n : Nat} {c o j w z m k q p i f l b e mc tl v T x y N : Int} {sc : Bool} {ρ ν μ χ β ε τ u : Int → Int}
/-! an order, a work more in the class's shop -/
theorem s_addOrder (H : SB M 1 K) (hr : kR K) (hk : K 310 < 8) : ∃ M2 : e_MI, e_lim L xs (d + 2) 35 0 [some (.ref 1), some (.int (iI m)), some (.int (iI f)), some (.int (iI x)), some (.int (iI y)), some (.int (iI l)), none] [] (e_hp M V W) = some (.inl none, e_hp M2 V W, 0, 0) ∧ SB M2 1 (coK K m f x y l) ∧ aW (coK K m f x y l) = aW K ∧ ∀ a, a ≠ 1 → a ≠ 2 → M2 a = M a := by
  have hn := hr.n
  have hmm := hr.rm
  have hc : M 1 0 = iI (K 310) := H.1.1
  have e1 := s_setOrderCell (L := L) (xs := xs) (d := d) (M := M) (V := V) (W := W) (v := iI m) hn.1 hk (j := 0) (by omega) (by omega)
  generalize hM1 : e_u M 2 (upd (M 2) (K 310 * 6 + 0).toNat (iI m)) = M1 at e1
  have e2 := s_setOrderCell (L := L) (xs := xs) (d := d) (M := M1) (V := V) (W := W) (v := iI f) hn.1 hk (j := 1) (by omega) (by omega)
  generalize hM2 : e_u M1 2 (upd (M1 2) (K 310 * 6 + 1).toNat (iI f)) = M2 at e2
  have e3 := s_setOrderCell (L := L) (xs := xs) (d := d) (M := M2) (V := V) (W := W) (v := iI x) hn.1 hk (j := 2) (by omega) (by omega)
  generalize hM3 : e_u M2 2 (upd (M2 2) (K 310 * 6 + 2).toNat (iI x)) = M3 at e3
  have e4 := s_setOrderCell (L := L) (xs := xs) (d := d) (M := M3) (V := V) (W := W) (v := iI y) hn.1 hk (j := 3) (by omega) (by omega)
  generalize hM4 : e_u M3 2 (upd (M3 2) (K 310 * 6 + 3).toNat (iI y)) = M4 at e4
  have e5 := s_setOrderCell (L := L) (xs := xs) (d := d) (M := M4) (V := V) (W := W) (v := iI l) hn.1 hk (j := 4) (by omega) (by omega)
  generalize hM5 : e_u M4 2 (upd (M4 2) (K 310 * 6 + 4).toNat (iI l)) = M5 at e5
  have e6 := s_setOrderCell (L := L) (xs := xs) (d := d) (M := M5) (V := V) (W := W) (v := iI 0) hn.1 hk (j := 5) (by omega) (by omega)
  generalize hM6 : e_u M5 2 (upd (M5 2) (K 310 * 6 + 5).toNat (iI 0)) = M6 at e6
  have f2 : ∀ a, a ≠ 2 → M6 a = M a := fun a y => by rw [← hM6, ← hM5, ← hM4, ← hM3, ← hM2, ← hM1, e_u_n _ _ y, e_u_n _ _ y, e_u_n _ _ y, e_u_n _ _ y, e_u_n _ _ y, e_u_n _ _ y]
  have c3 : M6 1 0 = iI (K 310) := by rw [f2 1 (by omega)]; exact hc
  have h5 : ∀ o j, 0 ≤ o → o ≤ K 310 → 0 ≤ j → j < 6 → M6 2 (o * 6 + j).toNat = if o = K 310 then iI (if j = 0 then m else if j = 1 then f else if j = 2 then x else if j = 3 then y else if j = 4 then l else 0) else iI (K (8 * j + o)) := fun o j a b c e => by
    rw [← hM6, e_u_s, ← hM5, e_u_s, ← hM4, e_u_s, ← hM3, e_u_s, ← hM2, e_u_s, ← hM1, e_u_s]
    unfold upd
    by_cases hq : o = K 310
    · rw [if_pos hq]
      rcases (show j = 0 ∨ j = 1 ∨ j = 2 ∨ j = 3 ∨ j = 4 ∨ j = 5 by omega) with r | r | r | r | r | r
      · rw [if_neg (by omega), if_neg (by omega), if_neg (by omega), if_neg (by omega), if_neg (by omega), if_pos (by omega), if_pos r]
      · rw [if_neg (by omega), if_neg (by omega), if_neg (by omega), if_neg (by omega), if_pos (by omega), if_neg (by omega), if_pos r]
      · rw [if_neg (by omega), if_neg (by omega), if_neg (by omega), if_pos (by omega), if_neg (by omega), if_neg (by omega), if_pos r]
      · rw [if_neg (by omega), if_neg (by omega), if_pos (by omega), if_neg (by omega), if_neg (by omega), if_neg (by omega), if_pos r]
      · rw [if_neg (by omega), if_pos (by omega), if_neg (by omega), if_neg (by omega), if_neg (by omega), if_neg (by omega), if_pos r]
      · rw [if_pos (by omega), if_neg (by omega), if_neg (by omega), if_neg (by omega), if_neg (by omega), if_neg (by omega)]
    · rw [if_neg hq, if_neg (by omega), if_neg (by omega), if_neg (by omega), if_neg (by omega), if_neg (by omega), if_neg (by omega)]
      exact H.2.1 o j a (by omega) c e
  have hu : ∀ z, z ≠ K 310 → z ≠ 8 + K 310 → z ≠ 16 + K 310 → z ≠ 24 + K 310 → z ≠ 32 + K 310 → z ≠ 40 + K 310 → z ≠ 310 → coK K m f x y l z = K z := fun z h1 h2 h3 h4 h5 h6 h7 => coK_n ⟨hn.1, hk⟩ ⟨h1, h2, h3, h4, h5, h6, h7⟩
  have h310 : coK K m f x y l 310 = K 310 + 1 := coK_310
  have h40 : coK K m f x y l (40 + K 310) = 0 := coK_40 ⟨hn.1, hk⟩
  have hA : aW (coK K m f x y l) = aW K := by
    unfold aW
    rw [h310, SU_s _ hn.1, h40, Int.add_zero]
    exact SU_cong fun i a b => hu _ (by omega) (by omega) (by omega) (by omega) (by omega) (by omega) (by omega)
  refine ⟨e_u M6 1 (upd (M6 1) 0 (iI (K 310 + 1))), ?_, ?_, hA, fun a y z => by rw [e_u_n _ _ y]; exact f2 a z⟩
  · simp (disch := first | assumption | exact e_nk_i _ | exact e_nk_n | exact e_nk_r _ | exact e_bo_0 | exact e_bo_1 | exact e_bo_b _ | omega) only [e_cl_v, e_cl_x, e_add_0, e_add_s, Option.toList_some, Option.toList_none, List.cons_append, List.nil_append, iI_add, iI_sub, iI_mul, iI_lt, iI_eq, iI_le, r35_0, r35_1, r35_4, r35_6, r35_7, r35_9, r35_10, r35_11, r35_14, r35_15, r35_17, r35_18, r35_19, r35_22, r35_23, r35_25, r35_26, r35_27, r35_30, r35_31, r35_33, r35_34, r35_36, r35_39, r35_40, r35_42, r35_43, r35_45, r35_48, r35_49, r35_51, r35_52, r35_53, r35_56, r35_57, r35_58, r35_61, r35_62, r35_63, r35_66, hc, e1, hM1, e2, hM2, e3, hM3, e4, hM4, e5, hM5, e6, hM6, c3, Int.add_zero]
  · refine ⟨?_, fun o2 j a b c e => ?_, fun o2 w j a b c e f g => ?_, fun i2 a b => ?_, fun k j a b c e => ?_, fun i2 a b => ?_, fun i2 a b => ?_⟩
    · rw [hu 311 (by omega) (by omega) (by omega) (by omega) (by omega) (by omega) (by omega), h310, hA, e_u_s, f2 1 (by omega)]
      exact ⟨rfl, H.1.2.1, H.1.2.2⟩
    · rw [h310] at b
      rw [e_u_n _ _ (by omega), show 1 + 1 = 2 from rfl, h5 o2 j a (by omega) c e]
      unfold coK uI
      by_cases hq : o2 = K 310
      · rw [if_pos hq]
        rcases (show j = 0 ∨ j = 1 ∨ j = 2 ∨ j = 3 ∨ j = 4 ∨ j = 5 by omega) with r | r | r | r | r | r <;> subst r <;> subst hq
        · rw [if_pos rfl, if_neg (by omega), if_neg (by omega), if_neg (by omega), if_neg (by omega), if_neg (by omega), if_neg (by omega), if_pos (by omega)]
        · rw [if_neg (by omega), if_pos rfl, if_neg (by omega), if_neg (by omega), if_neg (by omega), if_neg (by omega), if_neg (by omega), if_pos (by omega)]
        · rw [if_neg (by omega), if_neg (by omega), if_pos rfl, if_neg (by omega), if_neg (by omega), if_neg (by omega), if_neg (by omega), if_pos (by omega)]
        · rw [if_neg (by omega), if_neg (by omega), if_neg (by omega), if_pos rfl, if_neg (by omega), if_neg (by omega), if_neg (by omega), if_pos (by omega)]
        · rw [if_neg (by omega), if_neg (by omega), if_neg (by omega), if_neg (by omega), if_pos rfl, if_neg (by omega), if_neg (by omega), if_pos (by omega)]
        · rw [if_neg (by omega), if_neg (by omega), if_neg (by omega), if_neg (by omega), if_neg (by omega), if_neg (by omega), if_pos (by omega)]
      · rw [if_neg hq, if_neg (by omega), if_neg (by omega), if_neg (by omega), if_neg (by omega), if_neg (by omega), if_neg (by omega), if_neg (by omega)]
    · rw [h310] at b
      by_cases hq : o2 = K 310
      · rw [hq, h40] at e
        omega
      · rw [hu (40 + o2) (by omega) (by omega) (by omega) (by omega) (by omega) (by omega) (by omega)] at e
        have := hr.wk (o := o2) a (by omega)
        rw [hu _ (by omega) (by omega) (by omega) (by omega) (by omega) (by omega) (by omega), e_u_n _ _ (by omega), f2 _ (by omega)]
        exact H.2.2.1 o2 w j a (by omega) c e f g
    · rw [hu _ (by omega) (by omega) (by omega) (by omega) (by omega) (by omega) (by omega), e_u_n _ _ (by omega), f2 _ (by omega)]
      exact H.2.2.2.1 i2 a b
    · rw [hu _ (by omega) (by omega) (by omega) (by omega) (by omega) (by omega) (by omega)] at b
      rw [hu _ (by omega) (by omega) (by omega) (by omega) (by omega) (by omega) (by omega), e_u_n _ _ (by omega), f2 _ (by omega)]
      exact H.2.2.2.2.1 k j a b c e
    · rw [hu _ (by omega) (by omega) (by omega) (by omega) (by omega) (by omega) (by omega), e_u_n _ _ (by omega), f2 _ (by omega)]
      exact H.2.2.2.2.2.1 i2 a b
    · rw [hu _ (by omega) (by omega) (by omega) (by omega) (by omega) (by omega) (by omega), e_u_n _ _ (by omega), f2 _ (by omega)]
      exact H.2.2.2.2.2.2 i2 a b
end Ec24
