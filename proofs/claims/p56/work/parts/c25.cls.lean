section Ec25
variable {L : Nat} {xs : Nat → Int32} {d : Nat} {M M2 M3 : e_MI} {V : e_ML} {W : e_MD} {K K2 : e_St} {S : Int → e_St} {h : e_H} {s s0 s1 t t2 a b2 n : Nat} {c o j w z m k q p i f l b e mc tl v T x y N : Int} {sc : Bool} {ρ ν μ χ β ε τ u : Int → Int}
/-! a work more in the class's shop -/
theorem s_addWork (H : SB M 1 K) (hr : kR K) (ho : 0 ≤ o ∧ o < K 310) (hw : K (40 + o) ≤ 3) (hA : aW (adK K o m x l) = aW K + 1) : ∃ M2 : e_MI, e_lim L xs (d + 2) 36 0 [some (.ref 1), some (.int (iI o)), some (.int (iI m)), some (.int (iI x)), some (.int (iI l)), none, none] [] (e_hp M V W) = some (.inl none, e_hp M2 V W, 0, 0) ∧ SB M2 1 (adK K o m x l) ∧ ∀ a, a ≠ 1 → a ≠ 2 → a ≠ 3 → M2 a = M a := by
  have hn := hr.n
  have hmm := hr.rm
  have hwk := hr.wk (o := o) ho.1 (by omega)
  have hc : M 1 1 = iI (aW K) := H.1.2.1
  have e0 := sb_worksIn (L := L) (xs := xs) (d := d) (V := V) (W := W) H hn.2 ho.1 ho.2
  have e1 := m_putI (L := L) (xs := xs) (d := d + 1) (M := M) (V := V) (W := W) (v := iI m) si_3 (z := (o * 4 + K (40 + o)) * 3) (by omega) (by omega)
  generalize hM1 : e_u M 3 (upd (M 3) ((o * 4 + K (40 + o)) * 3).toNat (iI m)) = M1 at e1
  have e2 := m_putI (L := L) (xs := xs) (d := d + 1) (M := M1) (V := V) (W := W) (v := iI x) si_3 (z := (o * 4 + K (40 + o)) * 3 + 1) (by omega) (by omega)
  generalize hM2 : e_u M1 3 (upd (M1 3) ((o * 4 + K (40 + o)) * 3 + 1).toNat (iI x)) = M2 at e2
  have e3 := m_putI (L := L) (xs := xs) (d := d + 1) (M := M2) (V := V) (W := W) (v := iI l) si_3 (z := (o * 4 + K (40 + o)) * 3 + 2) (by omega) (by omega)
  generalize hM3 : e_u M2 3 (upd (M2 3) ((o * 4 + K (40 + o)) * 3 + 2).toNat (iI l)) = M3 at e3
  have e4 := s_setOrderCell (L := L) (xs := xs) (d := d) (M := M3) (V := V) (W := W) (v := iI (K (40 + o) + 1)) ho.1 (show o < 8 by omega) (j := 5) (by omega) (by omega)
  generalize hM4 : e_u M3 2 (upd (M3 2) (o * 6 + 5).toNat (iI (K (40 + o) + 1))) = M4 at e4
  have f2 : ∀ a, a ≠ 2 → a ≠ 3 → M4 a = M a := fun a y z => by rw [← hM4, ← hM3, ← hM2, ← hM1, e_u_n _ _ y, e_u_n _ _ z, e_u_n _ _ z, e_u_n _ _ z]
  have c3 : M4 1 1 = iI (aW K) := by rw [f2 1 (by omega) (by omega)]; exact hc
  have g2 : M3 2 = M 2 := by rw [← hM3, ← hM2, ← hM1, e_u_n _ _ (by omega), e_u_n _ _ (by omega), e_u_n _ _ (by omega)]
  have h5 : ∀ o2 j, 0 ≤ o2 → o2 < K 310 → 0 ≤ j → j < 6 → M4 2 (o2 * 6 + j).toNat = if o2 = o ∧ j = 5 then iI (K (40 + o) + 1) else iI (K (8 * j + o2)) := fun o2 j a b c e => by
    rw [← hM4, e_u_s, g2]
    unfold upd
    by_cases hq : o2 = o ∧ j = 5
    · rw [if_pos hq, if_pos (by omega)]
    · rw [if_neg hq, if_neg (by omega)]
      exact H.2.1 o2 j a b c e
  have h6 : ∀ o2 w j, 0 ≤ o2 → o2 < K 310 → 0 ≤ w → w ≤ 3 → 0 ≤ j → j < 3 → (o2 = o ∧ w = K (40 + o) ∨ w < K (40 + o2)) → M4 3 ((o2 * 4 + w) * 3 + j).toNat = if o2 = o ∧ w = K (40 + o) then iI (if j = 0 then m else if j = 1 then x else l) else iI (K (48 + 32 * j + 4 * o2 + w)) := fun o2 w j a b c e f g hh => by
    rw [← hM4, e_u_n _ _ (by omega), ← hM3, e_u_s, ← hM2, e_u_s, ← hM1, e_u_s]
    unfold upd
    by_cases hq : o2 = o ∧ w = K (40 + o)
    · rw [if_pos hq]
      rcases (show j = 0 ∨ j = 1 ∨ j = 2 by omega) with r | r | r
      · rw [if_neg (by omega), if_neg (by omega), if_pos (by omega), if_pos r]
      · rw [if_neg (by omega), if_pos (by omega), if_neg (by omega), if_pos r]
      · rw [if_pos (by omega), if_neg (by omega), if_neg (by omega)]
    · rw [if_neg hq, if_neg (by omega), if_neg (by omega), if_neg (by omega)]
      exact H.2.2.1 o2 w j a b c (by omega) f g
  have hu : ∀ z, z ≠ 48 + (4 * o + K (40 + o)) → z ≠ 80 + (4 * o + K (40 + o)) → z ≠ 112 + (4 * o + K (40 + o)) → z ≠ 40 + o → adK K o m x l z = K z := fun z h1 h2 h3 h4 => adK_n (by omega) (by omega) ⟨h1, h2, h3, h4⟩
  have h40 : adK K o m x l (40 + o) = K (40 + o) + 1 := adK_40
  refine ⟨e_u M4 1 (upd (M4 1) 1 (iI (aW K + 1))), ?_, ?_, fun a y z z2 => by rw [e_u_n _ _ y]; exact f2 a z z2⟩
  · simp (disch := first | assumption | exact e_nk_i _ | exact e_nk_n | exact e_nk_r _ | exact e_bo_0 | exact e_bo_1 | exact e_bo_b _ | omega) only [e_cl_v, e_cl_x, e_add_0, e_add_s, Option.toList_some, Option.toList_none, List.cons_append, List.nil_append, iI_add, iI_sub, iI_mul, iI_lt, iI_eq, iI_le, r36_0, r36_1, r36_2, r36_5, r36_7, r36_8, r36_9, r36_10, r36_12, r36_13, r36_14, r36_15, r36_17, r36_18, r36_21, r36_23, r36_24, r36_25, r36_26, r36_29, r36_30, r36_33, r36_35, r36_36, r36_37, r36_38, r36_41, r36_42, r36_45, r36_47, r36_48, r36_49, r36_51, r36_54, r36_55, r36_56, r36_57, r36_59, r36_60, r36_61, r36_64, r36_65, r36_66, r36_69, r36_70, r36_71, r36_74, e0, hc, e1, hM1, e2, hM2, e3, hM3, e4, hM4, c3, Int.add_zero]
  · refine ⟨?_, fun o2 j a b c e => ?_, fun o2 w j a b c e f g => ?_, fun i2 a b => ?_, fun k j a b c e => ?_, fun i2 a b => ?_, fun i2 a b => ?_⟩
    · rw [hu 310 (by omega) (by omega) (by omega) (by omega), hu 311 (by omega) (by omega) (by omega) (by omega), hA, e_u_s, f2 1 (by omega) (by omega)]
      exact ⟨H.1.1, rfl, H.1.2.2⟩
    · rw [hu 310 (by omega) (by omega) (by omega) (by omega)] at b
      rw [e_u_n _ _ (by omega), show 1 + 1 = 2 from rfl, h5 o2 j a b c e]
      by_cases hq : o2 = o ∧ j = 5
      · rw [if_pos hq, hq.1, hq.2, show (8 : Int) * 5 + o = 40 + o by omega, h40]
      · rw [if_neg hq, hu _ (by omega) (by omega) (by omega) (by omega)]
    · rw [hu 310 (by omega) (by omega) (by omega) (by omega)] at b
      have := hr.wk (o := o2) a (by omega)
      have e' : (o2 = o ∧ w = K (40 + o)) ∨ w < K (40 + o2) := by
        by_cases hq : o2 = o
        · rw [hq, h40] at e
          rw [hq]
          omega
        · rw [hu (40 + o2) (by omega) (by omega) (by omega) (by omega)] at e
          exact Or.inr e
      rw [e_u_n _ _ (by omega), show 1 + 2 = 3 from rfl, h6 o2 w j a b c (by omega) f g e']
      by_cases hq : o2 = o ∧ w = K (40 + o)
      · rw [if_pos hq]
        obtain ⟨q1, q2⟩ := hq
        unfold adK uI
        rcases (show j = 0 ∨ j = 1 ∨ j = 2 by omega) with r | r | r <;> subst r
        · rw [if_pos rfl, if_neg (by omega), if_neg (by omega), if_neg (by omega), if_pos (by omega)]
        · rw [if_neg (by omega), if_pos rfl, if_neg (by omega), if_neg (by omega), if_pos (by omega)]
        · rw [if_neg (by omega), if_neg (by omega), if_neg (by omega), if_pos (by omega)]
      · rw [if_neg hq, hu _ (by omega) (by omega) (by omega) (by omega)]
    · rw [hu _ (by omega) (by omega) (by omega) (by omega), e_u_n _ _ (by omega), f2 _ (by omega) (by omega)]
      exact H.2.2.2.1 i2 a b
    · rw [hu 311 (by omega) (by omega) (by omega) (by omega)] at b
      rw [hu _ (by omega) (by omega) (by omega) (by omega), e_u_n _ _ (by omega), f2 _ (by omega) (by omega)]
      exact H.2.2.2.2.1 k j a b c e
    · rw [hu _ (by omega) (by omega) (by omega) (by omega), e_u_n _ _ (by omega), f2 _ (by omega) (by omega)]
      exact H.2.2.2.2.2.1 i2 a b
    · rw [hu _ (by omega) (by omega) (by omega) (by omega), e_u_n _ _ (by omega), f2 _ (by omega) (by omega)]
      exact H.2.2.2.2.2.2 i2 a b
end Ec25
