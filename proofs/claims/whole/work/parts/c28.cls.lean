section Ec28
variable {L : Nat} {xs : Nat → Int32} {d : Nat} {M M2 M3 : e_MI} {V : e_ML} {W : e_MD} {K K2 : e_St} {S : Int → e_St} {h : e_H} {s s0 s1 t t2 a b2 n : Nat} {c o j z m k q p i f l b e mc tl T x y N : Int} {sc : Bool} {ρ ν μ χ β ε τ u : Int → Int}
/-! a lot is cut in the class's shop -/
theorem cuS_lot (hr : kR K) (hp : kP K) (hd : kD K) (ho : 0 ≤ o ∧ o < K 310) (hn : K 310 < 8) (ha : 1 ≤ x ∧ x ≤ K (8 + o) - 1) : ∀ w : Nat, (w : Int) ≤ K (40 + o) → (∀ j, 0 ≤ j → j < 5 → cuS K o x w (8 * j + K 310) = if j = 1 then x else K (8 * j + o)) ∧ cuS K o x w (8 + o) = K (8 + o) - x ∧ ∀ w2 j, 0 ≤ w2 → w2 < (w : Int) → 0 ≤ j → j < 3 → cuS K o x w (48 + 32 * j + 4 * K 310 + w2) = K (48 + 32 * j + 4 * o + w2)
  | 0, _ => by
    obtain ⟨s1, s2, s3, s4, s5, s6⟩ := cu0_sp (a := x) hr hp hd ho ha
    refine ⟨fun j a b => ?_, ?_, fun w2 j a b => by omega⟩
    · unfold cuS coK
      rw [s5]
      rcases (show j = 0 ∨ j = 1 ∨ j = 2 ∨ j = 3 ∨ j = 4 by omega) with r | r | r | r | r <;> subst r <;> unfold uI
      · rw [if_neg (by omega), if_neg (by omega), if_neg (by omega), if_neg (by omega), if_neg (by omega), if_neg (by omega), if_pos (by omega), if_neg (by omega), show (8 : Int) * 0 + o = o by omega]
      · rw [if_neg (by omega), if_neg (by omega), if_neg (by omega), if_neg (by omega), if_neg (by omega), if_pos (by omega), if_pos rfl]
      · rw [if_neg (by omega), if_neg (by omega), if_neg (by omega), if_neg (by omega), if_pos (by omega), if_neg (by omega), show (8 : Int) * 2 + o = 16 + o by omega]
      · rw [if_neg (by omega), if_neg (by omega), if_neg (by omega), if_pos (by omega), if_neg (by omega), show (8 : Int) * 3 + o = 24 + o by omega]
      · rw [if_neg (by omega), if_neg (by omega), if_pos (by omega), if_neg (by omega), show (8 : Int) * 4 + o = 32 + o by omega]
    · unfold cuS
      rw [coK_n (by rw [s5]; omega) (by rw [s5]; omega)]
      exact uI_s _ _ _
  | w + 1, hw => by
    obtain ⟨t1, t2, t3⟩ := cuS_lot hr hp hd ho hn ha w (by omega)
    obtain ⟨s1, s2, s3, s4, s5, s6, s7⟩ := cuS_sp (a := x) hr hp hd ho hn ha w (by omega)
    have hn8 := hr.n
    have hwk := hr.wk (o := o) ho.1 (by omega)
    refine ⟨fun j a b => ?_, ?_, fun w2 j a b c e => ?_⟩
    · show adK _ _ _ _ _ _ = _
      rw [adK_n (by omega) (by rw [s6]; omega) (by rw [s6]; omega)]
      exact t1 j a b
    · show adK _ _ _ _ _ _ = _
      rw [adK_n (by omega) (by rw [s6]; omega) (by rw [s6]; omega)]
      exact t2
    · show adK _ _ _ _ _ _ = _
      by_cases hq : w2 = (w : Int)
      · subst hq
        unfold adK
        rw [s6]
        rcases (show j = 0 ∨ j = 1 ∨ j = 2 by omega) with r | r | r <;> subst r <;> unfold uI
        · rw [if_neg (by omega), if_neg (by omega), if_neg (by omega), if_pos (by omega), show (48 : Int) + 32 * 0 + 4 * o + w = 48 + 4 * o + w by omega]
        · rw [if_neg (by omega), if_neg (by omega), if_pos (by omega), show (48 : Int) + 32 * 1 + 4 * o + w = 80 + 4 * o + w by omega]
        · rw [if_neg (by omega), if_pos (by omega), show (48 : Int) + 32 * 2 + 4 * o + w = 112 + 4 * o + w by omega]
      · rw [adK_n (by omega) (by rw [s6]; omega) (by rw [s6]; omega)]
        exact t3 w2 j a (by omega) c e
theorem s_worksInR {v : Int32} (h0 : 0 ≤ o) (h1 : o < 8) (hv : M 2 (o * 6 + 5).toNat = v) : e_lim L xs (d + 1) 29 0 [some (.ref 1), some (.int (iI o))] [] (e_hp M V W) = some (.inl (some (.int v)), e_hp M V W, 0, 0) := by
  have e1 := m_atI (L := L) (xs := xs) (d := d) (M := M) (V := V) (W := W) (a := 2) (n := 48) si_2 (z := o * 6 + 5) (by omega) (by omega) hv
  simp (disch := first | assumption | exact e_nk_i _ | exact e_nk_n | exact e_nk_r _ | exact e_bo_0 | exact e_bo_1 | exact e_bo_b _ | omega) only [e_cl_v, e_cl_x, e_add_0, e_add_s, Option.toList_some, Option.toList_none, List.cons_append, List.nil_append, iI_add, iI_sub, iI_mul, iI_lt, iI_eq, iI_le, r29_0, r29_1, r29_4, r29_5, r29_7, r29_8, r29_9, r29_10, r29_13, e1]
theorem s_cutLot (H : SB M 1 K) (hr : kR K) (hp : kP K) (hd : kD K) (ho : 0 ≤ o ∧ o < K 310) (hn : K 310 < 8) (ha : 1 ≤ x ∧ x ≤ K (8 + o) - 1) : ∃ M2 : e_MI, e_lim L xs (d + 3) 38 0 [some (.ref 1), some (.int (iI o)), some (.int (iI x)), none] [] (e_hp M V W) = some (.inl none, e_hp M2 V W, 0, 0) ∧ SB M2 1 (cuK K o x) ∧ ∀ a, a ≠ 1 → a ≠ 2 → a ≠ 3 → M2 a = M a := by
  have hmm := hr.rm
  have hwk := hr.wk (o := o) ho.1 (by omega)
  have h8 := hr.am (o := o) ho.1 (by omega)
  have aw0 : 0 ≤ aW K ∧ aW K ≤ 32 := SU_le (f := fun o => K (40 + o)) (n := K 310) (c := 4) (fun i a b => hr.wk a (by omega)) (by omega) |> fun y => ⟨y.1, by have := y.2; unfold aW; omega⟩
  obtain ⟨l1, l2, l3⟩ := cuS_lot hr hp hd ho hn ha (K (40 + o)).toNat (by omega)
  obtain ⟨s1, s2, s3, s4, s5, s6, s7⟩ := cuS_sp (a := x) hr hp hd ho hn ha (K (40 + o)).toNat (by omega)
  rw [Int.toNat_of_nonneg hwk.1] at l3 s2 s6
  change ∀ j, 0 ≤ j → j < 5 → cuK K o x (8 * j + K 310) = _ at l1
  change cuK K o x (8 + o) = _ at l2
  change ∀ w2 j, _ → _ → _ → _ → cuK K o x (48 + 32 * j + 4 * K 310 + w2) = _ at l3
  change aW (cuK K o x) = _ at s2
  change cuK K o x 310 = _ at s5
  change cuK K o x (40 + K 310) = _ at s6
  have s8 : ∀ z, z ≠ 8 + o → z ≠ K 310 → z ≠ 8 + K 310 → z ≠ 16 + K 310 → z ≠ 24 + K 310 → z ≠ 32 + K 310 → z ≠ 40 + K 310 → z ≠ 310 → ¬(48 + 4 * K 310 ≤ z ∧ z < 52 + 4 * K 310) → ¬(80 + 4 * K 310 ≤ z ∧ z < 84 + 4 * K 310) → ¬(112 + 4 * K 310 ≤ z ∧ z < 116 + 4 * K 310) → cuK K o x z = K z := s7
  clear s7
  have c0 : M 1 0 = iI (K 310) := H.1.1
  have c1 : M 1 1 = iI (aW K) := H.1.2.1
  obtain ⟨M1, e1, g2, g3, gf⟩ := s_copyOrder (L := L) (xs := xs) (d := d) (V := V) (W := W) (M := M) (i := o) (p := K 310) (by omega) (by omega) (by omega)
  have e2 := s_setOrderCell (L := L) (xs := xs) (d := d + 1) (M := M1) (V := V) (W := W) (v := iI x) (show 0 ≤ K 310 by omega) hn (j := 1) (by omega) (by omega)
  generalize hM2 : e_u M1 2 (upd (M1 2) (K 310 * 6 + 1).toNat (iI x)) = M2 at e2
  have v1 : M2 2 (o * 6 + 1).toNat = iI (K (8 + o)) := by
    rw [← hM2, e_u_s]
    unfold upd
    rw [if_neg (by omega), g2 _ (by omega) (by omega), if_neg (by omega)]
    exact H.2.1 o 1 ho.1 ho.2 (by omega) (by omega)
  have e3 := s_orderCellR (L := L) (xs := xs) (d := d + 1) (M := M2) (V := V) (W := W) ho.1 (show o < 8 by omega) (j := 1) (by omega) (by omega) v1
  have e4 := s_setOrderCell (L := L) (xs := xs) (d := d + 1) (M := M2) (V := V) (W := W) (v := iI (K (8 + o) - x)) ho.1 (show o < 8 by omega) (j := 1) (by omega) (by omega)
  generalize hM3 : e_u M2 2 (upd (M2 2) (o * 6 + 1).toNat (iI (K (8 + o) - x))) = M3 at e4
  have f3 : ∀ a, a ≠ 2 → a ≠ 3 → M3 a = M a := fun a y z => by rw [← hM3, ← hM2, e_u_n _ _ y, e_u_n _ _ y, gf a y z]
  have k3 : M3 3 = M1 3 := by rw [← hM3, ← hM2, e_u_n _ _ (by omega), e_u_n _ _ (by omega)]
  have h5 : ∀ o2 j, 0 ≤ o2 → o2 ≤ K 310 → 0 ≤ j → j < 6 → M3 2 (o2 * 6 + j).toNat = if o2 = K 310 then iI (if j = 1 then x else K (8 * j + o)) else if o2 = o ∧ j = 1 then iI (K (8 + o) - x) else iI (K (8 * j + o2)) := fun o2 j a b c e => by
    rw [← hM3, e_u_s, ← hM2, e_u_s]
    unfold upd
    by_cases hq : o2 = K 310
    · rw [if_neg (by omega), if_pos hq]
      by_cases hj : j = 1
      · rw [if_pos (by omega), if_pos hj]
      · rw [if_neg (by omega), if_neg hj, g2 _ (by omega) (by omega), if_pos (by omega), show o2 * 6 + j - K 310 * 6 + o * 6 = o * 6 + j by omega]
        exact H.2.1 o j ho.1 ho.2 c e
    · rw [if_neg hq]
      by_cases hj : o2 = o ∧ j = 1
      · rw [if_pos hj, if_pos (by omega)]
      · rw [if_neg hj, if_neg (by omega), if_neg (by omega), g2 _ (by omega) (by omega), if_neg (by omega)]
        exact H.2.1 o2 j a (by omega) c e
  have q0 : M3 1 0 = iI (K 310) := by rw [f3 1 (by omega) (by omega)]; exact c0
  generalize hM4 : e_u M3 1 (upd (M3 1) 0 (iI (K 310 + 1))) = M4
  have q1 : M4 1 1 = iI (aW K) := by
    rw [← hM4, e_u_s, f3 1 (by omega) (by omega)]
    exact c1
  have v2 : M4 2 (K 310 * 6 + 5).toNat = iI (K (40 + o)) := by
    rw [← hM4, e_u_n _ _ (by omega), h5 _ _ (by omega) (by omega) (by omega) (by omega), if_pos rfl, if_neg (by omega)]
    rfl
  have e5 := s_worksInR (L := L) (xs := xs) (d := d + 1) (M := M4) (V := V) (W := W) (show 0 ≤ K 310 by omega) hn v2
  refine ⟨e_u M4 1 (upd (M4 1) 1 (iI (aW K + K (40 + o)))), ?_, ⟨?_, fun o2 j a b c e => ?_, fun o2 w j a b c e f g => ?_, fun i2 a b => ?_, fun k j a b c e => ?_, fun i2 a b => ?_, fun i2 a b => ?_⟩, fun a y z1 z2 => by rw [e_u_n _ _ y, ← hM4, e_u_n _ _ y]; exact f3 a z1 z2⟩
  · simp (disch := first | assumption | exact e_nk_i _ | exact e_nk_n | exact e_nk_r _ | exact e_bo_0 | exact e_bo_1 | exact e_bo_b _ | omega) only [e_cl_v, e_cl_x, e_add_0, e_add_s, Option.toList_some, Option.toList_none, List.cons_append, List.nil_append, iI_add, iI_sub, iI_mul, iI_lt, iI_eq, iI_le, r38_0, r38_1, r38_4, r38_5, r38_6, r38_7, r38_8, r38_11, r38_12, r38_13, r38_14, r38_15, r38_18, r38_19, r38_20, r38_21, r38_22, r38_23, r38_24, r38_27, r38_28, r38_29, r38_32, r38_33, r38_34, r38_37, r38_38, r38_39, r38_42, r38_43, r38_44, r38_47, r38_48, r38_49, r38_52, r38_53, r38_56, c0, e1, e2, hM2, e3, e4, hM3, q0, hM4, q1, e5]
  · rw [s5, s2, s8 311 (by omega) (by omega) (by omega) (by omega) (by omega) (by omega) (by omega) (by omega) (by omega) (by omega) (by omega), e_u_s, ← hM4, e_u_s, f3 1 (by omega) (by omega)]
    exact ⟨rfl, rfl, H.1.2.2⟩
  · rw [s5] at b
    rw [e_u_n _ _ (by omega), ← hM4, e_u_n _ _ (by omega), show 1 + 1 = 2 from rfl, h5 o2 j a (by omega) c e]
    by_cases hq : o2 = K 310
    · rw [if_pos hq, hq]
      by_cases hj : j = 5
      · rw [hj, if_neg (by omega), show (8 : Int) * 5 + K 310 = 40 + K 310 by omega, s6, show (8 : Int) * 5 + o = 40 + o by omega]
      · rw [l1 j c (by omega)]
    · rw [if_neg hq]
      by_cases hj : o2 = o ∧ j = 1
      · rw [if_pos hj, hj.1, hj.2, show (8 : Int) * 1 + o = 8 + o by omega, l2]
      · rw [if_neg hj, s8 _ (by omega) (by omega) (by omega) (by omega) (by omega) (by omega) (by omega) (by omega) (by omega) (by omega) (by omega)]
  · rw [s5] at b
    rw [e_u_n _ _ (by omega), ← hM4, e_u_n _ _ (by omega), show 1 + 2 = 3 from rfl, k3]
    by_cases hq : o2 = K 310
    · rw [hq, s6] at e
      rw [g3 _ (by omega) (by omega), if_pos (by omega), hq, l3 w j c e f g, show (K 310 * 4 + w) * 3 + j - K 310 * 12 + o * 12 = (o * 4 + w) * 3 + j by omega]
      exact H.2.2.1 o w j ho.1 ho.2 c e f g
    · rw [s8 (40 + o2) (by omega) (by omega) (by omega) (by omega) (by omega) (by omega) (by omega) (by omega) (by omega) (by omega) (by omega)] at e
      have := hr.wk (o := o2) a (by omega)
      rw [g3 _ (by omega) (by omega), if_neg (by omega), s8 _ (by omega) (by omega) (by omega) (by omega) (by omega) (by omega) (by omega) (by omega) (by omega) (by omega) (by omega)]
      exact H.2.2.1 o2 w j a (by omega) c e f g
  · rw [s8 _ (by omega) (by omega) (by omega) (by omega) (by omega) (by omega) (by omega) (by omega) (by omega) (by omega) (by omega), e_u_n _ _ (by omega), ← hM4, e_u_n _ _ (by omega), f3 _ (by omega) (by omega)]
    exact H.2.2.2.1 i2 a b
  · rw [s8 311 (by omega) (by omega) (by omega) (by omega) (by omega) (by omega) (by omega) (by omega) (by omega) (by omega) (by omega)] at b
    rw [s8 _ (by omega) (by omega) (by omega) (by omega) (by omega) (by omega) (by omega) (by omega) (by omega) (by omega) (by omega), e_u_n _ _ (by omega), ← hM4, e_u_n _ _ (by omega), f3 _ (by omega) (by omega)]
    exact H.2.2.2.2.1 k j a b c e
  · rw [s8 _ (by omega) (by omega) (by omega) (by omega) (by omega) (by omega) (by omega) (by omega) (by omega) (by omega) (by omega), e_u_n _ _ (by omega), ← hM4, e_u_n _ _ (by omega), f3 _ (by omega) (by omega)]
    exact H.2.2.2.2.2.1 i2 a b
  · rw [s8 _ (by omega) (by omega) (by omega) (by omega) (by omega) (by omega) (by omega) (by omega) (by omega) (by omega) (by omega), e_u_n _ _ (by omega), ← hM4, e_u_n _ _ (by omega), f3 _ (by omega) (by omega)]
    exact H.2.2.2.2.2.2 i2 a b
end Ec28
