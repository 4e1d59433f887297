section Ec26
variable {L : Nat} {xs : Nat → Int32} {d : Nat} {M M2 M3 : e_MI} {V : e_ML} {W : e_MD} {K K2 : e_St} {S : Int → e_St} {h : e_H} {s s0 s1 t t2 a b2 n : Nat} {c o j w z m k q p i f l b e mc tl T x y N : Int} {sc : Bool} {ρ ν μ χ β ε τ u : Int → Int}
/-! the class copies an order -/
theorem s_orderCellR {v : Int32} (h0 : 0 ≤ o) (h1 : o < 8) (h2 : 0 ≤ j) (h3 : j < 6) (hv : M 2 (o * 6 + j).toNat = v) : e_lim L xs (d + 1) 27 0 [some (.ref 1), some (.int (iI o)), some (.int (iI j))] [] (e_hp M V W) = some (.inl (some (.int v)), e_hp M V W, 0, 0) := by
  have e1 := m_atI (L := L) (xs := xs) (d := d) (M := M) (V := V) (W := W) (a := 2) (n := 48) si_2 (z := o * 6 + j) (by omega) (by omega) hv
  simp (disch := first | assumption | exact e_nk_i _ | exact e_nk_n | exact e_nk_r _ | exact e_bo_0 | exact e_bo_1 | exact e_bo_b _ | omega) only [e_cl_v, e_cl_x, e_add_0, e_add_s, Option.toList_some, Option.toList_none, List.cons_append, List.nil_append, iI_add, iI_sub, iI_mul, iI_lt, iI_eq, iI_le, r27_0, r27_1, r27_4, r27_5, r27_7, r27_8, r27_9, r27_10, r27_13, e1]
theorem s_copyOrder (hi : 0 ≤ i ∧ i < 8) (hp : 0 ≤ p ∧ p < 8) (hne : i ≠ p) : ∃ M2 : e_MI, e_lim L xs (d + 2) 39 0 [some (.ref 1), some (.int (iI i)), some (.int (iI p)), none, none] [] (e_hp M V W) = some (.inl none, e_hp M2 V W, 0, 0) ∧ (∀ z, 0 ≤ z → z < 48 → M2 2 z.toNat = if p * 6 ≤ z ∧ z < p * 6 + 6 then M 2 (z - p * 6 + i * 6).toNat else M 2 z.toNat) ∧ (∀ z, 0 ≤ z → z < 96 → M2 3 z.toNat = if p * 12 ≤ z ∧ z < p * 12 + 12 then M 3 (z - p * 12 + i * 12).toNat else M 3 z.toNat) ∧ ∀ a, a ≠ 2 → a ≠ 3 → M2 a = M a := by
  have sec : ∀ M1 : e_MI, (∀ a, a ≠ 2 → M1 a = M a) → (∀ z, 0 ≤ z → z < 48 → M1 2 z.toNat = if p * 6 ≤ z ∧ z < p * 6 + 6 then M 2 (z - p * 6 + i * 6).toNat else M 2 z.toNat) → ∃ M2 : e_MI, e_lim L xs (d + 2) 39 26 [some (.ref 1), some (.int (iI i)), some (.int (iI p)), some (.int (iI 6)), none] [] (e_hp M1 V W) = some (.inl none, e_hp M2 V W, 0, 0) ∧ (∀ z, 0 ≤ z → z < 48 → M2 2 z.toNat = if p * 6 ≤ z ∧ z < p * 6 + 6 then M 2 (z - p * 6 + i * 6).toNat else M 2 z.toNat) ∧ (∀ z, 0 ≤ z → z < 96 → M2 3 z.toNat = if p * 12 ≤ z ∧ z < p * 12 + 12 then M 3 (z - p * 12 + i * 12).toNat else M 3 z.toNat) ∧ ∀ a, a ≠ 2 → a ≠ 3 → M2 a = M a := by
    intro M1 hf h2
    have key := G_lp (i := 0) (n := 12) (I := fun q M2 => (∀ a, a ≠ 3 → M2 a = M1 a) ∧ ∀ z, 0 ≤ z → z < 96 → M2 3 z.toNat = if p * 12 ≤ z ∧ z < p * 12 + q then M 3 (z - p * 12 + i * 12).toNat else M 3 z.toNat) (P := fun q M3 => ∃ M2 : e_MI, e_lim L xs (d + 2) 39 32 [some (.ref 1), some (.int (iI i)), some (.int (iI p)), some (.int (iI 12)), some (.int (iI q))] [] (e_hp M3 V W) = some (.inl none, e_hp M2 V W, 0, 0) ∧ (∀ z, 0 ≤ z → z < 48 → M2 2 z.toNat = if p * 6 ≤ z ∧ z < p * 6 + 6 then M 2 (z - p * 6 + i * 6).toNat else M 2 z.toNat) ∧ (∀ z, 0 ≤ z → z < 96 → M2 3 z.toNat = if p * 12 ≤ z ∧ z < p * 12 + 12 then M 3 (z - p * 12 + i * 12).toNat else M 3 z.toNat) ∧ ∀ a, a ≠ 2 → a ≠ 3 → M2 a = M a) (fun j M3 x y hI hc => ?_) (fun M3 hI => ?_) (by omega) M1 ⟨fun _ _ => rfl, fun z x y => by
      rw [if_neg (by omega), hf 3 (by omega)]⟩
    · obtain ⟨M2, e, r⟩ := key
      refine ⟨M2, ?_, r⟩
      rw [← e]
      simp (disch := first | assumption | exact e_nk_i _ | exact e_nk_n | exact e_nk_r _ | exact e_bo_0 | exact e_bo_1 | exact e_bo_b _ | omega) only [e_cl_v, e_cl_x, e_add_0, e_add_s, Option.toList_some, Option.toList_none, List.cons_append, List.nil_append, iI_add, iI_sub, iI_mul, iI_lt, iI_eq, iI_le, r39_26, r39_28, r39_29, r39_30]
    · have g := hI.2 (i * 12 + j) (by omega) (by omega)
      rw [if_neg (by omega)] at g
      have e1 := m_atI (L := L) (xs := xs) (d := d + 1) (M := M3) (V := V) (W := W) si_3 (z := i * 12 + j) (by omega) (by omega) g
      have e2 := m_putI (L := L) (xs := xs) (d := d + 1) (M := M3) (V := V) (W := W) (v := M 3 (i * 12 + j).toNat) si_3 (z := p * 12 + j) (by omega) (by omega)
      obtain ⟨M2, e, r⟩ := hc (e_u M3 3 (upd (M3 3) (p * 12 + j).toNat (M 3 (i * 12 + j).toNat))) ⟨fun a z => by rw [e_u_n _ _ z]; exact hI.1 a z, fun z a b => by
        rw [e_u_s]
        unfold upd
        by_cases hq : z = p * 12 + j
        · rw [if_pos (by omega), if_pos (by omega), show z - p * 12 + i * 12 = i * 12 + j by omega]
        · rw [if_neg (by omega), hI.2 z a b]
          by_cases hq2 : p * 12 ≤ z ∧ z < p * 12 + j
          · rw [if_pos hq2, if_pos (by omega)]
          · rw [if_neg hq2, if_neg (by omega)]⟩
      refine ⟨M2, ?_, r⟩
      rw [← e, r39_32]
      simp (disch := first | assumption | exact e_nk_i _ | exact e_nk_n | exact e_nk_r _ | exact e_bo_0 | exact e_bo_1 | exact e_bo_b _ | omega) only [e_cl_v, e_cl_x, e_add_0, e_add_s, Option.toList_some, Option.toList_none, List.cons_append, List.nil_append, iI_add, iI_sub, iI_mul, iI_lt, iI_eq, iI_le, r39_34, r39_35, r39_38, r39_39, r39_42, r39_43, r39_44, r39_45, r39_47, r39_48, r39_49, r39_52, r39_53, r39_54, r39_55, r39_57, r39_58, r39_61, r39_64, r39_67, e1, e2]
      rw [if_pos y]
    · refine ⟨M3, ?_, fun z a b => by rw [hI.1 2 (by omega)]; exact h2 z a b, hI.2, fun a y z => by rw [hI.1 a z, hf a y]⟩
      rw [r39_32]
      simp (disch := first | assumption | exact e_nk_i _ | exact e_nk_n | exact e_nk_r _ | exact e_bo_0 | exact e_bo_1 | exact e_bo_b _ | omega) only [e_cl_v, e_cl_x, e_add_0, e_add_s, Option.toList_some, Option.toList_none, List.cons_append, List.nil_append, iI_add, iI_sub, iI_mul, iI_lt, iI_eq, iI_le, r39_34, r39_35, r39_70]
      rw [if_neg (by omega)]
  have key := G_lp (i := 0) (n := 6) (I := fun q M2 => (∀ a, a ≠ 2 → M2 a = M a) ∧ ∀ z, 0 ≤ z → z < 48 → M2 2 z.toNat = if p * 6 ≤ z ∧ z < p * 6 + q then M 2 (z - p * 6 + i * 6).toNat else M 2 z.toNat) (P := fun q M3 => ∃ M2 : e_MI, e_lim L xs (d + 2) 39 2 [some (.ref 1), some (.int (iI i)), some (.int (iI p)), some (.int (iI q)), none] [] (e_hp M3 V W) = some (.inl none, e_hp M2 V W, 0, 0) ∧ (∀ z, 0 ≤ z → z < 48 → M2 2 z.toNat = if p * 6 ≤ z ∧ z < p * 6 + 6 then M 2 (z - p * 6 + i * 6).toNat else M 2 z.toNat) ∧ (∀ z, 0 ≤ z → z < 96 → M2 3 z.toNat = if p * 12 ≤ z ∧ z < p * 12 + 12 then M 3 (z - p * 12 + i * 12).toNat else M 3 z.toNat) ∧ ∀ a, a ≠ 2 → a ≠ 3 → M2 a = M a) (fun j M3 x y hI hc => ?_) (fun M3 hI => ?_) (by omega) M ⟨fun _ _ => rfl, fun z x y => by rw [if_neg (by omega)]⟩
  · obtain ⟨M2, e, r⟩ := key
    refine ⟨M2, ?_, r⟩
    rw [← e]
    simp (disch := first | assumption | exact e_nk_i _ | exact e_nk_n | exact e_nk_r _ | exact e_bo_0 | exact e_bo_1 | exact e_bo_b _ | omega) only [e_cl_v, e_cl_x, e_add_0, e_add_s, Option.toList_some, Option.toList_none, List.cons_append, List.nil_append, iI_add, iI_sub, iI_mul, iI_lt, iI_eq, iI_le, r39_0, r39_1]
  · have g := hI.2 (i * 6 + j) (by omega) (by omega)
    rw [if_neg (by omega)] at g
    have e1 := s_orderCellR (L := L) (xs := xs) (d := d) (M := M3) (V := V) (W := W) hi.1 hi.2 x y g
    have e2 := s_setOrderCell (L := L) (xs := xs) (d := d) (M := M3) (V := V) (W := W) (v := M 2 (i * 6 + j).toNat) hp.1 hp.2 x y
    obtain ⟨M2, e, r⟩ := hc (e_u M3 2 (upd (M3 2) (p * 6 + j).toNat (M 2 (i * 6 + j).toNat))) ⟨fun a z => by rw [e_u_n _ _ z]; exact hI.1 a z, fun z a b => by
      rw [e_u_s]
      unfold upd
      by_cases hq : z = p * 6 + j
      · rw [if_pos (by omega), if_pos (by omega), show z - p * 6 + i * 6 = i * 6 + j by omega]
      · rw [if_neg (by omega), hI.2 z a b]
        by_cases hq2 : p * 6 ≤ z ∧ z < p * 6 + j
        · rw [if_pos hq2, if_pos (by omega)]
        · rw [if_neg hq2, if_neg (by omega)]⟩
    refine ⟨M2, ?_, r⟩
    rw [← e, r39_2]
    simp (disch := first | assumption | exact e_nk_i _ | exact e_nk_n | exact e_nk_r _ | exact e_bo_0 | exact e_bo_1 | exact e_bo_b _ | omega) only [e_cl_v, e_cl_x, e_add_0, e_add_s, Option.toList_some, Option.toList_none, List.cons_append, List.nil_append, iI_add, iI_sub, iI_mul, iI_lt, iI_eq, iI_le, r39_3, r39_5, r39_8, r39_9, r39_10, r39_11, r39_12, r39_13, r39_14, r39_17, r39_20, r39_23, e1, e2]
    rw [if_pos y]
  · obtain ⟨M2, e, r⟩ := sec M3 hI.1 hI.2
    refine ⟨M2, ?_, r⟩
    rw [r39_2]
    simp (disch := first | assumption | exact e_nk_i _ | exact e_nk_n | exact e_nk_r _ | exact e_bo_0 | exact e_bo_1 | exact e_bo_b _ | omega) only [e_cl_v, e_cl_x, e_add_0, e_add_s, Option.toList_some, Option.toList_none, List.cons_append, List.nil_append, iI_add, iI_sub, iI_mul, iI_lt, iI_eq, iI_le, r39_3, r39_5]
    rw [if_neg (by omega)]
    exact e
end Ec26
