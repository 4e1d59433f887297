section Ec15
variable {L : Nat} {xs : Nat → Int32} {d : Nat} {M M2 M3 : e_MI} {V : e_ML} {W : e_MD} {K K2 : e_St} {h : e_H} {s t t2 a n : Nat} {o j w z m k q p i f l b e mc tl v T x N : Int} {sc : Bool} {ρ ν μ χ β ε τ u : Int → Int}
/-! the class's critical works -/
/-- the place ahead, in the times of a row -/
def aK (K : e_St) (τ : Int → Int) : Int → Int := ahW K τ (scW τ) (scB K τ) (scE K τ)
theorem tt_criticalAhead (ht : e_isT t) (hT : TT M t K τ k) (H : SH M 1 K) (hr : kR K) (hp : kP K) (hd : kD K) (hv : vP K τ k) (h0 : 0 ≤ p ∧ p < k) : e_lim L xs (d + 3) 87 0 [some (.ref t), some (.ref 1), some (.int (iI p)), none, none, none, none] [] (e_hp M V W) = some (.inl (some (.int (iI (aK K τ p)))), e_hp M V W, 0, 0) := by
  obtain ⟨⟨t2, k0, k16⟩, a1, a2, a3, a4, a5, a6⟩ := hT.a1
  obtain ⟨b1, b2, b3, -, -, -⟩ := hT.a2
  have r0 := sc_spI hr hp hv h0.1 h0.2
  have q0 := hv.rg hr h0.1 h0.2
  have w0 := (hv p h0.1 h0.2).1
  have c1 := oAh_rg τ h0.1
  have c2 := mAh_rg K τ (scW τ) h0.1
  have c3 := tAh_rg K τ (scW τ) h0.1
  have f1 := m_atI (L := L) (xs := xs) (d := d + 2) (M := M) (V := V) (W := W) ht.i5 (z := p) h0.1 (by omega) (a5 p h0.1 h0.2)
  have f2 := m_atI (L := L) (xs := xs) (d := d + 2) (M := M) (V := V) (W := W) ht.i7 (z := p) h0.1 (by omega) (b1 p h0.1 h0.2)
  have f3 := m_atI (L := L) (xs := xs) (d := d + 2) (M := M) (V := V) (W := W) ht.i8 (z := p) h0.1 (by omega) (b2 p h0.1 h0.2)
  have f4 := m_atI (L := L) (xs := xs) (d := d + 2) (M := M) (V := V) (W := W) ht.i9 (z := p) h0.1 (by omega) (b3 p h0.1 h0.2)
  have f5 := m_atI (L := L) (xs := xs) (d := d + 2) (M := M) (V := V) (W := W) ht.i3 (z := p) h0.1 (by omega) (a3 p h0.1 h0.2)
  have f6 := m_atI (L := L) (xs := xs) (d := d + 2) (M := M) (V := V) (W := W) ht.i1 (z := p) h0.1 (by omega) (a1 p h0.1 h0.2)
  have s3 : ∀ l4 l5 l6 : Option Value, e_nk l4 = true → e_nk l5 = true → e_nk l6 = true → e_lim L xs (d + 3) 87 84 [some (.ref t), some (.ref 1), some (.int (iI p)), some (.int (iI (scB K τ p))), l4, l5, l6] [] (e_hp M V W) = some (.inl (some (.int (iI (if tAh K τ (scW τ) p ≠ -1 ∧ scE K τ (tAh K τ (scW τ) p) = scB K τ p then tAh K τ (scW τ) p else -1)))), e_hp M V W, 0, 0) := by
    intro l4 l5 l6 n4 n5 n6
    rcases c3 with c | c
    · rw [c] at f4 ⊢
      simp (disch := first | assumption | exact e_nk_i _ | exact e_nk_n | exact e_nk_r _ | exact e_bo_0 | exact e_bo_1 | exact e_bo_b _ | omega) only [e_cl_v, e_cl_x, e_add_0, e_add_s, Option.toList_some, Option.toList_none, List.cons_append, List.nil_append, iI_add, iI_sub, iI_mul, iI_lt, iI_eq, iI_le, r87_84, r87_85, r87_88, r87_89, r87_92, r87_94, r87_96, r87_97, r87_100, r87_101, r87_103, r87_106, r87_107, r87_110, r87_112, r87_115, r87_116, f4]
      simp
    · have g1 := tg_finishAt (L := L) (xs := xs) (d := d + 1) (V := V) (W := W) ht a6 (p := tAh K τ (scW τ) p) (by omega) (by omega) k16
      have r2 := sc_spI hr hp hv (p := tAh K τ (scW τ) p) (by omega) (by omega)
      simp (disch := first | assumption | exact e_nk_i _ | exact e_nk_n | exact e_nk_r _ | exact e_bo_0 | exact e_bo_1 | exact e_bo_b _ | omega) only [e_cl_v, e_cl_x, e_add_0, e_add_s, Option.toList_some, Option.toList_none, List.cons_append, List.nil_append, iI_add, iI_sub, iI_mul, iI_lt, iI_eq, iI_le, r87_84, r87_85, r87_88, r87_89, r87_92, r87_94, r87_96, r87_97, r87_100, r87_101, r87_103, r87_106, r87_107, r87_110, r87_112, r87_115, r87_116, f4, g1]
      rw [if_neg (by omega)]
      by_cases z : scE K τ (tAh K τ (scW τ) p) = scB K τ p
      · rw [if_pos z, if_pos (by omega)]
      · rw [if_neg z, if_neg (by omega)]
  have s2 : ∀ l4 l5 l6 : Option Value, e_nk l4 = true → e_nk l5 = true → e_nk l6 = true → e_lim L xs (d + 3) 87 38 [some (.ref t), some (.ref 1), some (.int (iI p)), some (.int (iI (scB K τ p))), l4, l5, l6] [] (e_hp M V W) = some (.inl (some (.int (iI (if mAh K τ (scW τ) p ≠ -1 ∧ scE K τ (mAh K τ (scW τ) p) + sT K (mcA K τ (scW τ) p) (K (τ (mAh K τ (scW τ) p))) (K (τ p)) = scB K τ p then mAh K τ (scW τ) p else if tAh K τ (scW τ) p ≠ -1 ∧ scE K τ (tAh K τ (scW τ) p) = scB K τ p then tAh K τ (scW τ) p else -1)))), e_hp M V W, 0, 0) := by
    intro l4 l5 l6 n4 n5 n6
    rcases c2 with c | c
    · rw [c] at f3 ⊢
      simp (disch := first | assumption | exact e_nk_i _ | exact e_nk_n | exact e_nk_r _ | exact e_bo_0 | exact e_bo_1 | exact e_bo_b _ | omega) only [e_cl_v, e_cl_x, e_add_0, e_add_s, Option.toList_some, Option.toList_none, List.cons_append, List.nil_append, iI_add, iI_sub, iI_mul, iI_lt, iI_eq, iI_le, r87_38, r87_39, r87_42, r87_43, r87_46, r87_48, r87_50, r87_51, f3]
      simp only [ne_eq, not_true_eq_false, false_and, if_false, if_true]
      exact s3 l4 (some (.int (iI (-1)))) l6 n4 (e_nk_i _) n6
    · have w1 := hv.rg hr (p := mAh K τ (scW τ) p) (by omega) (by omega)
      have w2 := (hv (mAh K τ (scW τ) p) (by omega) (by omega)).1
      have q5 := hr.kd (o := τ p) (by omega) (by omega)
      have q6 := hr.kd (o := τ (mAh K τ (scW τ) p)) (by omega) (by omega)
      have g1 := tg_readyAfter (L := L) (xs := xs) (d := d) (V := V) (W := W) ht H hr hd a1 a6 k16 (p := mAh K τ (scW τ) p) (m := mcA K τ (scW τ) p) (o := τ p) (Or.inr ⟨by omega, by omega, by omega, by omega⟩) (by omega) (by omega)
      have r2 := sc_spI hr hp hv (p := mAh K τ (scW τ) p) (by omega) (by omega)
      have qs := sT_rg hr (m := mcA K τ (scW τ) p) (f := K (τ (mAh K τ (scW τ) p))) (t := K (τ p)) (by omega) (by omega) (by omega)
      unfold rdZ at g1
      rw [if_neg (show ¬ mAh K τ (scW τ) p = -1 by omega)] at g1
      simp (disch := first | assumption | exact e_nk_i _ | exact e_nk_n | exact e_nk_r _ | exact e_bo_0 | exact e_bo_1 | exact e_bo_b _ | omega) only [e_cl_v, e_cl_x, e_add_0, e_add_s, Option.toList_some, Option.toList_none, List.cons_append, List.nil_append, iI_add, iI_sub, iI_mul, iI_lt, iI_eq, iI_le, r87_38, r87_39, r87_42, r87_43, r87_46, r87_48, r87_50, r87_51, r87_54, r87_55, r87_56, r87_58, r87_59, r87_62, r87_63, r87_66, r87_67, r87_70, r87_71, r87_74, r87_77, r87_78, r87_81, r87_83, f3, f5, f6, g1]
      rw [if_neg (by omega)]
      by_cases z : scE K τ (mAh K τ (scW τ) p) + sT K (mcA K τ (scW τ) p) (K (τ (mAh K τ (scW τ) p))) (K (τ p)) = scB K τ p
      · rw [if_pos z, if_pos ⟨by omega, z⟩]
      · rw [if_neg z, if_neg (fun a => z a.2)]
        exact s3 l4 (some (.int (iI (mAh K τ (scW τ) p)))) l6 n4 (e_nk_i _) n6
  unfold aK ahW
  rcases c1 with c | c
  · rw [c] at f2 ⊢
    simp (disch := first | assumption | exact e_nk_i _ | exact e_nk_n | exact e_nk_r _ | exact e_bo_0 | exact e_bo_1 | exact e_bo_b _ | omega) only [e_cl_v, e_cl_x, e_add_0, e_add_s, Option.toList_some, Option.toList_none, List.cons_append, List.nil_append, iI_add, iI_sub, iI_mul, iI_lt, iI_eq, iI_le, r87_0, r87_1, r87_4, r87_5, r87_8, r87_9, r87_10, r87_13, r87_14, r87_17, r87_19, r87_21, r87_22, f1, f2]
    simp only [ne_eq, not_true_eq_false, false_and, if_false, if_true]
    exact s2 (some (.int (iI (-1)))) none none (e_nk_i _) e_nk_n e_nk_n
  · have g1 := tg_finishAt (L := L) (xs := xs) (d := d + 1) (V := V) (W := W) ht a6 (p := oAh τ p) (by omega) (by omega) k16
    have r2 := sc_spI hr hp hv (p := oAh τ p) (by omega) (by omega)
    simp (disch := first | assumption | exact e_nk_i _ | exact e_nk_n | exact e_nk_r _ | exact e_bo_0 | exact e_bo_1 | exact e_bo_b _ | omega) only [e_cl_v, e_cl_x, e_add_0, e_add_s, Option.toList_some, Option.toList_none, List.cons_append, List.nil_append, iI_add, iI_sub, iI_mul, iI_lt, iI_eq, iI_le, r87_0, r87_1, r87_4, r87_5, r87_8, r87_9, r87_10, r87_13, r87_14, r87_17, r87_19, r87_21, r87_22, r87_25, r87_26, r87_28, r87_31, r87_32, r87_35, r87_37, f1, f2, g1]
    rw [if_neg (by omega)]
    by_cases z : scE K τ (oAh τ p) = scB K τ p
    · rw [if_pos z, if_pos ⟨by omega, z⟩]
    · rw [if_neg z, if_neg (fun a => z a.2)]
      exact s2 (some (.int (iI (oAh τ p)))) none none (e_nk_i _) e_nk_n e_nk_n
theorem aK_rg (K : e_St) (τ : Int → Int) (k : Int) (h : 0 ≤ k) (_ : k < 16) : aK K τ k = -1 ∨ (0 ≤ aK K τ k ∧ aK K τ k < k) := ahW_rg K τ _ _ _ h
theorem ch_dn (K : e_St) (τ : Int → Int) (hk : 0 ≤ k ∧ k ≤ 16) : ∀ i : Nat, chW (aK K τ) (lsW (scE K τ) k) i = -1 ∨ (0 ≤ chW (aK K τ) (lsW (scE K τ) k) i ∧ chW (aK K τ) (lsW (scE K τ) k) i < k)
  | 0 => by
    have := lsW_rg (scE K τ) hk.1
    unfold chW
    omega
  | i + 1 => by
    have ih := ch_dn K τ hk i
    unfold chW
    split
    · omega
    · have := aK_rg K τ (chW (aK K τ) (lsW (scE K τ) k) i) (by omega) (by omega)
      omega
theorem tt_countCritical (ht : e_isT t) (hT : TT M t K τ k) (H : SH M 1 K) (hr : kR K) (hp : kP K) (hd : kD K) (hv : vP K τ k) : e_lim L xs (d + 4) 88 0 [some (.ref t), some (.ref 1), none, none] [] (e_hp M V W) = some (.inl (some (.int (iI (chN (aK K τ) (lsW (scE K τ) k))))), e_hp M V W, 0, 0) := by
  obtain ⟨⟨t2, k0, k16⟩, -⟩ := hT.a1
  have e0 := tt_lastCritical (L := L) (xs := xs) (d := d + 1) (V := V) (W := W) ht hT hr hp hv
  have hl := lsW_rg (scE K τ) k0
  obtain ⟨n1, n2, n3⟩ := chN_sp (aK_rg K τ) (k := lsW (scE K τ) k) (by omega)
  simp (disch := first | assumption | exact e_nk_i _ | exact e_nk_n | exact e_nk_r _ | exact e_bo_0 | exact e_bo_1 | exact e_bo_b _ | omega) only [e_cl_v, e_cl_x, e_add_0, e_add_s, Option.toList_some, Option.toList_none, List.cons_append, List.nil_append, iI_add, iI_sub, iI_mul, iI_lt, iI_eq, iI_le, r88_0, r88_1, r88_2, r88_3, r88_6, e0]
  refine G_loopI (C := fun i => e_lim L xs (d + 4) 88 7 [some (.ref t), some (.ref 1), some (.int (iI i)), some (.int (iI (chW (aK K τ) (lsW (scE K τ) k) i.toNat)))] [] (e_hp M V W)) (i := 0) n1.1 (fun j a b hc => ?_) ?_
  · have c1 := n2 j.toNat (by omega)
    have c2 := ch_dn K τ ⟨k0, k16⟩ j.toNat
    have e1 := tt_criticalAhead (L := L) (xs := xs) (d := d) (V := V) (W := W) ht hT H hr hp hd hv (p := chW (aK K τ) (lsW (scE K τ) k) j.toNat) (by omega)
    rw [show (j + 1).toNat = j.toNat + 1 by omega, show chW (aK K τ) (lsW (scE K τ) k) (j.toNat + 1) = if chW (aK K τ) (lsW (scE K τ) k) j.toNat = -1 then -1 else aK K τ (chW (aK K τ) (lsW (scE K τ) k) j.toNat) from rfl, if_neg (by omega)] at hc
    rw [r88_7]
    simp (disch := first | assumption | exact e_nk_i _ | exact e_nk_n | exact e_nk_r _ | exact e_bo_0 | exact e_bo_1 | exact e_bo_b _ | omega) only [e_cl_v, e_cl_x, e_add_0, e_add_s, Option.toList_some, Option.toList_none, List.cons_append, List.nil_append, iI_add, iI_sub, iI_mul, iI_lt, iI_eq, iI_le, r88_8, r88_9, r88_12, r88_13, r88_15, r88_18, r88_21, r88_22, r88_23, r88_24, r88_27, r88_28, e1]
    rw [if_neg (by omega), if_pos (by omega)]
    exact hc
  · rw [n3, r88_7]
    simp (disch := first | assumption | exact e_nk_i _ | exact e_nk_n | exact e_nk_r _ | exact e_bo_0 | exact e_bo_1 | exact e_bo_b _ | omega) only [e_cl_v, e_cl_x, e_add_0, e_add_s, Option.toList_some, Option.toList_none, List.cons_append, List.nil_append, iI_add, iI_sub, iI_mul, iI_lt, iI_eq, iI_le, r88_8, r88_9, r88_31, r88_32]
    simp
theorem tt_criticalWork (ht : e_isT t) (hT : TT M t K τ k) (H : SH M 1 K) (hr : kR K) (hp : kP K) (hd : kD K) (hv : vP K τ k) (hi : 0 ≤ i ∧ i < chN (aK K τ) (lsW (scE K τ) k)) : e_lim L xs (d + 4) 89 0 [some (.ref t), some (.ref 1), some (.int (iI i)), none, none] [] (e_hp M V W) = some (.inl (some (.int (iI (10 * τ (chW (aK K τ) (lsW (scE K τ) k) i.toNat) + scW τ (chW (aK K τ) (lsW (scE K τ) k) i.toNat))))), e_hp M V W, 0, 0) := by
  obtain ⟨⟨t2, k0, k16⟩, a1, a2, a3, a4, a5, a6⟩ := hT.a1
  have e0 := tt_lastCritical (L := L) (xs := xs) (d := d + 1) (V := V) (W := W) ht hT hr hp hv
  have hl := lsW_rg (scE K τ) k0
  obtain ⟨n1, n2, n3⟩ := chN_sp (aK_rg K τ) (k := lsW (scE K τ) k) (by omega)
  simp (disch := first | assumption | exact e_nk_i _ | exact e_nk_n | exact e_nk_r _ | exact e_bo_0 | exact e_bo_1 | exact e_bo_b _ | omega) only [e_cl_v, e_cl_x, e_add_0, e_add_s, Option.toList_some, Option.toList_none, List.cons_append, List.nil_append, iI_add, iI_sub, iI_mul, iI_lt, iI_eq, iI_le, r89_0, r89_1, r89_4, r89_5, r89_6, e0]
  refine G_loopI (C := fun i2 => e_lim L xs (d + 4) 89 8 [some (.ref t), some (.ref 1), some (.int (iI i)), some (.int (iI (chW (aK K τ) (lsW (scE K τ) k) i2.toNat))), some (.int (iI i2))] [] (e_hp M V W)) (i := 0) hi.1 (fun j a b hc => ?_) ?_
  · have c1 := n2 j.toNat (by omega)
    have c2 := ch_dn K τ ⟨k0, k16⟩ j.toNat
    have e1 := tt_criticalAhead (L := L) (xs := xs) (d := d) (V := V) (W := W) ht hT H hr hp hd hv (p := chW (aK K τ) (lsW (scE K τ) k) j.toNat) (by omega)
    rw [show (j + 1).toNat = j.toNat + 1 by omega, show chW (aK K τ) (lsW (scE K τ) k) (j.toNat + 1) = if chW (aK K τ) (lsW (scE K τ) k) j.toNat = -1 then -1 else aK K τ (chW (aK K τ) (lsW (scE K τ) k) j.toNat) from rfl, if_neg (by omega)] at hc
    rw [r89_8]
    simp (disch := first | assumption | exact e_nk_i _ | exact e_nk_n | exact e_nk_r _ | exact e_bo_0 | exact e_bo_1 | exact e_bo_b _ | omega) only [e_cl_v, e_cl_x, e_add_0, e_add_s, Option.toList_some, Option.toList_none, List.cons_append, List.nil_append, iI_add, iI_sub, iI_mul, iI_lt, iI_eq, iI_le, r89_10, r89_11, r89_14, r89_15, r89_16, r89_19, r89_20, r89_21, r89_22, r89_25, r89_26, r89_29, e1]
    rw [if_pos b, if_neg (by omega)]
    exact hc
  · have c1 := n2 i.toNat (by omega)
    have c2 := ch_dn K τ ⟨k0, k16⟩ i.toNat
    generalize hg : chW (aK K τ) (lsW (scE K τ) k) i.toNat = g at *
    have e1 := m_atI (L := L) (xs := xs) (d := d + 3) (M := M) (V := V) (W := W) ht.i1 (z := g) c1.1 (by omega) (a1 g c1.1 (by omega))
    have e2 := m_atI (L := L) (xs := xs) (d := d + 3) (M := M) (V := V) (W := W) ht.i2 (z := g) c1.1 (by omega) (a2 g c1.1 (by omega))
    rw [r89_8]
    simp (disch := first | assumption | exact e_nk_i _ | exact e_nk_n | exact e_nk_r _ | exact e_bo_0 | exact e_bo_1 | exact e_bo_b _ | omega) only [e_cl_v, e_cl_x, e_add_0, e_add_s, Option.toList_some, Option.toList_none, List.cons_append, List.nil_append, iI_add, iI_sub, iI_mul, iI_lt, iI_eq, iI_le, r89_10, r89_11, r89_32, r89_34, r89_35, r89_38, r89_39, r89_42, r89_43, r89_44, r89_47, r89_48, r89_51, r89_52, e1, e2]
    rw [if_neg (by omega)]
end Ec15
