section Ec17
variable {L : Nat} {xs : Nat → Int32} {d : Nat} {M M2 M3 : e_MI} {V : e_ML} {W : e_MD} {K K2 : e_St} {h : e_H} {s t t2 a n : Nat} {o j w z m k q p i f l b e mc tl v T x N : Int} {sc : Bool} {ρ ν μ χ β ε τ u : Int → Int}
/-! the class finds no error in its times, on -/
theorem aK_sp (K : e_St) (τ : Int → Int) (h : 0 ≤ p) (hq : aK K τ p ≠ -1) : (0 ≤ aK K τ p ∧ aK K τ p < p) ∧ ((τ p = τ (aK K τ p) ∧ scB K τ p = scE K τ (aK K τ p)) ∨ (mcA K τ (scW τ) p = mcA K τ (scW τ) (aK K τ p) ∧ scB K τ p = scE K τ (aK K τ p) + sT K (mcA K τ (scW τ) p) (K (τ (aK K τ p))) (K (τ p))) ∨ (tlA K τ (scW τ) p ≠ -1 ∧ tlA K τ (scW τ) p = tlA K τ (scW τ) (aK K τ p) ∧ scB K τ p = scE K τ (aK K τ p))) := by
  refine ⟨by have := ahW_rg K τ (scW τ) (scB K τ) (scE K τ) h; unfold aK at hq ⊢; omega, ?_⟩
  unfold aK ahW at *
  by_cases c1 : oAh τ p ≠ -1 ∧ scE K τ (oAh τ p) = scB K τ p
  · rw [if_pos c1] at hq ⊢
    left
    rcases zLP_cases (fun q => decide (τ q = τ p)) p h with ⟨a, -⟩ | ⟨-, -, g, -⟩
    · exact absurd a c1.1
    · rw [decide_eq_true_eq] at g
      exact ⟨g.symm, c1.2.symm⟩
  · rw [if_neg c1] at hq ⊢
    by_cases c2 : mAh K τ (scW τ) p ≠ -1 ∧ scE K τ (mAh K τ (scW τ) p) + sT K (mcA K τ (scW τ) p) (K (τ (mAh K τ (scW τ) p))) (K (τ p)) = scB K τ p
    · rw [if_pos c2] at hq ⊢
      right; left
      rcases zLP_cases (fun q => decide (mcA K τ (scW τ) q = mcA K τ (scW τ) p)) p h with ⟨a, -⟩ | ⟨-, -, g, -⟩
      · exact absurd a c2.1
      · rw [decide_eq_true_eq] at g
        exact ⟨g.symm, c2.2.symm⟩
    · rw [if_neg c2] at hq ⊢
      by_cases c3 : tAh K τ (scW τ) p ≠ -1 ∧ scE K τ (tAh K τ (scW τ) p) = scB K τ p
      · rw [if_pos c3] at hq ⊢
        right; right
        have h1 := c3.1
        unfold tAh at h1
        by_cases c4 : tlA K τ (scW τ) p = -1
        · rw [if_pos c4] at h1
          exact absurd rfl h1
        · rcases zLP_cases (fun q => decide (tlA K τ (scW τ) q = tlA K τ (scW τ) p)) p h with ⟨a, -⟩ | ⟨-, -, g, -⟩
          · rw [if_neg c4] at h1
            exact absurd a h1
          · rw [decide_eq_true_eq] at g
            refine ⟨c4, ?_, c3.2.symm⟩
            unfold tAh
            rw [if_neg c4]
            exact g.symm
      · rw [if_neg c3] at hq
        exact absurd rfl hq
theorem tt_beginsBy (ht : e_isT t) (hT : TT M t K τ k) (H : SH M 1 K) (hr : kR K) (hp : kP K) (hd : kD K) (hv : vP K τ k) (h0 : 0 ≤ p ∧ p < k) (hq : aK K τ p ≠ -1) : e_lim L xs (d + 3) 94 0 [some (.ref t), some (.ref 1), some (.int (iI p)), some (.int (iI (aK K τ p))), none, none, none, none, none] [] (e_hp M V W) = some (.inl (some (.int (iI 1))), e_hp M V W, 0, 0) := by
  obtain ⟨⟨t2, k0, k16⟩, a1, a2, a3, a4, a5, a6⟩ := hT.a1
  obtain ⟨g0, hsp⟩ := aK_sp K τ h0.1 hq
  generalize aK K τ p = q at *
  have w0 := hv.rg hr h0.1 h0.2
  have w1 := hv.rg hr (p := q) g0.1 (by omega)
  have v0 := (hv p h0.1 h0.2).1
  have v1 := (hv q g0.1 (by omega)).1
  have q5 := hr.kd (o := τ p) (by omega) (by omega)
  have q6 := hr.kd (o := τ q) (by omega) (by omega)
  have r0 := sc_spI hr hp hv h0.1 h0.2
  have r1 := sc_spI hr hp hv (p := q) g0.1 (by omega)
  have qs := sT_rg hr (m := mcA K τ (scW τ) p) (f := K (τ q)) (t := K (τ p)) (by omega) (by omega) (by omega)
  have e1 := m_atI (L := L) (xs := xs) (d := d + 2) (M := M) (V := V) (W := W) ht.i5 (z := p) h0.1 (by omega) (a5 p h0.1 h0.2)
  have e2 := m_atI (L := L) (xs := xs) (d := d + 2) (M := M) (V := V) (W := W) ht.i3 (z := p) h0.1 (by omega) (a3 p h0.1 h0.2)
  have e3 := m_atI (L := L) (xs := xs) (d := d + 2) (M := M) (V := V) (W := W) ht.i4 (z := p) h0.1 (by omega) (a4 p h0.1 h0.2)
  have e4 := m_atI (L := L) (xs := xs) (d := d + 2) (M := M) (V := V) (W := W) ht.i1 (z := p) h0.1 (by omega) (a1 p h0.1 h0.2)
  have e5 := m_atI (L := L) (xs := xs) (d := d + 2) (M := M) (V := V) (W := W) ht.i3 (z := q) g0.1 (by omega) (a3 q g0.1 (by omega))
  have e6 := m_atI (L := L) (xs := xs) (d := d + 2) (M := M) (V := V) (W := W) ht.i4 (z := q) g0.1 (by omega) (a4 q g0.1 (by omega))
  have e7 := m_atI (L := L) (xs := xs) (d := d + 2) (M := M) (V := V) (W := W) ht.i1 (z := q) g0.1 (by omega) (a1 q g0.1 (by omega))
  have e8 := tg_finishAt (L := L) (xs := xs) (d := d + 1) (V := V) (W := W) ht a6 (p := q) g0.1 (by omega) k16
  have e9 := tg_readyAfter (L := L) (xs := xs) (d := d) (V := V) (W := W) ht H hr hd a1 a6 k16 (p := q) (m := mcA K τ (scW τ) p) (o := τ p) (Or.inr ⟨by omega, by omega, by omega, by omega⟩) (by omega) (by omega)
  unfold rdZ at e9
  rw [if_neg (show ¬ q = -1 by omega)] at e9
  have s104 : ∀ l7 l8 : Option Value, (mcA K τ (scW τ) p = mcA K τ (scW τ) q ∧ scB K τ p = scE K τ q + sT K (mcA K τ (scW τ) p) (K (τ q)) (K (τ p))) → e_lim L xs (d + 3) 94 104 [some (.ref t), some (.ref 1), some (.int (iI p)), some (.int (iI q)), some (.int (iI (scB K τ p))), some (.int (iI (mcA K τ (scW τ) p))), some (.int (iI (tlA K τ (scW τ) p))), l7, l8] [] (e_hp M V W) = some (.inl (some (.int (iI 1))), e_hp M V W, 0, 0) := by
    intro l7 l8 hh
    simp (disch := first | assumption | exact e_nk_i _ | exact e_nk_n | exact e_nk_r _ | exact e_bo_0 | exact e_bo_1 | exact e_bo_b _ | omega) only [e_cl_v, e_cl_x, e_add_0, e_add_s, Option.toList_some, Option.toList_none, List.cons_append, List.nil_append, iI_add, iI_sub, iI_mul, iI_lt, iI_eq, iI_le, r94_104, r94_106, r94_107, r94_110, r94_111, r94_114, r94_117, r94_119, r94_120, r94_121, r94_122, r94_124, r94_125, r94_128, r94_129, r94_132, r94_135, r94_138, r94_139, r94_142, r94_143, e2, e4, e5, e9]
    rw [if_pos hh.1]
    first | rw [if_pos hh.2] | rw [if_neg (fun y => y hh.2)]
  have s82 : ∀ b7 b8 : Bool, ((b7 = true ∨ b8 = true) ∧ scB K τ p = scE K τ q ∨ (mcA K τ (scW τ) p = mcA K τ (scW τ) q ∧ scB K τ p = scE K τ q + sT K (mcA K τ (scW τ) p) (K (τ q)) (K (τ p)))) → e_lim L xs (d + 3) 94 82 [some (.ref t), some (.ref 1), some (.int (iI p)), some (.int (iI q)), some (.int (iI (scB K τ p))), some (.int (iI (mcA K τ (scW τ) p))), some (.int (iI (tlA K τ (scW τ) p))), some (.int (bI b7)), some (.int (bI b8))] [] (e_hp M V W) = some (.inl (some (.int (iI 1))), e_hp M V W, 0, 0) := by
    intro b7 b8 hh
    by_cases hx : (b7 = true ∨ b8 = true) ∧ scB K τ p = scE K τ q
    · obtain ⟨hb, he⟩ := hx
      simp (disch := first | assumption | exact e_nk_i _ | exact e_nk_n | exact e_nk_r _ | exact e_bo_0 | exact e_bo_1 | exact e_bo_b _ | omega) only [e_cl_v, e_cl_x, e_add_0, e_add_s, Option.toList_some, Option.toList_none, List.cons_append, List.nil_append, iI_add, iI_sub, iI_mul, iI_lt, iI_eq, iI_le, r94_82, r94_84, r94_87, r94_89, r94_92, r94_94, r94_95, r94_96, r94_99, r94_102, r94_103, e8, bI_0]
      rcases hb with y | y
      · rw [if_neg (by rw [y]; decide), if_pos he]
      · by_cases y7 : b7 = false
        · rw [if_pos y7, if_neg (by rw [y]; decide), if_pos he]
        · rw [if_neg y7, if_pos he]
    · have h2 := s104 (some (.int (bI b7))) (some (.int (bI b8))) (hh.resolve_left hx)
      simp (disch := first | assumption | exact e_nk_i _ | exact e_nk_n | exact e_nk_r _ | exact e_bo_0 | exact e_bo_1 | exact e_bo_b _ | omega) only [e_cl_v, e_cl_x, e_add_0, e_add_s, Option.toList_some, Option.toList_none, List.cons_append, List.nil_append, iI_add, iI_sub, iI_mul, iI_lt, iI_eq, iI_le, r94_82, r94_84, r94_87, r94_89, r94_92, r94_94, r94_95, r94_96, r94_99, r94_102, r94_103, e8, bI_0]
      by_cases he : scB K τ p = scE K τ q
      · have n7 : b7 = false := by
          cases b7
          · rfl
          · exact absurd ⟨Or.inl rfl, he⟩ hx
        have n8 : b8 = false := by
          cases b8
          · rfl
          · exact absurd ⟨Or.inr rfl, he⟩ hx
        rw [if_pos n7, if_pos n8]
        exact h2
      · cases b7 <;> cases b8 <;> simp only [if_true, if_false, if_neg he, reduceCtorEq] <;> exact h2
  have fin := s82 (decide (τ p = τ q)) (decide (tlA K τ (scW τ) p ≠ -1 ∧ tlA K τ (scW τ) p = tlA K τ (scW τ) q)) (by
    rw [decide_eq_true_eq, decide_eq_true_eq]
    rcases hsp with ⟨x, y⟩ | ⟨x, y⟩ | ⟨x, y, z⟩
    · exact Or.inl ⟨Or.inl x, y⟩
    · exact Or.inr ⟨x, y⟩
    · exact Or.inl ⟨Or.inr ⟨x, y⟩, z⟩)
  have s56 : ∀ b7 : Bool, b7 = decide (τ p = τ q) → e_lim L xs (d + 3) 94 56 [some (.ref t), some (.ref 1), some (.int (iI p)), some (.int (iI q)), some (.int (iI (scB K τ p))), some (.int (iI (mcA K τ (scW τ) p))), some (.int (iI (tlA K τ (scW τ) p))), some (.int (bI b7)), none] [] (e_hp M V W) = some (.inl (some (.int (iI 1))), e_hp M V W, 0, 0) := by
    intro b7 hb
    rw [← hb] at fin
    simp (disch := first | assumption | exact e_nk_i _ | exact e_nk_n | exact e_nk_r _ | exact e_bo_0 | exact e_bo_1 | exact e_bo_b _ | omega) only [e_cl_v, e_cl_x, e_add_0, e_add_s, Option.toList_some, Option.toList_none, List.cons_append, List.nil_append, iI_add, iI_sub, iI_mul, iI_lt, iI_eq, iI_le, r94_56, r94_58, r94_59, r94_62, r94_64, r94_65, r94_68, r94_69, r94_72, r94_75, r94_76, r94_79, r94_80, e3, e6]
    by_cases c2 : tlA K τ (scW τ) p = -1
    · rw [if_pos c2]
      rw [decide_eq_false (fun y => y.1 c2), bI_f] at fin
      exact fin
    · rw [if_neg c2]
      by_cases c3 : tlA K τ (scW τ) p = tlA K τ (scW τ) q
      · rw [if_pos c3]
        rw [decide_eq_true ⟨c2, c3⟩, bI_t] at fin
        exact fin
      · rw [if_neg c3]
        rw [decide_eq_false (fun y => c3 y.2), bI_f] at fin
        exact fin
  have s56a := s56 _ rfl
  simp (disch := first | assumption | exact e_nk_i _ | exact e_nk_n | exact e_nk_r _ | exact e_bo_0 | exact e_bo_1 | exact e_bo_b _ | omega) only [e_cl_v, e_cl_x, e_add_0, e_add_s, Option.toList_some, Option.toList_none, List.cons_append, List.nil_append, iI_add, iI_sub, iI_mul, iI_lt, iI_eq, iI_le, r94_0, r94_1, r94_4, r94_5, r94_8, r94_10, r94_11, r94_14, r94_15, r94_18, r94_20, r94_21, r94_24, r94_25, r94_28, r94_30, r94_31, r94_34, r94_35, r94_38, r94_39, r94_42, r94_43, r94_46, r94_49, r94_50, r94_53, r94_54, e1, e2, e3, e4, e7]
  by_cases c1 : τ p = τ q
  · rw [if_pos c1]
    rw [decide_eq_true c1, bI_t] at s56a
    exact s56a
  · rw [if_neg c1]
    rw [decide_eq_false c1, bI_f] at s56a
    exact s56a
theorem tt_wrongCritical (ht : e_isT t) (hT : TT M t K τ k) (H : SH M 1 K) (hr : kR K) (hp : kP K) (hd : kD K) (hv : vP K τ k) : e_lim L xs (d + 4) 93 0 [some (.ref t), some (.ref 1), none, none, none, none] [] (e_hp M V W) = some (.inl (some (.int (iI 0))), e_hp M V W, 0, 0) := by
  obtain ⟨⟨t2, k0, k16⟩, -⟩ := hT.a1
  have e0 := tt_lastCritical (L := L) (xs := xs) (d := d + 1) (V := V) (W := W) ht hT hr hp hv
  have hl := lsW_rg (scE K τ) k0
  obtain ⟨n1, n2, n3⟩ := chN_sp (aK_rg K τ) (k := lsW (scE K τ) k) (by omega)
  simp (disch := first | assumption | exact e_nk_i _ | exact e_nk_n | exact e_nk_r _ | exact e_bo_0 | exact e_bo_1 | exact e_bo_b _ | omega) only [e_cl_v, e_cl_x, e_add_0, e_add_s, Option.toList_some, Option.toList_none, List.cons_append, List.nil_append, iI_add, iI_sub, iI_mul, iI_lt, iI_eq, iI_le, r93_0, r93_1, r93_2, r93_3, r93_6, r93_7, r93_8, e0]
  refine G_loopI (C := fun i => e_lim L xs (d + 4) 93 10 [some (.ref t), some (.ref 1), some (.int (iI 0)), some (.int (iI (chW (aK K τ) (lsW (scE K τ) k) i.toNat))), some (.int (iI i)), none] [] (e_hp M V W)) (i := 0) n1.1 (fun j a b hc => ?_) ?_
  · have c1 := n2 j.toNat (by omega)
    have c2 := ch_dn K τ ⟨k0, k16⟩ j.toNat
    rw [show (j + 1).toNat = j.toNat + 1 by omega, show chW (aK K τ) (lsW (scE K τ) k) (j.toNat + 1) = if chW (aK K τ) (lsW (scE K τ) k) j.toNat = -1 then -1 else aK K τ (chW (aK K τ) (lsW (scE K τ) k) j.toNat) from rfl, if_neg (by omega)] at hc
    generalize chW (aK K τ) (lsW (scE K τ) k) j.toNat = g at *
    have e1 := tt_criticalAhead (L := L) (xs := xs) (d := d) (V := V) (W := W) ht hT H hr hp hd hv (p := g) (by omega)
    have rg := aK_rg K τ g (by omega) (by omega)
    by_cases hz : aK K τ g = -1
    · rw [hz] at e1 hc
      rw [r93_10]
      simp (disch := first | assumption | exact e_nk_i _ | exact e_nk_n | exact e_nk_r _ | exact e_bo_0 | exact e_bo_1 | exact e_bo_b _ | omega) only [e_cl_v, e_cl_x, e_add_0, e_add_s, Option.toList_some, Option.toList_none, List.cons_append, List.nil_append, iI_add, iI_sub, iI_mul, iI_lt, iI_eq, iI_le, r93_12, r93_14, r93_17, r93_18, r93_19, r93_22, r93_23, r93_24, r93_25, r93_28, r93_30, r93_31, r93_33, r93_34, r93_37, r93_38, r93_39, r93_40, r93_42, r93_45, r93_48, r93_49, r93_52, r93_53, r93_54, r93_55, r93_57, r93_58, r93_61, e1]
      rw [if_pos (by omega), if_neg (by omega), if_pos trivial]
      exact G_less (by repeat (first | exact e_ll.rf | refine e_ll_c ?_ | refine e_ll_x ?_)) hc
    · have e2 := tt_beginsBy (L := L) (xs := xs) (d := d) (V := V) (W := W) ht hT H hr hp hd hv (p := g) (by omega) hz
      rw [r93_10]
      simp (disch := first | assumption | exact e_nk_i _ | exact e_nk_n | exact e_nk_r _ | exact e_bo_0 | exact e_bo_1 | exact e_bo_b _ | omega) only [e_cl_v, e_cl_x, e_add_0, e_add_s, Option.toList_some, Option.toList_none, List.cons_append, List.nil_append, iI_add, iI_sub, iI_mul, iI_lt, iI_eq, iI_le, r93_12, r93_14, r93_17, r93_18, r93_19, r93_22, r93_23, r93_24, r93_25, r93_28, r93_30, r93_31, r93_33, r93_34, r93_37, r93_38, r93_39, r93_40, r93_42, r93_45, r93_48, r93_49, r93_52, r93_53, r93_54, r93_55, r93_57, r93_58, r93_61, e1, e2]
      rw [if_pos (by omega), if_neg (by omega), if_neg hz]
      simp only [if_false, reduceCtorEq, Int.reduceEq]
      exact G_less (by repeat (first | exact e_ll.rf | refine e_ll_c ?_ | refine e_ll_x ?_)) hc
  · rw [n3, r93_10]
    simp (disch := first | assumption | exact e_nk_i _ | exact e_nk_n | exact e_nk_r _ | exact e_bo_0 | exact e_bo_1 | exact e_bo_b _ | omega) only [e_cl_v, e_cl_x, e_add_0, e_add_s, Option.toList_some, Option.toList_none, List.cons_append, List.nil_append, iI_add, iI_sub, iI_mul, iI_lt, iI_eq, iI_le, r93_12, r93_14, r93_17, r93_18, r93_19, r93_64, r93_65]
    simp
theorem tt_countErrors (ht : e_isT t) (hT : TT M t K τ k) (H : SH M 1 K) (hr : kR K) (hp : kP K) (hd : kD K) (hv : vP K τ k) (hf : ∀ p, 0 ≤ p → p < k → scB K τ p ≠ 2001) : e_lim L xs (d + 5) 90 0 [some (.ref t), some (.ref 1), none, none, none] [] (e_hp M V W) = some (.inl (some (.int (iI 0))), e_hp M V W, 0, 0) := by
  obtain ⟨⟨t2, k0, k16⟩, -⟩ := hT.a1
  have e0 := tt_latest (L := L) (xs := xs) (d := d + 2) (V := V) (W := W) ht hT hr hp hv
  have e9 := tt_wrongCritical (L := L) (xs := xs) (d := d) (V := V) (W := W) ht hT H hr hp hd hv
  have rX := mX_rg (f := scE K τ) (n := k) (c := 2001) k0 (by omega) (fun p x y => (sc_spI hr hp hv x (by omega)).1.2.2)
  have sec : e_lim L xs (d + 5) 90 43 [some (.ref t), some (.ref 1), some (.int (iI 0)), some (.int (iI (mX (scE K τ) k))), some (.int (iI 0))] [] (e_hp M V W) = some (.inl (some (.int (iI 0))), e_hp M V W, 0, 0) := by
    refine G_loopI (C := fun i => e_lim L xs (d + 5) 90 43 [some (.ref t), some (.ref 1), some (.int (iI 0)), some (.int (iI (mX (scE K τ) k))), some (.int (iI i))] [] (e_hp M V W)) (i := 0) (n := mX (scE K τ) k) (by omega) (fun j a b hc => ?_) ?_
    · have e1 := tt_countAtTime (L := L) (xs := xs) (d := d + 1) (V := V) (W := W) ht hT hr hp hv (x := j) (by omega)
      have e2 := m_shiftOf (L := L) (xs := xs) (d := d + 4) (h := e_hp M V W) (z := j) (by omega)
      have e3 := m_atI (L := L) (xs := xs) (d := d + 4) (M := M) (V := V) (W := W) (a := 6) (n := 3) si_6 (z := j % 24 / 8) (by omega) (by omega) (H.sf (i := j % 24 / 8) (by omega) (by omega))
      have rs := hr.wo (i := j % 24 / 8) (by omega) (by omega)
      have rb := bz_rg (scB K τ) (scE K τ) j k0
      have rm := sc_room hr hp hv hf (fun i a b => (hr.wo (i := i) a (by omega)).1) a k.toNat (by omega)
      rw [Int.toNat_of_nonneg k0] at rm
      rw [r90_43]
      simp (disch := first | assumption | exact e_nk_i _ | exact e_nk_n | exact e_nk_r _ | exact e_bo_0 | exact e_bo_1 | exact e_bo_b _ | omega) only [e_cl_v, e_cl_x, e_add_0, e_add_s, Option.toList_some, Option.toList_none, List.cons_append, List.nil_append, iI_add, iI_sub, iI_mul, iI_lt, iI_eq, iI_le, r90_45, r90_46, r90_49, r90_50, r90_51, r90_53, r90_56, r90_57, r90_60, r90_62, r90_65, r90_68, r90_71, r90_72, r90_75, r90_76, r90_77, r90_78, r90_81, e1, e2, e3]
      rw [if_pos b, if_neg (by omega)]
      exact hc
    · rw [r90_43]
      simp (disch := first | assumption | exact e_nk_i _ | exact e_nk_n | exact e_nk_r _ | exact e_bo_0 | exact e_bo_1 | exact e_bo_b _ | omega) only [e_cl_v, e_cl_x, e_add_0, e_add_s, Option.toList_some, Option.toList_none, List.cons_append, List.nil_append, iI_add, iI_sub, iI_mul, iI_lt, iI_eq, iI_le, r90_45, r90_46, r90_84, r90_85, r90_86, r90_87, r90_90, r90_91, e9]
      rw [if_neg (by omega)]
      rfl
  simp (disch := first | assumption | exact e_nk_i _ | exact e_nk_n | exact e_nk_r _ | exact e_bo_0 | exact e_bo_1 | exact e_bo_b _ | omega) only [e_cl_v, e_cl_x, e_add_0, e_add_s, Option.toList_some, Option.toList_none, List.cons_append, List.nil_append, iI_add, iI_sub, iI_mul, iI_lt, iI_eq, iI_le, r90_0, r90_1, r90_2, r90_3]
  refine G_loopI (C := fun i => e_lim L xs (d + 5) 90 4 [some (.ref t), some (.ref 1), some (.int (iI 0)), some (.int (iI i)), none] [] (e_hp M V W)) (i := 0) k0 (fun j a b hc => ?_) ?_
  · have e1 := tt_isWrong (L := L) (xs := xs) (d := d + 1) (V := V) (W := W) ht hT H hr hp hd hv hf (p := j) ⟨a, b⟩
    rw [r90_4]
    simp (disch := first | assumption | exact e_nk_i _ | exact e_nk_n | exact e_nk_r _ | exact e_bo_0 | exact e_bo_1 | exact e_bo_b _ | omega) only [e_cl_v, e_cl_x, e_add_0, e_add_s, Option.toList_some, Option.toList_none, List.cons_append, List.nil_append, iI_add, iI_sub, iI_mul, iI_lt, iI_eq, iI_le, r90_5, r90_6, r90_9, r90_12, r90_13, r90_14, r90_15, r90_16, r90_19, r90_22, r90_23, r90_26, r90_27, r90_28, r90_29, r90_32, t2, e1]
    rw [if_pos b]
    simpa using hc
  · rw [r90_4]
    simp (disch := first | assumption | exact e_nk_i _ | exact e_nk_n | exact e_nk_r _ | exact e_bo_0 | exact e_bo_1 | exact e_bo_b _ | omega) only [e_cl_v, e_cl_x, e_add_0, e_add_s, Option.toList_some, Option.toList_none, List.cons_append, List.nil_append, iI_add, iI_sub, iI_mul, iI_lt, iI_eq, iI_le, r90_5, r90_6, r90_9, r90_35, r90_36, r90_39, r90_40, r90_41, t2, e0]
    rw [if_neg (by omega)]
    exact sec
end Ec17
