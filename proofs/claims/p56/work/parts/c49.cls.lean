section Ec49
variable {L : Nat} {xs : Nat → Int32} {d : Nat} {M M2 M3 : e_MI} {V : e_ML} {W : e_MD} {K K1 K2 : e_St} {S : Int → e_St} {h : e_H} {s s0 s1 t t2 a b2 n : Nat} {c o w z m k q p i f l b e mc tl T x y v N : Int} {sc bb : Bool} {ρ ν μ χ β ε τ τ2 u : Int → Int}
/-! rows by rules in the class -/
theorem ft_rt (hg : kG K) (hv : vR K τ) : ft (rtS K τ) = fiR K τ (aW K) := by
  obtain ⟨hr, ⟨ha, -⟩, hp, hk, hd⟩ := hg
  have h : eqK K (rtS K τ) := fun z hz => by
    unfold rtS
    exact rwS_n (by omega)
  unfold ft
  rw [rtS_aW hr, fiR_tau (τ2 := τ) ha.1 (fun p a b => rtS_row ha.2 a b), h.fi hr ha.1 (vR.vp hr hv)]
theorem edW_rt (hg : kG K) (hv : vR K τ) : edW (rtS K τ) = mX (scE K τ) (aW K) := by
  obtain ⟨hr, ⟨ha, -⟩, hp, hk, hd⟩ := hg
  have h : eqK K (rtS K τ) := fun z hz => by
    unfold rtS
    exact rwS_n (by omega)
  unfold edW
  rw [rtS_aW hr]
  refine mX_cong ha.1 fun p a b => ?_
  show scE (rtS K τ) (rwK (rtS K τ)) p = _
  rw [(sc_tauI (K := rtS K τ) (τ := rwK (rtS K τ)) (τ2 := τ) (fun p a b => rtS_row ha.2 a b) a b).2.1]
  have := (h.sc hr (vR.vp hr hv) p.toNat p.toNat (Nat.le_refl _) (by omega)).2
  rw [Int.toNat_of_nonneg a] at this
  exact this
theorem k_rankByRule (H : SH M 1 K) (hr : kR K) (hq : 0 ≤ q ∧ q ≤ 5) (ho : 0 ≤ o ∧ o < K 310) (hw : 0 ≤ w ∧ w < K (40 + o)) : e_lim L xs (d + 3) 7 0 [some (.ref 1), some (.int (iI o)), some (.int (iI w)), some (.int (iI q))] [] (e_hp M V W) = some (.inl (some (.int (iI (kyW K q o w)))), e_hp M V W, 0, 0) := by
  have hn := hr.n
  have hwk := hr.wk (o := o) ho.1 (by omega)
  have e1 := s_timeOf (L := L) (xs := xs) (d := d) (V := V) (W := W) H hr ho.1 ho.2 hw.1 hw.2
  have e2 := s_timeFrom (L := L) (xs := xs) (d := d) (V := V) (W := W) H hr ho.1 ho.2 (f := w) (by omega)
  have e3 := s_orderCell (L := L) (xs := xs) (d := d + 1) (V := V) (W := W) H hn.2 ho.1 ho.2 (j := 3) (by omega) (by omega)
  have e4 := s_orderCell (L := L) (xs := xs) (d := d + 1) (V := V) (W := W) H hn.2 ho.1 ho.2 (j := 4) (by omega) (by omega)
  rw [show 8 * 3 + o = 24 + o by omega] at e3
  rw [show 8 * 4 + o = 32 + o by omega] at e4
  simp (disch := first | assumption | exact e_nk_i _ | exact e_nk_n | exact e_nk_r _ | exact e_bo_0 | exact e_bo_1 | exact e_bo_b _ | omega) only [e_cl_v, e_cl_x, e_add_0, e_add_s, Option.toList_some, Option.toList_none, List.cons_append, List.nil_append, iI_add, iI_sub, iI_mul, iI_lt, iI_eq, iI_le, r7_0]
  rw [rk_sw q hq]
  unfold kyW
  simp only [Int.zero_sub]
  by_cases c0 : q = 0
  · subst c0
    simp only [show ¬ (0 : Int) = 1 by decide, show ¬ (0 : Int) = 2 by decide, show ¬ (0 : Int) = 3 by decide, show ¬ (0 : Int) = 4 by decide, show ¬ (0 : Int) = 5 by decide, if_true, if_false]
    simp (disch := first | assumption | exact e_nk_i _ | exact e_nk_n | exact e_nk_r _ | exact e_bo_0 | exact e_bo_1 | exact e_bo_b _ | omega) only [e_cl_v, e_cl_x, e_add_0, e_add_s, Option.toList_some, Option.toList_none, List.cons_append, List.nil_append, iI_add, iI_sub, iI_mul, iI_lt, iI_eq, iI_le, r7_36, r7_37, r7_38, r7_39, r7_42, r7_43, r7_44, r7_45, r7_46, r7_49, r7_50, r7_51, r7_52, r7_53, r7_54, r7_57, r7_58, r7_59, r7_60, r7_61, r7_64, r7_65, r7_66, r7_67, r7_68, r7_69, r7_72, r7_73, r7_74, r7_75]
  · simp only [if_neg c0]
    by_cases c1 : q = 1
    · simp only [if_pos c1]
      simp (disch := first | assumption | exact e_nk_i _ | exact e_nk_n | exact e_nk_r _ | exact e_bo_0 | exact e_bo_1 | exact e_bo_b _ | omega) only [e_cl_v, e_cl_x, e_add_0, e_add_s, Option.toList_some, Option.toList_none, List.cons_append, List.nil_append, iI_add, iI_sub, iI_mul, iI_lt, iI_eq, iI_le, r7_36, r7_37, r7_38, r7_39, r7_42, r7_43, r7_44, r7_45, r7_46, r7_49, r7_50, r7_51, r7_52, r7_53, r7_54, r7_57, r7_58, r7_59, r7_60, r7_61, r7_64, r7_65, r7_66, r7_67, r7_68, r7_69, r7_72, r7_73, r7_74, r7_75, e1]
    · simp only [if_neg c1]
      by_cases c2 : q = 2
      · simp only [if_pos c2]
        simp (disch := first | assumption | exact e_nk_i _ | exact e_nk_n | exact e_nk_r _ | exact e_bo_0 | exact e_bo_1 | exact e_bo_b _ | omega) only [e_cl_v, e_cl_x, e_add_0, e_add_s, Option.toList_some, Option.toList_none, List.cons_append, List.nil_append, iI_add, iI_sub, iI_mul, iI_lt, iI_eq, iI_le, r7_36, r7_37, r7_38, r7_39, r7_42, r7_43, r7_44, r7_45, r7_46, r7_49, r7_50, r7_51, r7_52, r7_53, r7_54, r7_57, r7_58, r7_59, r7_60, r7_61, r7_64, r7_65, r7_66, r7_67, r7_68, r7_69, r7_72, r7_73, r7_74, r7_75, e1, iI_neg]
      · simp only [if_neg c2]
        by_cases c3 : q = 3
        · simp only [if_pos c3]
          simp (disch := first | assumption | exact e_nk_i _ | exact e_nk_n | exact e_nk_r _ | exact e_bo_0 | exact e_bo_1 | exact e_bo_b _ | omega) only [e_cl_v, e_cl_x, e_add_0, e_add_s, Option.toList_some, Option.toList_none, List.cons_append, List.nil_append, iI_add, iI_sub, iI_mul, iI_lt, iI_eq, iI_le, r7_36, r7_37, r7_38, r7_39, r7_42, r7_43, r7_44, r7_45, r7_46, r7_49, r7_50, r7_51, r7_52, r7_53, r7_54, r7_57, r7_58, r7_59, r7_60, r7_61, r7_64, r7_65, r7_66, r7_67, r7_68, r7_69, r7_72, r7_73, r7_74, r7_75, e3]
        · simp only [if_neg c3]
          by_cases c4 : q = 4
          · simp only [if_pos c4]
            simp (disch := first | assumption | exact e_nk_i _ | exact e_nk_n | exact e_nk_r _ | exact e_bo_0 | exact e_bo_1 | exact e_bo_b _ | omega) only [e_cl_v, e_cl_x, e_add_0, e_add_s, Option.toList_some, Option.toList_none, List.cons_append, List.nil_append, iI_add, iI_sub, iI_mul, iI_lt, iI_eq, iI_le, r7_36, r7_37, r7_38, r7_39, r7_42, r7_43, r7_44, r7_45, r7_46, r7_49, r7_50, r7_51, r7_52, r7_53, r7_54, r7_57, r7_58, r7_59, r7_60, r7_61, r7_64, r7_65, r7_66, r7_67, r7_68, r7_69, r7_72, r7_73, r7_74, r7_75, e4, iI_neg]
          · have c5 : q = 5 := by omega
            simp only [if_neg c4, if_pos c5]
            simp (disch := first | assumption | exact e_nk_i _ | exact e_nk_n | exact e_nk_r _ | exact e_bo_0 | exact e_bo_1 | exact e_bo_b _ | omega) only [e_cl_v, e_cl_x, e_add_0, e_add_s, Option.toList_some, Option.toList_none, List.cons_append, List.nil_append, iI_add, iI_sub, iI_mul, iI_lt, iI_eq, iI_le, r7_36, r7_37, r7_38, r7_39, r7_42, r7_43, r7_44, r7_45, r7_46, r7_49, r7_50, r7_51, r7_52, r7_53, r7_54, r7_57, r7_58, r7_59, r7_60, r7_61, r7_64, r7_65, r7_66, r7_67, r7_68, r7_69, r7_72, r7_73, r7_74, r7_75, e2, iI_neg]
theorem plC_rg (hr : kR K) (hp : kP K) (h : pfx K τ k) (hk : 0 ≤ k) : ∀ o : Nat, (o : Int) ≤ K 310 → (-1 ≤ (plC K q τ k o).1 ∧ (plC K q τ k o).1 < 8) ∧ (0 ≤ (plC K q τ k o).2.1 ∧ (plC K q τ k o).2.1 ≤ 2001) ∧ -1000 ≤ (plC K q τ k o).2.2 ∧ (plC K q τ k o).2.2 ≤ 1000
  | 0, _ => by
    unfold plC
    simp
  | o + 1, ho => by
    have ih := plC_rg hr hp h hk o (by omega)
    have hn := hr.n
    unfold plC
    split
    · exact ih
    · next h1 =>
      split
      · exact ih
      · have hc := h.2 o (by omega) (by omega)
        have hwk := hr.wk (o := o) (by omega) (by omega)
        have hc0 := cnt_rg τ o hk
        have hx2 := h.up hk (o := o) ⟨by omega, by omega⟩ (by omega)
        have hs := (sc_spI hr hp hx2.vp hk (by omega)).1.1
        have hy := kyW_rg (q := q) hr (o := o) (w := cnt τ o k) (by omega) (by omega)
        exact ⟨by simp only; omega, hs, hy⟩
theorem k_chooseByRule (H : SH M 1 K) (hr : kR K) (hd : kD K) (hp : kP K) (hx : pfx K τ k) (hT : TT M 149 K τ k) (hk : 0 ≤ k ∧ k < 16) (hq : 0 ≤ q ∧ q ≤ 5) : e_lim L xs (d + 5) 6 0 [some (.ref 165), some (.ref 1), some (.ref 149), some (.int (iI q)), none, none, none, none, none, none, none] [] (e_hp M V W) = some (.inl (some (.int (iI (plC K q τ k (K 310).toNat).1))), e_hp M V W, 0, 0) := by
  have hn := hr.n
  have c0 := H.cn
  have main : ∀ l8 l9 l10 : Option Value, e_lim L xs (d + 5) 6 12 [some (.ref 165), some (.ref 1), some (.ref 149), some (.int (iI q)), some (.int (iI (plC K q τ k (0 : Int).toNat).1)), some (.int (iI (plC K q τ k (0 : Int).toNat).2.1)), some (.int (iI (plC K q τ k (0 : Int).toNat).2.2)), some (.int (iI 0)), l8, l9, l10] [] (e_hp M V W) = some (.inl (some (.int (iI (plC K q τ k (K 310).toNat).1))), e_hp M V W, 0, 0) := by
    intro l8 l9 l10
    refine G_less (l := [some (.ref 165), some (.ref 1), some (.ref 149), some (.int (iI q)), some (.int (iI (plC K q τ k (0 : Int).toNat).1)), some (.int (iI (plC K q τ k (0 : Int).toNat).2.1)), some (.int (iI (plC K q τ k (0 : Int).toNat).2.2)), some (.int (iI 0)), l8, l9, l10]) (l2 := [some (.ref 165), some (.ref 1), some (.ref 149), some (.int (iI q)), some (.int (iI (plC K q τ k (0 : Int).toNat).1)), some (.int (iI (plC K q τ k (0 : Int).toNat).2.1)), some (.int (iI (plC K q τ k (0 : Int).toNat).2.2)), some (.int (iI 0)), none, none, none]) (by repeat (first | exact e_ll.rf | refine e_ll_c ?_ | refine e_ll_x ?_)) ?_
    refine G_loopI (C := fun i => e_lim L xs (d + 5) 6 12 [some (.ref 165), some (.ref 1), some (.ref 149), some (.int (iI q)), some (.int (iI (plC K q τ k i.toNat).1)), some (.int (iI (plC K q τ k i.toNat).2.1)), some (.int (iI (plC K q τ k i.toNat).2.2)), some (.int (iI i)), none, none, none] [] (e_hp M V W)) (i := 0) hn.1 (fun j a b hc => ?_) ?_
    · have e1 := tt_placedOf (L := L) (xs := xs) (d := d + 3) (V := V) (W := W) e_isT_1 hT (o := j) ⟨a, by omega⟩
      have e2 := s_worksIn (L := L) (xs := xs) (d := d + 3) (V := V) (W := W) H hn.2 a b
      have hwk := hr.wk (o := j) a (by omega)
      have hcj := hx.2 j a b
      have hc0 := cnt_rg τ j hk.1
      have hst : plC K q τ k (j + 1).toNat = if cnt τ j k = K (40 + j) then plC K q τ k j.toNat else if (plC K q τ k j.toNat).1 ≠ -1 ∧ ((plC K q τ k j.toNat).2.1 < scB K (uI τ k j) k ∨ (scB K (uI τ k j) k = (plC K q τ k j.toNat).2.1 ∧ (plC K q τ k j.toNat).2.2 ≤ kyW K q j (cnt τ j k))) then plC K q τ k j.toNat else (j, scB K (uI τ k j) k, kyW K q j (cnt τ j k)) := by
        rw [show (j + 1).toNat = j.toNat + 1 by omega]
        show (if cnt τ (j.toNat : Int) k = K (40 + (j.toNat : Int)) then plC K q τ k j.toNat else if (plC K q τ k j.toNat).1 ≠ -1 ∧ ((plC K q τ k j.toNat).2.1 < scB K (uI τ k (j.toNat : Int)) k ∨ (scB K (uI τ k (j.toNat : Int)) k = (plC K q τ k j.toNat).2.1 ∧ (plC K q τ k j.toNat).2.2 ≤ kyW K q (j.toNat : Int) (cnt τ (j.toNat : Int) k))) then plC K q τ k j.toNat else ((j.toNat : Int), scB K (uI τ k (j.toNat : Int)) k, kyW K q (j.toNat : Int) (cnt τ (j.toNat : Int) k))) = _
        rw [Int.toNat_of_nonneg a]
      rw [hst] at hc
      obtain ⟨g1, g2, g3⟩ := plC_rg (q := q) hr hp hx hk.1 j.toNat (by omega)
      generalize plC K q τ k j.toNat = s at *
      obtain ⟨s1, s2, s3⟩ := s
      simp only at hc g1 g2 g3 ⊢
      rw [r6_12]
      by_cases h1 : cnt τ j k = K (40 + j)
      · rw [if_pos h1] at hc
        simp (disch := first | assumption | exact e_nk_i _ | exact e_nk_n | exact e_nk_r _ | exact e_bo_0 | exact e_bo_1 | exact e_bo_b _ | omega) only [e_cl_v, e_cl_x, e_add_0, e_add_s, Option.toList_some, Option.toList_none, List.cons_append, List.nil_append, iI_add, iI_sub, iI_mul, iI_lt, iI_eq, iI_le, r6_14, r6_15, r6_18, r6_21, r6_22, r6_24, r6_27, r6_29, r6_31, r6_32, r6_34, r6_37, r6_99, r6_102, c0, e1, e2]
        rw [if_pos b, if_neg (by omega)]
        exact G_less (by repeat (first | exact e_ll.rf | refine e_ll_c ?_ | refine e_ll_x ?_)) hc
      · rw [if_neg h1] at hc
        have hx2 := hx.up hk.1 (o := j) ⟨a, b⟩ (by omega)
        have hs := (sc_spI hr hp hx2.vp hk.1 (by omega)).1.1
        have hy := kyW_rg (q := q) hr (o := j) (w := cnt τ j k) (by omega) (by omega)
        have e3 := tg_earliest (L := L) (xs := xs) (d := d) (V := V) (W := W) e_isT_1 H hr hd hp hx hT hk (o := j) ⟨a, b⟩ (by omega)
        have e4 := k_rankByRule (L := L) (xs := xs) (d := d + 1) (V := V) (W := W) H hr hq (o := j) ⟨a, b⟩ (w := cnt τ j k) ⟨hc0.1, by omega⟩
        generalize scB K (uI τ k j) k = bg at *
        generalize kyW K q j (cnt τ j k) = ky at *
        simp (disch := first | assumption | exact e_nk_i _ | exact e_nk_n | exact e_nk_r _ | exact e_bo_0 | exact e_bo_1 | exact e_bo_b _ | omega) only [e_cl_v, e_cl_x, e_add_0, e_add_s, Option.toList_some, Option.toList_none, List.cons_append, List.nil_append, iI_add, iI_sub, iI_mul, iI_lt, iI_eq, iI_le, r6_14, r6_15, r6_18, r6_21, r6_22, r6_24, r6_27, r6_29, r6_31, r6_32, r6_34, r6_37, r6_40, r6_41, r6_42, r6_44, r6_47, r6_49, r6_50, r6_52, r6_54, r6_55, r6_58, r6_60, r6_62, r6_63, r6_66, r6_68, r6_70, r6_73, r6_75, r6_77, r6_80, r6_82, r6_84, r6_87, r6_89, r6_91, r6_93, r6_95, r6_97, r6_99, r6_102, c0, e1, e2, e3, e4]
        rw [if_pos b, if_pos (by omega)]
        by_cases h2 : s1 = -1
        · rw [if_pos h2]
          rw [if_neg (fun y => y.1 h2)] at hc
          exact G_less (by repeat (first | exact e_ll.rf | refine e_ll_c ?_ | refine e_ll_x ?_)) hc
        · rw [if_neg h2]
          by_cases h3 : bg < s2
          · rw [if_pos h3]
            rw [if_neg (by omega)] at hc
            exact G_less (by repeat (first | exact e_ll.rf | refine e_ll_c ?_ | refine e_ll_x ?_)) hc
          · rw [if_neg h3]
            by_cases h4 : bg = s2
            · rw [if_pos h4]
              by_cases h5 : ky < s3
              · rw [if_pos h5]
                rw [if_neg (by omega)] at hc
                exact G_less (by repeat (first | exact e_ll.rf | refine e_ll_c ?_ | refine e_ll_x ?_)) hc
              · rw [if_neg h5]
                rw [if_pos (by omega)] at hc
                exact G_less (by repeat (first | exact e_ll.rf | refine e_ll_c ?_ | refine e_ll_x ?_)) hc
            · rw [if_neg h4]
              rw [if_pos (by omega)] at hc
              exact G_less (by repeat (first | exact e_ll.rf | refine e_ll_c ?_ | refine e_ll_x ?_)) hc
    · rw [r6_12]
      simp (disch := first | assumption | exact e_nk_i _ | exact e_nk_n | exact e_nk_r _ | exact e_bo_0 | exact e_bo_1 | exact e_bo_b _ | omega) only [e_cl_v, e_cl_x, e_add_0, e_add_s, Option.toList_some, Option.toList_none, List.cons_append, List.nil_append, iI_add, iI_sub, iI_mul, iI_lt, iI_eq, iI_le, r6_14, r6_15, r6_18, r6_105, r6_107, c0]
      rw [if_neg (by omega)]
  have main' : e_lim L xs (d + 5) 6 12 [some (.ref 165), some (.ref 1), some (.ref 149), some (.int (iI q)), some (.int (iI (-1))), some (.int (iI 0)), some (.int (iI 0)), some (.int (iI 0)), none, none, none] [] (e_hp M V W) = some (.inl (some (.int (iI (plC K q τ k (K 310).toNat).1))), e_hp M V W, 0, 0) := main none none none
  simp (disch := first | assumption | exact e_nk_i _ | exact e_nk_n | exact e_nk_r _ | exact e_bo_0 | exact e_bo_1 | exact e_bo_b _ | omega) only [e_cl_v, e_cl_x, e_add_0, e_add_s, Option.toList_some, Option.toList_none, List.cons_append, List.nil_append, iI_add, iI_sub, iI_mul, iI_lt, iI_eq, iI_le, r6_0, r6_1, r6_3, r6_4, r6_6, r6_7, r6_9, r6_10, main']
theorem TT.cr (h : TT M t K τ k) : e_ar (M (t + 1)) k τ := h.a1.2.1
theorem t_copyRow (hT : TT M 149 K τ k) (ha : e_isI a 16) (hat : a < 149 ∨ 164 < a) : ∃ g : Nat → Int32, e_lim L xs (d + 2) 76 0 [some (.ref 149), some (.ref a)] [] (e_hp M V W) = some (.inl none, e_hp (e_u M a g) V W, 0, 0) ∧ e_ar g k τ := by
  obtain ⟨g, e1, h1⟩ := m_copyN (L := L) (xs := xs) (d := d) (M := M) (V := V) (W := W) (a := 150) (b2 := a) si_150 ha
  have hc := hT.a1
  have ht : e_isT 149 := e_isT_1
  refine ⟨g, ?_, fun z x y => by rw [h1 _ (by omega)]; exact hc.2.1 z x y⟩
  simp (disch := first | assumption | exact e_nk_i _ | exact e_nk_n | exact e_nk_r _ | exact e_bo_0 | exact e_bo_1 | exact e_bo_b _ | omega) only [e_cl_v, e_cl_x, e_add_0, e_add_s, Option.toList_some, Option.toList_none, List.cons_append, List.nil_append, iI_add, iI_sub, iI_mul, iI_lt, iI_eq, iI_le, r76_0, r76_1, r76_4, r76_5, r76_8, e1]
theorem k_makeByRule (H : SH M 1 K) (hg : kG K) (hT : TG0 M 149) (hq : 0 ≤ q ∧ q ≤ 5) : ∃ M2 : e_MI, e_lim L xs (d + 6) 5 0 [some (.ref 165), some (.ref 1), some (.ref 149), some (.int (iI q)), none, none] [] (e_hp M V W) = some (.inl none, e_hp M2 V W, 0, 0) ∧ e_ar (M2 167) (aW K) (plR K q) ∧ TG0 M2 149 ∧ ∀ a, a ≠ 167 → a < 149 ∨ 164 < a → M2 a = M a := by
  obtain ⟨hr, ⟨ha, -⟩, hp, hk9, hd⟩ := hg
  obtain ⟨M1, e1, hT1, f1, z1⟩ := tg_restart (L := L) (xs := xs) (d := d + 2) (V := V) (W := W) e_isT_1 (by omega) H hr hT (plT K q 0)
  have key := G_lp (i := 0) (n := aW K) (I := fun i M4 => TT M4 149 K (plT K q i.toNat) i ∧ ∀ a, a < 149 ∨ 164 < a → M4 a = M a) (P := fun i M4 => ∀ l5 : Option Value, ∃ M2 : e_MI, e_lim L xs (d + 6) 5 8 [some (.ref 165), some (.ref 1), some (.ref 149), some (.int (iI q)), some (.int (iI i)), l5] [] (e_hp M4 V W) = some (.inl none, e_hp M2 V W, 0, 0) ∧ e_ar (M2 167) (aW K) (plR K q) ∧ TG0 M2 149 ∧ ∀ a, a ≠ 167 → a < 149 ∨ 164 < a → M2 a = M a) (fun j M4 a b hI hc => ?_) (fun M4 hI => ?_) ha.1 M1 ⟨hT1, fun a y => f1 a (by omega)⟩ none
  · obtain ⟨M2, e, r⟩ := key
    refine ⟨M2, ?_, r⟩
    rw [← e]
    simp (disch := first | assumption | exact e_nk_i _ | exact e_nk_n | exact e_nk_r _ | exact e_bo_0 | exact e_bo_1 | exact e_bo_b _ | omega) only [e_cl_v, e_cl_x, e_add_0, e_add_s, Option.toList_some, Option.toList_none, List.cons_append, List.nil_append, iI_add, iI_sub, iI_mul, iI_lt, iI_eq, iI_le, r5_0, r5_1, r5_2, r5_5, r5_6, e1]
  · intro l5
    obtain ⟨hT4, hF⟩ := hI
    have H4 : SH M4 1 K := H.of fun a x y => hF a (by omega)
    have c1 := H4.cw
    have hpf := plT_pfx (q := q) hr j.toNat (by omega)
    rw [Int.toNat_of_nonneg a] at hpf
    obtain ⟨c3, c4⟩ := plC_ok (q := q) hr hpf a b
    have hst : plT K q (j + 1).toNat = uI (plT K q j.toNat) j (plC K q (plT K q j.toNat) j (K 310).toNat).1 := by
      rw [show (j + 1).toNat = j.toNat + 1 by omega]
      show uI (plT K q j.toNat) (j.toNat : Int) (plC K q (plT K q j.toNat) (j.toNat : Int) (K 310).toNat).1 = _
      rw [Int.toNat_of_nonneg a]
    have e2 := k_chooseByRule (L := L) (xs := xs) (d := d) (V := V) (W := W) H4 hr hd hp hpf hT4 ⟨a, by omega⟩ hq
    have e3 := tg_earliest (L := L) (xs := xs) (d := d + 1) (V := V) (W := W) e_isT_1 H4 hr hd hp hpf hT4 ⟨a, by omega⟩ (o := (plC K q (plT K q j.toNat) j (K 310).toNat).1) c3 c4
    obtain ⟨M5, e4, hT5, f5, z5⟩ := tg_layE (L := L) (xs := xs) (d := d + 2) (V := V) (W := W) e_isT_1 (by omega) H4 hr hp hpf hT4 ⟨a, by omega⟩ (o := (plC K q (plT K q j.toNat) j (K 310).toNat).1) c3 c4
    rw [← hst] at hT5
    obtain ⟨M2, e, r⟩ := hc M5 ⟨hT5, fun a y => by rw [f5 a (by omega), hF a y]⟩ (some (.int (iI (plC K q (plT K q j.toNat) j (K 310).toNat).1)))
    refine ⟨M2, ?_, r⟩
    rw [← e, r5_8]
    simp (disch := first | assumption | exact e_nk_i _ | exact e_nk_n | exact e_nk_r _ | exact e_bo_0 | exact e_bo_1 | exact e_bo_b _ | omega) only [e_cl_v, e_cl_x, e_add_0, e_add_s, Option.toList_some, Option.toList_none, List.cons_append, List.nil_append, iI_add, iI_sub, iI_mul, iI_lt, iI_eq, iI_le, r5_10, r5_11, r5_14, r5_17, r5_18, r5_19, r5_20, r5_21, r5_24, r5_26, r5_27, r5_28, r5_30, r5_31, r5_32, r5_34, r5_37, r5_40, r5_43, c1, e2, e3, e4]
    rw [if_pos b]
  · intro l5
    obtain ⟨hT4, hF⟩ := hI
    have c1 : M4 1 1 = iI (aW K) := by rw [hF 1 (by omega)]; exact H.cw
    obtain ⟨g, e2, hA⟩ := t_copyRow (L := L) (xs := xs) (d := d + 3) (V := V) (W := W) (a := 167) hT4 si_167 (by omega)
    refine ⟨e_u M4 167 g, ?_, by rw [e_u_s]; exact hA, hT4.g.of fun a x y => e_u_n _ _ (by omega), fun a x y => by rw [e_u_n _ _ x, hF a y]⟩
    rw [r5_8]
    simp (disch := first | assumption | exact e_nk_i _ | exact e_nk_n | exact e_nk_r _ | exact e_bo_0 | exact e_bo_1 | exact e_bo_b _ | omega) only [e_cl_v, e_cl_x, e_add_0, e_add_s, Option.toList_some, Option.toList_none, List.cons_append, List.nil_append, iI_add, iI_sub, iI_mul, iI_lt, iI_eq, iI_le, r5_10, r5_11, r5_14, r5_46, r5_47, r5_48, r5_51, r5_54, c1, e2]
    rw [if_neg (by omega)]
theorem x_plan (H : CK M K c S) (hg : kG K) (hq : i32 q) : ∃ M2 : e_MI, e_lim L xs (d + 7) 112 0 [some (.ref 0), some (.int (iI q))] [] (e_hp M V W) = (if 0 ≤ q ∧ q ≤ 5 then some (.inl (some (.int (bI (fiR K (plR K q) (aW K))))), e_hp M2 V W, 0, 0) else some (.inr 0, e_hp M2 V W, 1, 6)) ∧ (0 ≤ q ∧ q ≤ 5 → CK M2 (pnK K q) (svC c) (svS c S K)) ∧ (¬(0 ≤ q ∧ q ≤ 5) → M2 = M) ∧ ∀ a, 178 < a → M2 a = M a := by
  have i1 := m_isWithin (L := L) (xs := xs) (d := d + 6) (h := e_hp M V W) (x := q) (y2 := 0) (z2 := 5) hq (by omega) (by omega)
  have r1 := m_requireArgument (L := L) (xs := xs) (d := d + 6) (h := e_hp M V W) (decide (0 ≤ q ∧ q ≤ 5))
  by_cases h0 : 0 ≤ q ∧ q ≤ 5
  · rw [if_pos (decide_eq_true h0)] at r1
    obtain ⟨M1, e1, h1, h2, h3, h4, hf⟩ := x_rem (L := L) (xs := xs) (d := d + 3) (V := V) (W := W) H hg
    obtain ⟨M2, e2, hA, hT2, hf2⟩ := k_makeByRule (L := L) (xs := xs) (d := d) (V := V) (W := W) h1 hg h4 h0
    have hv := plR_v (q := q) hg.1 hg.2.1.1.1
    obtain ⟨M3, e3, hS, hP, hf3⟩ := x_takeRow (L := L) (xs := xs) (d := d) (M := M2) (V := V) (W := W) (h1.of fun a x y => hf2 a (by omega) (by omega)) hg (h3.g.of fun a x y => hf2 a (by omega) (by omega)) si_167 hA hv
    rw [ft_rt hg hv] at e3
    refine ⟨M3, ?_, fun _ => ⟨hS, h2.of fun a x y => by rw [hf3 a (by omega) (by omega), hf2 a (by omega) (by omega)], hP, hT2.of fun a x y => hf3 a (by omega) (by omega)⟩, fun y => absurd h0 y, fun a y => by rw [hf3 a (by omega) (by omega), hf2 a (by omega) (by omega), hf a (by omega)]⟩
    rw [if_pos h0]
    simp (disch := first | assumption | exact e_nk_i _ | exact e_nk_n | exact e_nk_r _ | exact e_bo_0 | exact e_bo_1 | exact e_bo_b _ | omega) only [e_cl_v, e_cl_x, e_add_0, e_add_s, Option.toList_some, Option.toList_none, List.cons_append, List.nil_append, iI_add, iI_sub, iI_mul, iI_lt, iI_eq, iI_le, r112_0, r112_1, r112_2, r112_3, r112_6, r112_9, r112_10, r112_13, r112_14, r112_17, r112_20, r112_21, r112_24, r112_25, r112_28, r112_29, r112_32, r112_33, r112_36, r112_37, r112_38, r112_41, r112_44, r112_47, i1, r1, e1, e2, e3]
  · rw [if_neg (by rw [decide_eq_true_eq]; exact h0)] at r1
    refine ⟨M, ?_, fun y => absurd y h0, fun _ => rfl, fun _ _ => rfl⟩
    rw [if_neg h0]
    simp (disch := first | assumption | exact e_nk_i _ | exact e_nk_n | exact e_nk_r _ | exact e_bo_0 | exact e_bo_1 | exact e_bo_b _ | omega) only [e_cl_v, e_cl_x, e_add_0, e_add_s, Option.toList_some, Option.toList_none, List.cons_append, List.nil_append, iI_add, iI_sub, iI_mul, iI_lt, iI_eq, iI_le, r112_0, r112_1, r112_2, r112_3, r112_6, r112_9, r112_10, r112_13, r112_14, r112_17, r112_20, r112_21, r112_24, r112_25, r112_28, r112_29, r112_32, r112_33, r112_36, r112_37, r112_38, r112_41, r112_44, r112_47, i1, r1]
end Ec49
