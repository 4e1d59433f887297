section Ec48
variable {L : Nat} {xs : Nat → Int32} {d : Nat} {M M2 M3 : e_MI} {V : e_ML} {W : e_MD} {K K1 K2 : e_St} {S : Int → e_St} {h : e_H} {er w c n z p o m : Int} {s : Int × (Int → Int)} {T U τ : Int → Int}
/-! the class reads its tape -/
theorem p_findError (H : SH M 1 K) (hr : kR K) (hn : 0 ≤ aW K ∧ aW K ≤ 16) (hm : 0 ≤ m ∧ m ≤ 60) (hz : M 179 0 = iI m) (hT : e_ar (M 180) m T) (hT2 : ∀ j, 0 ≤ j → j < m → 0 ≤ T j ∧ T j ≤ 255) : ∃ M2 : e_MI, e_lim L xs (d + 2) 51 0 [some (.ref 179), some (.ref 1), some (.ref 166), none, none, none, none] [] (e_hp M V W) = some (.inl (some (.int (iI (reW K T m)))), e_hp M2 V W, 0, 0) ∧ (reW K T m = -1 → e_ar (M2 166) (aW K) (rdS T m.toNat).2) ∧ ∀ a, a ≠ 166 → a ≠ 181 → M2 a = M a := by
  have hn8 := hr.n
  have c9 := H.cn
  have c8 := H.cw
  have key := G_lp (i := 0) (n := m) (I := fun i M1 => (∀ j, 0 ≤ j → j < i → rdE K T j = false) ∧ e_ar (M1 166) (rdS T i.toNat).1 (rdS T i.toNat).2 ∧ e_ar (M1 181) 8 (fun o => cnt (rdS T i.toNat).2 o (rdS T i.toNat).1) ∧ ∀ a, a ≠ 166 → a ≠ 181 → M1 a = M a) (P := fun i M1 => ∃ M2 : e_MI, e_lim L xs (d + 2) 51 13 [some (.ref 179), some (.ref 1), some (.ref 166), some (.int (iI (rdS T i.toNat).1)), some (.int (iI i)), none, none] [] (e_hp M1 V W) = some (.inl (some (.int (iI (reW K T m)))), e_hp M2 V W, 0, 0) ∧ (reW K T m = -1 → e_ar (M2 166) (aW K) (rdS T m.toNat).2) ∧ ∀ a, a ≠ 166 → a ≠ 181 → M2 a = M a) (fun j M1 a b hI hc => ?_) (fun M1 hI => ?_) hm.1
  · obtain ⟨M1, e1, g1, f1⟩ := m_fillN (L := L) (xs := xs) (d := d + 1) (M := M) (V := V) (W := W) (v := iI 0) si_181
    obtain ⟨M2, e, r⟩ := key M1 ⟨fun j a b => by omega, fun z a b => by
      have : z < 0 := b
      omega, fun z a b => g1 z.toNat (by omega), fun a x y => f1 a y⟩
    refine ⟨M2, ?_, r⟩
    have e' : e_lim L xs (d + 2) 51 13 [some (.ref 179), some (.ref 1), some (.ref 166), some (.int (iI 0)), some (.int (iI 0)), none, none] [] (e_hp M1 V W) = some (.inl (some (.int (iI (reW K T m)))), e_hp M2 V W, 0, 0) := e
    simp (disch := first | assumption | exact e_nk_i _ | exact e_nk_n | exact e_nk_r _ | exact e_bo_0 | exact e_bo_1 | exact e_bo_b _ | omega) only [e_cl_v, e_cl_x, e_add_0, e_add_s, Option.toList_some, Option.toList_none, List.cons_append, List.nil_append, iI_add, iI_sub, iI_mul, iI_lt, iI_eq, iI_le, r51_0, r51_1, r51_4, r51_5, r51_8, r51_9, r51_10, r51_11, e1, e']
  · obtain ⟨i1, i2, i3, i4⟩ := hI
    obtain ⟨g0, g1, g2⟩ := rdS_sp hr T j.toNat (fun q x y => i1 q x (by omega))
    have H1 : SH M1 1 K := H.of fun a x y => i4 a (by omega) (by omega)
    have c9 := H1.cn
    have q1 := hT2 j a b
    have hz1 : M1 179 0 = iI m := by rw [i4 _ (by decide) (by decide), hz]
    have e1 := m_atI (L := L) (xs := xs) (d := d + 1) (M := M1) (V := V) (W := W) (v := iI (T j)) si_180 (z := j) a (by omega) (by rw [i4 180 (by decide) (by decide)]; exact hT j a b)
    have e3 := m_isWithin (L := L) (xs := xs) (d := d + 1) (h := e_hp M1 V W) (x := T j - 48) (y2 := 0) (z2 := K 310 - 1) (by omega) (by omega) (by omega)
    have hst : rdS T (j + 1).toNat = if T j = 32 ∨ T j = 10 then rdS T j.toNat else ((rdS T j.toNat).1 + 1, uI (rdS T j.toNat).2 (rdS T j.toNat).1 (T j - 48)) := by
      rw [show (j + 1).toNat = j.toNat + 1 by omega]
      show (if T (j.toNat : Int) = 32 ∨ T (j.toNat : Int) = 10 then _ else (_, uI _ _ (T (j.toNat : Int) - 48))) = _
      rw [Int.toNat_of_nonneg a]
    rw [hst] at hc
    have hbad : rdE K T j = true → reW K T m = j := fun hq => by
      unfold reW
      rw [fsP_hit a hq i1 m.toNat (by omega), if_pos b]
    by_cases c1 : T j = 32 ∨ T j = 10
    · rw [if_pos c1] at hc
      obtain ⟨M2, e, r⟩ := hc M1 ⟨fun q x y => by
        by_cases hq : q = j
        · rw [hq]
          unfold rdE
          exact decide_eq_false (fun y => y.1 c1)
        · exact i1 q x (by omega), i2, i3, i4⟩
      refine ⟨M2, ?_, r⟩
      have e' := G_less (l := [some (.ref 179), some (.ref 1), some (.ref 166), some (.int (iI (rdS T j.toNat).1)), some (.int (iI (j + 1))), some (.int (iI (T j))), none]) (by repeat (first | exact e_ll.rf | refine e_ll_c ?_ | refine e_ll_x ?_)) e
      rw [← e', r51_13]
      simp (disch := first | assumption | exact e_nk_i _ | exact e_nk_n | exact e_nk_r _ | exact e_bo_0 | exact e_bo_1 | exact e_bo_b _ | omega) only [e_cl_v, e_cl_x, e_add_0, e_add_s, Option.toList_some, Option.toList_none, List.cons_append, List.nil_append, iI_add, iI_sub, iI_mul, iI_lt, iI_eq, iI_le, r51_15, r51_16, r51_19, r51_22, r51_23, r51_26, r51_28, r51_31, r51_33, r51_35, r51_37, r51_40, r51_42, r51_44, r51_120, r51_123, hz1, e1]
      rw [if_pos b]
      rcases c1 with z | z
      · rw [if_pos z]
      · rw [if_neg (by omega), if_pos z]
    · rw [if_neg c1] at hc
      by_cases c2 : 0 ≤ T j - 48 ∧ T j - 48 ≤ K 310 - 1
      · rw [decide_eq_true c2, bI_t] at e3
        have e4 := s_worksIn (L := L) (xs := xs) (d := d) (V := V) (W := W) H1 hn8.2 (o := T j - 48) c2.1 (by omega)
        have e5 := m_atI (L := L) (xs := xs) (d := d + 1) (M := M1) (V := V) (W := W) si_181 (z := T j - 48) c2.1 (by omega) (i3 (T j - 48) c2.1 (by omega))
        have r4 := hr.wk (o := T j - 48) c2.1 (by omega)
        have r5 := g2 (T j - 48) c2.1 (by omega)
        have r6 := cnt_rg (rdS T j.toNat).2 (T j - 48) g0
        simp only at e5
        by_cases c3 : cnt (rdS T j.toNat).2 (T j - 48) (rdS T j.toNat).1 = K (40 + (T j - 48))
        · have hre := hbad (by
            unfold rdE
            exact decide_eq_true ⟨c1, Or.inr c3⟩)
          refine ⟨M1, ?_, fun hq => by omega, i4⟩
          rw [hre, r51_13]
          simp (disch := first | assumption | exact e_nk_i _ | exact e_nk_n | exact e_nk_r _ | exact e_bo_0 | exact e_bo_1 | exact e_bo_b _ | omega) only [e_cl_v, e_cl_x, e_add_0, e_add_s, Option.toList_some, Option.toList_none, List.cons_append, List.nil_append, iI_add, iI_sub, iI_mul, iI_lt, iI_eq, iI_le, r51_15, r51_16, r51_19, r51_22, r51_23, r51_26, r51_28, r51_31, r51_33, r51_35, r51_37, r51_40, r51_42, r51_44, r51_47, r51_49, r51_51, r51_52, r51_54, r51_56, r51_57, r51_58, r51_61, r51_62, r51_63, r51_66, r51_69, r51_70, r51_73, r51_75, r51_78, r51_79, r51_81, r51_84, r51_87, r51_89, hz1, e1, c9, e3, e4, e5]
          rw [if_pos b, if_neg (by omega), if_neg (by omega)]
          simp
          intro hq
          omega
        · have hroom := cnt_room (ρ := (rdS T j.toNat).2) (o := T j - 48) hr g0 g1 g2 (by omega) (by omega)
          have e6 := m_putI (L := L) (xs := xs) (d := d + 1) (M := M1) (V := V) (W := W) (v := iI (cnt (rdS T j.toNat).2 (T j - 48) (rdS T j.toNat).1 + 1)) si_181 (z := T j - 48) c2.1 (by omega)
          have e7 := m_putI (L := L) (xs := xs) (d := d + 1) (M := e_u M1 181 (upd (M1 181) (T j - 48).toNat (iI (cnt (rdS T j.toNat).2 (T j - 48) (rdS T j.toNat).1 + 1)))) (V := V) (W := W) (v := iI (T j - 48)) si_166 (z := (rdS T j.toNat).1) g0 (by omega)
          rw [e_u_n _ _ (show (166 : Nat) ≠ 181 by decide)] at e7
          obtain ⟨M2, e, r⟩ := hc (e_u (e_u M1 181 (upd (M1 181) (T j - 48).toNat (iI (cnt (rdS T j.toNat).2 (T j - 48) (rdS T j.toNat).1 + 1)))) 166 (upd (M1 166) (rdS T j.toNat).1.toNat (iI (T j - 48)))) ⟨fun q x y => by
            by_cases hq : q = j
            · rw [hq]
              unfold rdE
              exact decide_eq_false (fun y => y.2.elim (fun z => z c2) c3)
            · exact i1 q x (by omega), by
            rw [e_u_s]
            exact i2.more g0, by
            rw [e_u_n _ _ (by decide), e_u_s]
            refine (i3.up (z0 := T j - 48) c2.1).cong (fun z x y => ?_)
            have hcc : cnt (uI (rdS T j.toNat).2 (rdS T j.toNat).1 (T j - 48)) z (rdS T j.toNat).1 = cnt (rdS T j.toNat).2 z (rdS T j.toNat).1 := cnt_cong (fun p a b => uI_n _ _ (by omega))
            simp only
            rw [cnt_s _ _ g0, hcc, uI_s]
            by_cases hz : z = T j - 48
            · rw [hz, uI_s, if_pos rfl]
            · rw [uI_n _ _ hz, if_neg (by omega)]
              omega, fun x y z => by rw [e_u_n _ _ y, e_u_n _ _ z, i4 x y z]⟩
          refine ⟨M2, ?_, r⟩
          have e' := G_less (l := [some (.ref 179), some (.ref 1), some (.ref 166), some (.int (iI ((rdS T j.toNat).1 + 1))), some (.int (iI (j + 1))), some (.int (iI (T j))), some (.int (iI (T j - 48)))]) (by repeat (first | exact e_ll.rf | refine e_ll_c ?_ | refine e_ll_x ?_)) e
          rw [← e', r51_13]
          simp (disch := first | assumption | exact e_nk_i _ | exact e_nk_n | exact e_nk_r _ | exact e_bo_0 | exact e_bo_1 | exact e_bo_b _ | omega) only [e_cl_v, e_cl_x, e_add_0, e_add_s, Option.toList_some, Option.toList_none, List.cons_append, List.nil_append, iI_add, iI_sub, iI_mul, iI_lt, iI_eq, iI_le, r51_15, r51_16, r51_19, r51_22, r51_23, r51_26, r51_28, r51_31, r51_33, r51_35, r51_37, r51_40, r51_42, r51_44, r51_47, r51_49, r51_51, r51_52, r51_54, r51_56, r51_57, r51_58, r51_61, r51_62, r51_63, r51_66, r51_69, r51_70, r51_73, r51_75, r51_78, r51_79, r51_81, r51_84, r51_87, r51_89, r51_90, r51_91, r51_94, r51_96, r51_97, r51_100, r51_102, r51_105, r51_106, r51_107, r51_110, r51_111, r51_112, r51_114, r51_117, r51_120, r51_123, hz1, e1, c9, e3, e4, e5, e6, e7]
          rw [if_pos b, if_neg (by omega), if_neg (by omega)]
          simp
          intro hq
          omega
      · rw [decide_eq_false c2, bI_f] at e3
        have hre := hbad (by
          unfold rdE
          exact decide_eq_true ⟨c1, Or.inl c2⟩)
        refine ⟨M1, ?_, fun hq => by omega, i4⟩
        rw [hre, r51_13]
        simp (disch := first | assumption | exact e_nk_i _ | exact e_nk_n | exact e_nk_r _ | exact e_bo_0 | exact e_bo_1 | exact e_bo_b _ | omega) only [e_cl_v, e_cl_x, e_add_0, e_add_s, Option.toList_some, Option.toList_none, List.cons_append, List.nil_append, iI_add, iI_sub, iI_mul, iI_lt, iI_eq, iI_le, r51_15, r51_16, r51_19, r51_22, r51_23, r51_26, r51_28, r51_31, r51_33, r51_35, r51_37, r51_40, r51_42, r51_44, r51_47, r51_49, r51_51, r51_52, r51_54, r51_56, r51_57, r51_58, r51_61, r51_62, r51_63, r51_66, r51_69, r51_70, r51_73, r51_75, r51_78, r51_79, r51_81, r51_84, r51_87, r51_89, hz1, e1, c9, e3]
        rw [if_pos b, if_neg (by omega), if_neg (by omega)]
        simp
  · obtain ⟨i1, i2, i3, i4⟩ := hI
    have hz1 : M1 179 0 = iI m := by rw [i4 _ (by decide) (by decide), hz]
    have c8 : M1 1 1 = iI (aW K) := by rw [i4 _ (by decide) (by decide), c8]
    obtain ⟨g0, g1, g2⟩ := rdS_sp hr T m.toNat (fun q x y => i1 q x (by omega))
    have g3 := cnt_sum (ρ := (rdS T m.toNat).2) hr.n.1 (rdS T m.toNat).1 g0 g1
    have g4 := SU_le2 (f := fun o => cnt (rdS T m.toNat).2 o (rdS T m.toNat).1) (g := fun q => K (40 + q)) (n := K 310) hr.n.1 g2
    have g5 : SU (fun q => K (40 + q)) (K 310) = aW K := rfl
    have hre : reW K T m = if (rdS T m.toNat).1 = aW K then -1 else m := by
      unfold reW
      rw [fsP_none m.toNat (fun q x y => i1 q x (by omega)), if_neg (by omega)]
    refine ⟨M1, ?_, fun hq => ?_, i4⟩
    · rw [hre, r51_13]
      simp (disch := first | assumption | exact e_nk_i _ | exact e_nk_n | exact e_nk_r _ | exact e_bo_0 | exact e_bo_1 | exact e_bo_b _ | omega) only [e_cl_v, e_cl_x, e_add_0, e_add_s, Option.toList_some, Option.toList_none, List.cons_append, List.nil_append, iI_add, iI_sub, iI_mul, iI_lt, iI_eq, iI_le, r51_15, r51_16, r51_19, r51_126, r51_127, r51_128, r51_131, r51_134, r51_135, r51_138, r51_141, r51_142, hz1, c8]
      rw [if_neg (by omega)]
      by_cases c1 : (rdS T m.toNat).1 = aW K
      · rw [if_pos c1]
        first | rw [if_neg (by omega)] | rw [if_pos (by omega)]
      · rw [if_neg c1]
        first | rw [if_pos (by omega)] | rw [if_neg (by omega)]
    · have hl : (rdS T m.toNat).1 = aW K := by
        by_cases c1 : (rdS T m.toNat).1 = aW K
        · exact c1
        · rw [hre, if_neg c1] at hq
          omega
      rw [← hl]
      exact i2
theorem x_read (H : CK M K c S) (hg : kG K) (Ht : TC M s er w U) : ∃ M2 : e_MI, e_lim L xs (d + 7) 140 0 [some (.ref 0)] [] (e_hp M V W) = (if cdRd K s = 0 then some (.inl (some (.int (bI (ft (rdK K s))))), e_hp M2 V W, 0, 0) else some (.inr 0, e_hp M2 V W, 1, 6)) ∧ (cdRd K s = 0 → CK M2 (rdK K s) (svC c) (svS c S K)) ∧ (cdRd K s ≠ 0 → CK M2 K c S) ∧ TC M2 (0, s.2) (reW K s.2 s.1) w U ∧ ∀ a, 183 < a → M2 a = M a := by
  obtain ⟨t1, t2, t3, t4, t5, t6, t7⟩ := id Ht
  have ha := hg.2.1.1
  have hw := reW_rg (K := K) (T := s.2) t3.1
  obtain ⟨M1, e1, g1, f1⟩ := p_findError (L := L) (xs := xs) (d := d + 4) (V := V) (W := W) H.sh hg.1 ha ⟨t3.1, t2⟩ t1 t4 (fun j a b => by have := t3.2 j a b; omega)
  obtain ⟨M2, hM2⟩ : ∃ M2, M2 = e_u M1 179 (upd (upd (M1 179) 1 (iI (reW K s.2 s.1))) 0 (iI 0)) := ⟨_, rfl⟩
  have a2 : ∀ a, a ≠ 179 → M2 a = M1 a := fun a x => by rw [hM2, e_u_n _ _ x]
  have j0 : M2 179 0 = iI 0 := by rw [hM2, e_u_s, upd_s]
  have j1 : M2 179 1 = iI (reW K s.2 s.1) := by rw [hM2, e_u_s, upd_n _ _ (by decide), upd_s]
  have eM2 : e_u (e_u M1 179 (upd (M1 179) 1 (iI (reW K s.2 s.1)))) 179 (upd (upd (M1 179) 1 (iI (reW K s.2 s.1))) 0 (iI 0)) = M2 := by rw [hM2, e_u_u]
  have l2 : ∀ a, a ≠ 166 → a ≠ 179 → a ≠ 181 → M2 a = M a := fun a x y z => by rw [a2 a y, f1 a x z]
  have T2 : TC M2 (0, s.2) (reW K s.2 s.1) w U := ⟨j0, by show (0 : Int) ≤ 60; omega, ⟨Int.le_refl _, fun j a b => by have : j < 0 := b; omega⟩, fun j a b => by have : j < 0 := b; omega, ⟨j1, by omega, by omega⟩, by rw [l2 182 (by decide) (by decide) (by decide)]; exact t6, by rw [l2 183 (by decide) (by decide) (by decide)]; exact t7⟩
  have H2 : CK M2 K c S := H.of fun a x y => l2 a (by omega) (by omega) (by omega)
  have rt := m_requireArgument (L := L) (xs := xs) (d := d + 6) (h := e_hp M2 V W) true
  have rf := m_requireArgument (L := L) (xs := xs) (d := d + 6) (h := e_hp M2 V W) false
  rw [if_pos rfl, bI_t] at rt
  rw [if_neg (by decide), bI_f] at rf
  unfold cdRd
  by_cases hq : reW K s.2 s.1 = -1
  · obtain ⟨M3, e3, k1, k2, k3, k4, hf⟩ := x_rem (L := L) (xs := xs) (d := d + 3) (V := V) (W := W) H2 hg
    have hA : e_ar (M3 166) (aW K) (rdS s.2 s.1.toNat).2 := by
      rw [hf 166 (by omega), a2 166 (by decide)]
      exact g1 hq
    obtain ⟨M4, e5, hS, hP, hf3⟩ := x_takeRow (L := L) (xs := xs) (d := d) (M := M3) (V := V) (W := W) k1 hg k3.g si_166 hA (rd_v hg t3.1 hq)
    refine ⟨M4, ?_, fun _ => ⟨hS, k2.of fun a x y => hf3 a (by omega) (by omega), hP, k4.of fun a x y => hf3 a (by omega) (by omega)⟩, fun y => absurd (if_pos hq) y, T2.of fun a x y => by rw [hf3 a (by omega) (by omega), hf a (by omega)], fun a y => by rw [hf3 a (by omega) (by omega), hf a (by omega), l2 a (by omega) (by omega) (by omega)]⟩
    rw [if_pos hq, if_pos rfl]
    unfold rdK
    have hq2 : iI (reW K s.2 s.1) = iI (-1) := by rw [hq]
    rw [hq2] at eM2
    rw [hq] at j1 e1
    simp (disch := first | assumption | exact e_nk_i _ | exact e_nk_n | exact e_nk_r _ | exact e_bo_0 | exact e_bo_1 | exact e_bo_b _ | omega) only [e_cl_v, e_cl_x, e_add_0, e_add_s, Option.toList_some, Option.toList_none, List.cons_append, List.nil_append, iI_add, iI_sub, iI_mul, iI_lt, iI_eq, iI_le, r140_0, r140_1, r140_4, r140_5, r140_8, r140_9, r140_12, r140_13, r140_16, r140_19, r140_22, r140_25, r140_26, r140_29, r140_30, r140_33, r140_34, r140_37, r140_40, r140_41, r140_44, r140_45, r140_48, r140_49, r140_52, r140_53, r140_56, r140_57, r140_60, r140_63, r140_64, r140_65, r140_68, r140_71, r140_74, e1, e_u_s, eM2, j1, rt, e3, e5]
    all_goals first | (simp; done) | rfl | (simp; rfl)
  · refine ⟨M2, ?_, fun y => by rw [if_neg hq] at y; omega, fun _ => H2, T2, fun a y => l2 a (by omega) (by omega) (by omega)⟩
    rw [if_neg hq, if_neg (show ¬ (1 : Int) = 0 by decide)]
    simp (disch := first | assumption | exact e_nk_i _ | exact e_nk_n | exact e_nk_r _ | exact e_bo_0 | exact e_bo_1 | exact e_bo_b _ | omega) only [e_cl_v, e_cl_x, e_add_0, e_add_s, Option.toList_some, Option.toList_none, List.cons_append, List.nil_append, iI_add, iI_sub, iI_mul, iI_lt, iI_eq, iI_le, r140_0, r140_1, r140_4, r140_5, r140_8, r140_9, r140_12, r140_13, r140_16, r140_19, r140_22, r140_25, r140_26, r140_29, r140_30, r140_33, r140_34, r140_37, r140_40, r140_41, r140_44, r140_45, r140_48, r140_49, e1, e_u_s, eM2, j1, rf]
    rw [if_neg hq]
end Ec48
