section Ec05
variable {L : Nat} {xs : Nat → Int32} {d : Nat} {M M2 M3 : e_MI} {V : e_ML} {W : e_MD} {K : e_St} {h : e_H} {s t a n : Nat} {o j w z m k q p i f b e mc tl v : Int} {sc : Bool} {ρ ν μ χ β ε τ u : Int → Int}
theorem oAh_laF (f : Int → Int) (k : Int) : oAh f k = laF f k (f k) := rfl
theorem oAh_up (f : Int → Int) (hk : 0 ≤ k) : ∀ z, 0 ≤ z → z < k + 1 → uI (oAh f) k (laF f k v) z = oAh (uI f k v) z := fun z a b => by
  by_cases hz : z = k
  · rw [hz, uI_s, oAh_laF, uI_s]
    exact laF_cong v (fun p x y => (uI_n _ _ (by omega)).symm)
  · rw [uI_n _ _ hz]
    exact oAh_cong a (fun p x y => (uI_n _ _ (by omega)).symm)
theorem tbF_up (χ : Int → Int) (hk : 0 ≤ k) : ∀ z, 0 ≤ z → z < k + 1 → uI (tbF χ) k (if v = -1 then -1 else laF χ k v) z = tbF (uI χ k v) z := fun z a b => by
  by_cases hz : z = k
  · rw [hz, uI_s]
    unfold tbF
    rw [uI_s, oAh_laF, uI_s, laF_cong v (fun p x y => (uI_n χ v (show p ≠ k by omega)).symm)]
  · rw [uI_n _ _ hz]
    unfold tbF
    rw [uI_n _ _ hz, oAh_cong a (fun p x y => (uI_n χ v (show p ≠ k by omega)).symm)]
theorem laF_up (f : Int → Int) (hk : 0 ≤ k) (z : Int) : laF (uI f k v) (k + 1) z = if v = z then k else laF f k z := by
  rw [laF_s _ _ hk, uI_s, laF_cong z (fun p x y => uI_n f v (show p ≠ k by omega))]
theorem bz_s (β ε : Int → Int) (x : Int) (hk : 0 ≤ k) : bz β ε (k + 1) x = bz β ε k x + if β k ≤ x ∧ x ≤ ε k - 1 then 1 else 0 := SU_s _ hk
theorem tg_lay (ht : e_isT t) (h11 : 11 ≤ t) (H : SH M 1 K) (hr : kR K) (T : TG M t sc k ρ ν μ χ β ε) (hk : k < 16) (ho : 0 ≤ o ∧ o < K 310) (hw : w = cnt ρ o k) (hw2 : w < K (40 + o)) (hmc : mc = K (48 + 4 * o + w)) (htl : tl = K (112 + 4 * o + w)) (rb : 0 ≤ b ∧ b ≤ 2001) (he : e = if b = 2001 then 2001 else b + tk K o w) (re : 0 ≤ e ∧ e ≤ 2001) : ∃ M2 : e_MI, e_lim L xs (d + 3) 73 0 [some (.ref t), some (.ref 1), some (.int (iI o)), some (.int (iI b)), none, none, none, none] [] (e_hp M V W) = some (.inl none, e_hp M2 V W, 0, 0) ∧ TG M2 t sc (k + 1) (uI ρ k o) (uI ν k w) (uI μ k mc) (uI χ k tl) (uI β k b) (uI ε k e) ∧ (∀ a, a < t ∨ t + 15 < a → M2 a = M a) ∧ M2 t 0 = M t 0 := by
  obtain ⟨M1, e1, f0, f1, f2, f3, f4, f5, f6, f7, f8, f9, f10, f11, f12, f13, f14⟩ := t_layHead (L := L) (xs := xs) (d := d) (V := V) (W := W) ht h11 H hr T hk ho hw hw2 hmc htl rb he
  obtain ⟨⟨t1, t2⟩, tk0, tk16⟩ := T.hd
  obtain ⟨-, ⟨a1, a2, a3, a4, a5, a6⟩, ⟨b1, b2, b3, b4⟩, ⟨c11, c12, c13, c14⟩, hu, hR⟩ := T
  have hn := hr.n
  have hwk := hr.wk (o := o) ho.1 (by omega)
  have hw0 := cnt_rg ρ o tk0
  rw [← hw] at hw0
  have rmc := hr.mc (i := 4 * o + w) (by omega) (by omega)
  rw [show 48 + (4 * o + w) = 48 + 4 * o + w by omega, ← hmc] at rmc
  have rtl := hr.tl (i := 4 * o + w) (by omega) (by omega)
  rw [show 112 + (4 * o + w) = 112 + 4 * o + w by omega, ← htl] at rtl
  have u0 : e_ar (M1 (t + 15)) 2000 (fun x => if sc = true then bz β ε k x else 0) := by rw [f0 (t + 15) (by omega)]; exact hu
  obtain ⟨g, e2, hg⟩ := t_useWorkers (L := L) (xs := xs) (d := d + 1) (M := M1) (V := V) (W := W) ht (p := k) (q := 1) (b := b) (e := e) ⟨tk0, hk⟩ (by rw [f5, upd_s]) (by rw [f6, upd_s]) rb re (sc := sc) (by rw [f0 t (by omega)]; exact t1) u0
  have hMt : M1 t = M t := f0 t (by omega)
  refine ⟨e_u (e_u M1 (t + 15) g) t (upd (M t) 2 (iI (k + 1))), ?_, ⟨⟨?_, ?_, by omega, by omega⟩, ⟨?_, ?_, ?_, ?_, ?_, ?_⟩, ⟨?_, ?_, ?_, fun p x y => ?_⟩, ⟨?_, ?_, ?_, ?_⟩, ?_, fun p x y => ?_⟩, fun a x => ?_, ?_⟩
  · rw [e1]
    simp (disch := first | assumption | exact e_nk_i _ | exact e_nk_n | exact e_nk_r _ | exact e_bo_0 | exact e_bo_1 | exact e_bo_b _ | omega) only [e_cl_v, e_cl_x, e_add_0, e_add_s, Option.toList_some, Option.toList_none, List.cons_append, List.nil_append, iI_add, iI_sub, iI_mul, iI_lt, iI_eq, iI_le, r73_242, r73_243, r73_245, r73_246, r73_249, r73_250, r73_251, r73_254, r73_255, r73_256, r73_259, e2, e_u_n, hMt, t2]
  · rw [e_u_s, upd_n _ _ (by decide)]; exact t1
  · rw [e_u_s, upd_s]
  · rw [e_u_n _ _ (by omega), e_u_n _ _ (by omega), f1]; exact a1.more tk0
  · rw [e_u_n _ _ (by omega), e_u_n _ _ (by omega), f2]; exact a2.more tk0
  · rw [e_u_n _ _ (by omega), e_u_n _ _ (by omega), f3]; exact a3.more tk0
  · rw [e_u_n _ _ (by omega), e_u_n _ _ (by omega), f4]; exact a4.more tk0
  · rw [e_u_n _ _ (by omega), e_u_n _ _ (by omega), f5]; exact a5.more tk0
  · rw [e_u_n _ _ (by omega), e_u_n _ _ (by omega), f6]; exact a6.more tk0
  · rw [e_u_n _ _ (by omega), e_u_n _ _ (by omega), f7]; exact (b1.more tk0).cong (oAh_up ρ tk0)
  · rw [e_u_n _ _ (by omega), e_u_n _ _ (by omega), f8]; exact (b2.more tk0).cong (oAh_up μ tk0)
  · rw [e_u_n _ _ (by omega), e_u_n _ _ (by omega), f9]; exact (b3.more tk0).cong (tbF_up χ tk0)
  · rw [e_u_n _ _ (by omega), e_u_n _ _ (by omega), f10]
    by_cases hp : p = k
    · rw [hp, uI_s, uI_s, upd_s]
    · rw [uI_n _ _ hp, uI_n _ _ hp]
      have rp := hR p x (by omega)
      rw [upd_n _ _ (by
        by_cases ho2 : ρ p = o
        · have h1 := cnt_s ρ o x
          rw [if_pos ho2] at h1
          have h2 := cnt_mono (τ := ρ) (o := o) (i := p + 1) (n := k) (by omega) (by omega)
          have h3 : ν p = cnt ρ o p := by rw [rp.2.2.2.2.2.2, ho2]
          omega
        · omega)]
      exact b4 p x (by omega)
  · rw [e_u_n _ _ (by omega), e_u_n _ _ (by omega), f11]
    refine (c11.up (z0 := o) (v := k) ho.1).cong (fun z x y => ?_)
    rw [laF_up ρ tk0]
    unfold uI
    by_cases hz : z = o
    · rw [if_pos hz, if_pos hz.symm]
    · rw [if_neg hz, if_neg (Ne.symm hz)]
  · rw [e_u_n _ _ (by omega), e_u_n _ _ (by omega), f12]
    refine (c12.up (z0 := mc) (v := k) rmc.1).cong (fun z x y => ?_)
    rw [laF_up μ tk0]
    unfold uI
    by_cases hz : z = mc
    · rw [if_pos hz, if_pos hz.symm]
    · rw [if_neg hz, if_neg (Ne.symm hz)]
  · rw [e_u_n _ _ (by omega), e_u_n _ _ (by omega), f13]
    by_cases hl : tl = -1
    · rw [if_pos hl]
      refine c13.cong (fun z x y => ?_)
      rw [laF_up χ tk0, if_neg (by omega)]
    · rw [if_neg hl]
      refine (c13.up (z0 := tl) (v := k) (by omega)).cong (fun z x y => ?_)
      rw [laF_up χ tk0]
      unfold uI
      by_cases hz : z = tl
      · rw [if_pos hz, if_pos hz.symm]
      · rw [if_neg hz, if_neg (Ne.symm hz)]
  · rw [e_u_n _ _ (by omega), e_u_n _ _ (by omega), f14]
    refine (c14.up (z0 := o) (v := w + 1) ho.1).cong (fun z x y => ?_)
    rw [cnt_s _ _ tk0, uI_s, cnt_cong (ρ2 := ρ) (fun p a b => uI_n _ _ (by omega))]
    unfold uI
    by_cases hz : z = o
    · rw [if_pos hz, if_pos hz.symm, hz, hw]
    · rw [if_neg hz, if_neg (Ne.symm hz), Int.add_zero]
  · show e_ar (e_u (e_u M1 (t + 15) g) t (upd (M t) 2 (iI (k + 1))) (t + 15)) 2000 _
    rw [e_u_n _ _ (by omega), e_u_s]
    refine hg.cong (fun x y z => ?_)
    have hbz : bz (uI β k b) (uI ε k e) (k + 1) x = bz β ε k x + if b ≤ x ∧ x ≤ e - 1 then 1 else 0 := by
      rw [bz_s _ _ _ tk0, uI_s, uI_s, bz_cong (fun p a b => ⟨uI_n _ _ (by omega), uI_n _ _ (by omega)⟩)]
    try simp only
    rw [hbz]
    cases sc with
    | true =>
      simp only [if_true, true_and]
      by_cases hz : b ≤ x ∧ x < e
      · rw [if_pos hz, if_pos (by omega)]
      · rw [if_neg hz, if_neg (by omega)]
        omega
    | false => simp
  · by_cases hp : p = k
    · rw [hp]
      simp only [uI_s]
      refine ⟨by omega, by omega, by omega, by omega, rb, re, ?_⟩
      rw [hw]
      exact cnt_cong (fun p a b => (uI_n _ _ (by omega)).symm)
    · have rp := hR p x (by omega)
      rw [uI_n _ _ hp, uI_n _ _ hp, uI_n _ _ hp, uI_n _ _ hp, uI_n _ _ hp, uI_n _ _ hp]
      refine ⟨rp.1, rp.2.1, rp.2.2.1, rp.2.2.2.1, rp.2.2.2.2.1, rp.2.2.2.2.2.1, ?_⟩
      rw [rp.2.2.2.2.2.2]
      exact cnt_cong (fun p a b => (uI_n _ _ (by omega)).symm)
  · rw [e_u_n _ _ (by omega), e_u_n _ _ (by omega), f0 a (by omega)]
  · rw [e_u_s, upd_n _ _ (by decide)]
/-- the latest place goes -/
theorem tg_takeBack (ht : e_isT t) (h11 : 11 ≤ t) (T : TG M t sc (k + 1) ρ ν μ χ β ε) (hk : 0 ≤ k) : ∃ M2 : e_MI, e_lim L xs (d + 2) 74 0 [some (.ref t), none, none] [] (e_hp M V W) = some (.inl none, e_hp M2 V W, 0, 0) ∧ TG M2 t sc k ρ ν μ χ β ε ∧ (∀ a, a < t ∨ t + 15 < a → M2 a = M a) ∧ M2 t 0 = M t 0 := by
  obtain ⟨⟨t1, t2⟩, tk0, tk16⟩ := T.hd
  obtain ⟨-, ⟨a1, a2, a3, a4, a5, a6⟩, ⟨b1, b2, b3, b4⟩, ⟨c11, c12, c13, c14⟩, hu, hR⟩ := T
  have rk := hR k hk (by omega)
  obtain ⟨r1, r2, r3, r4, r5, r6, r7⟩ := rk
  obtain ⟨g, e2, hg⟩ := t_useWorkers (L := L) (xs := xs) (d := d) (M := M) (V := V) (W := W) ht (p := k) (q := -1) (b := β k) (e := ε k) ⟨hk, by omega⟩ (a5 k hk (by omega)) (a6 k hk (by omega)) r5 r6 (sc := sc) t1 hu
  have g1 := a1 k hk (by omega)
  have g3 := a3 k hk (by omega)
  have g4 := a4 k hk (by omega)
  have g7 := b1 k hk (by omega)
  have g8 := b2 k hk (by omega)
  have g9 := b3 k hk (by omega)
  have g14 := c14 (ρ k) r1.1 (by omega)
  have hc14 : cnt ρ (ρ k) (k + 1) - 1 = cnt ρ (ρ k) k := by
    rw [cnt_s _ _ hk, if_pos rfl]
    omega
  obtain ⟨M1, hM1⟩ : ∃ M1 : e_MI, M1 = e_u (e_u (e_u (e_u M (t + 15) g) (t + 11) (upd (M (t + 11)) (ρ k).toNat (iI (oAh ρ k)))) (t + 12) (upd (M (t + 12)) (μ k).toNat (iI (oAh μ k)))) (t + 13) (if χ k = -1 then M (t + 13) else upd (M (t + 13)) (χ k).toNat (iI (tbF χ k))) := ⟨_, rfl⟩
  have m0 : ∀ a, a < t + 11 ∨ t + 15 < a ∨ a = t + 14 → M1 a = M a := fun a x => by rw [hM1]; simp (disch := omega) only [e_u_n]
  have m11 : M1 (t + 11) = upd (M (t + 11)) (ρ k).toNat (iI (oAh ρ k)) := by rw [hM1]; simp (disch := omega) only [e_u_n, e_u_s]
  have m12 : M1 (t + 12) = upd (M (t + 12)) (μ k).toNat (iI (oAh μ k)) := by rw [hM1]; simp (disch := omega) only [e_u_n, e_u_s]
  have m13 : M1 (t + 13) = if χ k = -1 then M (t + 13) else upd (M (t + 13)) (χ k).toNat (iI (tbF χ k)) := by rw [hM1]; simp (disch := omega) only [e_u_n, e_u_s]
  have m15 : M1 (t + 15) = g := by rw [hM1]; simp (disch := omega) only [e_u_n, e_u_s]
  have head : e_lim L xs (d + 2) 74 0 [some (.ref t), none, none] [] (e_hp M V W) = e_lim L xs (d + 2) 74 84 [some (.ref t), some (.int (iI k)), some (.int (iI (ρ k)))] [] (e_hp M1 V W) := by
    rw [hM1]
    by_cases hl : χ k = -1
    · rw [if_pos hl]
      rw [hl] at g4
      have hself : e_u (e_u (e_u (e_u M (t + 15) g) (t + 11) (upd (M (t + 11)) (ρ k).toNat (iI (oAh ρ k)))) (t + 12) (upd (M (t + 12)) (μ k).toNat (iI (oAh μ k)))) (t + 13) (M (t + 13)) = e_u (e_u (e_u M (t + 15) g) (t + 11) (upd (M (t + 11)) (ρ k).toNat (iI (oAh ρ k)))) (t + 12) (upd (M (t + 12)) (μ k).toNat (iI (oAh μ k))) := by
        have : (e_u (e_u (e_u M (t + 15) g) (t + 11) (upd (M (t + 11)) (ρ k).toNat (iI (oAh ρ k)))) (t + 12) (upd (M (t + 12)) (μ k).toNat (iI (oAh μ k)))) (t + 13) = M (t + 13) := by simp (disch := omega) only [e_u_n]
        rw [← this, e_u_rf]
      rw [hself]
      simp (disch := first | assumption | exact e_nk_i _ | exact e_nk_n | exact e_nk_r _ | exact e_bo_0 | exact e_bo_1 | exact e_bo_b _ | omega) only [e_cl_v, e_cl_x, e_add_0, e_add_s, Option.toList_some, Option.toList_none, List.cons_append, List.nil_append, iI_add, iI_sub, iI_mul, iI_lt, iI_eq, iI_le, r74_0, r74_1, r74_4, r74_5, r74_6, r74_7, r74_8, r74_11, r74_12, r74_15, r74_16, r74_17, r74_18, r74_19, r74_22, r74_23, r74_26, r74_27, r74_28, r74_31, r74_32, r74_35, r74_38, r74_39, r74_42, r74_43, r74_46, r74_47, r74_50, r74_51, r74_54, r74_55, r74_58, r74_61, r74_62, r74_65, r74_66, r74_69, r74_70, r74_73, r74_74, r74_77, r74_78, r74_81, Int.add_sub_cancel, t2, m_atJ ht.i1, m_atJ ht.i3, m_atJ ht.i4, m_atJ ht.i7, m_atJ ht.i8, m_atJ ht.i9, m_putI ht.i11, m_putI ht.i12, m_putN ht.i13, e_u_n, g1, g3, g4, g7, g8, g9, e2]
    · rw [if_neg hl]
      simp (disch := first | assumption | exact e_nk_i _ | exact e_nk_n | exact e_nk_r _ | exact e_bo_0 | exact e_bo_1 | exact e_bo_b _ | omega) only [e_cl_v, e_cl_x, e_add_0, e_add_s, Option.toList_some, Option.toList_none, List.cons_append, List.nil_append, iI_add, iI_sub, iI_mul, iI_lt, iI_eq, iI_le, r74_0, r74_1, r74_4, r74_5, r74_6, r74_7, r74_8, r74_11, r74_12, r74_15, r74_16, r74_17, r74_18, r74_19, r74_22, r74_23, r74_26, r74_27, r74_28, r74_31, r74_32, r74_35, r74_38, r74_39, r74_42, r74_43, r74_46, r74_47, r74_50, r74_51, r74_54, r74_55, r74_58, r74_61, r74_62, r74_65, r74_66, r74_69, r74_70, r74_73, r74_74, r74_77, r74_78, r74_81, Int.add_sub_cancel, t2, m_atJ ht.i1, m_atJ ht.i3, m_atJ ht.i4, m_atJ ht.i7, m_atJ ht.i8, m_atJ ht.i9, m_putI ht.i11, m_putI ht.i12, m_putI ht.i13, e_u_n, g1, g3, g4, g7, g8, g9, e2]
  have n14 : M1 (t + 14) (ρ k).toNat = iI (cnt ρ (ρ k) (k + 1)) := by rw [m0 (t + 14) (by omega)]; exact g14
  refine ⟨e_u (e_u M1 (t + 14) (upd (M (t + 14)) (ρ k).toNat (iI (cnt ρ (ρ k) k)))) t (upd (M t) 2 (iI k)), ?_, ⟨⟨?_, ?_, hk, by omega⟩, ⟨?_, ?_, ?_, ?_, ?_, ?_⟩, ⟨?_, ?_, ?_, fun p x y => ?_⟩, ⟨?_, ?_, ?_, ?_⟩, ?_, fun p x y => hR p x (by omega)⟩, fun a x => ?_, ?_⟩
  · rw [head]
    have hMt : M1 t = M t := m0 t (by omega)
    have h14 : M1 (t + 14) = M (t + 14) := m0 (t + 14) (by omega)
    rw [h14] at n14
    simp (disch := first | assumption | exact e_nk_i _ | exact e_nk_n | exact e_nk_r _ | exact e_bo_0 | exact e_bo_1 | exact e_bo_b _ | omega) only [e_cl_v, e_cl_x, e_add_0, e_add_s, Option.toList_some, Option.toList_none, List.cons_append, List.nil_append, iI_add, iI_sub, iI_mul, iI_lt, iI_eq, iI_le, r74_84, r74_85, r74_88, r74_89, r74_90, r74_93, r74_94, r74_97, r74_98, r74_99, r74_102, r74_103, r74_104, r74_107, m_atJ ht.i14, m_putI ht.i14, e_u_n, h14, n14, hMt, hc14]
  · rw [e_u_s, upd_n _ _ (by decide)]; exact t1
  · rw [e_u_s, upd_s]
  · rw [e_u_n _ _ (by omega), e_u_n _ _ (by omega), m0 _ (by omega)]; exact a1.less (by omega)
  · rw [e_u_n _ _ (by omega), e_u_n _ _ (by omega), m0 _ (by omega)]; exact a2.less (by omega)
  · rw [e_u_n _ _ (by omega), e_u_n _ _ (by omega), m0 _ (by omega)]; exact a3.less (by omega)
  · rw [e_u_n _ _ (by omega), e_u_n _ _ (by omega), m0 _ (by omega)]; exact a4.less (by omega)
  · rw [e_u_n _ _ (by omega), e_u_n _ _ (by omega), m0 _ (by omega)]; exact a5.less (by omega)
  · rw [e_u_n _ _ (by omega), e_u_n _ _ (by omega), m0 _ (by omega)]; exact a6.less (by omega)
  · rw [e_u_n _ _ (by omega), e_u_n _ _ (by omega), m0 _ (by omega)]; exact b1.less (by omega)
  · rw [e_u_n _ _ (by omega), e_u_n _ _ (by omega), m0 _ (by omega)]; exact b2.less (by omega)
  · rw [e_u_n _ _ (by omega), e_u_n _ _ (by omega), m0 _ (by omega)]; exact b3.less (by omega)
  · rw [e_u_n _ _ (by omega), e_u_n _ _ (by omega), m0 _ (by omega)]; exact b4 p x (by omega)
  · rw [e_u_n _ _ (by omega), e_u_n _ _ (by omega), m11]
    refine (c11.up (z0 := ρ k) (v := oAh ρ k) r1.1).cong (fun z x y => ?_)
    unfold uI
    by_cases hz : z = ρ k
    · rw [if_pos hz, oAh_laF, hz]
    · rw [if_neg hz, laF_s _ _ hk, if_neg (Ne.symm hz)]
  · rw [e_u_n _ _ (by omega), e_u_n _ _ (by omega), m12]
    refine (c12.up (z0 := μ k) (v := oAh μ k) r3.1).cong (fun z x y => ?_)
    unfold uI
    by_cases hz : z = μ k
    · rw [if_pos hz, oAh_laF, hz]
    · rw [if_neg hz, laF_s _ _ hk, if_neg (Ne.symm hz)]
  · rw [e_u_n _ _ (by omega), e_u_n _ _ (by omega), m13]
    by_cases hl : χ k = -1
    · rw [if_pos hl]
      refine c13.cong (fun z x y => ?_)
      rw [laF_s _ _ hk, if_neg (by omega)]
    · rw [if_neg hl]
      refine (c13.up (z0 := χ k) (v := tbF χ k) (by omega)).cong (fun z x y => ?_)
      unfold uI
      by_cases hz : z = χ k
      · rw [if_pos hz]
        unfold tbF
        rw [if_neg hl, oAh_laF, hz]
      · rw [if_neg hz, laF_s _ _ hk, if_neg (Ne.symm hz)]
  · rw [e_u_n _ _ (by omega), e_u_s]
    refine (c14.up (z0 := ρ k) (v := cnt ρ (ρ k) k) r1.1).cong (fun z x y => ?_)
    unfold uI
    by_cases hz : z = ρ k
    · rw [if_pos hz, hz]
    · rw [if_neg hz]
      show cnt ρ z (k + 1) = _
      rw [cnt_s _ _ hk, if_neg (Ne.symm hz)]
      omega
  · show e_ar (e_u (e_u M1 (t + 14) _) t _ (t + 15)) 2000 _
    rw [e_u_n _ _ (by omega), e_u_n _ _ (by omega), m15]
    refine hg.cong (fun x y z => ?_)
    try simp only
    rw [bz_s _ _ _ hk]
    cases sc with
    | true =>
      simp only [if_true, true_and]
      by_cases hz : β k ≤ x ∧ x < ε k
      · rw [if_pos hz, if_pos (by omega)]
        omega
      · rw [if_neg hz, if_neg (by omega)]
        omega
    | false => simp
  · rw [e_u_n _ _ (by omega), e_u_n _ _ (by omega), m0 a (by omega)]
  · rw [e_u_s, upd_n _ _ (by decide)]
end Ec05
