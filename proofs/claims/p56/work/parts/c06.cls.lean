section Ec06
variable {L : Nat} {xs : Nat → Int32} {d : Nat} {M M2 M3 : e_MI} {V : e_ML} {W : e_MD} {K : e_St} {h : e_H} {s t a n : Nat} {o j w z m k q p i f l b e mc tl v T : Int} {sc : Bool} {ρ ν μ χ β ε τ u : Int → Int}
theorem tg_finishAt (ht : e_isT t) (he : e_ar (M (t + 6)) k ε) (h0 : 0 ≤ p) (h1 : p < k) (hk : k ≤ 16) : e_lim L xs (d + 1) 68 0 [some (.ref t), some (.int (iI p))] [] (e_hp M V W) = some (.inl (some (.int (iI (ε p)))), e_hp M V W, 0, 0) := by
  have e1 := m_atI (L := L) (xs := xs) (d := d) (M := M) (V := V) (W := W) ht.i6 (z := p) h0 (by omega) (he p h0 h1)
  simp (disch := first | assumption | exact e_nk_i _ | exact e_nk_n | exact e_nk_r _ | exact e_bo_0 | exact e_bo_1 | exact e_bo_b _ | omega) only [e_cl_v, e_cl_x, e_add_0, e_add_s, Option.toList_some, Option.toList_none, List.cons_append, List.nil_append, iI_add, iI_sub, iI_mul, iI_lt, iI_eq, iI_le, r68_0, r68_1, r68_4, r68_5, r68_8, e1]
theorem tg_finishAtN (ht : e_isT t) : e_lim L xs (d + 1) 68 0 [some (.ref t), some (.int (iI (-1)))] [] (e_hp M V W) = some (.inl (some (.int (iI 0))), e_hp M V W, 0, 0) := by
  have e1 := m_atN (L := L) (xs := xs) (d := d) (M := M) (V := V) (W := W) ht.i6 (z := -1) (by omega) (by omega)
  simp (disch := first | assumption | exact e_nk_i _ | exact e_nk_n | exact e_nk_r _ | exact e_bo_0 | exact e_bo_1 | exact e_bo_b _ | omega) only [e_cl_v, e_cl_x, e_add_0, e_add_s, Option.toList_some, Option.toList_none, List.cons_append, List.nil_append, iI_add, iI_sub, iI_mul, iI_lt, iI_eq, iI_le, r68_0, r68_1, r68_4, r68_5, r68_8, e1]
/-- an end, 0 where there is no place -/
def enZ (ε : Int → Int) (p : Int) : Int := if p = -1 then 0 else ε p
theorem tg_finishAtZ (ht : e_isT t) (he : e_ar (M (t + 6)) k ε) (hp : p = -1 ∨ (0 ≤ p ∧ p < k)) (hk : k ≤ 16) : e_lim L xs (d + 1) 68 0 [some (.ref t), some (.int (iI p))] [] (e_hp M V W) = some (.inl (some (.int (iI (enZ ε p)))), e_hp M V W, 0, 0) := by
  unfold enZ
  rcases hp with hp | hp
  · rw [if_pos hp, hp]
    exact tg_finishAtN ht
  · rw [if_neg (by omega)]
    exact tg_finishAt ht he hp.1 hp.2 hk
def rdZ (K : e_St) (ρ ε : Int → Int) (m o p : Int) : Int := if p = -1 then 0 else ε p + sT K m (K (ρ p)) (K o)
theorem tg_readyAfter (ht : e_isT t) (H : SH M 1 K) (hr : kR K) (hd : kD K) (h1 : e_ar (M (t + 1)) k ρ) (h6 : e_ar (M (t + 6)) k ε) (hk : k ≤ 16) (hp : p = -1 ∨ (0 ≤ p ∧ p < k ∧ 0 ≤ ρ p ∧ ρ p < K 310)) (hm : 0 ≤ m ∧ m ≤ 3) (ho : 0 ≤ o ∧ o < K 310) : e_lim L xs (d + 2) 69 0 [some (.ref t), some (.ref 1), some (.int (iI p)), some (.int (iI m)), some (.int (iI o)), none] [] (e_hp M V W) = some (.inl (some (.int (iI (rdZ K ρ ε m o p)))), e_hp M V W, 0, 0) := by
  have hn := hr.n
  unfold rdZ
  rcases hp with hp | ⟨p0, p1, q0, q1⟩
  · rw [if_pos hp, hp]
    simp (disch := first | assumption | exact e_nk_i _ | exact e_nk_n | exact e_nk_r _ | exact e_bo_0 | exact e_bo_1 | exact e_bo_b _ | omega) only [e_cl_v, e_cl_x, e_add_0, e_add_s, Option.toList_some, Option.toList_none, List.cons_append, List.nil_append, iI_add, iI_sub, iI_mul, iI_lt, iI_eq, iI_le, r69_0, r69_1, r69_2, r69_5, r69_6]
    simp
  · rw [if_neg (by omega)]
    have e1 := m_atI (L := L) (xs := xs) (d := d + 1) (M := M) (V := V) (W := W) ht.i1 (z := p) p0 (by omega) (h1 p p0 p1)
    have e2 := s_orderCell (L := L) (xs := xs) (d := d) (V := V) (W := W) H hn.2 q0 q1 (j := 0) (by omega) (by omega)
    have e3 := tg_finishAt (L := L) (xs := xs) (d := d) (V := V) (W := W) ht h6 p0 p1 hk
    have e4 := s_orderCell (L := L) (xs := xs) (d := d) (V := V) (W := W) H hn.2 ho.1 ho.2 (j := 0) (by omega) (by omega)
    have k1 := hr.kd (o := ρ p) q0 (by omega)
    have k2 := hr.kd (o := o) ho.1 (by omega)
    have e5 := s_settingOf (L := L) (xs := xs) (d := d) (V := V) (W := W) H hd (m := m) (f := K (ρ p)) (q := K o) (by omega) (by omega) (by omega)
    rw [show 8 * 0 + ρ p = ρ p by omega] at e2
    rw [show 8 * 0 + o = o by omega] at e4
    simp (disch := first | assumption | exact e_nk_i _ | exact e_nk_n | exact e_nk_r _ | exact e_bo_0 | exact e_bo_1 | exact e_bo_b _ | omega) only [e_cl_v, e_cl_x, e_add_0, e_add_s, Option.toList_some, Option.toList_none, List.cons_append, List.nil_append, iI_add, iI_sub, iI_mul, iI_lt, iI_eq, iI_le, r69_0, r69_1, r69_2, r69_5, r69_6, r69_7, r69_8, r69_9, r69_12, r69_13, r69_16, r69_17, r69_20, r69_22, r69_23, r69_24, r69_27, r69_28, r69_29, r69_31, r69_32, r69_34, r69_35, r69_38, r69_41, r69_42, e1, e2, e3, e4, e5]
    rw [if_neg (by omega)]
/-- from when on an order's next work could begin -/
def loT (K : e_St) (ρ μ χ ε : Int → Int) (k o mc tl : Int) : Int := if tl = -1 then max (max (K (16 + o)) (enZ ε (laF ρ k o))) (rdZ K ρ ε mc o (laF μ k mc)) else max (max (max (K (16 + o)) (enZ ε (laF ρ k o))) (rdZ K ρ ε mc o (laF μ k mc))) (enZ ε (laF χ k tl))
theorem tg_ready (ht : e_isT t) (H : SH M 1 K) (hr : kR K) (hd : kD K) (G : TG M t sc k ρ ν μ χ β ε) (ho : 0 ≤ o ∧ o < K 310) (hw : w = cnt ρ o k) (hw2 : w < K (40 + o)) (hmc : mc = K (48 + 4 * o + w)) (htl : tl = K (112 + 4 * o + w)) (hρ : ∀ p, 0 ≤ p → p < k → ρ p < K 310) : e_lim L xs (d + 3) 66 0 [some (.ref t), some (.ref 1), some (.int (iI o)), none, none, none, none] [] (e_hp M V W) = some (.inl (some (.int (iI (loT K ρ μ χ ε k o mc tl)))), e_hp M V W, 0, 0) := by
  obtain ⟨⟨t1, t2⟩, tk0, tk16⟩ := G.hd
  obtain ⟨-, ⟨a1, a2, a3, a4, a5, a6⟩, -, ⟨c11, c12, c13, c14⟩, -, hR⟩ := G
  have hn := hr.n
  have hwk := hr.wk (o := o) ho.1 (by omega)
  have hw0 := cnt_rg ρ o tk0
  rw [← hw] at hw0
  have rmc := hr.mc (i := 4 * o + w) (by omega) (by omega)
  rw [show 48 + (4 * o + w) = 48 + 4 * o + w by omega, ← hmc] at rmc
  have rtl := hr.tl (i := 4 * o + w) (by omega) (by omega)
  rw [show 112 + (4 * o + w) = 112 + 4 * o + w by omega, ← htl] at rtl
  have e1 := m_atI (L := L) (xs := xs) (d := d + 2) (M := M) (V := V) (W := W) ht.i14 (z := o) ho.1 (by omega) (c14 o ho.1 (by omega))
  simp only [← hw] at e1
  have e2 := s_workCell (L := L) (xs := xs) (d := d + 1) (V := V) (W := W) H hr ho.1 ho.2 (w := w) hw0.1 hw2 (j := 0) (by omega) (by omega)
  have e2' : e_lim L xs (d + 2) 30 0 [some (.ref 1), some (.int (iI o)), some (.int (iI w)), some (.int (iI 0))] [] (e_hp M V W) = some (.inl (some (.int (iI mc))), e_hp M V W, 0, 0) := by rw [hmc]; exact e2
  have e3 := s_workCell (L := L) (xs := xs) (d := d + 1) (V := V) (W := W) H hr ho.1 ho.2 (w := w) hw0.1 hw2 (j := 2) (by omega) (by omega)
  have e3' : e_lim L xs (d + 2) 30 0 [some (.ref 1), some (.int (iI o)), some (.int (iI w)), some (.int (iI 2))] [] (e_hp M V W) = some (.inl (some (.int (iI tl))), e_hp M V W, 0, 0) := by rw [htl]; exact e3
  have e4 := s_orderCell (L := L) (xs := xs) (d := d + 1) (V := V) (W := W) H hn.2 ho.1 ho.2 (j := 2) (by omega) (by omega)
  rw [show 8 * 2 + o = 16 + o by omega] at e4
  have e5 := m_atI (L := L) (xs := xs) (d := d + 2) (M := M) (V := V) (W := W) ht.i11 (z := o) ho.1 (by omega) (c11 o ho.1 (by omega))
  have l1 := laF_rg ρ o tk0
  have l2 := laF_rg μ mc tk0
  have e6 := tg_finishAtZ (L := L) (xs := xs) (d := d + 1) (V := V) (W := W) ht a6 (p := laF ρ k o) (by omega) tk16
  have e7 := m_atI (L := L) (xs := xs) (d := d + 2) (M := M) (V := V) (W := W) ht.i12 (z := mc) rmc.1 (by omega) (c12 mc rmc.1 (by omega))
  have e8 := tg_readyAfter (L := L) (xs := xs) (d := d) (V := V) (W := W) ht H hr hd a1 a6 tk16 (p := laF μ k mc) (m := mc) (o := o) (by
    rcases l2 with x | x
    · exact Or.inl x
    · exact Or.inr ⟨x.1.1, x.1.2, (hR _ x.1.1 x.1.2).1.1, hρ _ x.1.1 x.1.2⟩) rmc ho
  have r1 := hr.re (o := o) ho.1 (by omega)
  have r6 : 0 ≤ enZ ε (laF ρ k o) ∧ enZ ε (laF ρ k o) ≤ 2001 := by
    unfold enZ
    split
    · omega
    · next u => exact (hR _ (by omega) (by omega)).2.2.2.2.2.1
  have r8 : 0 ≤ rdZ K ρ ε mc o (laF μ k mc) ∧ rdZ K ρ ε mc o (laF μ k mc) ≤ 2021 := by
    unfold rdZ
    split
    · omega
    · next u =>
      have x := hR _ (show 0 ≤ laF μ k mc by omega) (by omega)
      have k1 := hr.kd (o := ρ (laF μ k mc)) x.1.1 (by omega)
      have k2 := hr.kd (o := o) ho.1 (by omega)
      have y := sT_rg hr (m := mc) (f := K (ρ (laF μ k mc))) (t := K o) (by omega) (by omega) (by omega)
      omega
  unfold loT
  by_cases hl : tl = -1
  · rw [if_pos hl]
    rw [hl] at e3'
    simp (disch := first | assumption | exact e_nk_i _ | exact e_nk_n | exact e_nk_r _ | exact e_bo_0 | exact e_bo_1 | exact e_bo_b _ | omega) only [e_cl_v, e_cl_x, e_add_0, e_add_s, Option.toList_some, Option.toList_none, List.cons_append, List.nil_append, iI_add, iI_sub, iI_mul, iI_lt, iI_eq, iI_le, r66_0, r66_1, r66_4, r66_5, r66_8, r66_9, r66_10, r66_11, r66_12, r66_13, r66_16, r66_18, r66_19, r66_20, r66_21, r66_22, r66_25, r66_27, r66_28, r66_29, r66_30, r66_33, r66_34, r66_35, r66_38, r66_39, r66_42, r66_45, r66_48, r66_50, r66_52, r66_53, r66_54, r66_55, r66_58, r66_60, r66_63, r66_65, r66_66, r66_69, r66_72, r66_74, r66_76, r66_77, r66_80, r66_82, r66_85, r66_87, r66_88, r66_89, r66_92, r66_94, r66_97, r66_100, r66_103, e1, e2', e3', e4, e5, e6, e7, e8, iI_mx]
    simp
  · rw [if_neg hl]
    have e9 := m_atI (L := L) (xs := xs) (d := d + 2) (M := M) (V := V) (W := W) ht.i13 (z := tl) (by omega) (by omega) (c13 tl (by omega) (by omega))
    have l3 := laF_rg χ tl tk0
    have e10 := tg_finishAtZ (L := L) (xs := xs) (d := d + 1) (V := V) (W := W) ht a6 (p := laF χ k tl) (by omega) tk16
    have r10 : 0 ≤ enZ ε (laF χ k tl) ∧ enZ ε (laF χ k tl) ≤ 2001 := by
      unfold enZ
      split
      · omega
      · next u => exact (hR _ (by omega) (by omega)).2.2.2.2.2.1
    simp (disch := first | assumption | exact e_nk_i _ | exact e_nk_n | exact e_nk_r _ | exact e_bo_0 | exact e_bo_1 | exact e_bo_b _ | omega) only [e_cl_v, e_cl_x, e_add_0, e_add_s, Option.toList_some, Option.toList_none, List.cons_append, List.nil_append, iI_add, iI_sub, iI_mul, iI_lt, iI_eq, iI_le, r66_0, r66_1, r66_4, r66_5, r66_8, r66_9, r66_10, r66_11, r66_12, r66_13, r66_16, r66_18, r66_19, r66_20, r66_21, r66_22, r66_25, r66_27, r66_28, r66_29, r66_30, r66_33, r66_34, r66_35, r66_38, r66_39, r66_42, r66_45, r66_48, r66_50, r66_52, r66_53, r66_54, r66_55, r66_58, r66_60, r66_63, r66_65, r66_66, r66_69, r66_72, r66_74, r66_76, r66_77, r66_80, r66_82, r66_85, r66_87, r66_88, r66_89, r66_92, r66_94, r66_97, r66_100, r66_103, e1, e2', e3', e4, e5, e6, e7, e8, e9, e10, iI_mx]
    simp [hl]
/-- the latest time of some at which no worker is free, or -1 -/
theorem tg_lastFull (ht : e_isT t) (hu : e_ar (M (t + 15)) 2000 u) (hur : ∀ x, 0 ≤ x → x < 2000 → 0 ≤ u x ∧ u x ≤ 16) (hf : 0 ≤ f ∧ f ≤ l) (hl : l < 2000) (hw : 0 ≤ w ∧ w ≤ 4) : e_lim L xs (d + 1) 72 0 [some (.ref t), some (.int (iI f)), some (.int (iI l)), some (.int (iI w)), none, none] [] (e_hp M V W) = some (.inl (some (.int (iI (lB (fun x => decide (w < 4 ∧ w ≤ u x)) f (l - f + 1))))), e_hp M V W, 0, 0) := by
  by_cases h4 : w < 4
  · have main := G_findD (C := fun i => e_lim L xs (d + 1) 72 22 [some (.ref t), some (.int (iI f)), some (.int (iI l)), some (.int (iI w)), some (.int (iI l)), some (.int (iI i))] [] (e_hp M V W)) (p := fun x => decide (w < 4 ∧ w ≤ u x)) (i := l) (m := f) (r := (.inl (some (.int (iI (lB (fun x => decide (w < 4 ∧ w ≤ u x)) f (l - f + 1))))), e_hp M V W, 0, 0)) (by omega) (fun j a b hp hc => ?_) (fun j a b hp hff => ?_) (fun hff => ?_)
    · simp (disch := first | assumption | exact e_nk_i _ | exact e_nk_n | exact e_nk_r _ | exact e_bo_0 | exact e_bo_1 | exact e_bo_b _ | omega) only [e_cl_v, e_cl_x, e_add_0, e_add_s, Option.toList_some, Option.toList_none, List.cons_append, List.nil_append, iI_add, iI_sub, iI_mul, iI_lt, iI_eq, iI_le, r72_0, r72_1, r72_2, r72_5, r72_6, r72_9, r72_12, r72_15, r72_16, r72_18, r72_20, iI_mn]
      rw [if_pos h4, show min l 1999 = l by omega]
      exact main
    · have g1 := hu j (by omega) (by omega)
      have g2 := hur j (by omega) (by omega)
      simp only [decide_eq_false_iff_not] at hp
      rw [r72_22]
      simp (disch := first | assumption | exact e_nk_i _ | exact e_nk_n | exact e_nk_r _ | exact e_bo_0 | exact e_bo_1 | exact e_bo_b _ | omega) only [e_cl_v, e_cl_x, e_add_0, e_add_s, Option.toList_some, Option.toList_none, List.cons_append, List.nil_append, iI_add, iI_sub, iI_mul, iI_lt, iI_eq, iI_le, r72_24, r72_25, r72_28, r72_30, r72_33, r72_34, r72_37, r72_39, r72_40, r72_41, r72_44, r72_46, r72_47, r72_50, iI_vin, iI_nat, if_true, g1]
      rw [if_neg (by omega), if_neg (by omega), if_pos (by omega)]
      simpa [Int.sub_eq_add_neg] using hc
    · have g1 := hu j (by omega) (by omega)
      have g2 := hur j (by omega) (by omega)
      rw [lB_hit hf.1 a (by omega) hp (fun q x y => hff q x (by omega))]
      simp only [decide_eq_true_eq] at hp
      rw [r72_22]
      simp (disch := first | assumption | exact e_nk_i _ | exact e_nk_n | exact e_nk_r _ | exact e_bo_0 | exact e_bo_1 | exact e_bo_b _ | omega) only [e_cl_v, e_cl_x, e_add_0, e_add_s, Option.toList_some, Option.toList_none, List.cons_append, List.nil_append, iI_add, iI_sub, iI_mul, iI_lt, iI_eq, iI_le, r72_24, r72_25, r72_28, r72_30, r72_33, r72_34, r72_37, r72_39, r72_40, r72_41, r72_44, r72_46, r72_47, r72_50, iI_vin, iI_nat, if_true, g1]
      rw [if_neg (by omega), if_neg (by omega), if_neg (by omega)]
    · rw [lB_none hf.1 (by omega) (fun q x y => hff q x (by omega)), r72_22]
      simp (disch := first | assumption | exact e_nk_i _ | exact e_nk_n | exact e_nk_r _ | exact e_bo_0 | exact e_bo_1 | exact e_bo_b _ | omega) only [e_cl_v, e_cl_x, e_add_0, e_add_s, Option.toList_some, Option.toList_none, List.cons_append, List.nil_append, iI_add, iI_sub, iI_mul, iI_lt, iI_eq, iI_le, r72_24, r72_25, r72_53, r72_54]
      rw [if_pos (by omega)]
  · rw [lB_none hf.1 (by omega) (fun q x y => decide_eq_false (fun a => h4 a.1))]
    simp (disch := first | assumption | exact e_nk_i _ | exact e_nk_n | exact e_nk_r _ | exact e_bo_0 | exact e_bo_1 | exact e_bo_b _ | omega) only [e_cl_v, e_cl_x, e_add_0, e_add_s, Option.toList_some, Option.toList_none, List.cons_append, List.nil_append, iI_add, iI_sub, iI_mul, iI_lt, iI_eq, iI_le, r72_0, r72_1, r72_2, r72_5, r72_6, r72_9, r72_12, r72_15, r72_16, r72_18, r72_20]
    rw [if_neg h4, r72_22]
    simp (disch := first | assumption | exact e_nk_i _ | exact e_nk_n | exact e_nk_r _ | exact e_bo_0 | exact e_bo_1 | exact e_bo_b _ | omega) only [e_cl_v, e_cl_x, e_add_0, e_add_s, Option.toList_some, Option.toList_none, List.cons_append, List.nil_append, iI_add, iI_sub, iI_mul, iI_lt, iI_eq, iI_le, r72_24, r72_25, r72_53, r72_54]
    rw [if_pos (by omega)]
end Ec06
