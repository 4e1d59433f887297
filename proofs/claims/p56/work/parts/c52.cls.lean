section Ec52
variable {L : Nat} {xs : Nat → Int32} {d : Nat} {M M2 M3 : e_MI} {V V2 : e_ML} {W : e_MD} {K K1 K2 : e_St} {S : Int → e_St} {h : e_H} {t t2 b2 : Nat} {c o w z m k q p i f l e mc tl T x y v N n : Int} {sc bb : Bool} {ρ ν μ χ β ε τ τ2 u : Int → Int}
/-! one machine's rows, in the class -/
theorem o_timeOf (hT : e_ar (M 170) n (fun o => tO K o m)) (ho : 0 ≤ o ∧ o < n) (hn : n ≤ 8) : e_lim L xs (d + 1) 17 0 [some (.ref 169), some (.int (iI o))] [] (e_hp M V W) = some (.inl (some (.int (iI (tO K o m)))), e_hp M V W, 0, 0) := by
  have e1 := m_atI (L := L) (xs := xs) (d := d) (M := M) (V := V) (W := W) (a := 170) (n := 8) si_170 (z := o) ho.1 (by omega) (hT o ho.1 ho.2)
  simp (disch := first | assumption | exact e_nk_i _ | exact e_nk_n | exact e_nk_r _ | exact e_bo_0 | exact e_bo_1 | exact e_bo_b _ | omega) only [e_cl_v, e_cl_x, e_add_0, e_add_s, Option.toList_some, Option.toList_none, List.cons_append, List.nil_append, iI_add, iI_sub, iI_mul, iI_lt, iI_eq, iI_le, r17_0, r17_1, r17_4, r17_5, r17_8, e1]
theorem o_isAhead (H : SH M 1 K) (hr : kR K) (hT : e_ar (M 170) n (fun o => tO K o m)) (ho : 0 ≤ o ∧ o < n) (hp : 0 ≤ p ∧ p < n) (hn : n ≤ K 310) (hw : 0 ≤ w ∧ w ≤ 2) : e_lim L xs (d + 2) 19 0 [some (.ref 169), some (.ref 1), some (.int (iI o)), some (.int (iI p)), some (.int (iI w))] [] (e_hp M V W) = some (.inl (some (.int (bI (isA K m (decide (w = 0)) o p)))), e_hp M V W, 0, 0) := by
  have hn8 := hr.n
  have e1 := s_orderCell (L := L) (xs := xs) (d := d) (V := V) (W := W) H hn8.2 (o := o) ho.1 (by omega) (j := 4) (by omega) (by omega)
  have e2 := s_orderCell (L := L) (xs := xs) (d := d) (V := V) (W := W) H hn8.2 (o := p) hp.1 (by omega) (j := 4) (by omega) (by omega)
  have e3 := s_orderCell (L := L) (xs := xs) (d := d) (V := V) (W := W) H hn8.2 (o := o) ho.1 (by omega) (j := 3) (by omega) (by omega)
  have e4 := s_orderCell (L := L) (xs := xs) (d := d) (V := V) (W := W) H hn8.2 (o := p) hp.1 (by omega) (j := 3) (by omega) (by omega)
  rw [show 8 * 4 + o = 32 + o by omega] at e1
  rw [show 8 * 4 + p = 32 + p by omega] at e2
  rw [show 8 * 3 + o = 24 + o by omega] at e3
  rw [show 8 * 3 + p = 24 + p by omega] at e4
  have e5 := o_timeOf (L := L) (xs := xs) (d := d) (V := V) (W := W) hT ho (by omega)
  have e6 := o_timeOf (L := L) (xs := xs) (d := d) (V := V) (W := W) hT hp (by omega)
  have r1 := hr.we (o := o) ho.1 (by omega)
  have r2 := hr.we (o := p) hp.1 (by omega)
  have r3 := hr.du (o := o) ho.1 (by omega)
  have r4 := hr.du (o := p) hp.1 (by omega)
  have r5 := tO_rg hr (o := o) (m := m) (by omega)
  have r6 := tO_rg hr (o := p) (m := m) (by omega)
  have m1 : 0 ≤ K (32 + o) * tO K p m ∧ K (32 + o) * tO K p m ≤ 9 * 324 := ⟨Int.mul_nonneg r1.1 r6.1, Int.mul_le_mul r1.2 r6.2 r6.1 (by omega)⟩
  have m2 : 0 ≤ K (32 + p) * tO K o m ∧ K (32 + p) * tO K o m ≤ 9 * 324 := ⟨Int.mul_nonneg r2.1 r5.1, Int.mul_le_mul r2.2 r5.2 r5.1 (by omega)⟩
  unfold isA
  by_cases hq : w = 0
  · subst hq
    simp (disch := first | assumption | exact e_nk_i _ | exact e_nk_n | exact e_nk_r _ | exact e_bo_0 | exact e_bo_1 | exact e_bo_b _ | omega) only [e_cl_v, e_cl_x, e_add_0, e_add_s, Option.toList_some, Option.toList_none, List.cons_append, List.nil_append, iI_add, iI_sub, iI_mul, iI_lt, iI_eq, iI_le, r19_0, r19_2, r19_5, r19_6, r19_7, r19_8, r19_11, r19_12, r19_13, r19_16, r19_17, r19_18, r19_19, r19_20, r19_23, r19_24, r19_25, r19_28, r19_29, r19_32, r19_33, r19_36, r19_37, r19_38, r19_39, r19_40, r19_41, r19_44, r19_45, r19_46, r19_47, r19_50, r19_53, r19_54, r19_57, r19_58, e1, e2, e5, e6]
    rw [if_pos trivial]
    simp only [decide_true, if_true]
    by_cases z : K (32 + p) * tO K o m < K (32 + o) * tO K p m
    · rw [decide_eq_true z, bI_t]
      first | rw [if_pos z] | rw [if_neg (by omega)]
    · rw [decide_eq_false z, bI_f]
      first | rw [if_neg z] | rw [if_pos (by omega)]
  · simp (disch := first | assumption | exact e_nk_i _ | exact e_nk_n | exact e_nk_r _ | exact e_bo_0 | exact e_bo_1 | exact e_bo_b _ | omega) only [e_cl_v, e_cl_x, e_add_0, e_add_s, Option.toList_some, Option.toList_none, List.cons_append, List.nil_append, iI_add, iI_sub, iI_mul, iI_lt, iI_eq, iI_le, r19_0, r19_2, r19_5, r19_6, r19_7, r19_8, r19_11, r19_12, r19_13, r19_16, r19_17, r19_18, r19_19, r19_20, r19_23, r19_24, r19_25, r19_28, r19_29, r19_32, r19_33, r19_36, r19_37, r19_38, r19_39, r19_40, r19_41, r19_44, r19_45, r19_46, r19_47, r19_50, r19_53, r19_54, r19_57, r19_58, e3, e4]
    rw [if_neg hq]
    simp only [hq, decide_false, Bool.false_eq_true, if_false]
    by_cases z : K (24 + o) < K (24 + p)
    · rw [decide_eq_true z, bI_t]
      first | rw [if_pos z] | rw [if_neg (by omega)]
    · rw [decide_eq_false z, bI_f]
      first | rw [if_neg z] | rw [if_pos (by omega)]
theorem o_insIn (H : SH M3 1 K) (hr : kR K) (ho : 0 ≤ o ∧ o < n) (hn : n ≤ K 310) (hw : 0 ≤ w ∧ w ≤ 2) : ∀ (a b : List Int) (M : e_MI), (∀ x, x ≠ 169 → x ≠ 171 → M x = M3 x) → e_ar (M3 170) n (fun o => tO K o m) → (∀ x ∈ a, 0 ≤ x ∧ x < n) → a.length + b.length ≤ 7 → M 169 3 = iI ((a.length + b.length : Nat) : Int) → e_ho (M 171) a.reverse b → ∃ M2 : e_MI, e_lim L xs (d + 3) 18 6 [some (.ref 169), some (.ref 1), some (.int (iI o)), some (.int (iI w)), some (.int (iI (a.length : Int)))] [] (e_hp M V W) = some (.inl none, e_hp M2 V W, 0, 0) ∧ e_la (M2 171) (insG (isA K m (decide (w = 0))) o a b) ∧ (∀ x, x ≠ 169 → x ≠ 171 → M2 x = M x) ∧ (∀ j, j ≠ 3 → M2 169 j = M 169 j) ∧ M2 169 3 = iI ((a.length + b.length + 1 : Nat) : Int)
  | [], b, M, hf, hT, ha, hl, hc, hh => by
    rw [List.length_nil, Nat.zero_add] at hc hl
    have e1 := m_putI (L := L) (xs := xs) (d := d + 2) (M := M) (V := V) (W := W) (v := iI o) si_171 (z := 0) (by omega) (by omega)
    refine ⟨e_u (e_u M 171 (upd (M 171) 0 (iI o))) 169 (upd (M 169) 3 (iI ((b.length + 1 : Nat) : Int))), ?_, ?_, fun x y z => ?_, fun j y => ?_, ?_⟩
    · rw [show (([] : List Int).length : Int) = 0 from rfl]
      simp (disch := first | assumption | exact e_nk_i _ | exact e_nk_n | exact e_nk_r _ | exact e_bo_0 | exact e_bo_1 | exact e_bo_b _ | omega) only [e_cl_v, e_cl_x, e_add_0, e_add_s, Option.toList_some, Option.toList_none, List.cons_append, List.nil_append, iI_add, iI_sub, iI_mul, iI_lt, iI_eq, iI_le, r18_6, r18_8, r18_11, r18_12, r18_13, r18_14, r18_15, r18_18, r18_20, r18_21, r18_22, r18_25, r18_26, r18_29, r18_32, r18_33, r18_36, r18_38, r18_39, r18_42, r18_44, r18_45, r18_46, r18_49, r18_52, r18_55, r18_58, r18_59, r18_62, r18_64, r18_65, r18_68, r18_69, r18_70, r18_73, r18_74, r18_75, r18_78, e1, e_u_n, hc]
      simp
    · rw [e_u_n _ _ (by decide), e_u_s]
      exact ho_pu (a := []) hh
    · rw [e_u_n _ _ y, e_u_n _ _ z]
    · rw [e_u_s, upd_n _ _ y]
    · rw [e_u_s, upd_s, List.length_nil, Nat.zero_add]
  | x :: a, b, M, hf, hT, ha, hl, hc, hh => by
    rw [List.length_cons] at hl hc
    have hx := ha x (List.mem_cons_self)
    have hT1 : e_ar (M 170) n (fun o => tO K o m) := by rw [hf 170 (by decide) (by decide)]; exact hT
    have H1 : SH M 1 K := H.of fun a x y => hf a (by omega) (by omega)
    have e1 := o_isAhead (L := L) (xs := xs) (d := d) (V := V) (W := W) H1 hr hT1 ho hx hn hw
    have hat : M 171 a.length = iI x := by
      have := hh
      rw [List.reverse_cons] at this
      have := ho_at this
      rw [List.length_reverse] at this
      exact this
    have hn2 : ((a.length + 1 : Nat) : Int) - 1 = (a.length : Int) := by omega
    have e2 := m_atI (L := L) (xs := xs) (d := d + 2) (M := M) (V := V) (W := W) (v := iI x) si_171 (z := (a.length : Int)) (by omega) (by omega) (by rw [Int.toNat_natCast]; exact hat)
    by_cases hq : isA K m (decide (w = 0)) o x = true
    · have e3 := m_putI (L := L) (xs := xs) (d := d + 2) (M := M) (V := V) (W := W) (v := iI x) si_171 (z := ((a.length + 1 : Nat) : Int)) (by omega) (by omega)
      rw [Int.toNat_natCast] at e3
      obtain ⟨M2, e, r1, r2, r3, r4⟩ := o_insIn H hr ho hn hw a (x :: b) (e_u M 171 (upd (M 171) (a.length + 1) (iI x))) (fun y u z => by rw [e_u_n _ _ z, hf y u z]) hT (fun y hy => ha y (List.mem_cons_of_mem x hy)) (by rw [List.length_cons]; omega) (by rw [e_u_n _ _ (by decide), hc, List.length_cons]; congr 1; omega) (by
        rw [e_u_s]
        have h1 := hh
        rw [List.reverse_cons] at h1
        have := ho_mv h1
        rw [List.length_reverse] at this
        exact this)
      refine ⟨M2, ?_, ?_, fun y u w => by rw [r2 y u w, e_u_n _ _ w], fun j u => by rw [r3 j u, e_u_n _ _ (by decide)], by rw [r4, List.length_cons, List.length_cons]; congr 1; omega⟩
      · rw [hq, bI_t] at e1
        rw [← e, List.length_cons, r18_6]
        simp (disch := first | assumption | exact e_nk_i _ | exact e_nk_n | exact e_nk_r _ | exact e_bo_0 | exact e_bo_1 | exact e_bo_b _ | omega) only [e_cl_v, e_cl_x, e_add_0, e_add_s, Option.toList_some, Option.toList_none, List.cons_append, List.nil_append, iI_add, iI_sub, iI_mul, iI_lt, iI_eq, iI_le, r18_8, r18_11, r18_12, r18_13, r18_14, r18_15, r18_18, r18_20, r18_21, r18_22, r18_25, r18_26, r18_29, r18_32, r18_33, r18_36, r18_38, r18_39, r18_42, r18_44, r18_45, r18_46, r18_49, r18_52, r18_55, hn2, e2, e1, e3]
        rw [if_neg (by omega)]
        simp
        rw [show (a.length : Int) + 1 + -1 = a.length by omega]
      · unfold insG
        rw [if_pos hq]
        exact r1
    · have hqf : isA K m (decide (w = 0)) o x = false := by simpa using hq
      have e3 := m_putI (L := L) (xs := xs) (d := d + 2) (M := M) (V := V) (W := W) (v := iI o) si_171 (z := ((a.length + 1 : Nat) : Int)) (by omega) (by omega)
      rw [Int.toNat_natCast] at e3
      refine ⟨e_u (e_u M 171 (upd (M 171) (a.length + 1) (iI o))) 169 (upd (M 169) 3 (iI ((a.length + 1 + b.length + 1 : Nat) : Int))), ?_, ?_, fun x y z => ?_, fun j y => ?_, ?_⟩
      · rw [hqf, bI_f] at e1
        rw [List.length_cons]
        simp (disch := first | assumption | exact e_nk_i _ | exact e_nk_n | exact e_nk_r _ | exact e_bo_0 | exact e_bo_1 | exact e_bo_b _ | omega) only [e_cl_v, e_cl_x, e_add_0, e_add_s, Option.toList_some, Option.toList_none, List.cons_append, List.nil_append, iI_add, iI_sub, iI_mul, iI_lt, iI_eq, iI_le, r18_6, r18_8, r18_11, r18_12, r18_13, r18_14, r18_15, r18_18, r18_20, r18_21, r18_22, r18_25, r18_26, r18_29, r18_32, r18_33, r18_36, r18_38, r18_39, r18_42, r18_44, r18_45, r18_46, r18_49, r18_52, r18_55, r18_58, r18_59, r18_62, r18_64, r18_65, r18_68, r18_69, r18_70, r18_73, r18_74, r18_75, r18_78, hn2, e2, e1, e3, e_u_n, hc]
        rw [if_neg (by omega)]
        simp
      · rw [e_u_n _ _ (by decide), e_u_s]
        unfold insG
        rw [if_neg hq]
        have := ho_pu (o := o) hh
        rw [List.length_reverse, List.length_cons] at this
        exact this
      · rw [e_u_n _ _ y, e_u_n _ _ z]
      · rw [e_u_s, upd_n _ _ y]
      · rw [e_u_s, upd_s, List.length_cons]
/-- one machine's row as it comes in -/
theorem o_rows (H : SH M 1 K) (hr : kR K) (hm : 0 ≤ m ∧ m ≤ 3) (hw : 0 ≤ w ∧ w ≤ 2) : ∃ M2 : e_MI, (∀ r, e_lim L xs (d + 4) 16 61 [some (.ref 169), some (.ref 1), some (.int (iI m)), some (.int (iI w)), none, none] [] (e_hp M2 V W) = some r → e_lim L xs (d + 4) 16 0 [some (.ref 169), some (.ref 1), some (.int (iI m)), some (.int (iI w)), none, none] [] (e_hp M V W) = some r) ∧ e_la (M2 171) (oneL K m (decide (w = 0))) ∧ M2 169 3 = iI ((oneL K m (decide (w = 0))).length : Int) ∧ M2 169 4 = iI 0 ∧ e_ar (M2 170) (K 310) (fun o => tO K o m) ∧ ∀ a, a < 169 ∨ 171 < a → M2 a = M a := by
  have hn8 := hr.n
  have key := G_lp (i := 0) (n := K 310) (I := fun i M1 => e_la (M1 171) (rowL (isA K m (decide (w = 0))) (fun o => decide (tO K o m ≠ 0)) i.toNat) ∧ M1 169 3 = iI ((rowL (isA K m (decide (w = 0))) (fun o => decide (tO K o m ≠ 0)) i.toNat).length : Int) ∧ M1 169 4 = iI 0 ∧ e_ar (M1 170) i (fun o => tO K o m) ∧ ∀ a, a < 169 ∨ 171 < a → M1 a = M a) (P := fun i M1 => ∃ M2 : e_MI, (∀ r, e_lim L xs (d + 4) 16 61 [some (.ref 169), some (.ref 1), some (.int (iI m)), some (.int (iI w)), none, none] [] (e_hp M2 V W) = some r → e_lim L xs (d + 4) 16 13 [some (.ref 169), some (.ref 1), some (.int (iI m)), some (.int (iI w)), some (.int (iI i)), none] [] (e_hp M1 V W) = some r) ∧ e_la (M2 171) (oneL K m (decide (w = 0))) ∧ M2 169 3 = iI ((oneL K m (decide (w = 0))).length : Int) ∧ M2 169 4 = iI 0 ∧ e_ar (M2 170) (K 310) (fun o => tO K o m) ∧ ∀ a, a < 169 ∨ 171 < a → M2 a = M a) (fun j M1 a b hI hc => ?_) (fun M1 hI => ?_) hn8.1 (e_u M 169 (upd (upd (M 169) 3 (iI 0)) 4 (iI 0))) ⟨fun i x hx => by simp [rowL] at hx, by rw [e_u_s, upd_n _ _ (by decide), upd_s]; rfl, by rw [e_u_s, upd_s], fun z a b => by omega, fun a x => e_u_n _ _ (by omega)⟩
  · obtain ⟨M2, e, r⟩ := key
    refine ⟨M2, fun R hR => ?_, r⟩
    rw [← e R hR]
    simp (disch := first | assumption | exact e_nk_i _ | exact e_nk_n | exact e_nk_r _ | exact e_bo_0 | exact e_bo_1 | exact e_bo_b _ | omega) only [e_cl_v, e_cl_x, e_add_0, e_add_s, Option.toList_some, Option.toList_none, List.cons_append, List.nil_append, iI_add, iI_sub, iI_mul, iI_lt, iI_eq, iI_le, r16_0, r16_1, r16_2, r16_5, r16_6, r16_7, r16_10, r16_11, e_u_u, e_u_s]
  · obtain ⟨i1, i2, i3, i4, i5⟩ := hI
    have H1 : SH M1 1 K := H.of fun a x y => i5 a (by omega)
    have c1 := H1.cn
    have e1 := s_timeOn (L := L) (xs := xs) (d := d + 1) (V := V) (W := W) H1 hr (o := j) a b (m := m) hm
    have r2 := tO_rg hr (o := j) (m := m) (by omega)
    have e2 := m_putI (L := L) (xs := xs) (d := d + 3) (M := M1) (V := V) (W := W) (v := iI (tO K j m)) si_170 (z := j) a (by omega)
    have hT2 : e_ar (e_u M1 170 (upd (M1 170) j.toNat (iI (tO K j m))) 170) (j + 1) (fun o => tO K o m) := by
      rw [e_u_s]
      refine (i4.more (v := tO K j m) a).cong (fun z x y => ?_)
      unfold uI
      by_cases hz : z = j
      · rw [if_pos hz, hz]
      · rw [if_neg hz]
    have f2 : ∀ q, q ≠ 170 → e_u M1 170 (upd (M1 170) j.toNat (iI (tO K j m))) q = M1 q := fun q y => e_u_n _ _ y
    have hlen := rowL_len (isA K m (decide (w = 0))) (fun o => decide (tO K o m ≠ 0)) j.toNat
    have hst : rowL (isA K m (decide (w = 0))) (fun o => decide (tO K o m ≠ 0)) (j + 1).toNat = if decide (tO K j m ≠ 0) = true then insS (isA K m (decide (w = 0))) j (rowL (isA K m (decide (w = 0))) (fun o => decide (tO K o m ≠ 0)) j.toNat) else rowL (isA K m (decide (w = 0))) (fun o => decide (tO K o m ≠ 0)) j.toNat := by
      rw [show (j + 1).toNat = j.toNat + 1 by omega]
      show (if decide (tO K (j.toNat : Int) m ≠ 0) = true then insS (isA K m (decide (w = 0))) (j.toNat : Int) _ else _) = _
      rw [Int.toNat_of_nonneg a]
    rw [hst] at hc
    generalize hM2 : e_u M1 170 (upd (M1 170) j.toNat (iI (tO K j m))) = Mb at *
    by_cases hq : tO K j m = 0
    · rw [if_neg (by simp [hq])] at hc
      obtain ⟨M2, e, r⟩ := hc Mb ⟨by rw [f2 171 (by decide)]; exact i1, by rw [f2 169 (by decide)]; exact i2, by rw [f2 169 (by decide)]; exact i3, hT2, fun q y => by rw [f2 q (by omega), i5 q y]⟩
      refine ⟨M2, fun R hR => ?_, r⟩
      have e' := G_less (l := [some (.ref 169), some (.ref 1), some (.int (iI m)), some (.int (iI w)), some (.int (iI (j + 1))), some (.int (iI (tO K j m)))]) (by repeat (first | exact e_ll.rf | refine e_ll_c ?_ | refine e_ll_x ?_)) (e R hR)
      rw [← e', r16_13]
      simp (disch := first | assumption | exact e_nk_i _ | exact e_nk_n | exact e_nk_r _ | exact e_bo_0 | exact e_bo_1 | exact e_bo_b _ | omega) only [e_cl_v, e_cl_x, e_add_0, e_add_s, Option.toList_some, Option.toList_none, List.cons_append, List.nil_append, iI_add, iI_sub, iI_mul, iI_lt, iI_eq, iI_le, r16_15, r16_16, r16_19, r16_22, r16_23, r16_25, r16_26, r16_29, r16_31, r16_32, r16_35, r16_37, r16_39, r16_42, r16_44, r16_47, r16_48, r16_49, r16_51, r16_52, r16_55, r16_58, c1, e1, e2]
      rw [if_pos b]
      first | rw [if_pos (by omega)] | rw [if_neg (by omega)]
    · rw [if_pos (by simp [hq])] at hc
      have hmem : ∀ x ∈ (rowL (isA K m (decide (w = 0))) (fun o => decide (tO K o m ≠ 0)) j.toNat).reverse, 0 ≤ x ∧ x < j + 1 := fun x hx => by
        rw [List.mem_reverse, rowL_mem] at hx
        omega
      have H2 : SH Mb 1 K := H1.of fun a x y => f2 a (by omega)
      obtain ⟨M4, e4, r1, r2, r3, r4⟩ := o_insIn (L := L) (xs := xs) (d := d) (V := V) (W := W) (m := m) (o := j) (n := j + 1) H2 hr ⟨a, by omega⟩ (by omega) hw (rowL (isA K m (decide (w = 0))) (fun o => decide (tO K o m ≠ 0)) j.toNat).reverse [] Mb (fun _ _ _ => rfl) hT2 hmem (by rw [List.length_reverse, List.length_nil]; omega) (by rw [f2 169 (by decide), i2, List.length_reverse, List.length_nil]; rfl) (by rw [List.reverse_reverse, f2 171 (by decide)]; exact ho_in i1)
      have c3 : Mb 169 3 = iI ((rowL (isA K m (decide (w = 0))) (fun o => decide (tO K o m ≠ 0)) j.toNat).length : Int) := by rw [f2 169 (by decide), i2]
      rw [List.length_reverse] at e4
      have e5 : e_lim L xs (d + 3) 18 0 [some (.ref 169), some (.ref 1), some (.int (iI j)), some (.int (iI w)), none] [] (e_hp Mb V W) = some (.inl none, e_hp M4 V W, 0, 0) := by
        rw [← e4]
        simp (disch := first | assumption | exact e_nk_i _ | exact e_nk_n | exact e_nk_r _ | exact e_bo_0 | exact e_bo_1 | exact e_bo_b _ | omega) only [e_cl_v, e_cl_x, e_add_0, e_add_s, Option.toList_some, Option.toList_none, List.cons_append, List.nil_append, iI_add, iI_sub, iI_mul, iI_lt, iI_eq, iI_le, r18_0, r18_1, r18_4, c3]
      obtain ⟨M2, e, r⟩ := hc M4 ⟨r1, by rw [r4, (insS_perm (isA K m (decide (w = 0))) j _).length_eq, List.length_reverse, List.length_nil, List.length_cons], by rw [r3 4 (by decide), f2 169 (by decide)]; exact i3, by rw [r2 170 (by decide) (by decide)]; exact hT2, fun q y => by rw [r2 q (by omega) (by omega), f2 q (by omega), i5 q y]⟩
      refine ⟨M2, fun R hR => ?_, r⟩
      have e' := G_less (l := [some (.ref 169), some (.ref 1), some (.int (iI m)), some (.int (iI w)), some (.int (iI (j + 1))), some (.int (iI (tO K j m)))]) (by repeat (first | exact e_ll.rf | refine e_ll_c ?_ | refine e_ll_x ?_)) (e R hR)
      rw [← e', r16_13]
      simp (disch := first | assumption | exact e_nk_i _ | exact e_nk_n | exact e_nk_r _ | exact e_bo_0 | exact e_bo_1 | exact e_bo_b _ | omega) only [e_cl_v, e_cl_x, e_add_0, e_add_s, Option.toList_some, Option.toList_none, List.cons_append, List.nil_append, iI_add, iI_sub, iI_mul, iI_lt, iI_eq, iI_le, r16_15, r16_16, r16_19, r16_22, r16_23, r16_25, r16_26, r16_29, r16_31, r16_32, r16_35, r16_37, r16_39, r16_42, r16_44, r16_47, r16_48, r16_49, r16_51, r16_52, r16_55, r16_58, c1, e1, e2, e5]
      rw [if_pos b]
      first | rw [if_neg (by omega)] | rw [if_pos (by omega)]
  · obtain ⟨i1, i2, i3, i4, i5⟩ := hI
    have c1 : M1 1 0 = iI (K 310) := by rw [i5 1 (by omega)]; exact H.cn
    refine ⟨M1, fun R hR => ?_, i1, i2, i3, i4, i5⟩
    have e' := G_less (l := [some (.ref 169), some (.ref 1), some (.int (iI m)), some (.int (iI w)), some (.int (iI (K 310))), none]) (by repeat (first | exact e_ll.rf | refine e_ll_c ?_ | refine e_ll_x ?_)) hR
    rw [← e', r16_13]
    simp (disch := first | assumption | exact e_nk_i _ | exact e_nk_n | exact e_nk_r _ | exact e_bo_0 | exact e_bo_1 | exact e_bo_b _ | omega) only [e_cl_v, e_cl_x, e_add_0, e_add_s, Option.toList_some, Option.toList_none, List.cons_append, List.nil_append, iI_add, iI_sub, iI_mul, iI_lt, iI_eq, iI_le, r16_15, r16_16, r16_19, c1]
    rw [if_neg (by omega)]
end Ec52
