section El16
variable {L : Nat} {xs : Nat → Int32} {d : Nat} {M M1 M2 M3 : e_MI} {V V2 : e_ML} {W : e_MD} {K K2 : e_St} {S : Int → e_St} {h : e_H} {c o j w z m k q p i f n a b t x B its : Int} {τ β ε : Int → Int}
/-! the row is read; ends and the cost of what was timed -/
def fR (M M2 : e_MI) : Prop := ∀ a, a ≠ 199 → M2 a = M a
theorem fR.l (h : fR M M2) : fL M M2 := ⟨fun a x => h a (by omega), fun a x y => h a (by omega), fun j x => by rw [h 184 (by decide)]⟩
theorem l_reads (HA : LA M K) (HS : SH M 1 K) (hr : kR K) (hV : kV K) : ∃ M2 : e_MI, e_lim L xs (d + 3) 172 0 [some (.ref 184), none, none, none, none] [] (e_hp M V W) = some (.inl (some (.int (bI true))), e_hp M2 V W, 0, 0) ∧ fR M M2 ∧ ∀ p, 0 ≤ p → p < aW K → M2 199 p.toNat = iI (rwK K p) := by
  have hn := hr.n
  obtain ⟨ha, hv⟩ := hV
  have key := G_lp (i := 0) (n := aW K) (I := fun j M1 => fR M M1 ∧ ∀ p, 0 ≤ p → p < j → M1 199 p.toNat = iI (rwK K p)) (P := fun j M1 => ∃ M2 : e_MI, e_lim L xs (d + 3) 172 2 [some (.ref 184), some (.int (iI j)), none, none, none] [] (e_hp M1 V W) = some (.inl (some (.int (bI true))), e_hp M2 V W, 0, 0) ∧ fR M M2 ∧ ∀ p, 0 ≤ p → p < aW K → M2 199 p.toNat = iI (rwK K p)) (fun j M1 x y hI hc => ?_) (fun M1 hI => ?_) ha.1 M ⟨fun _ _ => rfl, fun p x y => by omega⟩
  · obtain ⟨M2, e, r⟩ := key
    refine ⟨M2, ?_, r⟩
    rw [← e]
    simp (disch := first | assumption | exact e_nk_i _ | exact e_nk_n | exact e_nk_r _ | exact e_bo_0 | exact e_bo_1 | exact e_bo_b _ | omega) only [e_cl_v, e_cl_x, e_add_0, e_add_s, Option.toList_some, Option.toList_none, List.cons_append, List.nil_append, iI_add, iI_sub, iI_mul, iI_lt, iI_eq, iI_le, r172_0, r172_1]
  · obtain ⟨i1, i2⟩ := hI
    have HS1 := HS.of (M2 := M1) (fun a x y => i1 a (by omega))
    have e1 := x_rowAt (L := L) (xs := xs) (d := d) (V := V) (W := W) HS1 ha (p := j) (by unfold i32; omega)
    rw [if_pos ⟨x, by omega⟩] at e1
    have e0 := (HA.of i1.l).ws
    obtain ⟨M2, e, r⟩ := hc (e_u M1 199 (upd (M1 199) j.toNat (iI (rwK K j)))) ⟨fun a z => by rw [e_u_n _ _ z, i1 a z], fun p u v => by
      rw [e_u_s]
      by_cases hq : p = j
      · rw [hq, upd_s]
      · rw [upd_n _ _ (by omega)]
        exact i2 p u (by omega)⟩
    refine ⟨M2, ?_, r⟩
    rw [r172_2]
    simp (disch := first | assumption | exact e_nk_i _ | exact e_nk_n | exact e_nk_r _ | exact e_bo_0 | exact e_bo_1 | exact e_bo_b _ | omega) only [e_cl_v, e_cl_x, e_add_0, e_add_s, Option.toList_some, Option.toList_none, List.cons_append, List.nil_append, iI_add, iI_sub, iI_mul, iI_lt, iI_eq, iI_le, r172_3, r172_4, r172_7, r172_10, r172_11, r172_14, r172_15, r172_16, r172_19, r172_20, r172_23, r172_24, r172_27, iI_vin, iI_nat, if_true, e0, e1, if_pos y]
    exact e
  · obtain ⟨i1, i2⟩ := hI
    refine ⟨M1, ?_, i1, i2⟩
    have HA1 := HA.of i1.l
    have e0 := HA1.ws
    have e9 := HA1.nn
    have hsum : ∀ t, 0 ≤ t → t ≤ K 310 → 0 ≤ SU (fun o => K (40 + o)) t ∧ SU (fun o => K (40 + o)) t ≤ 32 := fun t u v => by
      have := SU_le (f := fun o => K (40 + o)) (n := t) (c := 4) (fun i x y => hr.wk (o := i) x (by omega)) u
      omega
    rw [r172_2]
    simp (disch := first | assumption | exact e_nk_i _ | exact e_nk_n | exact e_nk_r _ | exact e_bo_0 | exact e_bo_1 | exact e_bo_b _ | omega) only [e_cl_v, e_cl_x, e_add_0, e_add_s, Option.toList_some, Option.toList_none, List.cons_append, List.nil_append, iI_add, iI_sub, iI_mul, iI_lt, iI_eq, iI_le, r172_3, r172_4, r172_7, r172_10, r172_11, r172_14, r172_15, r172_16, r172_19, r172_20, r172_23, r172_24, r172_27, r172_30, r172_31, r172_32, r172_33, e0]
    rw [if_neg (by omega), show iI 0 = iI (SU (fun o => K (40 + o)) 0) from rfl]
    refine G_loopI (C := fun t => e_lim L xs (d + 3) 172 34 [some (.ref 184), some (.int (iI (SU (fun o => K (40 + o)) t))), some (.int (iI t)), none, none] [] (e_hp M1 V W)) (i := 0) (n := K 310) hn.1 (fun t u v hc => ?_) ?_
    · have hct := hv.2 t u v
      have rs := hsum t u (by omega)
      have hs := SU_s (fun o => K (40 + o)) u
      have r4 := hr.wk (o := t) u (by omega)
      rw [hs] at hc
      have e5 := HA1.mn u v
      rw [r172_34]
      simp (disch := first | assumption | exact e_nk_i _ | exact e_nk_n | exact e_nk_r _ | exact e_bo_0 | exact e_bo_1 | exact e_bo_b _ | omega) only [e_cl_v, e_cl_x, e_add_0, e_add_s, Option.toList_some, Option.toList_none, List.cons_append, List.nil_append, iI_add, iI_sub, iI_mul, iI_lt, iI_eq, iI_le, r172_35, r172_36, r172_39, r172_42, r172_43, r172_44, r172_45, e9]
      rw [if_pos v, show iI 0 = iI (cnt (rwK K) t 0) from rfl]
      refine G_loopI (C := fun k => e_lim L xs (d + 3) 172 47 [some (.ref 184), some (.int (iI (SU (fun o => K (40 + o)) t))), some (.int (iI t)), some (.int (iI (cnt (rwK K) t k))), some (.int (iI k))] [] (e_hp M1 V W)) (i := 0) (n := aW K) ha.1 (fun k x y hc2 => ?_) ?_
      · have e6 := i2 k x y
        have r6 := hv.1 k x y
        have rc := cnt_rg (rwK K) t x
        have hs2 := cnt_s (rwK K) t x
        rw [hs2] at hc2
        have r7 : 0 ≤ rwK K k ∧ rwK K k < K 310 := r6
        by_cases hq : rwK K k = t
        · rw [if_pos hq] at hc2
          rw [r172_47]
          simp (disch := first | assumption | exact e_nk_i _ | exact e_nk_n | exact e_nk_r _ | exact e_bo_0 | exact e_bo_1 | exact e_bo_b _ | omega) only [e_cl_v, e_cl_x, e_add_0, e_add_s, Option.toList_some, Option.toList_none, List.cons_append, List.nil_append, iI_add, iI_sub, iI_mul, iI_lt, iI_eq, iI_le, r172_49, r172_50, r172_53, r172_56, r172_57, r172_58, r172_61, r172_63, r172_64, r172_65, r172_68, r172_69, r172_72, r172_73, r172_74, r172_75, r172_78, iI_vin, iI_nat, if_true, e0, e6, if_pos y, if_pos hq]
          exact hc2
        · rw [if_neg hq] at hc2
          rw [r172_47]
          simp (disch := first | assumption | exact e_nk_i _ | exact e_nk_n | exact e_nk_r _ | exact e_bo_0 | exact e_bo_1 | exact e_bo_b _ | omega) only [e_cl_v, e_cl_x, e_add_0, e_add_s, Option.toList_some, Option.toList_none, List.cons_append, List.nil_append, iI_add, iI_sub, iI_mul, iI_lt, iI_eq, iI_le, r172_49, r172_50, r172_53, r172_56, r172_57, r172_58, r172_61, r172_63, r172_64, r172_65, r172_68, r172_69, r172_72, r172_73, r172_74, r172_75, r172_78, iI_vin, iI_nat, if_true, e0, e6, if_pos y, if_neg hq]
          exact hc2
      · have hct2 : cnt (rwK K) t (aW K) = K (40 + t) := hct
        rw [hct2, r172_47]
        simp (disch := first | assumption | exact e_nk_i _ | exact e_nk_n | exact e_nk_r _ | exact e_bo_0 | exact e_bo_1 | exact e_bo_b _ | omega) only [e_cl_v, e_cl_x, e_add_0, e_add_s, Option.toList_some, Option.toList_none, List.cons_append, List.nil_append, iI_add, iI_sub, iI_mul, iI_lt, iI_eq, iI_le, r172_49, r172_50, r172_53, r172_56, r172_57, r172_58, r172_61, r172_63, r172_64, r172_65, r172_68, r172_69, r172_72, r172_73, r172_74, r172_75, r172_78, r172_81, r172_82, r172_83, r172_86, r172_87, r172_88, r172_91, r172_92, r172_93, r172_94, r172_95, r172_96, r172_97, r172_100, iI_vin, iI_nat, if_true, e0, e5]
        rw [if_neg (by omega)]
        exact G_less (by repeat (first | exact e_ll.rf | refine e_ll_c ?_ | refine e_ll_x ?_)) hc
    · have haw : SU (fun o => K (40 + o)) (K 310) = aW K := rfl
      rw [haw, r172_34]
      simp (disch := first | assumption | exact e_nk_i _ | exact e_nk_n | exact e_nk_r _ | exact e_bo_0 | exact e_bo_1 | exact e_bo_b _ | omega) only [e_cl_v, e_cl_x, e_add_0, e_add_s, Option.toList_some, Option.toList_none, List.cons_append, List.nil_append, iI_add, iI_sub, iI_mul, iI_lt, iI_eq, iI_le, r172_35, r172_36, r172_39, r172_103, r172_104, r172_105, r172_108, r172_111, r172_112, r172_115, r172_116, e9, e0]
      rw [if_neg (by omega), if_pos trivial]
      rfl
/-- the end of an order -/
theorem l_endOf (HA : LA M K) (hr : kR K) (hp : kP K) (hv : vR K τ) (ha : 0 ≤ aW K ∧ aW K ≤ 16) (hR : LRW M τ (aW K)) (hE : LE M (scB K τ) (scE K τ) (aW K)) (ho : 0 ≤ o ∧ o < K 310) : e_lim L xs d 173 0 [some (.ref 184), some (.int (iI o)), none, none] [] (e_hp M V W) = some (.inl (some (.int (iI (enO K τ o)))), e_hp M V W, 0, 0) := by
  have hn := hr.n
  have e1 := HA.re ho.1 ho.2
  have e2 := HA.ws
  have e3 := HA.mn ho.1 ho.2
  have r3 := hr.wk (o := o) ho.1 (by omega)
  have hvp := vR.vp hr hv
  have hq0 : ∀ i : Int, 0 ≤ i → i ≤ aW K → -1 ≤ zLP (fun p => decide (τ p = o ∧ scW τ p = K (40 + o) - 1)) i ∧ zLP (fun p => decide (τ p = o ∧ scW τ p = K (40 + o) - 1)) i < aW K := fun i x y => by
    rcases zLP_cases (fun p => decide (τ p = o ∧ scW τ p = K (40 + o) - 1)) i x with ⟨u, v⟩ | ⟨u, v, _⟩ <;> omega
  simp (disch := first | assumption | exact e_nk_i _ | exact e_nk_n | exact e_nk_r _ | exact e_bo_0 | exact e_bo_1 | exact e_bo_b _ | omega) only [e_cl_v, e_cl_x, e_add_0, e_add_s, Option.toList_some, Option.toList_none, List.cons_append, List.nil_append, iI_add, iI_sub, iI_mul, iI_lt, iI_eq, iI_le, r173_0, r173_1, r173_4, r173_5, r173_6, r173_7, r173_8, iI_vin, iI_nat, if_true, e1]
  rw [show iI (K (16 + o)) = iI (if zLP (fun p => decide (τ p = o ∧ scW τ p = K (40 + o) - 1)) 0 = -1 then K (16 + o) else scE K τ (zLP (fun p => decide (τ p = o ∧ scW τ p = K (40 + o) - 1)) 0)) by rw [zLP_0, if_pos rfl]]
  refine G_loopI (C := fun i => e_lim L xs d 173 9 [some (.ref 184), some (.int (iI o)), some (.int (iI (if zLP (fun p => decide (τ p = o ∧ scW τ p = K (40 + o) - 1)) i = -1 then K (16 + o) else scE K τ (zLP (fun p => decide (τ p = o ∧ scW τ p = K (40 + o) - 1)) i)))), some (.int (iI i))] [] (e_hp M V W)) (i := 0) (n := aW K) ha.1 (fun j x y hc => ?_) ?_
  · obtain ⟨e4, e5⟩ := hR j x y
    obtain ⟨⟨_, e6⟩, _, r6⟩ := hE j x y
    have w := wk_at hr hvp x y
    rw [zLP_s _ x] at hc
    rw [r173_9]
    by_cases c1 : τ j = o
    · by_cases c2 : scW τ j = K (40 + o) - 1
      · rw [if_pos (decide_eq_true ⟨c1, c2⟩), if_neg (by omega)] at hc
        simp (disch := first | assumption | exact e_nk_i _ | exact e_nk_n | exact e_nk_r _ | exact e_bo_0 | exact e_bo_1 | exact e_bo_b _ | omega) only [e_cl_v, e_cl_x, e_add_0, e_add_s, Option.toList_some, Option.toList_none, List.cons_append, List.nil_append, iI_add, iI_sub, iI_mul, iI_lt, iI_eq, iI_le, r173_10, r173_11, r173_14, r173_17, r173_18, r173_21, r173_22, r173_23, r173_24, r173_27, r173_28, r173_31, r173_32, r173_33, r173_34, r173_37, r173_38, r173_39, r173_40, r173_41, r173_44, r173_45, r173_48, r173_49, r173_50, r173_51, r173_54, iI_vin, iI_nat, if_true, e2, e3, e4, e5, e6, if_pos y, if_pos c1, if_pos c2]
        exact hc
      · have hf : ¬ decide (τ j = o ∧ scW τ j = K (40 + o) - 1) = true := by rw [decide_eq_true_eq]; omega
        rw [if_neg hf] at hc
        simp (disch := first | assumption | exact e_nk_i _ | exact e_nk_n | exact e_nk_r _ | exact e_bo_0 | exact e_bo_1 | exact e_bo_b _ | omega) only [e_cl_v, e_cl_x, e_add_0, e_add_s, Option.toList_some, Option.toList_none, List.cons_append, List.nil_append, iI_add, iI_sub, iI_mul, iI_lt, iI_eq, iI_le, r173_10, r173_11, r173_14, r173_17, r173_18, r173_21, r173_22, r173_23, r173_24, r173_27, r173_28, r173_31, r173_32, r173_33, r173_34, r173_37, r173_38, r173_39, r173_40, r173_41, r173_44, r173_45, r173_48, r173_49, r173_50, r173_51, r173_54, iI_vin, iI_nat, if_true, e2, e3, e4, e5, e6, if_pos y, if_pos c1, if_neg c2]
        exact hc
    · have hf : ¬ decide (τ j = o ∧ scW τ j = K (40 + o) - 1) = true := by rw [decide_eq_true_eq]; omega
      rw [if_neg hf] at hc
      simp (disch := first | assumption | exact e_nk_i _ | exact e_nk_n | exact e_nk_r _ | exact e_bo_0 | exact e_bo_1 | exact e_bo_b _ | omega) only [e_cl_v, e_cl_x, e_add_0, e_add_s, Option.toList_some, Option.toList_none, List.cons_append, List.nil_append, iI_add, iI_sub, iI_mul, iI_lt, iI_eq, iI_le, r173_10, r173_11, r173_14, r173_17, r173_18, r173_21, r173_22, r173_23, r173_24, r173_27, r173_28, r173_31, r173_32, r173_33, r173_34, r173_37, r173_38, r173_39, r173_40, r173_41, r173_44, r173_45, r173_48, r173_49, r173_50, r173_51, r173_54, iI_vin, iI_nat, if_true, e2, e3, e4, e5, e6, if_pos y, if_neg c1]
      exact hc
  · have he : (if zLP (fun p => decide (τ p = o ∧ scW τ p = K (40 + o) - 1)) (aW K) = -1 then K (16 + o) else scE K τ (zLP (fun p => decide (τ p = o ∧ scW τ p = K (40 + o) - 1)) (aW K))) = enO K τ o := by
      unfold enO
      by_cases c1 : K (40 + o) = 0
      · rw [if_pos c1, zLP_none ha.1 (fun q x y => by
          have w := wk_at hr hvp x y
          rw [decide_eq_false_iff_not]
          omega), if_pos rfl]
      · have hs := (plO_sp hr hv ha.1 ho (w := K (40 + o) - 1) (by omega)).1
        have hd : zLP (fun p => decide (τ p = o ∧ scW τ p = K (40 + o) - 1)) (aW K) = plO K τ o (K (40 + o) - 1) := rfl
        rw [if_neg c1, hd, if_neg (by omega)]
    rw [he, r173_9]
    simp (disch := first | assumption | exact e_nk_i _ | exact e_nk_n | exact e_nk_r _ | exact e_bo_0 | exact e_bo_1 | exact e_bo_b _ | omega) only [e_cl_v, e_cl_x, e_add_0, e_add_s, Option.toList_some, Option.toList_none, List.cons_append, List.nil_append, iI_add, iI_sub, iI_mul, iI_lt, iI_eq, iI_le, r173_10, r173_11, r173_14, r173_57, r173_58, e2]
    rw [if_neg (by omega)]
theorem mX_max (f : Int → Int) (h : 0 ≤ i) : mX f (i + 1) = max (mX f i) (f i) := by
  rw [mX_s f h]
  split <;> omega
theorem l_endNow (HA : LA M K) (ha : 0 ≤ aW K ∧ aW K ≤ 16) (hE : LE M β ε (aW K)) : e_lim L xs (d + 1) 174 0 [some (.ref 184), none, none] [] (e_hp M V W) = some (.inl (some (.int (iI (mX ε (aW K))))), e_hp M V W, 0, 0) := by
  have e2 := HA.ws
  simp (disch := first | assumption | exact e_nk_i _ | exact e_nk_n | exact e_nk_r _ | exact e_bo_0 | exact e_bo_1 | exact e_bo_b _ | omega) only [e_cl_v, e_cl_x, e_add_0, e_add_s, Option.toList_some, Option.toList_none, List.cons_append, List.nil_append, iI_add, iI_sub, iI_mul, iI_lt, iI_eq, iI_le, r174_0, r174_1, r174_2, r174_3]
  rw [show iI 0 = iI (mX ε 0) from rfl]
  refine G_loopI (C := fun i => e_lim L xs (d + 1) 174 4 [some (.ref 184), some (.int (iI (mX ε i))), some (.int (iI i))] [] (e_hp M V W)) (i := 0) (n := aW K) ha.1 (fun j x y hc => ?_) ?_
  · obtain ⟨⟨_, e6⟩, _, r6⟩ := hE j x y
    have rx := mX_rg (f := ε) (n := j) (c := 2001) x (by omega) (fun p u v => (hE p u (by omega)).2.2.2)
    rw [mX_max _ x] at hc
    rw [r174_4]
    simp (disch := first | assumption | exact e_nk_i _ | exact e_nk_n | exact e_nk_r _ | exact e_bo_0 | exact e_bo_1 | exact e_bo_b _ | omega) only [e_cl_v, e_cl_x, e_add_0, e_add_s, Option.toList_some, Option.toList_none, List.cons_append, List.nil_append, iI_add, iI_sub, iI_mul, iI_lt, iI_eq, iI_le, r174_5, r174_6, r174_9, r174_12, r174_13, r174_14, r174_17, r174_18, r174_19, r174_22, r174_23, r174_26, iI_vin, iI_nat, if_true, e2, e6, if_pos y, iI_mx]
    exact hc
  · rw [r174_4]
    simp (disch := first | assumption | exact e_nk_i _ | exact e_nk_n | exact e_nk_r _ | exact e_bo_0 | exact e_bo_1 | exact e_bo_b _ | omega) only [e_cl_v, e_cl_x, e_add_0, e_add_s, Option.toList_some, Option.toList_none, List.cons_append, List.nil_append, iI_add, iI_sub, iI_mul, iI_lt, iI_eq, iI_le, r174_5, r174_6, r174_9, r174_29, r174_30, e2]
    rw [if_neg (by omega)]
theorem mul_rg {A C : Int} (h1 : 0 ≤ a ∧ a ≤ A) (h2 : 0 ≤ b ∧ b ≤ C) : 0 ≤ a * b ∧ a * b ≤ A * C := ⟨Int.mul_nonneg h1.1 h2.1, Int.mul_le_mul h1.2 h2.2 h2.1 (by omega)⟩
theorem l_cost (HA : LA M K) (HC : LC M K) (hr : kR K) (hp : kP K) (hv : vR K τ) (ha : 0 ≤ aW K ∧ aW K ≤ 16) (hR : LRW M τ (aW K)) (hE : LE M (scB K τ) (scE K τ) (aW K)) : e_lim L xs (d + 1) 175 0 [some (.ref 184), none, none, none, none] [] (e_hp M V W) = some (.inl (some (.long (lI (ctW K (enO K τ))))), e_hp M V W, 0, 0) := by
  have hn := hr.n
  have e0 := HA.nn
  have g1 := HC.1
  have g2 := HC.2
  have q1 := hr.r0
  have q2 := hr.r1
  simp (disch := first | assumption | exact e_nk_i _ | exact e_nk_n | exact e_nk_r _ | exact e_bo_0 | exact e_bo_1 | exact e_bo_b _ | omega) only [e_cl_v, e_cl_x, e_add_0, e_add_s, Option.toList_some, Option.toList_none, List.cons_append, List.nil_append, iI_add, iI_sub, iI_mul, iI_lt, iI_eq, iI_le, r175_0, r175_1, r175_2, r175_3, lI_0]
  rw [show lI 0 = lI (SU (ctO K (enO K τ)) 0) from rfl]
  refine G_loopI (C := fun i => e_lim L xs (d + 1) 175 4 [some (.ref 184), some (.long (lI (SU (ctO K (enO K τ)) i))), none, some (.int (iI i)), none] [] (e_hp M V W)) (i := 0) hn.1 (fun j x y hc => ?_) ?_
  · have e1 := l_endOf (L := L) (xs := xs) (d := d) (V := V) (W := W) HA hr hp hv ha hR hE (o := j) ⟨x, y⟩
    have e3 := HA.du x y
    have e4 := HA.we x y
    have r1 := eo_rg hr hp hv ha.1 (o := j) ⟨x, y⟩
    have r3 := hr.du (o := j) x (by omega)
    have r4 := hr.we (o := j) x (by omega)
    rw [SU_s _ x] at hc
    have hct : ctO K (enO K τ) j = (if 0 < enO K τ j - K (24 + j) then (enO K τ j - K (24 + j)) * K 309 else (0 - (enO K τ j - K (24 + j))) * K 308) * K (32 + j) := rfl
    rw [hct] at hc
    generalize enO K τ j = e at *
    rw [r175_4]
    simp (disch := first | assumption | exact e_nk_i _ | exact e_nk_n | exact e_nk_r _ | exact e_bo_0 | exact e_bo_1 | exact e_bo_b _ | omega) only [e_cl_v, e_cl_x, e_add_0, e_add_s, Option.toList_some, Option.toList_none, List.cons_append, List.nil_append, iI_add, iI_sub, iI_mul, iI_lt, iI_eq, iI_le, r175_5, r175_6, r175_9, r175_12, r175_13, r175_14, r175_17, r175_18, r175_21, r175_22, r175_23, r175_24, r175_26, r175_27, r175_28, r175_31, r175_32, r175_33, r175_34, r175_36, iI_vin, iI_nat, if_true, e0, e1, e3, e4, if_pos y, lI_i]
    by_cases z : 0 < e - K (24 + j)
    · have rm := mul_rg (a := e - K (24 + j)) (b := K 309) (A := 2001) (C := 1000) (by omega) (by omega)
      rw [if_pos z] at hc
      first | rw [if_neg (by omega)] | rw [if_pos (by omega)]
      simp (disch := first | assumption | exact e_nk_i _ | exact e_nk_n | exact e_nk_r _ | exact e_bo_0 | exact e_bo_1 | exact e_bo_b _ | omega) only [e_cl_v, e_cl_x, e_add_0, e_add_s, Option.toList_some, Option.toList_none, List.cons_append, List.nil_append, iI_add, iI_sub, iI_mul, iI_lt, iI_eq, iI_le, r175_39, r175_41, r175_42, r175_45, r175_46, r175_49, r175_51, r175_52, r175_53, r175_56, r175_57, r175_58, r175_59, r175_60, r175_61, r175_64, g1, g2, iI_neg, lI_i, lI_mul, lI_add]
      rw [Int.mul_comm (K (32 + j))]
      exact G_less (by repeat (first | exact e_ll.rf | refine e_ll_c ?_ | refine e_ll_x ?_)) hc
    · have rm := mul_rg (a := 0 - (e - K (24 + j))) (b := K 308) (A := 500) (C := 1000) (by omega) (by omega)
      have hneg : -(e - K (24 + j)) = 0 - (e - K (24 + j)) := by omega
      rw [if_neg z] at hc
      first | rw [if_pos (by omega)] | rw [if_neg (by omega)]
      simp (disch := first | assumption | exact e_nk_i _ | exact e_nk_n | exact e_nk_r _ | exact e_bo_0 | exact e_bo_1 | exact e_bo_b _ | omega) only [e_cl_v, e_cl_x, e_add_0, e_add_s, Option.toList_some, Option.toList_none, List.cons_append, List.nil_append, iI_add, iI_sub, iI_mul, iI_lt, iI_eq, iI_le, r175_39, r175_41, r175_42, r175_45, r175_46, r175_49, r175_51, r175_52, r175_53, r175_56, r175_57, r175_58, r175_59, r175_60, r175_61, r175_64, g1, g2, iI_neg, hneg, lI_i, lI_mul, lI_add]
      rw [Int.mul_comm (K (32 + j))]
      exact G_less (by repeat (first | exact e_ll.rf | refine e_ll_c ?_ | refine e_ll_x ?_)) hc
  · rw [r175_4]
    simp (disch := first | assumption | exact e_nk_i _ | exact e_nk_n | exact e_nk_r _ | exact e_bo_0 | exact e_bo_1 | exact e_bo_b _ | omega) only [e_cl_v, e_cl_x, e_add_0, e_add_s, Option.toList_some, Option.toList_none, List.cons_append, List.nil_append, iI_add, iI_sub, iI_mul, iI_lt, iI_eq, iI_le, r175_5, r175_6, r175_9, r175_67, r175_68, e0]
    rw [if_neg (by omega)]
    rfl
end El16
