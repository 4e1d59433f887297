section Ec46
variable {L : Nat} {xs : Nat → Int32} {d : Nat} {M M2 M3 : e_MI} {V : e_ML} {W : e_MD} {K K1 K2 : e_St} {S : Int → e_St} {h : e_H} {s s0 s1 t t2 a b2 n : Nat} {c o w z m k q p i f l b e mc tl T x y v N : Int} {sc bb : Bool} {ρ ν μ χ β ε τ τ2 u : Int → Int}
/-! a rest, figures -/
theorem x_rest (H : CK M K c S) (hg : kG K) (hm : i32 m) (hf0 : i32 f) (hx : i32 x) : ∃ M2 : e_MI, e_lim L xs (d + 7) 117 0 [some (.ref 0), some (.int (iI m)), some (.int (iI f)), some (.int (iI x)), none] [] (e_hp M V W) = (if (0 ≤ m ∧ m ≤ 3) ∧ (0 ≤ f ∧ f ≤ 1999) ∧ f + 1 ≤ x ∧ x ≤ 2000 then (if K 311 < 10 then some (.inl (some (.int (iI (anRe K m f x)))), e_hp M2 V W, 0, 0) else some (.inr 1, e_hp M2 V W, 1, 6)) else some (.inr 0, e_hp M2 V W, 1, 6)) ∧ (((0 ≤ m ∧ m ≤ 3) ∧ (0 ≤ f ∧ f ≤ 1999) ∧ f + 1 ≤ x ∧ x ≤ 2000) ∧ K 311 < 10 → CK M2 (reK K m f x) (svC c) (svS c S K)) ∧ (¬(((0 ≤ m ∧ m ≤ 3) ∧ (0 ≤ f ∧ f ≤ 1999) ∧ f + 1 ≤ x ∧ x ≤ 2000) ∧ K 311 < 10) → M2 = M) ∧ ∀ a, a < 1 ∨ 164 < a → M2 a = M a := by
  obtain ⟨hr, ⟨ha, hv⟩, hp, hk9, hd⟩ := id hg
  have hrm := hr.rm
  have e0 := m_isMachine (L := L) (xs := xs) (d := d + 5) (M := M) (V := V) (W := W) (z := m) hm
  have i1 := m_isWithin (L := L) (xs := xs) (d := d + 6) (h := e_hp M V W) (x := f) (y2 := 0) (z2 := 1999) hf0 (by omega) (by omega)
  have rt := m_requireArgument (L := L) (xs := xs) (d := d + 6) (h := e_hp M V W) true
  have rf := m_requireArgument (L := L) (xs := xs) (d := d + 6) (h := e_hp M V W) false
  have st := m_requireState (L := L) (xs := xs) (d := d + 6) (h := e_hp M V W) true
  have sf := m_requireState (L := L) (xs := xs) (d := d + 6) (h := e_hp M V W) false
  rw [if_pos rfl, bI_t] at rt st
  rw [if_neg (by decide), bI_f] at rf sf
  have c0 := H.sh.cr
  by_cases h0 : 0 ≤ m ∧ m ≤ 3
  · rw [decide_eq_true h0, bI_t] at e0
    by_cases h1 : 0 ≤ f ∧ f ≤ 1999
    · rw [decide_eq_true h1, bI_t] at i1
      have i2 := m_isWithin (L := L) (xs := xs) (d := d + 6) (h := e_hp M V W) (x := x) (y2 := f + 1) (z2 := 2000) hx (by omega) (by omega)
      by_cases h2 : f + 1 ≤ x ∧ x ≤ 2000
      · rw [decide_eq_true h2, bI_t] at i2
        by_cases h3 : K 311 < 10
        · obtain ⟨K2, hK2⟩ : ∃ K2, K2 = reK K m f x := ⟨_, rfl⟩
          have hg2 := kG_re hg h3 h0 h1 h2
          rw [← hK2] at hg2
          obtain ⟨hr2, ⟨ha2, hv2⟩, hp2, hk2, hd2⟩ := id hg2
          have hz : ∀ z, (z < 208 + K 311 ∨ (238 ≤ z ∧ z ≠ 311)) → K2 z = K z := fun z y => by
            rw [hK2]
            unfold reK
            rw [uI_n _ _ (by omega), uI_n _ _ (by omega), uI_n _ _ (by omega), uI_n _ _ (by omega)]
          have hw2 : aW K2 = aW K := aW_cong (hz 310 (by omega)) (fun o a b => hz _ (by have := hr.n; omega))
          have hro : ∀ p, 0 ≤ p → p < aW K → rwK K2 p = rwK K p := fun p a b => hz _ (by omega)
          obtain ⟨M1, e3, k1, k2, k3, k4, hf⟩ := x_rem (L := L) (xs := xs) (d := d + 3) (V := V) (W := W) H hg
          obtain ⟨M2, e4, hS2, hf2⟩ := s_addRest (L := L) (xs := xs) (d := d + 5) (V := V) (W := W) k1 hr ha.2 h3 (m := m) (f := f) (x := x)
          rw [← hK2] at hS2
          have c1 := hS2.cw
          obtain ⟨M3, e5, hw3, hf3⟩ := tg_follow (L := L) (xs := xs) (d := d + 1) (M := M2) (V := V) (W := W) e_isT_1 (by omega) si_8 (by omega) hr2 hd2 hp2 (vR.pf hr2 hv2) ha2 hS2 (fun p a b => hS2.ro a b) (k4.of fun a x y => hf2 a (by omega) (by omega))
          have e5' : e_lim L xs (d + 6) 66 0 [some (.ref 149), some (.ref 1), some (.ref 8), some (.int (iI (aW K2))), none, none, none] [] (e_hp M2 V W) = some (.inl (some (.int (bI (ft K2)))), e_hp M3 V W, 0, 0) := e5
          have hw4 : M3 149 0 = bI (ft K2) := hw3.1
          have hP3 : PR M3 K := k3.of fun a x y => by rw [hf3 a (by omega), hf2 a (by omega) (by omega)]
          have c2 : M3 133 0 = bI (ft K) := hP3.fits
          obtain ⟨M4, e6, hC, hf4⟩ := x_then (L := L) (xs := xs) (d := d) (M := M3) (V := V) (W := W) (hS2.of fun a x y => hf3 a (by omega)) hg2 (k2.of fun a x y => by rw [hf3 a (by omega), hf2 a (by omega) (by omega)]) hP3.g hw3.g
          refine ⟨M4, ?_, fun _ => by rw [← hK2]; exact hC, fun y => absurd ⟨⟨h0, h1, h2⟩, h3⟩ y, fun a y => by rw [hf4 a (by omega), hf3 a (by omega), hf2 a (by omega) (by omega), hf a (by omega)]⟩
          rw [if_pos ⟨h0, h1, h2⟩, if_pos h3]
          unfold anRe
          rw [← hK2]
          by_cases hft : ft K = true
          · rw [hft, bI_t] at c2
            by_cases hf5 : ft K2 = true
            · have hT3 : TT M3 149 K2 (rwK K2) (aW K2) := by
                obtain ⟨-, c, -, -, hT, he⟩ := hw3
                rw [he hf5] at hT
                exact hT
              have e7 := tt_countMoved (L := L) (xs := xs) (d := d + 4) (V := V) (W := W) e_isT_0 (hP3.tt hft) hT3 hr hp hr2 hp2 hv hv2 ha.1 ha2.1 (hz 310 (by omega)) (fun o a b => hz _ (by have := hr.n; omega))
              have e8 : SU (fun p => if scB K2 (rwK K2) (plO K2 (rwK K2) (rwK K p) (scW (rwK K) p)) = scB K (rwK K) p then 0 else 1) (aW K) = otW K K2 (rwK K) := SU_cong fun p a b => by
                have t1 := sc_tauI (K := K2) (τ := rwK K2) (τ2 := rwK K) hro a b
                have t2 := plO_self hr2 hv2 ha2.1 a (by rw [hw2]; exact b)
                have t3 : plO K (rwK K) (rwK K p) (scW (rwK K) p) = p := plO_self hr hv ha.1 a b
                have t4 : plO K2 (rwK K2) (rwK K p) (scW (rwK K) p) = p := by
                  rw [← hro p a b, ← t1.2.2]
                  exact t2
                rw [t4, t3, t1.1]
                show (if scB K2 (rwK K) p = scB K (rwK K) p then (0 : Int) else 1) = if scB K (rwK K) p = scB K2 (rwK K) p then 0 else 1
                by_cases hq : scB K2 (rwK K) p = scB K (rwK K) p
                · rw [if_pos hq, if_pos hq.symm]
                · rw [if_neg hq, if_neg (fun y => hq y.symm)]
              rw [e8] at e7
              rw [hf5, bI_t] at hw4 e5'
              rw [if_pos ⟨hf5, hft⟩]
              simp (disch := first | assumption | exact e_nk_i _ | exact e_nk_n | exact e_nk_r _ | exact e_bo_0 | exact e_bo_1 | exact e_bo_b _ | omega) only [e_cl_v, e_cl_x, e_add_0, e_add_s, Option.toList_some, Option.toList_none, List.cons_append, List.nil_append, iI_add, iI_sub, iI_mul, iI_lt, iI_eq, iI_le, r117_0, r117_1, r117_4, r117_7, r117_8, r117_9, r117_12, r117_15, r117_18, r117_19, r117_20, r117_21, r117_22, r117_25, r117_28, r117_31, r117_32, r117_35, r117_36, r117_39, r117_40, r117_43, r117_46, r117_48, r117_51, r117_52, r117_55, r117_56, r117_59, r117_60, r117_63, r117_64, r117_67, r117_70, r117_71, r117_74, r117_75, r117_76, r117_77, r117_80, r117_81, r117_84, r117_85, r117_88, r117_89, r117_92, r117_95, r117_96, r117_99, r117_102, r117_105, r117_106, r117_107, r117_110, r117_113, r117_116, r117_117, r117_120, r117_123, r117_126, r117_127, r117_130, r117_131, r117_134, r117_137, r117_140, r117_141, r117_143, r117_144, r117_147, r117_149, e0, i1, i2, rt, c0, st, e3, e4, c1, e5', c2, hw4, e7, e6]
              rw [if_pos h3]
              simp
            · rw [Bool.not_eq_true] at hf5
              rw [hf5, bI_f] at hw4 e5'
              rw [if_neg (fun y => by rw [hf5] at y; exact Bool.false_ne_true y.1)]
              simp (disch := first | assumption | exact e_nk_i _ | exact e_nk_n | exact e_nk_r _ | exact e_bo_0 | exact e_bo_1 | exact e_bo_b _ | omega) only [e_cl_v, e_cl_x, e_add_0, e_add_s, Option.toList_some, Option.toList_none, List.cons_append, List.nil_append, iI_add, iI_sub, iI_mul, iI_lt, iI_eq, iI_le, r117_0, r117_1, r117_4, r117_7, r117_8, r117_9, r117_12, r117_15, r117_18, r117_19, r117_20, r117_21, r117_22, r117_25, r117_28, r117_31, r117_32, r117_35, r117_36, r117_39, r117_40, r117_43, r117_46, r117_48, r117_51, r117_52, r117_55, r117_56, r117_59, r117_60, r117_63, r117_64, r117_67, r117_70, r117_71, r117_74, r117_75, r117_76, r117_77, r117_80, r117_81, r117_84, r117_85, r117_88, r117_89, r117_92, r117_95, r117_96, r117_99, r117_102, r117_105, r117_106, r117_107, r117_110, r117_113, r117_116, r117_117, r117_120, r117_123, r117_126, r117_127, r117_130, r117_131, r117_134, r117_137, r117_140, r117_141, r117_143, r117_144, r117_147, r117_149, e0, i1, i2, rt, c0, st, e3, e4, c1, e5', c2, hw4, e6]
              rw [if_pos h3]
              simp
          · rw [Bool.not_eq_true] at hft
            rw [hft, bI_f] at c2
            rw [if_neg (fun y => by rw [hft] at y; exact Bool.false_ne_true y.2)]
            simp (disch := first | assumption | exact e_nk_i _ | exact e_nk_n | exact e_nk_r _ | exact e_bo_0 | exact e_bo_1 | exact e_bo_b _ | omega) only [e_cl_v, e_cl_x, e_add_0, e_add_s, Option.toList_some, Option.toList_none, List.cons_append, List.nil_append, iI_add, iI_sub, iI_mul, iI_lt, iI_eq, iI_le, r117_0, r117_1, r117_4, r117_7, r117_8, r117_9, r117_12, r117_15, r117_18, r117_19, r117_20, r117_21, r117_22, r117_25, r117_28, r117_31, r117_32, r117_35, r117_36, r117_39, r117_40, r117_43, r117_46, r117_48, r117_51, r117_52, r117_55, r117_56, r117_59, r117_60, r117_63, r117_64, r117_67, r117_70, r117_71, r117_74, r117_75, r117_76, r117_77, r117_80, r117_81, r117_84, r117_85, r117_88, r117_89, r117_92, r117_95, r117_96, r117_99, r117_102, r117_105, r117_106, r117_107, r117_110, r117_113, r117_116, r117_117, r117_120, r117_123, r117_126, r117_127, r117_130, r117_131, r117_134, r117_137, r117_140, r117_141, r117_143, r117_144, r117_147, r117_149, e0, i1, i2, rt, c0, st, e3, e4, c1, e5', c2, e6]
            rw [if_pos h3]
            simp
        · refine ⟨M, ?_, fun y => absurd y.2 h3, fun _ => rfl, fun _ _ => rfl⟩
          rw [if_pos ⟨h0, h1, h2⟩, if_neg h3]
          simp (disch := first | assumption | exact e_nk_i _ | exact e_nk_n | exact e_nk_r _ | exact e_bo_0 | exact e_bo_1 | exact e_bo_b _ | omega) only [e_cl_v, e_cl_x, e_add_0, e_add_s, Option.toList_some, Option.toList_none, List.cons_append, List.nil_append, iI_add, iI_sub, iI_mul, iI_lt, iI_eq, iI_le, r117_0, r117_1, r117_4, r117_7, r117_8, r117_9, r117_12, r117_15, r117_18, r117_19, r117_20, r117_21, r117_22, r117_25, r117_28, r117_31, r117_32, r117_35, r117_36, r117_39, r117_40, r117_43, r117_46, r117_48, r117_51, r117_52, r117_55, r117_56, e0, i1, i2, rt, c0, sf]
          rw [if_neg h3]
          simp
      · rw [decide_eq_false h2, bI_f] at i2
        refine ⟨M, ?_, fun y => absurd y.1.2.2 h2, fun _ => rfl, fun _ _ => rfl⟩
        rw [if_neg (fun y => h2 y.2.2)]
        simp (disch := first | assumption | exact e_nk_i _ | exact e_nk_n | exact e_nk_r _ | exact e_bo_0 | exact e_bo_1 | exact e_bo_b _ | omega) only [e_cl_v, e_cl_x, e_add_0, e_add_s, Option.toList_some, Option.toList_none, List.cons_append, List.nil_append, iI_add, iI_sub, iI_mul, iI_lt, iI_eq, iI_le, r117_0, r117_1, r117_4, r117_7, r117_8, r117_9, r117_12, r117_15, r117_18, r117_19, r117_20, r117_21, r117_22, r117_25, r117_28, r117_31, r117_32, r117_35, r117_36, e0, i1, i2, rf]
        simp
    · rw [decide_eq_false h1, bI_f] at i1
      refine ⟨M, ?_, fun y => absurd y.1.2.1 h1, fun _ => rfl, fun _ _ => rfl⟩
      rw [if_neg (fun y => h1 y.2.1)]
      simp (disch := first | assumption | exact e_nk_i _ | exact e_nk_n | exact e_nk_r _ | exact e_bo_0 | exact e_bo_1 | exact e_bo_b _ | omega) only [e_cl_v, e_cl_x, e_add_0, e_add_s, Option.toList_some, Option.toList_none, List.cons_append, List.nil_append, iI_add, iI_sub, iI_mul, iI_lt, iI_eq, iI_le, r117_0, r117_1, r117_4, r117_7, r117_8, r117_9, r117_12, r117_15, r117_18, r117_19, r117_20, r117_21, r117_22, r117_25, r117_28, r117_31, r117_32, r117_35, r117_36, e0, i1, rf]
      simp
  · rw [decide_eq_false h0, bI_f] at e0
    refine ⟨M, ?_, fun y => absurd y.1.1 h0, fun _ => rfl, fun _ _ => rfl⟩
    rw [if_neg (fun y => h0 y.1)]
    simp (disch := first | assumption | exact e_nk_i _ | exact e_nk_n | exact e_nk_r _ | exact e_bo_0 | exact e_bo_1 | exact e_bo_b _ | omega) only [e_cl_v, e_cl_x, e_add_0, e_add_s, Option.toList_some, Option.toList_none, List.cons_append, List.nil_append, iI_add, iI_sub, iI_mul, iI_lt, iI_eq, iI_le, r117_0, r117_1, r117_4, r117_7, r117_8, r117_9, r117_12, r117_15, r117_18, r117_19, r117_20, r117_21, r117_22, r117_25, r117_28, r117_31, r117_32, r117_35, r117_36, e0, rf]
    simp
theorem x_checksum (H : CK M K c S) (hg : kG K) : e_lim L xs (d + 1) 156 0 [some (.ref 0), none, none] [] (e_hp M V W) = some (.inl (some (.int (iI (csW K)))), e_hp M V W, 0, 0) := by
  obtain ⟨hr, ⟨ha, hv⟩, hp, hk, hd⟩ := hg
  have c0 := H.pr.fits
  have c1 := H.sh.cw
  simp (disch := first | assumption | exact e_nk_i _ | exact e_nk_n | exact e_nk_r _ | exact e_bo_0 | exact e_bo_1 | exact e_bo_b _ | omega) only [e_cl_v, e_cl_x, e_add_0, e_add_s, Option.toList_some, Option.toList_none, List.cons_append, List.nil_append, iI_add, iI_sub, iI_mul, iI_lt, iI_eq, iI_le, r156_0, r156_2, r156_3, r156_4]
  unfold csW
  refine G_loopI (C := fun i => e_lim L xs (d + 1) 156 5 [some (.ref 0), some (.int (iI (csF K i.toNat))), some (.int (iI i))] [] (e_hp M V W)) (i := 0) ha.1 (fun j a b hc => ?_) ?_
  · have e1 := m_atI (L := L) (xs := xs) (d := d) (M := M) (V := V) (W := W) si_8 (z := j) a (by omega) (H.sh.ro a b)
    have hst : csF K (j + 1).toNat = 31 * csF K j.toNat + K (241 + j) + (if ft K = true then bT K j else 0) := by
      rw [show (j + 1).toNat = j.toNat + 1 by omega]
      show 31 * csF K j.toNat + K (241 + (j.toNat : Int)) + (if ft K = true then bT K (j.toNat : Int) else 0) = _
      rw [Int.toNat_of_nonneg a]
    rw [hst] at hc
    generalize csF K j.toNat = q at *
    rw [r156_5]
    by_cases hb : ft K = true
    · obtain ⟨-, -, -, -, -, a5, -⟩ := (H.pr.tt hb).a1
      have e2 := m_atI (L := L) (xs := xs) (d := d) (M := M) (V := V) (W := W) (a := 138) (n := 16) si_138 (z := j) a (by omega) (a5 j a b)
      have e2' : e_lim L xs d 173 0 [some (.ref 138), some (.int (iI j))] [] (e_hp M V W) = some (.inl (some (.int (iI (bT K j)))), e_hp M V W, 0, 0) := e2
      rw [hb, bI_t] at c0
      rw [if_pos hb] at hc
      simp (disch := first | assumption | exact e_nk_i _ | exact e_nk_n | exact e_nk_r _ | exact e_bo_0 | exact e_bo_1 | exact e_bo_b _ | omega) only [e_cl_v, e_cl_x, e_add_0, e_add_s, Option.toList_some, Option.toList_none, List.cons_append, List.nil_append, iI_add, iI_sub, iI_mul, iI_lt, iI_eq, iI_le, r156_6, r156_7, r156_10, r156_13, r156_16, r156_18, r156_19, r156_20, r156_21, r156_24, r156_27, r156_28, r156_31, r156_32, r156_33, r156_34, r156_37, r156_40, r156_43, r156_44, r156_45, r156_48, r156_51, r156_52, r156_55, r156_56, r156_57, r156_60, c0, c1, e1, e2']
      rw [if_pos b]
      simpa using hc
    · rw [if_neg hb] at hc
      rw [Bool.not_eq_true] at hb
      rw [hb, bI_f] at c0
      simp (disch := first | assumption | exact e_nk_i _ | exact e_nk_n | exact e_nk_r _ | exact e_bo_0 | exact e_bo_1 | exact e_bo_b _ | omega) only [e_cl_v, e_cl_x, e_add_0, e_add_s, Option.toList_some, Option.toList_none, List.cons_append, List.nil_append, iI_add, iI_sub, iI_mul, iI_lt, iI_eq, iI_le, r156_6, r156_7, r156_10, r156_13, r156_16, r156_18, r156_19, r156_20, r156_21, r156_24, r156_27, r156_28, r156_31, r156_32, r156_33, r156_34, r156_37, r156_40, r156_43, r156_44, r156_45, r156_48, r156_51, r156_52, r156_55, r156_56, r156_57, r156_60, c0, c1, e1]
      rw [if_pos b]
      simpa using hc
  · rw [r156_5]
    simp (disch := first | assumption | exact e_nk_i _ | exact e_nk_n | exact e_nk_r _ | exact e_bo_0 | exact e_bo_1 | exact e_bo_b _ | omega) only [e_cl_v, e_cl_x, e_add_0, e_add_s, Option.toList_some, Option.toList_none, List.cons_append, List.nil_append, iI_add, iI_sub, iI_mul, iI_lt, iI_eq, iI_le, r156_6, r156_7, r156_10, r156_13, r156_63, r156_64, c1]
    rw [if_neg (by omega)]
theorem edW_rg (hg : kG K) : 0 ≤ edW K ∧ edW K ≤ 2001 := by
  obtain ⟨hr, ⟨ha, hv⟩, hp, hk, hd⟩ := hg
  exact mX_rg (f := eT K) (n := aW K) (c := 2001) ha.1 (by omega) (fun p x y => (sc_spI hr hp (vR.vp hr hv) x y).1.2.2)
theorem x_meanEnd (H : CK M K c S) (hg : kG K) : e_lim L xs (d + 3) 157 0 [some (.ref 0), none, none, none] [] (e_hp M V W) = if ft K = true then some (.inl (some (.double (mnW K))), e_hp M V W, 0, 0) else some (.inr 1, e_hp M V W, 1, 6) := by
  obtain ⟨hr, ⟨ha, hv⟩, hp, hk, hd⟩ := hg
  have hn := hr.n
  have c0 := H.pr.fits
  have c1 := H.sh.cn
  have e2 := m_requireState (L := L) (xs := xs) (d := d + 2) (h := e_hp M V W) (ft K)
  by_cases hb : ft K = true
  · rw [if_pos hb] at e2
    rw [if_pos hb]
    unfold mnW
    by_cases hn0 : K 310 = 0
    · rw [if_pos hn0]
      rw [hn0] at c1
      simp (disch := first | assumption | exact e_nk_i _ | exact e_nk_n | exact e_nk_r _ | exact e_bo_0 | exact e_bo_1 | exact e_bo_b _ | omega) only [e_cl_v, e_cl_x, e_add_0, e_add_s, Option.toList_some, Option.toList_none, List.cons_append, List.nil_append, iI_add, iI_sub, iI_mul, iI_lt, iI_eq, iI_le, r157_0, r157_1, r157_4, r157_7, r157_10, r157_11, r157_14, r157_17, r157_18, r157_19, r157_22, r157_23, c0, c1, e2]
      simp
    · rw [if_neg hn0]
      have hsum := SU_le (f := fun o => enO K (rwK K) o) (n := K 310) (c := 2001) (fun o u v => eo_rg hr hp hv ha.1 ⟨u, v⟩) hn.1
      have hm : 0 ≤ mnS K ∧ mnS K ≤ 16384 := by
        unfold mnS
        omega
      simp (disch := first | assumption | exact e_nk_i _ | exact e_nk_n | exact e_nk_r _ | exact e_bo_0 | exact e_bo_1 | exact e_bo_b _ | omega) only [e_cl_v, e_cl_x, e_add_0, e_add_s, Option.toList_some, Option.toList_none, List.cons_append, List.nil_append, iI_add, iI_sub, iI_mul, iI_lt, iI_eq, iI_le, r157_0, r157_1, r157_4, r157_7, r157_10, r157_11, r157_14, r157_17, r157_18, r157_19, r157_22, r157_23, r157_24, r157_25, r157_26, r157_27, c0, c1, e2]
      simp only [if_neg hn0]
      have main : e_lim L xs (d + 3) 157 28 [some (.ref 0), some (.int (iI (K 310))), some (.int (iI 0)), some (.int (iI 0))] [] (e_hp M V W) = some (.inl (some (.double (FP.ddiv (FP.i2d (iI (mnS K))) (FP.i2d (iI (K 310)))))), e_hp M V W, 0, 0) := by
        rw [show (iI 0 : Int32) = iI (SU (fun o => enO K (rwK K) o) 0) from rfl]
        refine G_loopI (C := fun i => e_lim L xs (d + 3) 157 28 [some (.ref 0), some (.int (iI (K 310))), some (.int (iI (SU (fun o => enO K (rwK K) o) i))), some (.int (iI i))] [] (e_hp M V W)) (i := 0) hn.1 (fun j a b hc => ?_) ?_
        · have e3 := tt_finishOf (L := L) (xs := xs) (d := d) (V := V) (W := W) e_isT_0 (H.pr.tt hb) H.sh hr hv ha.1 (o := j) ⟨a, b⟩
          rw [SU_s _ a] at hc
          rw [r157_28]
          simp (disch := first | assumption | exact e_nk_i _ | exact e_nk_n | exact e_nk_r _ | exact e_bo_0 | exact e_bo_1 | exact e_bo_b _ | omega) only [e_cl_v, e_cl_x, e_add_0, e_add_s, Option.toList_some, Option.toList_none, List.cons_append, List.nil_append, iI_add, iI_sub, iI_mul, iI_lt, iI_eq, iI_le, r157_29, r157_30, r157_33, r157_34, r157_35, r157_38, r157_39, r157_42, r157_43, r157_46, r157_47, r157_48, r157_51, e3]
          rw [if_pos b]
          exact hc
        · rw [r157_28]
          simp (disch := first | assumption | exact e_nk_i _ | exact e_nk_n | exact e_nk_r _ | exact e_bo_0 | exact e_bo_1 | exact e_bo_b _ | omega) only [e_cl_v, e_cl_x, e_add_0, e_add_s, Option.toList_some, Option.toList_none, List.cons_append, List.nil_append, iI_add, iI_sub, iI_mul, iI_lt, iI_eq, iI_le, r157_29, r157_30, r157_54, r157_55, r157_56, r157_57]
          rw [if_neg (by omega)]
          show e_lim L xs (d + 3) 157 58 [some (.ref 0), some (.int (iI (K 310))), some (.int (iI (mnS K))), some (.int (iI (K 310)))] [.double (FP.i2d (iI (K 310))), .double (FP.i2d (iI (mnS K)))] (e_hp M V W) = _
          rw [r157_58 (mean_ok hm (by omega)), r157_59]
      first
      | exact main
      | (simp; exact main)
  · rw [if_neg hb] at e2
    rw [if_neg hb]
    simp (disch := first | assumption | exact e_nk_i _ | exact e_nk_n | exact e_nk_r _ | exact e_bo_0 | exact e_bo_1 | exact e_bo_b _ | omega) only [e_cl_v, e_cl_x, e_add_0, e_add_s, Option.toList_some, Option.toList_none, List.cons_append, List.nil_append, iI_add, iI_sub, iI_mul, iI_lt, iI_eq, iI_le, r157_0, r157_1, r157_4, r157_7, c0, e2]
theorem x_use (H : CK M K c S) (hg : kG K) (hm : i32 m) : e_lim L xs (d + 4) 158 0 [some (.ref 0), some (.int (iI m)), none] [] (e_hp M V W) = if 0 ≤ m ∧ m ≤ 3 then (if ft K = true then some (.inl (some (.float (usW K m))), e_hp M V W, 0, 0) else some (.inr 1, e_hp M V W, 1, 6)) else some (.inr 0, e_hp M V W, 1, 6) := by
  have re := edW_rg hg
  have e3 := fun h1 => H.pr.edN (L := L) (xs := xs) (d := d + 1) (V := V) (W := W) hg h1
  obtain ⟨hr, ⟨ha, hv⟩, hp, hk, hd⟩ := hg
  have c0 := H.pr.fits
  have e0 := m_isMachine (L := L) (xs := xs) (d := d + 2) (M := M) (V := V) (W := W) (z := m) hm
  have r1 := m_requireArgument (L := L) (xs := xs) (d := d + 3) (h := e_hp M V W) (decide (0 ≤ m ∧ m ≤ 3))
  have e2 := m_requireState (L := L) (xs := xs) (d := d + 3) (h := e_hp M V W) (ft K)
  by_cases h0 : 0 ≤ m ∧ m ≤ 3
  · rw [if_pos (decide_eq_true h0)] at r1
    rw [if_pos h0]
    by_cases hb : ft K = true
    · rw [if_pos hb] at e2
      rw [if_pos hb]
      have e4 := e3 hb
      have e5 := s_timeOnMachine (L := L) (xs := xs) (d := d) (V := V) (W := W) H.sh hr h0
      have r3 := lO_rg hr (m := m)
      unfold usW
      by_cases hz0 : edW K = 0
      · rw [if_pos hz0]
        rw [hz0] at e4
        simp (disch := first | assumption | exact e_nk_i _ | exact e_nk_n | exact e_nk_r _ | exact e_bo_0 | exact e_bo_1 | exact e_bo_b _ | omega) only [e_cl_v, e_cl_x, e_add_0, e_add_s, Option.toList_some, Option.toList_none, List.cons_append, List.nil_append, iI_add, iI_sub, iI_mul, iI_lt, iI_eq, iI_le, r158_0, r158_1, r158_4, r158_7, r158_8, r158_11, r158_14, r158_17, r158_18, r158_21, r158_24, r158_25, r158_26, r158_29, r158_30, r158_45, e0, r1, c0, e2, e4]
        simp
      · rw [if_neg hz0]
        simp (disch := first | assumption | exact e_nk_i _ | exact e_nk_n | exact e_nk_r _ | exact e_bo_0 | exact e_bo_1 | exact e_bo_b _ | omega) only [e_cl_v, e_cl_x, e_add_0, e_add_s, Option.toList_some, Option.toList_none, List.cons_append, List.nil_append, iI_add, iI_sub, iI_mul, iI_lt, iI_eq, iI_le, r158_0, r158_1, r158_4, r158_7, r158_8, r158_11, r158_14, r158_17, r158_18, r158_21, r158_24, r158_25, r158_26, r158_29, r158_30, r158_33, r158_34, r158_37, r158_38, r158_41, r158_42, r158_43, e0, r1, c0, e2, e4, e5]
        simp [hz0]
        rw [r158_44 (use_ok (by omega) (by omega)), r158_45]
    · rw [if_neg hb] at e2
      rw [if_neg hb]
      simp (disch := first | assumption | exact e_nk_i _ | exact e_nk_n | exact e_nk_r _ | exact e_bo_0 | exact e_bo_1 | exact e_bo_b _ | omega) only [e_cl_v, e_cl_x, e_add_0, e_add_s, Option.toList_some, Option.toList_none, List.cons_append, List.nil_append, iI_add, iI_sub, iI_mul, iI_lt, iI_eq, iI_le, r158_0, r158_1, r158_4, r158_7, r158_8, r158_11, r158_14, e0, r1, c0, e2]
  · rw [if_neg (by rw [decide_eq_true_eq]; exact h0)] at r1
    rw [if_neg h0]
    simp (disch := first | assumption | exact e_nk_i _ | exact e_nk_n | exact e_nk_r _ | exact e_bo_0 | exact e_bo_1 | exact e_bo_b _ | omega) only [e_cl_v, e_cl_x, e_add_0, e_add_s, Option.toList_some, Option.toList_none, List.cons_append, List.nil_append, iI_add, iI_sub, iI_mul, iI_lt, iI_eq, iI_le, r158_0, r158_1, r158_4, e0, r1]
end Ec46
