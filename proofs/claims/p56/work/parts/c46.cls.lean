section Ec46
variable {L : Nat} {xs : Nat → Int32} {d : Nat} {M M2 M3 : e_MI} {V : e_ML} {W : e_MD} {K K1 K2 : e_St} {S : Int → e_St} {h : e_H} {s s0 s1 t t2 a b2 n : Nat} {c o w z m k q p i f l b e mc tl T x y v N : Int} {sc bb : Bool} {ρ ν μ χ β ε τ τ2 u : Int → Int}
/-! a rest, figures -/
theorem x_rest (H : CK M K c S) (hg : kG K) (hm : i32 m) (hf0 : i32 f) (hx : i32 x) : ∃ M2 : e_MI, e_lim L xs (d + 7) 109 0 [some (.ref 0), some (.int (iI m)), some (.int (iI f)), some (.int (iI x)), none] [] (e_hp M V W) = (if (0 ≤ m ∧ m ≤ 3) ∧ (0 ≤ f ∧ f ≤ 1999) ∧ f + 1 ≤ x ∧ x ≤ 2000 then (if K 311 < 10 then some (.inl (some (.int (iI (anRe K m f x)))), e_hp M2 V W, 0, 0) else some (.inr 1, e_hp M2 V W, 1, 6)) else some (.inr 0, e_hp M2 V W, 1, 6)) ∧ (((0 ≤ m ∧ m ≤ 3) ∧ (0 ≤ f ∧ f ≤ 1999) ∧ f + 1 ≤ x ∧ x ≤ 2000) ∧ K 311 < 10 → CK M2 (reK K m f x) (svC c) (svS c S K)) ∧ (¬(((0 ≤ m ∧ m ≤ 3) ∧ (0 ≤ f ∧ f ≤ 1999) ∧ f + 1 ≤ x ∧ x ≤ 2000) ∧ K 311 < 10) → M2 = M) ∧ ∀ a, a < 1 ∨ 164 < a → M2 a = M a := by
  obtain ⟨hr, ⟨ha, hv⟩, hp, hk9, hd⟩ := id hg
  have hrm := hr.rm
  have e0 := m_isMachine (L := L) (xs := xs) (d := d + 5) (M := M) (V := V) (W := W) (z := m) hm
  have i1 := m_isWithin (L := L) (xs := xs) (d := d + 6) (h := e_hp M V W) (x := f) (y2 := 0) (z2 := 1999) hf0 (by omega) (by omega)
  have rt := m_requireArgument (L := L) (xs := xs) (d := d + 6) (h := e_hp M V W) true
  have rf := m_requireArgument (L := L) (xs := xs) (d := d + 6) (h := e_hp M V W) false
  have st := m_requireState (L := L) (xs := xs) (d := d + 6) (h := e_hp M V W) true
  have sf := m_requireState (L := L) (xs := xs) (d := d + 6) (h := e_hp M V W) false
  rw [if_pos rfl, bI_t] at rt st
  rw [if_neg (by decide), bI_f] at rf sf
  have c0 := H.sh.cr
  by_cases h0 : 0 ≤ m ∧ m ≤ 3
  · rw [decide_eq_true h0, bI_t] at e0
    by_cases h1 : 0 ≤ f ∧ f ≤ 1999
    · rw [decide_eq_true h1, bI_t] at i1
      have i2 := m_isWithin (L := L) (xs := xs) (d := d + 6) (h := e_hp M V W) (x := x) (y2 := f + 1) (z2 := 2000) hx (by omega) (by omega)
      by_cases h2 : f + 1 ≤ x ∧ x ≤ 2000
      · rw [decide_eq_true h2, bI_t] at i2
        by_cases h3 : K 311 < 10
        · obtain ⟨K2, hK2⟩ : ∃ K2, K2 = reK K m f x := ⟨_, rfl⟩
          have hg2 := kG_re hg h3 h0 h1 h2
          rw [← hK2] at hg2
          obtain ⟨hr2, ⟨ha2, hv2⟩, hp2, hk2, hd2⟩ := id hg2
          have hz : ∀ z, (z < 208 + K 311 ∨ (238 ≤ z ∧ z ≠ 311)) → K2 z = K z := fun z y => by
            rw [hK2]
            unfold reK
            rw [uI_n _ _ (by omega), uI_n _ _ (by omega), uI_n _ _ (by omega), uI_n _ _ (by omega)]
          have hw2 : aW K2 = aW K := aW_cong (hz 310 (by omega)) (fun o a b => hz _ (by have := hr.n; omega))
          have hro : ∀ p, 0 ≤ p → p < aW K → rwK K2 p = rwK K p := fun p a b => hz _ (by omega)
          obtain ⟨M1, e3, k1, k2, k3, k4, hf⟩ := x_rem (L := L) (xs := xs) (d := d + 3) (V := V) (W := W) H hg
          obtain ⟨M2, e4, hS2, hf2⟩ := s_addRest (L := L) (xs := xs) (d := d + 5) (V := V) (W := W) k1 hr ha.2 h3 (m := m) (f := f) (x := x)
          rw [← hK2] at hS2
          have c1 := hS2.cw
          obtain ⟨M3, e5, hw3, hf3⟩ := tg_follow (L := L) (xs := xs) (d := d + 1) (M := M2) (V := V) (W := W) e_isT_1 (by omega) si_8 (by omega) hr2 hd2 hp2 (vR.pf hr2 hv2) ha2 hS2 (fun p a b => hS2.ro a b) (k4.of fun a x y => hf2 a (by omega) (by omega))
          have e5' : e_lim L xs (d + 6) 63 0 [some (.ref 149), some (.ref 1), some (.ref 8), some (.int (iI (aW K2))), none, none, none] [] (e_hp M2 V W) = some (.inl (some (.int (bI (ft K2)))), e_hp M3 V W, 0, 0) := e5
          have hw4 : M3 149 0 = bI (ft K2) := hw3.1
          have hP3 : PR M3 K := k3.of fun a x y => by rw [hf3 a (by omega), hf2 a (by omega) (by omega)]
          have c2 : M3 133 0 = bI (ft K) := hP3.fits
          obtain ⟨M4, e6, hC, hf4⟩ := x_then (L := L) (xs := xs) (d := d) (M := M3) (V := V) (W := W) (hS2.of fun a x y => hf3 a (by omega)) hg2 (k2.of fun a x y => by rw [hf3 a (by omega), hf2 a (by omega) (by omega)]) hP3.g hw3.g
          refine ⟨M4, ?_, fun _ => by rw [← hK2]; exact hC, fun y => absurd ⟨⟨h0, h1, h2⟩, h3⟩ y, fun a y => by rw [hf4 a (by omega), hf3 a (by omega), hf2 a (by omega) (by omega), hf a (by omega)]⟩
          rw [if_pos ⟨h0, h1, h2⟩, if_pos h3]
          unfold anRe
          rw [← hK2]
          by_cases hft : ft K = true
          · rw [hft, bI_t] at c2
            by_cases hf5 : ft K2 = true
            · have hT3 : TT M3 149 K2 (rwK K2) (aW K2) := by
                obtain ⟨-, c, -, -, hT, he⟩ := hw3
                rw [he hf5] at hT
                exact hT
              have e7 := tt_countMoved (L := L) (xs := xs) (d := d + 4) (V := V) (W := W) e_isT_0 (hP3.tt hft) hT3 hr hp hr2 hp2 hv hv2 ha.1 ha2.1 (hz 310 (by omega)) (fun o a b => hz _ (by have := hr.n; omega))
              have e8 : SU (fun p => if scB K2 (rwK K2) (plO K2 (rwK K2) (rwK K p) (scW (rwK K) p)) = scB K (rwK K) p then 0 else 1) (aW K) = otW K K2 (rwK K) := SU_cong fun p a b => by
                have t1 := sc_tauI (K := K2) (τ := rwK K2) (τ2 := rwK K) hro a b
                have t2 := plO_self hr2 hv2 ha2.1 a (by rw [hw2]; exact b)
                have t3 : plO K (rwK K) (rwK K p) (scW (rwK K) p) = p := plO_self hr hv ha.1 a b
                have t4 : plO K2 (rwK K2) (rwK K p) (scW (rwK K) p) = p := by
                  rw [← hro p a b, ← t1.2.2]
                  exact t2
                rw [t4, t3, t1.1]
                show (if scB K2 (rwK K) p = scB K (rwK K) p then (0 : Int) else 1) = if scB K (rwK K) p = scB K2 (rwK K) p then 0 else 1
                by_cases hq : scB K2 (rwK K) p = scB K (rwK K) p
                · rw [if_pos hq, if_pos hq.symm]
                · rw [if_neg hq, if_neg (fun y => hq y.symm)]
              rw [e8] at e7
              rw [hf5, bI_t] at hw4 e5'
              rw [if_pos ⟨hf5, hft⟩]
              simp (disch := first | assumption | exact e_nk_i _ | exact e_nk_n | exact e_nk_r _ | exact e_bo_0 | exact e_bo_1 | exact e_bo_b _ | omega) only [e_cl_v, e_cl_x, e_add_0, e_add_s, Option.toList_some, Option.toList_none, List.cons_append, List.nil_append, iI_add, iI_sub, iI_mul, iI_lt, iI_eq, iI_le, r109_0, r109_1, r109_4, r109_7, r109_8, r109_9, r109_12, r109_15, r109_18, r109_19, r109_20, r109_21, r109_22, r109_25, r109_28, r109_31, r109_32, r109_35, r109_36, r109_39, r109_40, r109_43, r109_46, r109_48, r109_51, r109_52, r109_55, r109_56, r109_59, r109_60, r109_63, r109_64, r109_67, r109_70, r109_71, r109_74, r109_75, r109_76, r109_77, r109_80, r109_81, r109_84, r109_85, r109_88, r109_89, r109_92, r109_95, r109_96, r109_99, r109_102, r109_105, r109_106, r109_107, r109_110, r109_113, r109_116, r109_117, r109_120, r109_123, r109_126, r109_127, r109_130, r109_131, r109_134, r109_137, r109_140, r109_141, r109_143, r109_144, r109_147, r109_149, e0, i1, i2, rt, c0, st, e3, e4, c1, e5', c2, hw4, e7, e6]
              rw [if_pos h3]
              simp
            · rw [Bool.not_eq_true] at hf5
              rw [hf5, bI_f] at hw4 e5'
              rw [if_neg (fun y => by rw [hf5] at y; exact Bool.false_ne_true y.1)]
              simp (disch := first | assumption | exact e_nk_i _ | exact e_nk_n | exact e_nk_r _ | exact e_bo_0 | exact e_bo_1 | exact e_bo_b _ | omega) only [e_cl_v, e_cl_x, e_add_0, e_add_s, Option.toList_some, Option.toList_none, List.cons_append, List.nil_append, iI_add, iI_sub, iI_mul, iI_lt, iI_eq, iI_le, r109_0, r109_1, r109_4, r109_7, r109_8, r109_9, r109_12, r109_15, r109_18, r109_19, r109_20, r109_21, r109_22, r109_25, r109_28, r109_31, r109_32, r109_35, r109_36, r109_39, r109_40, r109_43, r109_46, r109_48, r109_51, r109_52, r109_55, r109_56, r109_59, r109_60, r109_63, r109_64, r109_67, r109_70, r109_71, r109_74, r109_75, r109_76, r109_77, r109_80, r109_81, r109_84, r109_85, r109_88, r109_89, r109_92, r109_95, r109_96, r109_99, r109_102, r109_105, r109_106, r109_107, r109_110, r109_113, r109_116, r109_117, r109_120, r109_123, r109_126, r109_127, r109_130, r109_131, r109_134, r109_137, r109_140, r109_141, r109_143, r109_144, r109_147, r109_149, e0, i1, i2, rt, c0, st, e3, e4, c1, e5', c2, hw4, e6]
              rw [if_pos h3]
              simp
          · rw [Bool.not_eq_true] at hft
            rw [hft, bI_f] at c2
            rw [if_neg (fun y => by rw [hft] at y; exact Bool.false_ne_true y.2)]
            simp (disch := first | assumption | exact e_nk_i _ | exact e_nk_n | exact e_nk_r _ | exact e_bo_0 | exact e_bo_1 | exact e_bo_b _ | omega) only [e_cl_v, e_cl_x, e_add_0, e_add_s, Option.toList_some, Option.toList_none, List.cons_append, List.nil_append, iI_add, iI_sub, iI_mul, iI_lt, iI_eq, iI_le, r109_0, r109_1, r109_4, r109_7, r109_8, r109_9, r109_12, r109_15, r109_18, r109_19, r109_20, r109_21, r109_22, r109_25, r109_28, r109_31, r109_32, r109_35, r109_36, r109_39, r109_40, r109_43, r109_46, r109_48, r109_51, r109_52, r109_55, r109_56, r109_59, r109_60, r109_63, r109_64, r109_67, r109_70, r109_71, r109_74, r109_75, r109_76, r109_77, r109_80, r109_81, r109_84, r109_85, r109_88, r109_89, r109_92, r109_95, r109_96, r109_99, r109_102, r109_105, r109_106, r109_107, r109_110, r109_113, r109_116, r109_117, r109_120, r109_123, r109_126, r109_127, r109_130, r109_131, r109_134, r109_137, r109_140, r109_141, r109_143, r109_144, r109_147, r109_149, e0, i1, i2, rt, c0, st, e3, e4, c1, e5', c2, e6]
            rw [if_pos h3]
            simp
        · refine ⟨M, ?_, fun y => absurd y.2 h3, fun _ => rfl, fun _ _ => rfl⟩
          rw [if_pos ⟨h0, h1, h2⟩, if_neg h3]
          simp (disch := first | assumption | exact e_nk_i _ | exact e_nk_n | exact e_nk_r _ | exact e_bo_0 | exact e_bo_1 | exact e_bo_b _ | omega) only [e_cl_v, e_cl_x, e_add_0, e_add_s, Option.toList_some, Option.toList_none, List.cons_append, List.nil_append, iI_add, iI_sub, iI_mul, iI_lt, iI_eq, iI_le, r109_0, r109_1, r109_4, r109_7, r109_8, r109_9, r109_12, r109_15, r109_18, r109_19, r109_20, r109_21, r109_22, r109_25, r109_28, r109_31, r109_32, r109_35, r109_36, r109_39, r109_40, r109_43, r109_46, r109_48, r109_51, r109_52, r109_55, r109_56, e0, i1, i2, rt, c0, sf]
          rw [if_neg h3]
          simp
      · rw [decide_eq_false h2, bI_f] at i2
        refine ⟨M, ?_, fun y => absurd y.1.2.2 h2, fun _ => rfl, fun _ _ => rfl⟩
        rw [if_neg (fun y => h2 y.2.2)]
        simp (disch := first | assumption | exact e_nk_i _ | exact e_nk_n | exact e_nk_r _ | exact e_bo_0 | exact e_bo_1 | exact e_bo_b _ | omega) only [e_cl_v, e_cl_x, e_add_0, e_add_s, Option.toList_some, Option.toList_none, List.cons_append, List.nil_append, iI_add, iI_sub, iI_mul, iI_lt, iI_eq, iI_le, r109_0, r109_1, r109_4, r109_7, r109_8, r109_9, r109_12, r109_15, r109_18, r109_19, r109_20, r109_21, r109_22, r109_25, r109_28, r109_31, r109_32, r109_35, r109_36, e0, i1, i2, rf]
        simp
    · rw [decide_eq_false h1, bI_f] at i1
      refine ⟨M, ?_, fun y => absurd y.1.2.1 h1, fun _ => rfl, fun _ _ => rfl⟩
      rw [if_neg (fun y => h1 y.2.1)]
      simp (disch := first | assumption | exact e_nk_i _ | exact e_nk_n | exact e_nk_r _ | exact e_bo_0 | exact e_bo_1 | exact e_bo_b _ | omega) only [e_cl_v, e_cl_x, e_add_0, e_add_s, Option.toList_some, Option.toList_none, List.cons_append, List.nil_append, iI_add, iI_sub, iI_mul, iI_lt, iI_eq, iI_le, r109_0, r109_1, r109_4, r109_7, r109_8, r109_9, r109_12, r109_15, r109_18, r109_19, r109_20, r109_21, r109_22, r109_25, r109_28, r109_31, r109_32, r109_35, r109_36, e0, i1, rf]
      simp
  · rw [decide_eq_false h0, bI_f] at e0
    refine ⟨M, ?_, fun y => absurd y.1.1 h0, fun _ => rfl, fun _ _ => rfl⟩
    rw [if_neg (fun y => h0 y.1)]
    simp (disch := first | assumption | exact e_nk_i _ | exact e_nk_n | exact e_nk_r _ | exact e_bo_0 | exact e_bo_1 | exact e_bo_b _ | omega) only [e_cl_v, e_cl_x, e_add_0, e_add_s, Option.toList_some, Option.toList_none, List.cons_append, List.nil_append, iI_add, iI_sub, iI_mul, iI_lt, iI_eq, iI_le, r109_0, r109_1, r109_4, r109_7, r109_8, r109_9, r109_12, r109_15, r109_18, r109_19, r109_20, r109_21, r109_22, r109_25, r109_28, r109_31, r109_32, r109_35, r109_36, e0, rf]
    simp
theorem x_checksum (H : CK M K c S) (hg : kG K) : e_lim L xs (d + 1) 145 0 [some (.ref 0), none, none] [] (e_hp M V W) = some (.inl (some (.int (iI (csW K)))), e_hp M V W, 0, 0) := by
  obtain ⟨hr, ⟨ha, hv⟩, hp, hk, hd⟩ := hg
  have c0 := H.pr.fits
  have c1 := H.sh.cw
  simp (disch := first | assumption | exact e_nk_i _ | exact e_nk_n | exact e_nk_r _ | exact e_bo_0 | exact e_bo_1 | exact e_bo_b _ | omega) only [e_cl_v, e_cl_x, e_add_0, e_add_s, Option.toList_some, Option.toList_none, List.cons_append, List.nil_append, iI_add, iI_sub, iI_mul, iI_lt, iI_eq, iI_le, r145_0, r145_2, r145_3, r145_4]
  unfold csW
  refine G_loopI (C := fun i => e_lim L xs (d + 1) 145 5 [some (.ref 0), some (.int (iI (csF K i.toNat))), some (.int (iI i))] [] (e_hp M V W)) (i := 0) ha.1 (fun j a b hc => ?_) ?_
  · have e1 := m_atI (L := L) (xs := xs) (d := d) (M := M) (V := V) (W := W) si_8 (z := j) a (by omega) (H.sh.ro a b)
    have hst : csF K (j + 1).toNat = 31 * csF K j.toNat + K (241 + j) + (if ft K = true then bT K j else 0) := by
      rw [show (j + 1).toNat = j.toNat + 1 by omega]
      show 31 * csF K j.toNat + K (241 + (j.toNat : Int)) + (if ft K = true then bT K (j.toNat : Int) else 0) = _
      rw [Int.toNat_of_nonneg a]
    rw [hst] at hc
    generalize csF K j.toNat = q at *
    rw [r145_5]
    by_cases hb : ft K = true
    · obtain ⟨-, -, -, -, -, a5, -⟩ := (H.pr.tt hb).a1
      have e2 := m_atI (L := L) (xs := xs) (d := d) (M := M) (V := V) (W := W) (a := 138) (n := 16) si_138 (z := j) a (by omega) (a5 j a b)
      have e2' : e_lim L xs d 160 0 [some (.ref 138), some (.int (iI j))] [] (e_hp M V W) = some (.inl (some (.int (iI (bT K j)))), e_hp M V W, 0, 0) := e2
      rw [hb, bI_t] at c0
      rw [if_pos hb] at hc
      simp (disch := first | assumption | exact e_nk_i _ | exact e_nk_n | exact e_nk_r _ | exact e_bo_0 | exact e_bo_1 | exact e_bo_b _ | omega) only [e_cl_v, e_cl_x, e_add_0, e_add_s, Option.toList_some, Option.toList_none, List.cons_append, List.nil_append, iI_add, iI_sub, iI_mul, iI_lt, iI_eq, iI_le, r145_6, r145_7, r145_10, r145_13, r145_16, r145_18, r145_19, r145_20, r145_21, r145_24, r145_27, r145_28, r145_31, r145_32, r145_33, r145_34, r145_37, r145_40, r145_43, r145_44, r145_45, r145_48, r145_51, r145_52, r145_55, r145_56, r145_57, r145_60, c0, c1, e1, e2']
      rw [if_pos b]
      simpa using hc
    · rw [if_neg hb] at hc
      rw [Bool.not_eq_true] at hb
      rw [hb, bI_f] at c0
      simp (disch := first | assumption | exact e_nk_i _ | exact e_nk_n | exact e_nk_r _ | exact e_bo_0 | exact e_bo_1 | exact e_bo_b _ | omega) only [e_cl_v, e_cl_x, e_add_0, e_add_s, Option.toList_some, Option.toList_none, List.cons_append, List.nil_append, iI_add, iI_sub, iI_mul, iI_lt, iI_eq, iI_le, r145_6, r145_7, r145_10, r145_13, r145_16, r145_18, r145_19, r145_20, r145_21, r145_24, r145_27, r145_28, r145_31, r145_32, r145_33, r145_34, r145_37, r145_40, r145_43, r145_44, r145_45, r145_48, r145_51, r145_52, r145_55, r145_56, r145_57, r145_60, c0, c1, e1]
      rw [if_pos b]
      simpa using hc
  · rw [r145_5]
    simp (disch := first | assumption | exact e_nk_i _ | exact e_nk_n | exact e_nk_r _ | exact e_bo_0 | exact e_bo_1 | exact e_bo_b _ | omega) only [e_cl_v, e_cl_x, e_add_0, e_add_s, Option.toList_some, Option.toList_none, List.cons_append, List.nil_append, iI_add, iI_sub, iI_mul, iI_lt, iI_eq, iI_le, r145_6, r145_7, r145_10, r145_13, r145_63, r145_64, c1]
    rw [if_neg (by omega)]
theorem edW_rg (hg : kG K) : 0 ≤ edW K ∧ edW K ≤ 2001 := by
  obtain ⟨hr, ⟨ha, hv⟩, hp, hk, hd⟩ := hg
  exact mX_rg (f := eT K) (n := aW K) (c := 2001) ha.1 (by omega) (fun p x y => (sc_spI hr hp (vR.vp hr hv) x y).1.2.2)
end Ec46
