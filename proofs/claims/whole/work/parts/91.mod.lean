section E91
variable {L : Nat} {xs : Nat → Int32} {d : Nat} {M M2 M3 : e_MI} {V : e_ML} {W : e_MD} {K K2 : e_St} {h : e_H} {S : Int → e_St} {c cd n er w f t o m : Int} {s : Int × (Int → Int)} {ρ ω β ε τ T U : Int → Int} {r : Option e_R} {an : Int32}
theorem sc_tau {n : Int} {τ2 : Int → Int} (h : ∀ p, 0 ≤ p → p < n → τ p = τ2 p) : ∀ (b k : Nat), k ≤ b → (k : Int) < n → scB K τ k = scB K τ2 k ∧ scE K τ k = scE K τ2 k
  | 0, k, hb, hk => by
    have hw : ∀ p : Int, 0 ≤ p → p ≤ k → τ p = τ2 p ∧ scW τ p = scW τ2 p := fun p a b => ⟨h p a (by omega), by
      unfold scW
      rw [h p a (by omega)]
      exact cnt_cong fun q x y => h q x (by omega)⟩
    rw [scB_eq K τ (by omega), scB_eq K τ2 (by omega), scE_eq K τ (by omega), scE_eq K τ2 (by omega)]
    exact ⟨bgW_cong (by omega) hw (fun p a b => by omega), enW_cong (by omega) hw (fun p a b => by omega)⟩
  | b + 1, k, hb, hk => by
    have hw : ∀ p : Int, 0 ≤ p → p ≤ k → τ p = τ2 p ∧ scW τ p = scW τ2 p := fun p a b => ⟨h p a (by omega), by
      unfold scW
      rw [h p a (by omega)]
      exact cnt_cong fun q x y => h q x (by omega)⟩
    have hi : ∀ p : Int, 0 ≤ p → p < k → scB K τ p = scB K τ2 p ∧ scE K τ p = scE K τ2 p := fun p a c => by
      have := sc_tau h b p.toNat (by omega) (by omega)
      rw [Int.toNat_of_nonneg a] at this
      exact this
    rw [scB_eq K τ (by omega), scB_eq K τ2 (by omega), scE_eq K τ (by omega), scE_eq K τ2 (by omega)]
    exact ⟨bgW_cong (by omega) hw hi, enW_cong (by omega) hw hi⟩
theorem sc_tauI {n p : Int} {τ2 : Int → Int} (h : ∀ p, 0 ≤ p → p < n → τ p = τ2 p) (h0 : 0 ≤ p) (h1 : p < n) : scB K τ p = scB K τ2 p ∧ scE K τ p = scE K τ2 p ∧ scW τ p = scW τ2 p := by
  have := sc_tau (K := K) h p.toNat p.toNat (Nat.le_refl _) (by omega)
  rw [Int.toNat_of_nonneg h0] at this
  refine ⟨this.1, this.2, ?_⟩
  unfold scW
  rw [h p h0 h1]
  exact cnt_cong fun q x y => h q x (by omega)
theorem agR_tau {n : Int} {τ2 : Int → Int} (h : ∀ p, 0 ≤ p → p < n → τ p = τ2 p) (hg : agR K τ n ρ ω β ε) : agR K τ2 n ρ ω β ε := fun p a b => by
  obtain ⟨x, y, z, w⟩ := hg p a b
  obtain ⟨e1, e2, e3⟩ := sc_tauI (K := K) h a b
  exact ⟨by rw [x, h p a b], by rw [y, e3], by rw [z, e1], by rw [w, e2]⟩
theorem rf_times2 (H : RK M K c S) : ∃ (M2 : e_MI) (ρ ω β ε : Int → Int), e_lim L xs (d + 5) 220 0 [some (.ref 184), none] [] (e_hp M V W) = some (.inl (some (.int (bI (ft K)))), e_hp M2 V W, 0, 0) ∧ RK M2 K c S ∧ frQ M M2 ∧ e_SC M2 ρ ω β ε ∧ (ft K = true → agR K (rwK K) (aW K) ρ ω β ε) ∧ M2 184 9 = iI (aW K) ∧ M2 184 0 = M 184 0 ∧ M2 187 = M 187 := by
  obtain ⟨ρ, ω, β, ε, hS⟩ := H.s
  obtain ⟨M2, ρ2, ω2, β2, ε2, e1, hS2, hg, hF, hz, hc⟩ := mm_times (L := L) (xs := xs) (d := d) (V := V) (W := W) H.km H.r H.v hS
  exact ⟨M2, ρ2, ω2, β2, ε2, e1, H.q hF.q ⟨_, _, _, _, hS2⟩, hF.q, hS2, hg, hz, hc, hF.1 187 (by decide) (by decide) (by decide) (by decide) (by decide) (by decide)⟩
def cdRe (K : e_St) (m f t : Int) : Int := if (0 ≤ m ∧ m ≤ 3) ∧ (0 ≤ f ∧ f ≤ 1999) ∧ f + 1 ≤ t ∧ t ≤ 2000 then (if K 311 < 10 then 0 else 2) else 1
def reK (K : e_St) (m f t : Int) : e_St := uI (uI (uI (uI K (208 + K 311) m) (218 + K 311) f) (228 + K 311) t) 311 (K 311 + 1)
theorem reK_n {z : Int} (hm : 0 ≤ K 311 ∧ K 311 < 10) (hz : z < 208 ∨ 238 ≤ z) (h2 : z ≠ 311) : reK K m f t z = K z := by
  unfold reK
  rw [uI_n _ _ (by omega), uI_n _ _ (by omega), uI_n _ _ (by omega), uI_n _ _ (by omega)]
theorem kG_re (hg : kG K) (hm : K 311 < 10) (h1 : 0 ≤ m ∧ m ≤ 3) (h2 : 0 ≤ f ∧ f ≤ 1999) (h3 : f + 1 ≤ t ∧ t ≤ 2000) : kG (reK K m f t) := by
  have hr := hg.1
  have hrm := hr.rm
  have hmm : 0 ≤ K 311 ∧ K 311 < 10 := ⟨hrm.1, hm⟩
  refine kG_t hg ?_ (reK_n hmm (by omega) (by omega)) (fun z a => reK_n hmm (by omega) (by omega)) ⟨fun k a b => ?_, fun m2 f2 a b x y => ?_⟩
  · unfold reK
    refine (((hr.up (z := 208 + K 311) (v := m) ?_).up (z := 218 + K 311) (v := f) ?_).up (z := 228 + K 311) (v := t) ?_).up (z := 311) (v := K 311 + 1) ?_
    · have := kb10 (z := 208 + K 311) (by omega); omega
    · have := kb10 (z := 218 + K 311) (by omega); omega
    · have := kb10 (z := 228 + K 311) (by omega); omega
    · have := kb16; omega
  · have e311 : reK K m f t 311 = K 311 + 1 := uI_s _ _ _
    rw [e311] at b
    by_cases hk : k = K 311
    · have e1 : reK K m f t (208 + k) = m := by
        unfold reK
        rw [uI_n _ _ (by omega), uI_n _ _ (by omega), uI_n _ _ (by omega), hk, uI_s]
      have e2 : reK K m f t (218 + k) = f := by
        unfold reK
        rw [uI_n _ _ (by omega), uI_n _ _ (by omega), hk, uI_s]
      have e3 : reK K m f t (228 + k) = t := by
        unfold reK
        rw [uI_n _ _ (by omega), hk, uI_s]
      rw [e1, e2, e3]
      omega
    · have e1 : ∀ z, z = 208 + k ∨ z = 218 + k ∨ z = 228 + k → reK K m f t z = K z := fun z u => by
        unfold reK
        rw [uI_n _ _ (by omega), uI_n _ _ (by omega), uI_n _ _ (by omega), uI_n _ _ (by omega)]
      rw [e1 _ (by omega), e1 _ (by omega), e1 _ (by omega)]
      exact hg.2.2.2.2.1 k a (by omega)
  · rw [reK_n hmm (by omega) (by omega)]
    exact hg.2.2.2.2.2 m2 f2 a b x y
def anRe (K : e_St) (m f t : Int) : Int := if ft (reK K m f t) = true ∧ ft K = true then otW K (reK K m f t) (rwK K) else -1
theorem rf_rest (H : RK M K c S) (hm : i32 m) (hf : i32 f) (ht : i32 t) : AC (e_lim L xs (d + 6) 207 0 [some (.ref 184), some (.int (iI m)), some (.int (iI f)), some (.int (iI t)), none, none] [] (e_hp M V W)) M V W K c S (reK K m f t) (cdRe K m f t) (iI (anRe K m f t)) := by
  have h0 := mT_0 M
  have hrm := H.r.rm
  have hv := H.v.1
  unfold cdRe
  by_cases h1 : (0 ≤ m ∧ m ≤ 3) ∧ (0 ≤ f ∧ f ≤ 1999) ∧ f + 1 ≤ t ∧ t ≤ 2000
  · obtain ⟨q1, q2, q3⟩ := h1
    have e1 := mm_isMachineT (L := L) (xs := xs) (d := d + 4) (M := mT M) (V := V) (W := W) q1
    have e2 := mm_inT (L := L) (xs := xs) (d := d + 5) (h := e_hp (mT M) V W) (x := f) (y2 := 0) (z2 := 1999) q2 (by omega) (by omega)
    have e3 := mm_inT (L := L) (xs := xs) (d := d + 5) (h := e_hp (mT M) V W) (x := t) (y2 := f + 1) (z2 := 2000) q3 (by omega) (by omega)
    have e4 := mm_failsT (L := L) (xs := xs) (d := d + 5) (V := V) (W := W) (e := 1) h0 (by omega)
    have e5 := H.mT.km 311 (by omega) (by omega)
    rw [if_pos ⟨q1, q2, q3⟩]
    by_cases h2 : K 311 < 10
    · have e6 := mm_failsT (L := L) (xs := xs) (d := d + 5) (V := V) (W := W) (e := 2) h0 (by omega)
      obtain ⟨M1, e7, H1, F1, z1, -⟩ := rf_saves (L := L) (xs := xs) (d := d + 5) (V := V) (W := W) H.mT
      obtain ⟨M2, ρ, ω, β, ε, e8, H2, F2, hS2, hg2, hz2, z2⟩ := rf_times (L := L) (xs := xs) (d := d) (V := V) (W := W) H1
      obtain ⟨M3, e9, f3, H3, hk3⟩ := rf_keepsBegins (L := L) (xs := xs) (d := d + 5) (V := V) (W := W) H2 hS2 hz2 hg2
      have e10 := H3.km 311 (by omega) (by omega)
      obtain ⟨k, hk⟩ : ∃ k, k = K 311 := ⟨_, rfl⟩
      rw [← hk] at e5 e10
      have hk10 : k < 10 := by omega
      have K4 : e_KM (e_u M3 185 (upd (upd (upd (upd (M3 185) (208 + k).toNat (iI m)) (218 + k).toNat (iI f)) (228 + k).toNat (iI t)) (311 : Int).toNat (iI (k + 1)))) (reK K m f t) := by
        unfold e_KM reK
        rw [e_u_s, ← hk]
        exact (((H3.km.up (by omega)).up (by omega)).up (by omega)).up (by omega)
      have F4 : frN M3 (e_u M3 185 (upd (upd (upd (upd (M3 185) (208 + k).toNat (iI m)) (218 + k).toNat (iI f)) (228 + k).toNat (iI t)) (311 : Int).toNat (iI (k + 1)))) := fun a x => e_u_n _ _ x
      have H4 := H3.n K4 (kG_re H.g h2 q1 q2 q3) F4
      have u311 : upd (upd (upd (M3 185) (208 + k).toNat (iI m)) (218 + k).toNat (iI f)) (228 + k).toNat (iI t) (311 : Int).toNat = iI k := by
        rw [upd_n _ _ (by omega), upd_n _ _ (by omega), upd_n _ _ (by omega)]
        exact e10
      obtain ⟨M5, ρ5, ω5, β5, ε5, e11, H5, F5, hS5, hg5, hz5, z5, w5⟩ := rf_times2 (L := L) (xs := xs) (d := d) (V := V) (W := W) H4
      have eA : aW (reK K m f t) = aW K := aW_cong (reK_n ⟨hrm.1, h2⟩ (by omega) (by omega)) (fun o a b => by have := H.r.n; exact reK_n ⟨hrm.1, h2⟩ (by omega) (by omega))
      have eR : ∀ p, 0 ≤ p → p < 16 → rwK (reK K m f t) p = rwK K p := fun p a b => reK_n ⟨hrm.1, h2⟩ (by omega) (by omega)
      have F3 : frP M2 M3 := frP.mk (fun a x y => f3 a (by omega)) (fun j x => by rw [f3 184 (by decide)])
      rw [if_pos h2]
      refine AC.ok (M3 := M5) rfl ?_ H5 ((((F1.t F2.p).t F3).t F4.p).t F5.p) (by rw [z5, F4 184 (by decide), f3 184 (by decide), z2, z1, h0])
      unfold anRe
      cases hb5 : ft (reK K m f t) with
      | true =>
        cases hb2 : ft K with
        | true =>
          rw [hb5, bI_t] at e11
          rw [hb2, bI_t] at e8
          have hg5' := hg5 hb5
          have e12 := rf_others (L := L) (xs := xs) (d := d + 5) (M := M5) (V := V) (W := W) (K := K) (K2 := reK K m f t) (τ := rwK K) (ρ := ρ5) (ω := ω5) (β := β5) (ε := ε5) H.r H.v.2 hv hS5 (by rw [hz5, eA]) (by rw [eA] at hg5'; exact agR_tau (fun p a b => eR p a (by omega)) hg5') (fun o w a b x y => by
            rw [w5, e_u_n _ _ (by decide)]
            exact hk3 hb2 o w a b x y) (fun p a b => (eT_rg hS2 hv.2 (hg2 hb2) a b).1) H.v.2
          simp (disch := first | assumption | exact e_nk_i _ | exact e_nk_n | exact e_nk_r _ | exact e_bo_0 | exact e_bo_1 | exact e_bo_b _ | omega) only [e_cl_v, e_cl_x, e_add_0, e_add_s, Option.toList_some, Option.toList_none, List.cons_append, List.nil_append, iI_add, iI_sub, iI_mul, iI_lt, iI_eq, iI_le, r207_0, r207_1, r207_2, r207_5, r207_6, r207_7, r207_8, r207_11, r207_14, r207_15, r207_16, r207_19, r207_22, r207_25, r207_26, r207_27, r207_28, r207_29, r207_32, r207_35, r207_38, r207_39, r207_42, r207_43, r207_44, r207_47, r207_50, r207_51, r207_52, r207_55, r207_58, r207_59, r207_61, r207_64, r207_65, r207_68, r207_69, r207_70, r207_73, r207_76, r207_77, r207_78, r207_79, r207_82, r207_83, r207_86, r207_88, r207_89, r207_92, r207_93, r207_96, r207_99, r207_100, r207_102, r207_103, r207_106, r207_109, r207_111, r207_112, r207_113, r207_114, r207_115, r207_118, r207_121, r207_123, r207_124, r207_125, r207_126, r207_127, r207_130, r207_133, r207_135, r207_136, r207_137, r207_138, r207_139, r207_142, r207_145, r207_146, r207_147, r207_148, r207_149, r207_150, r207_151, r207_154, r207_157, r207_159, r207_162, r207_163, r207_166, r207_169, r207_170, e1, e2, e3, e4, e5, e6, e7, e8, e9, iI_vin, iI_nat, if_true, e10, e_u_s, e_u_u, u311, upd_n, e11, e12]
          simp [hk10]
        | false =>
          rw [hb5, bI_t] at e11
          rw [hb2, bI_f] at e8
          simp (disch := first | assumption | exact e_nk_i _ | exact e_nk_n | exact e_nk_r _ | exact e_bo_0 | exact e_bo_1 | exact e_bo_b _ | omega) only [e_cl_v, e_cl_x, e_add_0, e_add_s, Option.toList_some, Option.toList_none, List.cons_append, List.nil_append, iI_add, iI_sub, iI_mul, iI_lt, iI_eq, iI_le, r207_0, r207_1, r207_2, r207_5, r207_6, r207_7, r207_8, r207_11, r207_14, r207_15, r207_16, r207_19, r207_22, r207_25, r207_26, r207_27, r207_28, r207_29, r207_32, r207_35, r207_38, r207_39, r207_42, r207_43, r207_44, r207_47, r207_50, r207_51, r207_52, r207_55, r207_58, r207_59, r207_61, r207_64, r207_65, r207_68, r207_69, r207_70, r207_73, r207_76, r207_77, r207_78, r207_79, r207_82, r207_83, r207_86, r207_88, r207_89, r207_92, r207_93, r207_96, r207_99, r207_100, r207_102, r207_103, r207_106, r207_109, r207_111, r207_112, r207_113, r207_114, r207_115, r207_118, r207_121, r207_123, r207_124, r207_125, r207_126, r207_127, r207_130, r207_133, r207_135, r207_136, r207_137, r207_138, r207_139, r207_142, r207_145, r207_146, r207_147, r207_148, r207_149, r207_150, r207_151, r207_154, r207_157, r207_159, r207_162, r207_163, r207_166, r207_169, r207_170, e1, e2, e3, e4, e5, e6, e7, e8, e9, iI_vin, iI_nat, if_true, e10, e_u_s, e_u_u, u311, upd_n, e11]
          simp [hk10]
      | false =>
        rw [hb5, bI_f] at e11
        simp (disch := first | assumption | exact e_nk_i _ | exact e_nk_n | exact e_nk_r _ | exact e_bo_0 | exact e_bo_1 | exact e_bo_b _ | omega) only [e_cl_v, e_cl_x, e_add_0, e_add_s, Option.toList_some, Option.toList_none, List.cons_append, List.nil_append, iI_add, iI_sub, iI_mul, iI_lt, iI_eq, iI_le, r207_0, r207_1, r207_2, r207_5, r207_6, r207_7, r207_8, r207_11, r207_14, r207_15, r207_16, r207_19, r207_22, r207_25, r207_26, r207_27, r207_28, r207_29, r207_32, r207_35, r207_38, r207_39, r207_42, r207_43, r207_44, r207_47, r207_50, r207_51, r207_52, r207_55, r207_58, r207_59, r207_61, r207_64, r207_65, r207_68, r207_69, r207_70, r207_73, r207_76, r207_77, r207_78, r207_79, r207_82, r207_83, r207_86, r207_88, r207_89, r207_92, r207_93, r207_96, r207_99, r207_100, r207_102, r207_103, r207_106, r207_109, r207_111, r207_112, r207_113, r207_114, r207_115, r207_118, r207_121, r207_123, r207_124, r207_125, r207_126, r207_127, r207_130, r207_133, r207_135, r207_136, r207_137, r207_138, r207_139, r207_142, r207_145, r207_146, r207_147, r207_148, r207_149, r207_150, r207_151, r207_154, r207_157, r207_159, r207_162, r207_163, r207_166, r207_169, r207_170, e1, e2, e3, e4, e5, e6, e7, e8, e9, iI_vin, iI_nat, if_true, e10, e_u_s, e_u_u, u311, upd_n, e11]
        simp [hk10]
    · have e6 := mm_failsF (L := L) (xs := xs) (d := d + 5) (V := V) (W := W) (e := 2) h0 (by omega)
      rw [if_neg h2]
      refine AC.bad H 2 (iI 0) (by omega) rfl ?_
      simp (disch := first | assumption | exact e_nk_i _ | exact e_nk_n | exact e_nk_r _ | exact e_bo_0 | exact e_bo_1 | exact e_bo_b _ | omega) only [e_cl_v, e_cl_x, e_add_0, e_add_s, Option.toList_some, Option.toList_none, List.cons_append, List.nil_append, iI_add, iI_sub, iI_mul, iI_lt, iI_eq, iI_le, r207_0, r207_1, r207_2, r207_5, r207_6, r207_7, r207_8, r207_11, r207_14, r207_15, r207_16, r207_19, r207_22, r207_25, r207_26, r207_27, r207_28, r207_29, r207_32, r207_35, r207_38, r207_39, r207_42, r207_43, r207_44, r207_47, r207_50, r207_51, r207_52, r207_55, r207_58, r207_59, r207_61, r207_64, r207_65, r207_68, r207_69, r207_70, r207_73, r207_76, r207_77, e1, e2, e3, e4, e5, e6, iI_vin, iI_nat, if_true]
      simp [h2]
  · have hf2 : -2147483648 ≤ f ∧ f < 2147483648 := hf
    rw [if_neg h1]
    refine AC.bad H 1 (iI 0) (by omega) rfl ?_
    have e1 := mm_isMachine (L := L) (xs := xs) (d := d + 4) (M := mT M) (V := V) (W := W) hm
    have e2 := mm_in (L := L) (xs := xs) (d := d + 5) (h := e_hp (mT M) V W) (x := f) (y2 := 0) (z2 := 1999) hf (by omega) (by omega)
    have e4 := mm_failsF (L := L) (xs := xs) (d := d + 5) (V := V) (W := W) (e := 1) h0 (by omega)
    by_cases hf3 : 0 ≤ f ∧ f ≤ 1999
    · have e3 := mm_in (L := L) (xs := xs) (d := d + 5) (h := e_hp (mT M) V W) (x := t) (y2 := f + 1) (z2 := 2000) ht (by omega) (by omega)
      simp (disch := first | assumption | exact e_nk_i _ | exact e_nk_n | exact e_nk_r _ | exact e_bo_0 | exact e_bo_1 | exact e_bo_b _ | omega) only [e_cl_v, e_cl_x, e_add_0, e_add_s, Option.toList_some, Option.toList_none, List.cons_append, List.nil_append, iI_add, iI_sub, iI_mul, iI_lt, iI_eq, iI_le, r207_0, r207_1, r207_2, r207_5, r207_6, r207_7, r207_8, r207_11, r207_14, r207_15, r207_16, r207_19, r207_22, r207_25, r207_26, r207_27, r207_28, r207_29, r207_32, r207_35, r207_38, r207_39, r207_42, r207_43, r207_44, r207_47, r207_76, r207_77, e1, e2, e3, e4, bI_0, decide_eq_false_iff_not]
      try simp only [if_true, if_false]
      repeat' split
      all_goals first | omega | with_reducible rfl
    · rw [decide_eq_false hf3, bI_f] at e2
      simp (disch := first | assumption | exact e_nk_i _ | exact e_nk_n | exact e_nk_r _ | exact e_bo_0 | exact e_bo_1 | exact e_bo_b _ | omega) only [e_cl_v, e_cl_x, e_add_0, e_add_s, Option.toList_some, Option.toList_none, List.cons_append, List.nil_append, iI_add, iI_sub, iI_mul, iI_lt, iI_eq, iI_le, r207_0, r207_1, r207_2, r207_5, r207_6, r207_7, r207_8, r207_11, r207_14, r207_15, r207_16, r207_19, r207_22, r207_25, r207_26, r207_27, r207_28, r207_29, r207_32, r207_35, r207_38, r207_39, r207_42, r207_43, r207_44, r207_47, r207_76, r207_77, e1, e2, e4, bI_0, decide_eq_false_iff_not]
      try simp only [if_true, if_false]
      repeat' split
      all_goals first | omega | with_reducible rfl
end E91
