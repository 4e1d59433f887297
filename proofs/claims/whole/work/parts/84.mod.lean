section E84
variable {L : Nat} {xs : Nat → Int32} {d : Nat} {M M2 M3 : e_MI} {V : e_ML} {W : e_MD} {K K2 : e_St} {h : e_H} {S : Int → e_St} {c cd : Int} {ρ ω β ε τ T U : Int → Int} {r : Option e_R} {an : Int32}
/-! questions that need times -/
def bT (K : e_St) : Int → Int := scB K (rwK K)
def eT (K : e_St) : Int → Int := scE K (rwK K)
def cdT (K : e_St) (e : Int) : Int := if ft K = true then 0 else e
/-- the greatest end -/
def edW (K : e_St) : Int := mX (eT K) (aW K)
/-- where the times are told, or not -/
theorem AQ.tm (H : RK M K c S) {e : Int} (he : 0 < e ∧ e < 10) (hP : ∀ (M2 : e_MI) (ρ ω β ε : Int → Int), e_lim L xs (d + 6) 225 0 [some (.ref 184), some (.int (iI e))] [] (e_hp (mT M) V W) = some (.inl (some (.int (iI (if ft K = true then 0 else 1)))), e_hp M2 V W, 0, 0) → RK M2 K c S → frQ M M2 → e_SC M2 ρ ω β ε → M2 184 9 = iI (aW K) → M2 184 0 = iI (cdT K e) → (ft K = true → agR K (rwK K) (aW K) ρ ω β ε) → ∃ (M3 : e_MI) (z : Int32), r = some (.inl (some (.int z)), e_hp M3 V W, 0, 0) ∧ (M3 = M2 ∨ (frQ M2 M3 ∧ RS M3 ∧ M3 184 0 = M2 184 0)) ∧ (ft K = true → z = an)) : AQ r M V W K c S (cdT K e) an := by
  obtain ⟨M2, ρ, ω, β, ε, e1, HK, hq, hS, hg, hz, h0⟩ := rf_noTimes (L := L) (xs := xs) (d := d) (V := V) (W := W) H.mT (mT_0 M) he
  have e2 : bI (!ft K) = iI (if ft K = true then 0 else 1) := by
    cases ft K <;> rfl
  rw [e2] at e1
  obtain ⟨M3, z, hr, h3, hz3⟩ := hP M2 ρ ω β ε e1 HK ((frQ_mT M).t hq) hS hz h0 hg
  have hzz : cdT K e = 0 → z = an := fun q => hz3 (by
    unfold cdT at q
    by_cases hb : ft K = true
    · exact hb
    · rw [if_neg hb] at q
      omega)
  rcases h3 with h3 | ⟨h3, h4, h5⟩
  · subst h3
    exact ⟨_, z, hr, HK, (frQ_mT M).t hq, h0, hzz⟩
  · exact ⟨_, z, hr, HK.q h3 h4, ((frQ_mT M).t hq).t h3, by rw [h5, h0]; rfl, hzz⟩
theorem eT_rg (hS : e_SC M ρ ω β ε) (hn : aW K ≤ 16) (hg : agR K (rwK K) (aW K) ρ ω β ε) {p : Int} (h0 : 0 ≤ p) (h1 : p < aW K) : (0 ≤ bT K p ∧ bT K p ≤ 2001) ∧ 0 ≤ eT K p ∧ eT K p ≤ 2001 := by
  have a := hg p h0 h1
  have q3 := hS.2.2.2.2.2.2.1 p h0 (by omega)
  have q4 := hS.2.2.2.2.2.2.2 p h0 (by omega)
  rw [a.2.2.1] at q3
  rw [a.2.2.2] at q4
  exact ⟨q3, q4⟩
theorem edW_eq (hn : 0 ≤ aW K) (hg : agR K (rwK K) (aW K) ρ ω β ε) : mX ε (aW K) = edW K := mX_cong hn fun p a b => (hg p a b).2.2.2
theorem rf_hasTimes (H : RK M K c S) : AQ (e_lim L xs (d + 6) 229 0 [some (.ref 184)] [] (e_hp M V W)) M V W K c S 0 (bI (ft K)) := by
  obtain ⟨M2, ρ, ω, β, ε, e1, HK, hq, hS, hg, hz, h0⟩ := rf_times (L := L) (xs := xs) (d := d) (V := V) (W := W) H.mT
  refine AQ.of (M2 := M2) H rfl ?_ hq HK.s (by rw [h0, mT_0])
  simp (disch := first | assumption | exact e_nk_i _ | exact e_nk_n | exact e_nk_r _ | exact e_bo_0 | exact e_bo_1 | exact e_bo_b _ | omega) only [e_cl_v, e_cl_x, e_add_0, e_add_s, Option.toList_some, Option.toList_none, List.cons_append, List.nil_append, iI_add, iI_sub, iI_mul, iI_lt, iI_eq, iI_le, r229_0, r229_1, r229_2, r229_5, r229_6, r229_9, e1]
theorem rf_end (H : RK M K c S) : AQ (e_lim L xs (d + 7) 233 0 [some (.ref 184)] [] (e_hp M V W)) M V W K c S (cdT K 1) (iI (edW K)) := by
  refine AQ.tm (L := L) (xs := xs) (d := d) (V := V) (W := W) H (by omega) (fun M2 ρ ω β ε e1 HK hq hS hz h0 hg => ?_)
  cases hb : ft K with
  | true =>
    rw [hb, if_pos rfl] at e1
    have e2 := mm_endNow (L := L) (xs := xs) (d := d + 6) (V := V) (W := W) H.v.1 hz hS
    rw [edW_eq H.v.1.1 (hg hb)] at e2
    refine ⟨M2, _, ?_, Or.inl rfl, fun _ => rfl⟩
    simp (disch := first | assumption | exact e_nk_i _ | exact e_nk_n | exact e_nk_r _ | exact e_bo_0 | exact e_bo_1 | exact e_bo_b _ | omega) only [e_cl_v, e_cl_x, e_add_0, e_add_s, Option.toList_some, Option.toList_none, List.cons_append, List.nil_append, iI_add, iI_sub, iI_mul, iI_lt, iI_eq, iI_le, r233_0, r233_1, r233_2, r233_5, r233_6, r233_7, r233_10, r233_13, r233_14, r233_17, r233_18, r233_21, e1, e2]
    all_goals first | (simp; done) | rfl | (simp; rfl)
  | false =>
    rw [hb, if_neg (by decide)] at e1
    refine ⟨M2, iI 0, ?_, Or.inl rfl, fun q => by cases q⟩
    simp (disch := first | assumption | exact e_nk_i _ | exact e_nk_n | exact e_nk_r _ | exact e_bo_0 | exact e_bo_1 | exact e_bo_b _ | omega) only [e_cl_v, e_cl_x, e_add_0, e_add_s, Option.toList_some, Option.toList_none, List.cons_append, List.nil_append, iI_add, iI_sub, iI_mul, iI_lt, iI_eq, iI_le, r233_0, r233_1, r233_2, r233_5, r233_6, r233_7, r233_10, r233_13, r233_14, r233_17, r233_18, r233_21, e1]
    all_goals first | (simp; done) | rfl | (simp; rfl)
def cdBe (K : e_St) (o w : Int) : Int := if (0 ≤ o ∧ o ≤ K 310 - 1) ∧ 0 ≤ w ∧ w ≤ K (40 + o) - 1 then cdT K 2 else 1
def anBe (K : e_St) (o w : Int) : Int := bT K (plO K (rwK K) o w)
theorem rf_begin (H : RK M K c S) {o w : Int} (ho : i32 o) (hw : i32 w) : AQ (e_lim L xs (d + 7) 230 0 [some (.ref 184), some (.int (iI o)), some (.int (iI w))] [] (e_hp M V W)) M V W K c S (cdBe K o w) (iI (anBe K o w)) := by
  have hn := H.r.n
  unfold cdBe
  by_cases h1 : (0 ≤ o ∧ o ≤ K 310 - 1) ∧ 0 ≤ w ∧ w ≤ K (40 + o) - 1
  · have e0 := mm_noWorkT (L := L) (xs := xs) (d := d + 4) (V := V) (W := W) H.mT.km H.r (mT_0 M) h1.1 h1.2
    rw [if_pos h1]
    refine AQ.tm (L := L) (xs := xs) (d := d) (V := V) (W := W) H (by omega) (fun M2 ρ ω β ε e1 HK hq hS hz h0 hg => ?_)
    cases hb : ft K with
    | true =>
      rw [hb, if_pos rfl] at e1
      have e2 := mm_placeOfR (L := L) (xs := xs) (d := d + 6) (V := V) (W := W) H.r H.v.2 H.v.1 hS (hg hb) (o := o) (w := w) (by omega) (by omega)
      obtain ⟨⟨a1, a2⟩, -, -⟩ := plO_sp H.r H.v.2 H.v.1.1 (o := o) (w := w) (by omega) (by omega)
      have hv := H.v.1
      have e3 := hS.2.2.1 (plO K (rwK K) o w) a1 (by have : plO K (rwK K) o w < aW K := a2; omega)
      have e4 := (hg hb (plO K (rwK K) o w) a1 a2).2.2.1
      have a3 : plO K (rwK K) o w < 16 := by
        have : plO K (rwK K) o w < aW K := a2
        omega
      have a4 : 0 ≤ plO K (rwK K) o w := a1
      rw [e4] at e3
      refine ⟨M2, _, ?_, Or.inl rfl, fun _ => rfl⟩
      unfold anBe bT
      have e2' : e_lim L xs (d + 6) 222 0 [some (.ref 184), some (.int (iI o)), some (.int (iI w)), none] [] (e_hp M2 V W) = some (.inl (some (.int (iI (plO K (rwK K) o w)))), e_hp M2 V W, 0, 0) := e2
      simp (disch := first | assumption | exact e_nk_i _ | exact e_nk_n | exact e_nk_r _ | exact e_bo_0 | exact e_bo_1 | exact e_bo_b _ | omega) only [e_cl_v, e_cl_x, e_add_0, e_add_s, Option.toList_some, Option.toList_none, List.cons_append, List.nil_append, iI_add, iI_sub, iI_mul, iI_lt, iI_eq, iI_le, r230_0, r230_1, r230_2, r230_5, r230_6, r230_7, r230_8, r230_11, r230_14, r230_15, r230_16, r230_19, r230_22, r230_23, r230_26, r230_27, r230_30, r230_31, r230_32, r230_33, r230_36, r230_37, e0, e1, e2', iI_vin, iI_nat, if_true, e3]
      all_goals first | (simp; done) | rfl | (simp; rfl)
    | false =>
      rw [hb, if_neg (by decide)] at e1
      refine ⟨M2, iI 0, ?_, Or.inl rfl, fun q => by cases q⟩
      simp (disch := first | assumption | exact e_nk_i _ | exact e_nk_n | exact e_nk_r _ | exact e_bo_0 | exact e_bo_1 | exact e_bo_b _ | omega) only [e_cl_v, e_cl_x, e_add_0, e_add_s, Option.toList_some, Option.toList_none, List.cons_append, List.nil_append, iI_add, iI_sub, iI_mul, iI_lt, iI_eq, iI_le, r230_0, r230_1, r230_2, r230_5, r230_6, r230_7, r230_8, r230_11, r230_14, r230_15, r230_16, r230_19, r230_22, r230_23, r230_26, r230_27, r230_30, r230_31, r230_32, r230_33, r230_36, r230_37, e0, e1]
      all_goals first | (simp; done) | rfl | (simp; rfl)
  · have e0 := mm_noWorkF (L := L) (xs := xs) (d := d + 4) (V := V) (W := W) H.mT.km H.r (mT_0 M) ho hw h1
    rw [if_neg h1]
    refine AQ.bad H 1 (iI 0) (by omega) rfl ?_
    simp (disch := first | assumption | exact e_nk_i _ | exact e_nk_n | exact e_nk_r _ | exact e_bo_0 | exact e_bo_1 | exact e_bo_b _ | omega) only [e_cl_v, e_cl_x, e_add_0, e_add_s, Option.toList_some, Option.toList_none, List.cons_append, List.nil_append, iI_add, iI_sub, iI_mul, iI_lt, iI_eq, iI_le, r230_0, r230_1, r230_2, r230_5, r230_6, r230_7, r230_8, r230_11, r230_14, r230_15, r230_16, r230_19, r230_22, r230_23, r230_26, r230_27, r230_30, r230_31, r230_32, r230_33, r230_36, r230_37, e0]
    all_goals first | (simp; done) | rfl | (simp; rfl)
def cdEO (K : e_St) (o : Int) : Int := if 0 ≤ o ∧ o ≤ K 310 - 1 then cdT K 2 else 1
theorem rf_endOf (H : RK M K c S) {o : Int} (ho : i32 o) : AQ (e_lim L xs (d + 7) 232 0 [some (.ref 184), some (.int (iI o))] [] (e_hp M V W)) M V W K c S (cdEO K o) (iI (enO K (rwK K) o)) := by
  have hn := H.r.n
  unfold cdEO
  by_cases h1 : 0 ≤ o ∧ o ≤ K 310 - 1
  · have e0 := mm_noOrderT (L := L) (xs := xs) (d := d + 5) (V := V) (W := W) H.mT.km H.r (mT_0 M) h1
    rw [if_pos h1]
    refine AQ.tm (L := L) (xs := xs) (d := d) (V := V) (W := W) H (by omega) (fun M2 ρ ω β ε e1 HK hq hS hz h0 hg => ?_)
    cases hb : ft K with
    | true =>
      rw [hb, if_pos rfl] at e1
      have e2 := mm_endIs (L := L) (xs := xs) (d := d + 5) (V := V) (W := W) HK.km H.r H.v.2 H.v.1 hS (hg hb) (o := o) (by omega)
      refine ⟨M2, _, ?_, Or.inl rfl, fun _ => rfl⟩
      have e2' : e_lim L xs (d + 6) 231 0 [some (.ref 184), some (.int (iI o))] [] (e_hp M2 V W) = some (.inl (some (.int (iI (enO K (rwK K) o)))), e_hp M2 V W, 0, 0) := e2
      simp (disch := first | assumption | exact e_nk_i _ | exact e_nk_n | exact e_nk_r _ | exact e_bo_0 | exact e_bo_1 | exact e_bo_b _ | omega) only [e_cl_v, e_cl_x, e_add_0, e_add_s, Option.toList_some, Option.toList_none, List.cons_append, List.nil_append, iI_add, iI_sub, iI_mul, iI_lt, iI_eq, iI_le, r232_0, r232_1, r232_2, r232_5, r232_6, r232_7, r232_10, r232_13, r232_14, r232_15, r232_18, r232_21, r232_22, r232_25, r232_26, r232_27, r232_30, e0, e1, e2']
      all_goals first | (simp; done) | rfl | (simp; rfl)
    | false =>
      rw [hb, if_neg (by decide)] at e1
      refine ⟨M2, iI 0, ?_, Or.inl rfl, fun q => by cases q⟩
      simp (disch := first | assumption | exact e_nk_i _ | exact e_nk_n | exact e_nk_r _ | exact e_bo_0 | exact e_bo_1 | exact e_bo_b _ | omega) only [e_cl_v, e_cl_x, e_add_0, e_add_s, Option.toList_some, Option.toList_none, List.cons_append, List.nil_append, iI_add, iI_sub, iI_mul, iI_lt, iI_eq, iI_le, r232_0, r232_1, r232_2, r232_5, r232_6, r232_7, r232_10, r232_13, r232_14, r232_15, r232_18, r232_21, r232_22, r232_25, r232_26, r232_27, r232_30, e0, e1]
      all_goals first | (simp; done) | rfl | (simp; rfl)
  · have e0 := mm_noOrderF (L := L) (xs := xs) (d := d + 5) (V := V) (W := W) H.mT.km H.r (mT_0 M) ho h1
    rw [if_neg h1]
    refine AQ.bad H 1 (iI 0) (by omega) rfl ?_
    simp (disch := first | assumption | exact e_nk_i _ | exact e_nk_n | exact e_nk_r _ | exact e_bo_0 | exact e_bo_1 | exact e_bo_b _ | omega) only [e_cl_v, e_cl_x, e_add_0, e_add_s, Option.toList_some, Option.toList_none, List.cons_append, List.nil_append, iI_add, iI_sub, iI_mul, iI_lt, iI_eq, iI_le, r232_0, r232_1, r232_2, r232_5, r232_6, r232_7, r232_10, r232_13, r232_14, r232_15, r232_18, r232_21, r232_22, r232_25, r232_26, r232_27, r232_30, e0]
    all_goals first | (simp; done) | rfl | (simp; rfl)
def cdBu (K : e_St) (t : Int) : Int := if 0 ≤ t ∧ t ≤ 2000 then cdT K 2 else 1
theorem rf_busy (H : RK M K c S) {t : Int} (ht : i32 t) : AQ (e_lim L xs (d + 7) 234 0 [some (.ref 184), some (.int (iI t)), none, none] [] (e_hp M V W)) M V W K c S (cdBu K t) (iI (bz (bT K) (eT K) (aW K) t)) := by
  have hv := H.v.1
  unfold cdBu
  by_cases h1 : 0 ≤ t ∧ t ≤ 2000
  · have a1 := mm_inT (L := L) (xs := xs) (d := d + 6) (h := e_hp (mT M) V W) h1 (by omega) (by omega)
    have a2 := mm_failsT (L := L) (xs := xs) (d := d + 6) (V := V) (W := W) (e := 1) (mT_0 M) (by omega)
    rw [if_pos h1]
    refine AQ.tm (L := L) (xs := xs) (d := d) (V := V) (W := W) H (by omega) (fun M2 ρ ω β ε e1 HK hq hS hz h0 hg => ?_)
    cases hb : ft K with
    | true =>
      rw [hb, if_pos rfl] at e1
      refine ⟨M2, _, ?_, Or.inl rfl, fun _ => rfl⟩
      have hbz : bz (bT K) (eT K) (aW K) t = bz β ε (aW K) t := (bz_cong fun p a b => ⟨(hg hb p a b).2.2.1, (hg hb p a b).2.2.2⟩).symm
      rw [hbz]
      obtain ⟨h1, h2, h3, h4, g1, g2, g3, g4⟩ := hS
      simp (disch := first | assumption | exact e_nk_i _ | exact e_nk_n | exact e_nk_r _ | exact e_bo_0 | exact e_bo_1 | exact e_bo_b _ | omega) only [e_cl_v, e_cl_x, e_add_0, e_add_s, Option.toList_some, Option.toList_none, List.cons_append, List.nil_append, iI_add, iI_sub, iI_mul, iI_lt, iI_eq, iI_le, r234_0, r234_1, r234_2, r234_5, r234_6, r234_7, r234_8, r234_11, r234_14, r234_15, r234_18, r234_21, r234_22, r234_23, r234_26, r234_29, r234_30, r234_31, r234_32, r234_33, r234_34, a1, a2, e1]
      simp only [if_true]
      rw [show (iI 0 : Int32) = iI (bz β ε 0 t) from rfl]
      refine G_loopI (C := fun i => e_lim L xs (d + 7) 234 35 [some (.ref 184), some (.int (iI t)), some (.int (iI (bz β ε i t))), some (.int (iI i))] [] (e_hp M2 V W)) (i := 0) hv.1 (fun j a b hc => ?_) ?_
      · have e3 := h3 j a (by omega)
        have e4 := h4 j a (by omega)
        have q3 := g3 j a (by omega)
        have q4 := g4 j a (by omega)
        have e5 := mm_in (L := L) (xs := xs) (d := d + 6) (h := e_hp M2 V W) (x := t) (y2 := β j) (z2 := ε j - 1) (by omega) (by omega) (by omega)
        have hs : bz β ε (j + 1) t = bz β ε j t + if β j ≤ t ∧ t ≤ ε j - 1 then 1 else 0 := SU_s _ a
        rw [hs] at hc
        rw [r234_35]
        simp (disch := first | assumption | exact e_nk_i _ | exact e_nk_n | exact e_nk_r _ | exact e_bo_0 | exact e_bo_1 | exact e_bo_b _ | omega) only [e_cl_v, e_cl_x, e_add_0, e_add_s, Option.toList_some, Option.toList_none, List.cons_append, List.nil_append, iI_add, iI_sub, iI_mul, iI_lt, iI_eq, iI_le, r234_36, r234_37, r234_40, r234_43, r234_44, r234_45, r234_46, r234_49, r234_50, r234_51, r234_52, r234_55, r234_56, r234_57, r234_58, r234_59, r234_62, r234_65, r234_66, r234_69, r234_70, r234_71, r234_72, r234_75, iI_vin, iI_nat, if_true, hz, e3, e4, e5, bI_0]
        rw [if_pos b]
        by_cases z : β j ≤ t ∧ t ≤ ε j - 1
        · rw [if_pos z] at hc
          rw [decide_eq_true z]
          simpa using hc
        · rw [if_neg z] at hc
          rw [decide_eq_false z]
          simpa using hc
      · rw [r234_35]
        simp (disch := first | assumption | exact e_nk_i _ | exact e_nk_n | exact e_nk_r _ | exact e_bo_0 | exact e_bo_1 | exact e_bo_b _ | omega) only [e_cl_v, e_cl_x, e_add_0, e_add_s, Option.toList_some, Option.toList_none, List.cons_append, List.nil_append, iI_add, iI_sub, iI_mul, iI_lt, iI_eq, iI_le, r234_36, r234_37, r234_40, r234_78, r234_79, hz]
        rw [if_neg (by omega)]
    | false =>
      rw [hb, if_neg (by decide)] at e1
      refine ⟨M2, iI 0, ?_, Or.inl rfl, fun q => by cases q⟩
      simp (disch := first | assumption | exact e_nk_i _ | exact e_nk_n | exact e_nk_r _ | exact e_bo_0 | exact e_bo_1 | exact e_bo_b _ | omega) only [e_cl_v, e_cl_x, e_add_0, e_add_s, Option.toList_some, Option.toList_none, List.cons_append, List.nil_append, iI_add, iI_sub, iI_mul, iI_lt, iI_eq, iI_le, r234_0, r234_1, r234_2, r234_5, r234_6, r234_7, r234_8, r234_11, r234_14, r234_15, r234_18, r234_21, r234_22, r234_23, r234_26, r234_29, r234_30, r234_31, a1, a2, e1]
      all_goals first | (simp; done) | rfl | (simp; rfl)
  · have a1 := mm_inF (L := L) (xs := xs) (d := d + 6) (h := e_hp (mT M) V W) h1 ht (by omega) (by omega)
    have a2 := mm_failsF (L := L) (xs := xs) (d := d + 6) (V := V) (W := W) (e := 1) (mT_0 M) (by omega)
    rw [if_neg h1]
    refine AQ.bad H 1 (iI 0) (by omega) rfl ?_
    simp (disch := first | assumption | exact e_nk_i _ | exact e_nk_n | exact e_nk_r _ | exact e_bo_0 | exact e_bo_1 | exact e_bo_b _ | omega) only [e_cl_v, e_cl_x, e_add_0, e_add_s, Option.toList_some, Option.toList_none, List.cons_append, List.nil_append, iI_add, iI_sub, iI_mul, iI_lt, iI_eq, iI_le, r234_0, r234_1, r234_2, r234_5, r234_6, r234_7, r234_8, r234_11, r234_14, r234_15, r234_18, r234_21, r234_22, r234_23, r234_26, r234_29, r234_30, r234_31, a1, a2]
    all_goals first | (simp; done) | rfl | (simp; rfl)
/-- the first place before n where p holds, or -1, as a number -/
def fsN (p : Int → Bool) (n : Int) : Int := if fsP p n.toNat < n then fsP p n.toNat else -1
def cdWA (K : e_St) (m t : Int) : Int := if (0 ≤ m ∧ m ≤ 3) ∧ 0 ≤ t ∧ t ≤ 2000 then cdT K 2 else 1
def waP (K : e_St) (m t : Int) : Int → Bool := fun k => decide (mcA K (rwK K) (scW (rwK K)) k = m ∧ bT K k ≤ t ∧ t ≤ eT K k - 1)
def anWA (K : e_St) (m t : Int) : Int := if fsN (waP K m t) (aW K) = -1 then -1 else rwK K (fsN (waP K m t) (aW K))
theorem rf_workAt (H : RK M K c S) {m t : Int} (hm : i32 m) (ht : i32 t) : AQ (e_lim L xs (d + 7) 235 0 [some (.ref 184), some (.int (iI m)), some (.int (iI t)), none] [] (e_hp M V W)) M V W K c S (cdWA K m t) (iI (anWA K m t)) := by
  have hv := H.v.1
  have a3 := mm_failsT (L := L) (xs := xs) (d := d + 6) (V := V) (W := W) (e := 1) (mT_0 M) (by omega)
  have a4 := mm_failsF (L := L) (xs := xs) (d := d + 6) (V := V) (W := W) (e := 1) (mT_0 M) (by omega)
  unfold cdWA
  by_cases h1 : 0 ≤ m ∧ m ≤ 3
  · have a1 := mm_isMachineT (L := L) (xs := xs) (d := d + 5) (M := mT M) (V := V) (W := W) h1
    by_cases h2 : 0 ≤ t ∧ t ≤ 2000
    · have a2 := mm_inT (L := L) (xs := xs) (d := d + 6) (h := e_hp (mT M) V W) h2 (by omega) (by omega)
      rw [if_pos ⟨h1, h2⟩]
      refine AQ.tm (L := L) (xs := xs) (d := d) (V := V) (W := W) H (by omega) (fun M2 ρ ω β ε e1 HK hq hS hz h0 hg => ?_)
      cases hb : ft K with
      | true =>
        rw [hb, if_pos rfl] at e1
        refine ⟨M2, _, ?_, Or.inl rfl, fun _ => rfl⟩
        have hg2 := hg hb
        have hK2 := HK.km
        obtain ⟨h1', h2', h3, h4, g1, g2, g3, g4⟩ := hS
        simp (disch := first | assumption | exact e_nk_i _ | exact e_nk_n | exact e_nk_r _ | exact e_bo_0 | exact e_bo_1 | exact e_bo_b _ | omega) only [e_cl_v, e_cl_x, e_add_0, e_add_s, Option.toList_some, Option.toList_none, List.cons_append, List.nil_append, iI_add, iI_sub, iI_mul, iI_lt, iI_eq, iI_le, r235_0, r235_1, r235_2, r235_5, r235_6, r235_7, r235_8, r235_11, r235_14, r235_15, r235_16, r235_19, r235_22, r235_25, r235_26, r235_29, r235_30, r235_31, r235_34, r235_37, r235_38, r235_39, r235_42, r235_45, r235_46, r235_47, r235_48, a1, a2, a3, e1]
        simp only [if_true]
        refine G_find (C := fun i => e_lim L xs (d + 7) 235 49 [some (.ref 184), some (.int (iI m)), some (.int (iI t)), some (.int (iI i))] [] (e_hp M2 V W)) (p := waP K m t) (i := 0) hv.1 (fun j a b hp hc => ?_) (fun j a b hp hf => ?_) (fun hf => ?_)
        · have ag := hg2 j a b
          have e2 := mm_machineAt (L := L) (xs := xs) (d := d + 6) (V := V) (W := W) hK2 h1' h2' g1 g2 (k := j) (by omega)
          have r2 := mcA_rg H.r g1 g2 (k := j) (by omega)
          have e3 := h3 j a (by omega)
          have e4 := h4 j a (by omega)
          have q3 := g3 j a (by omega)
          have q4 := g4 j a (by omega)
          have e5 := mm_in (L := L) (xs := xs) (d := d + 6) (h := e_hp M2 V W) (x := t) (y2 := β j) (z2 := ε j - 1) (by omega) (by omega) (by omega)
          have hmc : mcA K ρ ω j = mcA K (rwK K) (scW (rwK K)) j := mcA_cong ⟨ag.1, ag.2.1⟩
          unfold waP at hp
          rw [← hmc, decide_eq_false_iff_not] at hp
          have eb : bT K j = β j := ag.2.2.1.symm
          have ee : eT K j = ε j := ag.2.2.2.symm
          rw [eb, ee] at hp
          rw [r235_49]
          simp (disch := first | assumption | exact e_nk_i _ | exact e_nk_n | exact e_nk_r _ | exact e_bo_0 | exact e_bo_1 | exact e_bo_b _ | omega) only [e_cl_v, e_cl_x, e_add_0, e_add_s, Option.toList_some, Option.toList_none, List.cons_append, List.nil_append, iI_add, iI_sub, iI_mul, iI_lt, iI_eq, iI_le, r235_50, r235_51, r235_54, r235_57, r235_58, r235_59, r235_62, r235_63, r235_66, r235_67, r235_68, r235_71, r235_72, r235_73, r235_74, r235_77, r235_78, r235_79, r235_80, r235_81, r235_84, r235_87, r235_88, r235_91, r235_92, r235_93, r235_94, r235_97, iI_vin, iI_nat, if_true, hz, e2, e3, e4, e5, bI_0]
          rw [if_pos b]
          by_cases z : mcA K ρ ω j = m
          · rw [if_pos z, if_pos (by simp only [decide_eq_false_iff_not]; exact fun q => hp ⟨z, q⟩)]
            exact hc
          · rw [if_neg z]
            exact hc
        · have ag := hg2 j a b
          have e1' := h1' j a (by omega)
          have e2 := mm_machineAt (L := L) (xs := xs) (d := d + 6) (V := V) (W := W) hK2 h1' h2' g1 g2 (k := j) (by omega)
          have r2 := mcA_rg H.r g1 g2 (k := j) (by omega)
          have e3 := h3 j a (by omega)
          have e4 := h4 j a (by omega)
          have q3 := g3 j a (by omega)
          have q4 := g4 j a (by omega)
          have e5 := mm_in (L := L) (xs := xs) (d := d + 6) (h := e_hp M2 V W) (x := t) (y2 := β j) (z2 := ε j - 1) (by omega) (by omega) (by omega)
          have hmc : mcA K ρ ω j = mcA K (rwK K) (scW (rwK K)) j := mcA_cong ⟨ag.1, ag.2.1⟩
          have hp0 := hp
          unfold waP at hp
          rw [← hmc, decide_eq_true_eq] at hp
          have eb : bT K j = β j := ag.2.2.1.symm
          have ee : eT K j = ε j := ag.2.2.2.symm
          rw [eb, ee] at hp
          have hfs : fsN (waP K m t) (aW K) = j := by
            unfold fsN
            rw [fsP_hit a hp0 (fun q x y => hf q x y) (aW K).toNat (by omega), if_pos b]
          unfold anWA
          rw [hfs, if_neg (by omega), ← ag.1, r235_49]
          simp (disch := first | assumption | exact e_nk_i _ | exact e_nk_n | exact e_nk_r _ | exact e_bo_0 | exact e_bo_1 | exact e_bo_b _ | omega) only [e_cl_v, e_cl_x, e_add_0, e_add_s, Option.toList_some, Option.toList_none, List.cons_append, List.nil_append, iI_add, iI_sub, iI_mul, iI_lt, iI_eq, iI_le, r235_50, r235_51, r235_54, r235_57, r235_58, r235_59, r235_62, r235_63, r235_66, r235_67, r235_68, r235_71, r235_72, r235_73, r235_74, r235_77, r235_78, r235_79, r235_80, r235_81, r235_84, r235_87, r235_88, r235_91, r235_92, r235_93, r235_94, r235_97, iI_vin, iI_nat, if_true, hz, e1', e2, e3, e4, e5, bI_0]
          rw [if_pos b, if_pos hp.1, if_neg (by simp only [decide_eq_false_iff_not]; exact fun q => q hp.2)]
        · have hfs : fsN (waP K m t) (aW K) = -1 := by
            unfold fsN
            rw [fsP_none (aW K).toNat (fun q x y => hf q x (by omega)), if_neg (by omega)]
          unfold anWA
          rw [hfs, if_pos rfl, r235_49]
          simp (disch := first | assumption | exact e_nk_i _ | exact e_nk_n | exact e_nk_r _ | exact e_bo_0 | exact e_bo_1 | exact e_bo_b _ | omega) only [e_cl_v, e_cl_x, e_add_0, e_add_s, Option.toList_some, Option.toList_none, List.cons_append, List.nil_append, iI_add, iI_sub, iI_mul, iI_lt, iI_eq, iI_le, r235_50, r235_51, r235_54, r235_100, r235_101, hz]
          rw [if_neg (by omega)]
      | false =>
        rw [hb, if_neg (by decide)] at e1
        refine ⟨M2, iI 0, ?_, Or.inl rfl, fun q => by cases q⟩
        simp (disch := first | assumption | exact e_nk_i _ | exact e_nk_n | exact e_nk_r _ | exact e_bo_0 | exact e_bo_1 | exact e_bo_b _ | omega) only [e_cl_v, e_cl_x, e_add_0, e_add_s, Option.toList_some, Option.toList_none, List.cons_append, List.nil_append, iI_add, iI_sub, iI_mul, iI_lt, iI_eq, iI_le, r235_0, r235_1, r235_2, r235_5, r235_6, r235_7, r235_8, r235_11, r235_14, r235_15, r235_16, r235_19, r235_22, r235_25, r235_26, r235_29, r235_30, r235_31, r235_34, r235_37, r235_38, r235_39, r235_42, r235_45, r235_46, r235_47, a1, a2, a3, e1]
        all_goals first | (simp; done) | rfl | (simp; rfl)
    · have a2 := mm_inF (L := L) (xs := xs) (d := d + 6) (h := e_hp (mT M) V W) h2 ht (by omega) (by omega)
      rw [if_neg (fun a => h2 a.2)]
      refine AQ.bad H 1 (iI 0) (by omega) rfl ?_
      simp (disch := first | assumption | exact e_nk_i _ | exact e_nk_n | exact e_nk_r _ | exact e_bo_0 | exact e_bo_1 | exact e_bo_b _ | omega) only [e_cl_v, e_cl_x, e_add_0, e_add_s, Option.toList_some, Option.toList_none, List.cons_append, List.nil_append, iI_add, iI_sub, iI_mul, iI_lt, iI_eq, iI_le, r235_0, r235_1, r235_2, r235_5, r235_6, r235_7, r235_8, r235_11, r235_14, r235_15, r235_16, r235_19, r235_22, r235_25, r235_26, r235_29, r235_30, r235_31, r235_34, r235_37, r235_38, r235_39, r235_42, r235_45, r235_46, r235_47, a1, a2, a4]
      all_goals first | (simp; done) | rfl | (simp; rfl)
  · have a1 := mm_isMachineF (L := L) (xs := xs) (d := d + 5) (M := mT M) (V := V) (W := W) hm h1
    rw [if_neg (fun a => h1 a.1)]
    refine AQ.bad H 1 (iI 0) (by omega) rfl ?_
    simp (disch := first | assumption | exact e_nk_i _ | exact e_nk_n | exact e_nk_r _ | exact e_bo_0 | exact e_bo_1 | exact e_bo_b _ | omega) only [e_cl_v, e_cl_x, e_add_0, e_add_s, Option.toList_some, Option.toList_none, List.cons_append, List.nil_append, iI_add, iI_sub, iI_mul, iI_lt, iI_eq, iI_le, r235_0, r235_1, r235_2, r235_5, r235_6, r235_7, r235_8, r235_11, r235_14, r235_15, r235_16, r235_19, r235_22, r235_25, r235_26, r235_29, r235_30, r235_31, r235_34, r235_37, r235_38, r235_39, r235_42, r235_45, r235_46, r235_47, a1, a4]
    all_goals first | (simp; done) | rfl | (simp; rfl)
end E84
