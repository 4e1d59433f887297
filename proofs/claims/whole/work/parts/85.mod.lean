section E85
variable {L : Nat} {xs : Nat → Int32} {d : Nat} {M M2 M3 : e_MI} {V : e_ML} {W : e_MD} {K K2 : e_St} {h : e_H} {S : Int → e_St} {c cd : Int} {ρ ω β ε ρ2 ω2 β2 ε2 τ T U : Int → Int} {r : Option e_R} {an : Int32}
theorem ahW_cong {k : Int} (hk : 0 ≤ k) (h : ∀ p, 0 ≤ p → p ≤ k → ρ p = ρ2 p ∧ ω p = ω2 p ∧ β p = β2 p ∧ ε p = ε2 p) : ahW K ρ ω β ε k = ahW K ρ2 ω2 β2 ε2 k := by
  have e1 := oAh_cong hk (fun p a b => (h p a b).1)
  have e2 := mAh_cong (K := K) hk (fun p a b => ⟨(h p a b).1, (h p a b).2.1⟩)
  have e3 := tAh_cong (K := K) hk (fun p a b => ⟨(h p a b).1, (h p a b).2.1⟩)
  have c1 := oAh_rg ρ2 hk
  have c2 := mAh_rg K ρ2 ω2 hk
  have c3 := tAh_rg K ρ2 ω2 hk
  have ek := h k hk (Int.le_refl _)
  have f1 : (oAh ρ k ≠ -1 ∧ ε (oAh ρ k) = β k) = (oAh ρ2 k ≠ -1 ∧ ε2 (oAh ρ2 k) = β2 k) := by
    rw [e1, ek.2.2.1]
    rcases c1 with z | z
    · simp [z]
    · rw [(h _ z.1 (by omega)).2.2.2]
  have f2 : (mAh K ρ ω k ≠ -1 ∧ ε (mAh K ρ ω k) + sT K (mcA K ρ ω k) (K (ρ (mAh K ρ ω k))) (K (ρ k)) = β k) = (mAh K ρ2 ω2 k ≠ -1 ∧ ε2 (mAh K ρ2 ω2 k) + sT K (mcA K ρ2 ω2 k) (K (ρ2 (mAh K ρ2 ω2 k))) (K (ρ2 k)) = β2 k) := by
    rw [e2, ek.2.2.1, ek.1, mcA_cong (K := K) ⟨ek.1, ek.2.1⟩]
    rcases c2 with z | z
    · simp [z]
    · rw [(h _ z.1 (by omega)).2.2.2, (h _ z.1 (by omega)).1]
  have f3 : (tAh K ρ ω k ≠ -1 ∧ ε (tAh K ρ ω k) = β k) = (tAh K ρ2 ω2 k ≠ -1 ∧ ε2 (tAh K ρ2 ω2 k) = β2 k) := by
    rw [e3, ek.2.2.1]
    rcases c3 with z | z
    · simp [z]
    · rw [(h _ z.1 (by omega)).2.2.2]
  unfold ahW
  simp only [f1, f2, f3]
  simp only [e1, e2, e3]
/-- the critical works of the present plan -/
def crA (K : e_St) : Int → Int := ahW K (rwK K) (scW (rwK K)) (bT K) (eT K)
def crL (K : e_St) : Int := lsW (eT K) (aW K)
def crN (K : e_St) : Int := chN (crA K) (crL K)
theorem cr_eq (hn : 0 ≤ aW K ∧ aW K ≤ 16) (hg : agR K (rwK K) (aW K) ρ ω β ε) : lsW ε (aW K) = crL K ∧ chN (ahW K ρ ω β ε) (crL K) = crN K ∧ ∀ i, chW (ahW K ρ ω β ε) (crL K) i = chW (crA K) (crL K) i := by
  have h1 : lsW ε (aW K) = crL K := lsF_cong _ (fun p a b => (hg p a (by omega)).2.2.2)
  have hl := lsF_rg (eT K) (aW K).toNat
  have hlw : -1 ≤ crL K ∧ crL K < aW K := by
    unfold crL lsW
    omega
  have h2 : ∀ i, chW (ahW K ρ ω β ε) (crL K) i = chW (crA K) (crL K) i := fun i => (chW_cong (n := aW K) (fun k a b => ahW_cong a (fun p x y => hg p x (by omega))) (fun k a b => ahW_rg K ρ ω β ε a) hlw i).1
  refine ⟨h1, ?_, h2⟩
  unfold crN chN
  rw [zLP_cong (fun i _ _ => by rw [h2])]
theorem crN_rg (hn : 0 ≤ aW K ∧ aW K ≤ 16) : (0 ≤ crN K ∧ crN K ≤ 16) ∧ (∀ i : Nat, (i : Int) < crN K → 0 ≤ chW (crA K) (crL K) i ∧ chW (crA K) (crL K) i < aW K) ∧ chW (crA K) (crL K) (crN K).toNat = -1 := by
  have hl := lsF_rg (eT K) (aW K).toNat
  have hlw : -1 ≤ crL K ∧ crL K < aW K := by
    unfold crL lsW
    omega
  have h := chN_sp (a := crA K) (fun k a b => ahW_rg K _ _ _ _ a) (k := crL K) (by omega)
  have h3 := chW_cong (a := crA K) (b := crA K) (n := aW K) (fun k a b => rfl) (fun k a b => ahW_rg K _ _ _ _ a) hlw
  exact ⟨h.1, fun i hi => ⟨(h.2.1 i hi).1, (h3 i).2.2⟩, h.2.2⟩
theorem rf_critical (H : RK M K c S) : AQ (e_lim L xs (d + 7) 247 0 [some (.ref 184)] [] (e_hp M V W)) M V W K c S (cdT K 1) (iI (crN K)) := by
  refine AQ.tm (L := L) (xs := xs) (d := d) (V := V) (W := W) H (by omega) (fun M2 ρ ω β ε e1 HK hq hS hz h0 hg => ?_)
  cases hb : ft K with
  | true =>
    rw [hb, if_pos rfl] at e1
    obtain ⟨M3, e2, f1, f2, f3, f4⟩ := mm_findsCritical (L := L) (xs := xs) (d := d + 3) (V := V) (W := W) HK.km H.r hS H.v.1 hz
    obtain ⟨c1, c2, c3⟩ := cr_eq H.v.1 (hg hb)
    rw [c1, c2] at f3
    refine ⟨M3, _, ?_, Or.inr ⟨frQ.mk (fun a x y => f1 a x (by omega)) (fun j x => f2 j (by omega)), HK.s.of fun a x y => f1 a (by omega) (by omega), f2 0 (by decide)⟩, fun _ => rfl⟩
    simp (disch := first | assumption | exact e_nk_i _ | exact e_nk_n | exact e_nk_r _ | exact e_bo_0 | exact e_bo_1 | exact e_bo_b _ | omega) only [e_cl_v, e_cl_x, e_add_0, e_add_s, Option.toList_some, Option.toList_none, List.cons_append, List.nil_append, iI_add, iI_sub, iI_mul, iI_lt, iI_eq, iI_le, r247_0, r247_1, r247_2, r247_5, r247_6, r247_7, r247_10, r247_13, r247_14, r247_15, r247_16, r247_19, r247_20, r247_23, e1, e2, f3]
    all_goals first | (simp; done) | rfl | (simp; rfl)
  | false =>
    rw [hb, if_neg (by decide)] at e1
    refine ⟨M2, iI 0, ?_, Or.inl rfl, fun q => by cases q⟩
    simp (disch := first | assumption | exact e_nk_i _ | exact e_nk_n | exact e_nk_r _ | exact e_bo_0 | exact e_bo_1 | exact e_bo_b _ | omega) only [e_cl_v, e_cl_x, e_add_0, e_add_s, Option.toList_some, Option.toList_none, List.cons_append, List.nil_append, iI_add, iI_sub, iI_mul, iI_lt, iI_eq, iI_le, r247_0, r247_1, r247_2, r247_5, r247_6, r247_7, r247_10, r247_13, r247_14, r247_15, r247_16, r247_19, r247_20, r247_23, e1]
    all_goals first | (simp; done) | rfl | (simp; rfl)
def cdCA (K : e_St) (p : Int) : Int := if ft K = true then (if 0 ≤ p ∧ p ≤ crN K - 1 then 0 else 2) else 1
def crK (K : e_St) (p : Int) : Int := chW (crA K) (crL K) (crN K - 1 - p).toNat
def anCA (K : e_St) (p : Int) : Int := 10 * rwK K (crK K p) + scW (rwK K) (crK K p)
theorem rf_criticalAt (H : RK M K c S) {p : Int} (hp : i32 p) : AQ (e_lim L xs (d + 7) 248 0 [some (.ref 184), some (.int (iI p)), none] [] (e_hp M V W)) M V W K c S (cdCA K p) (iI (anCA K p)) := by
  have hv := H.v.1
  obtain ⟨M2, ρ, ω, β, ε, e1, HK, hq, hS, hg, hz, h0⟩ := rf_noTimes (L := L) (xs := xs) (d := d) (V := V) (W := W) H.mT (mT_0 M) (e := 1) (by omega)
  unfold cdCA
  cases hb : ft K with
  | true =>
    rw [hb] at e1 h0
    rw [if_pos rfl] at h0
    rw [if_pos rfl]
    obtain ⟨M3, e2, f1, f2, f3, f4⟩ := mm_findsCritical (L := L) (xs := xs) (d := d + 3) (V := V) (W := W) HK.km H.r hS H.v.1 hz
    obtain ⟨c1, c2, c3⟩ := cr_eq H.v.1 (hg hb)
    rw [c1, c2] at f3
    rw [c1, c2] at f4
    obtain ⟨n1, n2, n3⟩ := crN_rg hv
    have hF3 : frQ M M3 := ((frQ_mT M).t hq).t (frQ.mk (fun a x y => f1 a x (by omega)) (fun j x => f2 j (by omega)))
    have hs3 : RS M3 := HK.s.of fun a x y => f1 a (by omega) (by omega)
    have h03 : M3 184 0 = iI 0 := by rw [f2 0 (by decide), h0]
    have e2' : e_lim L xs (d + 6) 246 0 [some (.ref 184), none, none] [] (e_hp M2 V W) = some (.inl none, e_hp M3 V W, 0, 0) := e2
    by_cases h5 : 0 ≤ p ∧ p ≤ crN K - 1
    · have e5 := mm_inT (L := L) (xs := xs) (d := d + 6) (h := e_hp M3 V W) h5 (by omega) (by omega)
      have e6 := mm_failsT (L := L) (xs := xs) (d := d + 6) (V := V) (W := W) (e := 2) h03 (by omega)
      have e7 := f4 (crN K - 1 - p).toNat (by omega)
      rw [c3] at e7
      have r7 := n2 (crN K - 1 - p).toNat (by omega)
      have ag := hg hb _ r7.1 r7.2
      have g8 := hS.1 _ r7.1 (by omega)
      have g9 := hS.2.1 _ r7.1 (by omega)
      rw [ag.1, ← f1 188 (by decide) (by decide)] at g8
      rw [ag.2.1, ← f1 189 (by decide) (by decide)] at g9
      rw [if_pos h5]
      refine ⟨M3, _, ?_, H.q hF3 hs3, hF3, h03, fun _ => rfl⟩
      unfold anCA crK
      generalize chW (crA K) (crL K) (crN K - 1 - p).toNat = k at *
      simp (disch := first | assumption | exact e_nk_i _ | exact e_nk_n | exact e_nk_r _ | exact e_bo_0 | exact e_bo_1 | exact e_bo_b _ | omega) only [e_cl_v, e_cl_x, e_add_0, e_add_s, Option.toList_some, Option.toList_none, List.cons_append, List.nil_append, iI_add, iI_sub, iI_mul, iI_lt, iI_eq, iI_le, r248_0, r248_1, r248_2, r248_5, r248_6, r248_7, r248_10, r248_13, r248_14, r248_15, r248_16, r248_19, r248_20, r248_21, r248_22, r248_23, r248_26, r248_27, r248_28, r248_31, r248_32, r248_35, r248_38, r248_39, r248_40, r248_41, r248_44, r248_45, r248_48, r248_49, r248_50, r248_51, r248_52, r248_53, r248_54, r248_56, r248_57, r248_60, r248_61, r248_62, r248_63, r248_64, r248_67, r248_68, r248_69, r248_70, e1, e2', f3, e5, e6, iI_vin, iI_nat, if_true, e7, g8, g9, bI_0]
      all_goals first | (simp; done) | rfl | (simp; rfl)
    · have e5 := mm_inF (L := L) (xs := xs) (d := d + 6) (h := e_hp M3 V W) h5 hp (by omega) (by omega)
      have e6 := mm_failsF (L := L) (xs := xs) (d := d + 6) (V := V) (W := W) (e := 2) h03 (by omega)
      rw [if_neg h5]
      refine ⟨mF M3 false 2, iI 0, ?_, (H.q hF3 hs3).mF false 2, hF3.t (frQ_mF _ false 2), mF_0 _ false 2 h03, fun q => by omega⟩
      simp (disch := first | assumption | exact e_nk_i _ | exact e_nk_n | exact e_nk_r _ | exact e_bo_0 | exact e_bo_1 | exact e_bo_b _ | omega) only [e_cl_v, e_cl_x, e_add_0, e_add_s, Option.toList_some, Option.toList_none, List.cons_append, List.nil_append, iI_add, iI_sub, iI_mul, iI_lt, iI_eq, iI_le, r248_0, r248_1, r248_2, r248_5, r248_6, r248_7, r248_10, r248_13, r248_14, r248_15, r248_16, r248_19, r248_20, r248_21, r248_22, r248_23, r248_26, r248_27, r248_28, r248_31, r248_32, r248_35, r248_38, r248_39, r248_40, r248_41, r248_44, r248_45, r248_48, r248_49, r248_50, r248_51, r248_52, r248_53, r248_54, r248_56, r248_57, r248_60, r248_61, r248_62, r248_63, r248_64, r248_67, r248_68, r248_69, r248_70, e1, e2', f3, e5, e6, bI_0]
      all_goals first | (simp; done) | rfl | (simp; rfl)
  | false =>
    rw [hb] at e1 h0
    rw [if_neg (by decide)] at h0
    rw [if_neg (by decide)]
    refine ⟨M2, iI 0, ?_, HK, (frQ_mT M).t hq, h0, fun q => by omega⟩
    simp (disch := first | assumption | exact e_nk_i _ | exact e_nk_n | exact e_nk_r _ | exact e_bo_0 | exact e_bo_1 | exact e_bo_b _ | omega) only [e_cl_v, e_cl_x, e_add_0, e_add_s, Option.toList_some, Option.toList_none, List.cons_append, List.nil_append, iI_add, iI_sub, iI_mul, iI_lt, iI_eq, iI_le, r248_0, r248_1, r248_2, r248_5, r248_6, r248_7, r248_10, r248_13, r248_14, r248_15, r248_16, r248_19, r248_20, r248_21, r248_22, r248_23, r248_26, r248_27, r248_28, r248_31, r248_32, r248_35, r248_38, r248_39, r248_40, r248_41, r248_44, r248_45, r248_48, r248_49, r248_50, r248_51, r248_52, r248_53, r248_54, r248_56, r248_57, r248_60, r248_61, r248_62, r248_63, r248_64, r248_67, r248_68, r248_69, r248_70, e1, bI_0]
    all_goals first | (simp; done) | rfl | (simp; rfl)
def ltN (K : e_St) : Int := SU (fun o => if K (24 + o) < enO K (rwK K) o then 1 else 0) (K 310)
theorem rf_late (H : RK M K c S) : AQ (e_lim L xs (d + 7) 264 0 [some (.ref 184), none, none] [] (e_hp M V W)) M V W K c S (cdT K 1) (iI (ltN K)) := by
  have hn := H.r.n
  refine AQ.tm (L := L) (xs := xs) (d := d) (V := V) (W := W) H (by omega) (fun M2 ρ ω β ε e1 HK hq hS hz h0 hg => ?_)
  cases hb : ft K with
  | true =>
    rw [hb, if_pos rfl] at e1
    refine ⟨M2, _, ?_, Or.inl rfl, fun _ => rfl⟩
    have e2 := mm_many (L := L) (xs := xs) (d := d + 6) (V := V) (W := W) HK.km
    simp (disch := first | assumption | exact e_nk_i _ | exact e_nk_n | exact e_nk_r _ | exact e_bo_0 | exact e_bo_1 | exact e_bo_b _ | omega) only [e_cl_v, e_cl_x, e_add_0, e_add_s, Option.toList_some, Option.toList_none, List.cons_append, List.nil_append, iI_add, iI_sub, iI_mul, iI_lt, iI_eq, iI_le, r264_0, r264_1, r264_2, r264_5, r264_6, r264_7, r264_10, r264_13, r264_14, r264_15, r264_16, r264_17, r264_18, e1]
    simp only [if_true]
    unfold ltN
    rw [show (iI 0 : Int32) = iI (SU (fun o => if K (24 + o) < enO K (rwK K) o then 1 else 0) 0) from rfl]
    refine G_loopI (C := fun i => e_lim L xs (d + 7) 264 19 [some (.ref 184), some (.int (iI (SU (fun o => if K (24 + o) < enO K (rwK K) o then 1 else 0) i))), some (.int (iI i))] [] (e_hp M2 V W)) (i := 0) hn.1 (fun j a b hc => ?_) ?_
    · have e3 := mm_endIs (L := L) (xs := xs) (d := d + 5) (V := V) (W := W) HK.km H.r H.v.2 H.v.1 hS (hg hb) (o := j) ⟨a, b⟩
      have e3' : e_lim L xs (d + 6) 231 0 [some (.ref 184), some (.int (iI j))] [] (e_hp M2 V W) = some (.inl (some (.int (iI (enO K (rwK K) j)))), e_hp M2 V W, 0, 0) := e3
      have r3 : 0 ≤ enO K (rwK K) j ∧ enO K (rwK K) j ≤ 2001 := enO_rg H.r H.v.2 H.v.1 hS (hg hb) ⟨a, b⟩
      have e4 := HK.km (24 + j) (by omega) (by omega)
      have r4 := H.r.du (o := j) a (by omega)
      rw [SU_s _ a] at hc
      rw [r264_19]
      simp (disch := first | assumption | exact e_nk_i _ | exact e_nk_n | exact e_nk_r _ | exact e_bo_0 | exact e_bo_1 | exact e_bo_b _ | omega) only [e_cl_v, e_cl_x, e_add_0, e_add_s, Option.toList_some, Option.toList_none, List.cons_append, List.nil_append, iI_add, iI_sub, iI_mul, iI_lt, iI_eq, iI_le, r264_20, r264_21, r264_24, r264_27, r264_28, r264_29, r264_30, r264_33, r264_34, r264_37, r264_39, r264_40, r264_41, r264_42, r264_45, r264_46, r264_49, r264_50, r264_51, r264_52, r264_55, iI_vin, iI_nat, if_true, e2, e3', e4]
      rw [if_pos b]
      by_cases z : K (24 + j) < enO K (rwK K) j
      · rw [if_pos z] at hc ⊢
        exact hc
      · rw [if_neg z] at hc ⊢
        exact hc
    · rw [r264_19]
      simp (disch := first | assumption | exact e_nk_i _ | exact e_nk_n | exact e_nk_r _ | exact e_bo_0 | exact e_bo_1 | exact e_bo_b _ | omega) only [e_cl_v, e_cl_x, e_add_0, e_add_s, Option.toList_some, Option.toList_none, List.cons_append, List.nil_append, iI_add, iI_sub, iI_mul, iI_lt, iI_eq, iI_le, r264_20, r264_21, r264_24, r264_58, r264_59, e2]
      rw [if_neg (by omega)]
  | false =>
    rw [hb, if_neg (by decide)] at e1
    refine ⟨M2, iI 0, ?_, Or.inl rfl, fun q => by cases q⟩
    simp (disch := first | assumption | exact e_nk_i _ | exact e_nk_n | exact e_nk_r _ | exact e_bo_0 | exact e_bo_1 | exact e_bo_b _ | omega) only [e_cl_v, e_cl_x, e_add_0, e_add_s, Option.toList_some, Option.toList_none, List.cons_append, List.nil_append, iI_add, iI_sub, iI_mul, iI_lt, iI_eq, iI_le, r264_0, r264_1, r264_2, r264_5, r264_6, r264_7, r264_10, r264_13, r264_14, r264_15, e1]
    all_goals first | (simp; done) | rfl | (simp; rfl)
def csF (K : e_St) : Nat → Int
  | 0 => 17
  | k + 1 => 31 * csF K k + rwK K k + (if ft K = true then bT K k else 0)
def csW (K : e_St) : Int := csF K (aW K).toNat
theorem rf_checksum (H : RK M K c S) : AQ (e_lim L xs (d + 6) 285 0 [some (.ref 184), none, none, none] [] (e_hp M V W)) M V W K c S 0 (iI (csW K)) := by
  have hv := H.v.1
  obtain ⟨M2, ρ, ω, β, ε, e1, HK, hq, hS, hg, hz, h0⟩ := rf_times (L := L) (xs := xs) (d := d) (V := V) (W := W) H.mT
  refine AQ.of (M2 := M2) H rfl ?_ hq HK.s (by rw [h0, mT_0])
  have e2 := mm_all (L := L) (xs := xs) (d := d + 4) (V := V) (W := W) HK.km H.r
  have e2' : e_lim L xs (d + 5) 185 0 [some (.ref 184), none, none] [] (e_hp M2 V W) = some (.inl (some (.int (iI (aW K)))), e_hp M2 V W, 0, 0) := e2
  simp (disch := first | assumption | exact e_nk_i _ | exact e_nk_n | exact e_nk_r _ | exact e_bo_0 | exact e_bo_1 | exact e_bo_b _ | omega) only [e_cl_v, e_cl_x, e_add_0, e_add_s, Option.toList_some, Option.toList_none, List.cons_append, List.nil_append, iI_add, iI_sub, iI_mul, iI_lt, iI_eq, iI_le, r285_0, r285_1, r285_2, r285_5, r285_6, r285_9, r285_10, r285_12, r285_13, r285_14, e1]
  unfold csW
  refine G_loopI (C := fun i => e_lim L xs (d + 6) 285 15 [some (.ref 184), some (.int (bI (ft K))), some (.int (iI (csF K i.toNat))), some (.int (iI i))] [] (e_hp M2 V W)) (i := 0) hv.1 (fun j a b hc => ?_) ?_
  · have e3 := HK.km (241 + j) (by omega) (by omega)
    have hst : csF K (j + 1).toNat = 31 * csF K j.toNat + K (241 + j) + (if ft K = true then bT K j else 0) := by
      rw [show (j + 1).toNat = j.toNat + 1 by omega]
      show 31 * csF K j.toNat + K (241 + (j.toNat : Int)) + (if ft K = true then bT K (j.toNat : Int) else 0) = _
      rw [Int.toNat_of_nonneg a]
    rw [hst] at hc
    generalize csF K j.toNat = q at *
    rw [r285_15]
    cases hb : ft K with
    | true =>
      have e4 := hS.2.2.1 j a (by omega)
      rw [(hg hb j a b).2.2.1] at e4
      rw [hb] at hc
      have e4' : M2 190 j.toNat = iI (bT K j) := e4
      simp (disch := first | assumption | exact e_nk_i _ | exact e_nk_n | exact e_nk_r _ | exact e_bo_0 | exact e_bo_1 | exact e_bo_b _ | omega) only [e_cl_v, e_cl_x, e_add_0, e_add_s, Option.toList_some, Option.toList_none, List.cons_append, List.nil_append, iI_add, iI_sub, iI_mul, iI_lt, iI_eq, iI_le, r285_16, r285_17, r285_20, r285_23, r285_25, r285_26, r285_27, r285_28, r285_31, r285_34, r285_35, r285_36, r285_37, r285_38, r285_39, r285_42, r285_43, r285_46, r285_47, r285_48, r285_51, r285_52, r285_53, r285_54, r285_57, iI_vin, iI_nat, if_true, e2', e3, e4', bI_0]
      rw [if_pos b]
      simpa using hc
    | false =>
      rw [hb] at hc
      simp (disch := first | assumption | exact e_nk_i _ | exact e_nk_n | exact e_nk_r _ | exact e_bo_0 | exact e_bo_1 | exact e_bo_b _ | omega) only [e_cl_v, e_cl_x, e_add_0, e_add_s, Option.toList_some, Option.toList_none, List.cons_append, List.nil_append, iI_add, iI_sub, iI_mul, iI_lt, iI_eq, iI_le, r285_16, r285_17, r285_20, r285_23, r285_25, r285_26, r285_27, r285_28, r285_31, r285_34, r285_35, r285_36, r285_37, r285_38, r285_39, r285_42, r285_43, r285_46, r285_47, r285_48, r285_51, r285_52, r285_53, r285_54, r285_57, iI_vin, iI_nat, if_true, e2', e3, bI_0]
      rw [if_pos b]
      simpa using hc
  · rw [r285_15]
    simp (disch := first | assumption | exact e_nk_i _ | exact e_nk_n | exact e_nk_r _ | exact e_bo_0 | exact e_bo_1 | exact e_bo_b _ | omega) only [e_cl_v, e_cl_x, e_add_0, e_add_s, Option.toList_some, Option.toList_none, List.cons_append, List.nil_append, iI_add, iI_sub, iI_mul, iI_lt, iI_eq, iI_le, r285_16, r285_17, r285_20, r285_60, r285_61, e2']
    rw [if_neg (by omega)]
/-- an answer that is no int -/
def AV (r : Option e_R) (M : e_MI) (V : e_ML) (W : e_MD) (K : e_St) (c : Int) (S : Int → e_St) (cd : Int) (av : Value) : Prop := ∃ (M2 : e_MI) (z : Value), r = some (.inl (some z), e_hp M2 V W, 0, 0) ∧ z.category = av.category ∧ RK M2 K c S ∧ frQ M M2 ∧ M2 184 0 = iI cd ∧ (cd = 0 → z = av)
theorem rf_cost (H : RK M K c S) : ∃ (M2 : e_MI) (z : Int64), e_lim L xs (d + 7) 263 0 [some (.ref 184)] [] (e_hp M V W) = some (.inl (some (.long z)), e_hp M2 V W, 0, 0) ∧ RK M2 K c S ∧ frQ M M2 ∧ M2 184 0 = iI (cdT K 1) ∧ (cdT K 1 = 0 → z = lI (ctW K (enO K (rwK K)))) := by
  have hn := H.r.n
  obtain ⟨M2, ρ, ω, β, ε, e1, HK, hq, hS, hg, hz, h0⟩ := rf_noTimes (L := L) (xs := xs) (d := d) (V := V) (W := W) H.mT (mT_0 M) (e := 1) (by omega)
  unfold cdT
  cases hb : ft K with
  | true =>
    rw [hb] at e1 h0
    have e2 := mm_costNow (L := L) (xs := xs) (d := d + 4) (V := V) (W := W) HK.km H.r H.v.2 H.v.1 hS (hg hb)
    have e2' : e_lim L xs (d + 6) 262 0 [some (.ref 184), none, none, none, none, none, none] [] (e_hp M2 V W) = some (.inl (some (.long (lI (ctW K (enO K (rwK K)))))), e_hp M2 V W, 0, 0) := e2
    refine ⟨M2, _, ?_, HK, (frQ_mT M).t hq, h0, fun _ => rfl⟩
    simp (disch := first | assumption | exact e_nk_i _ | exact e_nk_n | exact e_nk_r _ | exact e_bo_0 | exact e_bo_1 | exact e_bo_b _ | omega) only [e_cl_v, e_cl_x, e_add_0, e_add_s, Option.toList_some, Option.toList_none, List.cons_append, List.nil_append, iI_add, iI_sub, iI_mul, iI_lt, iI_eq, iI_le, r263_0, r263_1, r263_2, r263_5, r263_6, r263_7, r263_10, r263_13, r263_14, r263_17, r263_18, r263_21, e1, e2', bI_0]
    all_goals first | (simp; done) | rfl | (simp; rfl)
  | false =>
    rw [hb] at e1 h0
    refine ⟨M2, 0, ?_, HK, (frQ_mT M).t hq, h0, fun q => by cases q⟩
    simp (disch := first | assumption | exact e_nk_i _ | exact e_nk_n | exact e_nk_r _ | exact e_bo_0 | exact e_bo_1 | exact e_bo_b _ | omega) only [e_cl_v, e_cl_x, e_add_0, e_add_s, Option.toList_some, Option.toList_none, List.cons_append, List.nil_append, iI_add, iI_sub, iI_mul, iI_lt, iI_eq, iI_le, r263_0, r263_1, r263_2, r263_5, r263_6, r263_7, r263_10, r263_13, r263_14, r263_17, r263_18, r263_21, e1, bI_0]
    all_goals first | (simp; done) | rfl | (simp; rfl)
end E85
