section E96
variable {L : Nat} {xs : Nat → Int32} {d : Nat} {M M2 M3 : e_MI} {V : e_ML} {W : e_MD} {K K2 : e_St} {h : e_H} {S : Int → e_St} {c cd n er o q k i : Int} {ρ ω β ε τ : Int → Int} {r : Option e_R} {an : Int32}
def cdRu (q : Int) : Int := if 0 ≤ q ∧ q ≤ 5 then 0 else 1
def pnK (K : e_St) (q : Int) : e_St := rtS K (plR K q)
set_option maxHeartbeats 2000000 in
/-- place by place -/
theorem mm_planRow (H : RK M K c S) (hq : 0 ≤ q ∧ q ≤ 5) : ∃ (M2 : e_MI) (ρ2 ω2 β2 ε2 : Int → Int) (l5 l6 l7 l8 l9 l10 l11 : Option Value), (∀ R : e_R, e_lim L xs (d + 4) 227 218 [some (.ref 184), some (.int (iI q)), some (.int (iI (aW K))), some (.int (bI (fiR K (plR K q) (aW K)))), some (.int (iI (aW K))), l5, l6, l7, l8, l9, l10, l11] [] (e_hp M2 V W) = some R → e_lim L xs (d + 4) 227 35 [some (.ref 184), some (.int (iI q)), some (.int (iI (aW K))), some (.int (iI 1)), some (.int (iI 0)), none, none, none, none, none, none, none] [] (e_hp M V W) = some R) ∧ e_SC M2 ρ2 ω2 β2 ε2 ∧ agR K (plR K q) (aW K) ρ2 ω2 β2 ε2 ∧ frR M M2 := by
  have hv := H.v.1
  have hr := H.r
  have hn := hr.n
  obtain ⟨ρ, ω, β, ε, hS⟩ := H.s
  have key := G_lp (i := 0) (n := aW K) (I := fun i M1 => (∃ ρ ω β ε : Int → Int, e_SC M1 ρ ω β ε ∧ agR K (plT K q i.toNat) i ρ ω β ε) ∧ frR M M1) (P := fun i M1 => ∀ l5 l6 l7 l8 l9 l10 l11 : Option Value, ∃ (M2 : e_MI) (ρ2 ω2 β2 ε2 : Int → Int) (l5b l6b l7b l8b l9b l10b l11b : Option Value), (∀ R : e_R, e_lim L xs (d + 4) 227 218 [some (.ref 184), some (.int (iI q)), some (.int (iI (aW K))), some (.int (bI (fiR K (plR K q) (aW K)))), some (.int (iI (aW K))), l5b, l6b, l7b, l8b, l9b, l10b, l11b] [] (e_hp M2 V W) = some R → e_lim L xs (d + 4) 227 35 [some (.ref 184), some (.int (iI q)), some (.int (iI (aW K))), some (.int (bI (fiR K (plT K q i.toNat) i))), some (.int (iI i)), l5, l6, l7, l8, l9, l10, l11] [] (e_hp M1 V W) = some R) ∧ e_SC M2 ρ2 ω2 β2 ε2 ∧ agR K (plR K q) (aW K) ρ2 ω2 β2 ε2 ∧ frR M M2) (fun k M1 a b hI hc => ?_) (fun M1 hI => ?_) hv.1 M ⟨⟨ρ, ω, β, ε, hS, fun p a b => by omega⟩, fun _ _ _ _ _ => rfl⟩ none none none none none none none
  · exact key
  · intro l5 l6 l7 l8 l9 l10 l11
    obtain ⟨⟨ρ, ω, β, ε, hS, hg⟩, hF⟩ := hI
    have hK1 := hF.km H.km
    have hp := plT_pfx (q := q) hr k.toNat (by omega)
    rw [Int.toNat_of_nonneg a] at hp
    obtain ⟨M2, ρ2, ω2, β2, ε2, l9b, l10b, l11b, e1, hS2, hg2, hF2⟩ := mm_planIn (L := L) (xs := xs) (d := d) (V := V) (W := W) hr hK1 hS hg hp ⟨a, b⟩ hv.2 hq (is := bI (fiR K (plT K q k.toNat) k)) (l2 := some (.int (iI (aW K)))) (l9 := l9) (l10 := l10) (l11 := l11)
    obtain ⟨c1, c2⟩ := plC_ok (q := q) hr hp a b
    have hst : plT K q (k + 1).toNat = uI (plT K q k.toNat) k (plC K q (plT K q k.toNat) k (K 310).toNat).1 := by
      rw [show (k + 1).toNat = k.toNat + 1 by omega]
      show uI (plT K q k.toNat) (k.toNat : Int) (plC K q (plT K q k.toNat) (k.toNat : Int) (K 310).toNat).1 = _
      rw [Int.toNat_of_nonneg a]
    have hwk := hr.wk (o := (plC K q (plT K q k.toNat) k (K 310).toNat).1) c1.1 (by omega)
    obtain ⟨M3, ρ3, ω3, β3, ε3, e2, hS3, hg3, hF3⟩ := rf_puts (L := L) (xs := xs) (d := d) (V := V) (W := W) ((hF.t hF2).km H.km) hr hS2 hg2 ⟨a, by omega⟩ (o := (plC K q (plT K q k.toNat) k (K 310).toNat).1) (by omega) (by omega)
    have hfi : fiR K (plT K q (k + 1).toNat) (k + 1) = (fiR K (plT K q k.toNat) k && decide (scB K (plT K q (k + 1).toNat) k ≠ 2001)) := by
      rw [fiR_s a, hst, fiR_tau (τ2 := plT K q k.toNat) a (fun p x y => uI_n _ _ (by omega))]
    rw [hfi, hst] at hc
    rw [hst] at hfi
    obtain ⟨M4, ρ4, ω4, β4, ε4, m5, m6, m7, m8, m9, m10, m11, e3, r⟩ := hc M3 ⟨⟨ρ3, ω3, β3, ε3, by exact hS3, by exact hg3⟩, (hF.t hF2).t hF3⟩ (some (.int (iI (plC K q (plT K q k.toNat) k (K 310).toNat).1))) (some (.int (iI (plC K q (plT K q k.toNat) k (K 310).toNat).2.1))) (some (.int (iI (plC K q (plT K q k.toNat) k (K 310).toNat).2.2))) (some (.int (iI (K 310)))) l9b l10b l11b
    refine ⟨M4, ρ4, ω4, β4, ε4, m5, m6, m7, m8, m9, m10, m11, fun R hR => ?_, r⟩
    have e3 := e3 R hR
    rw [r227_35]
    simp (disch := first | assumption | exact e_nk_i _ | exact e_nk_n | exact e_nk_r _ | exact e_bo_0 | exact e_bo_1 | exact e_bo_b _ | omega) only [e_cl_v, e_cl_x, e_add_0, e_add_s, Option.toList_some, Option.toList_none, List.cons_append, List.nil_append, iI_add, iI_sub, iI_mul, iI_lt, iI_eq, iI_le, r227_37, r227_38, r227_41, r227_42, r227_44, r227_45, r227_47, r227_48, r227_50, r227_51]
    rw [if_pos b]
    refine e1 R ?_
    rw [← e3]
    generalize (plC K q (plT K q k.toNat) k (K 310).toNat) = C at *
    simp (disch := first | assumption | exact e_nk_i _ | exact e_nk_n | exact e_nk_r _ | exact e_bo_0 | exact e_bo_1 | exact e_bo_b _ | omega) only [e_cl_v, e_cl_x, e_add_0, e_add_s, Option.toList_some, Option.toList_none, List.cons_append, List.nil_append, iI_add, iI_sub, iI_mul, iI_lt, iI_eq, iI_le, r227_201, r227_202, r227_203, r227_205, r227_207, r227_210, r227_211, r227_212, r227_215, e2, bI_and]
  · intro l5 l6 l7 l8 l9 l10 l11
    obtain ⟨⟨ρ, ω, β, ε, hS, hg⟩, hF⟩ := hI
    refine ⟨M1, ρ, ω, β, ε, l5, l6, l7, l8, l9, l10, l11, fun R hR => ?_, hS, hg, hF⟩
    rw [r227_35]
    simp (disch := first | assumption | exact e_nk_i _ | exact e_nk_n | exact e_nk_r _ | exact e_bo_0 | exact e_bo_1 | exact e_bo_b _ | omega) only [e_cl_v, e_cl_x, e_add_0, e_add_s, Option.toList_some, Option.toList_none, List.cons_append, List.nil_append, iI_add, iI_sub, iI_mul, iI_lt, iI_eq, iI_le, r227_37, r227_38]
    rw [if_neg (by omega)]
    exact hR
theorem rf_plan (H : RK M K c S) (hq : i32 q) : AC (e_lim L xs (d + 4) 227 0 [some (.ref 184), some (.int (iI q)), none, none, none, none, none, none, none, none, none, none] [] (e_hp M V W)) M V W K c S (pnK K q) (cdRu q) (bI (fiR K (plR K q) (aW K))) := by
  have h0 := mT_0 M
  have hv := H.v.1
  unfold cdRu
  by_cases h1 : 0 ≤ q ∧ q ≤ 5
  · have e1 := mm_inT (L := L) (xs := xs) (d := d + 3) (h := e_hp (mT M) V W) h1 (by omega) (by omega)
    have e2 := mm_failsT (L := L) (xs := xs) (d := d + 3) (V := V) (W := W) (e := 1) h0 (by omega)
    obtain ⟨M1, e3, H1, F1, z1, -⟩ := rf_saves (L := L) (xs := xs) (d := d + 3) (V := V) (W := W) H.mT
    have e4 := mm_all (L := L) (xs := xs) (d := d + 2) (V := V) (W := W) H1.km H1.r
    obtain ⟨M2, ρ, ω, β, ε, l5, l6, l7, l8, l9, l10, l11, e5, hS, hg, hF⟩ := mm_planRow (L := L) (xs := xs) (d := d) (V := V) (W := W) H1 h1
    have H2 : RK M2 K (svC c) (svS c S K) := H1.q hF.fq ⟨ρ, ω, β, ε, hS⟩
    have key := G_lp (i := 0) (n := aW K) (I := fun i M4 => e_KM M4 (rwS K (fun p => if p < i then plR K q p else K (241 + p))) ∧ frN M2 M4) (P := fun i M4 => ∃ M5 : e_MI, e_lim L xs (d + 4) 227 221 [some (.ref 184), some (.int (iI q)), some (.int (iI (aW K))), some (.int (bI (fiR K (plR K q) (aW K)))), some (.int (iI i)), l5, l6, l7, l8, l9, l10, l11] [] (e_hp M4 V W) = some (.inl (some (.int (bI (fiR K (plR K q) (aW K))))), e_hp M5 V W, 0, 0) ∧ e_KM M5 (pnK K q) ∧ frN M2 M5) (fun j M4 a b hI hc => ?_) (fun M4 hI => ?_) hv.1 M2 ⟨e_ar.cong H2.km (fun z x y => by
      unfold rwS
      split
      · simp only
        rw [if_neg (by omega), show 241 + (z - 241) = z by omega]
      · rfl), fun _ _ => rfl⟩
    · obtain ⟨M5, e6, k5, f5⟩ := key
      have H5 := H2.n k5 (kG_rt H.g (plR_v (q := q) H.r hv.1)) f5
      rw [if_pos h1]
      refine AC.ok (M3 := M5) rfl ?_ H5 ((F1.t hF.fq.p).t f5.p) (by rw [f5 184 (by decide), hF 184 (by decide) (by decide) (by decide) (by decide), z1, h0])
      simp (disch := first | assumption | exact e_nk_i _ | exact e_nk_n | exact e_nk_r _ | exact e_bo_0 | exact e_bo_1 | exact e_bo_b _ | omega) only [e_cl_v, e_cl_x, e_add_0, e_add_s, Option.toList_some, Option.toList_none, List.cons_append, List.nil_append, iI_add, iI_sub, iI_mul, iI_lt, iI_eq, iI_le, r227_0, r227_1, r227_2, r227_5, r227_6, r227_7, r227_8, r227_9, r227_12, r227_13, r227_16, r227_19, r227_20, r227_21, r227_22, r227_25, r227_26, r227_29, r227_30, r227_31, r227_32, r227_33, e1, e2, e3, e4]
      have e7 := e5 _ (by
        simp (disch := first | assumption | exact e_nk_i _ | exact e_nk_n | exact e_nk_r _ | exact e_bo_0 | exact e_bo_1 | exact e_bo_b _ | omega) only [e_cl_v, e_cl_x, e_add_0, e_add_s, Option.toList_some, Option.toList_none, List.cons_append, List.nil_append, iI_add, iI_sub, iI_mul, iI_lt, iI_eq, iI_le, r227_218, r227_219]
        exact e6)
      simp [e7]
    · have g1 := hS.1 j a (by omega)
      rw [(hg j a b).1, ← hI.2 188 (by decide)] at g1
      have g2 := (plR_v (q := q) H.r hv.1).1 j a b
      obtain ⟨M5, e, r⟩ := hc (e_u M4 185 (upd (M4 185) (241 + j).toNat (iI (plR K q j)))) ⟨e_ar.cong (KM_up hI.1 (v := plR K q j) (by omega)) (fun z x y => by
        rw [rwS_up a (by omega)]
        unfold rwS uI
        split
        · simp only
          by_cases hz : z - 241 = j
          · rw [if_pos hz, if_pos (by omega), hz]
          · rw [if_neg hz]
            by_cases hz2 : z - 241 < j
            · rw [if_pos hz2, if_pos (by omega)]
            · rw [if_neg hz2, if_neg (by omega)]
        · rfl), hI.2.t (fun a x => e_u_n _ _ x)⟩
      refine ⟨M5, ?_, r⟩
      rw [← e, r227_221]
      simp (disch := first | assumption | exact e_nk_i _ | exact e_nk_n | exact e_nk_r _ | exact e_bo_0 | exact e_bo_1 | exact e_bo_b _ | omega) only [e_cl_v, e_cl_x, e_add_0, e_add_s, Option.toList_some, Option.toList_none, List.cons_append, List.nil_append, iI_add, iI_sub, iI_mul, iI_lt, iI_eq, iI_le, r227_223, r227_224, r227_227, r227_228, r227_231, r227_234, r227_236, r227_237, r227_238, r227_241, r227_243, r227_244, r227_245, r227_248, iI_vin, iI_nat, if_true, g1]
      rw [if_pos b]
    · refine ⟨M4, ?_, hI.1, hI.2⟩
      rw [r227_221]
      simp (disch := first | assumption | exact e_nk_i _ | exact e_nk_n | exact e_nk_r _ | exact e_bo_0 | exact e_bo_1 | exact e_bo_b _ | omega) only [e_cl_v, e_cl_x, e_add_0, e_add_s, Option.toList_some, Option.toList_none, List.cons_append, List.nil_append, iI_add, iI_sub, iI_mul, iI_lt, iI_eq, iI_le, r227_223, r227_224, r227_251, r227_252]
      rw [if_neg (by omega)]
  · have e1 := mm_inF (L := L) (xs := xs) (d := d + 3) (h := e_hp (mT M) V W) h1 hq (by omega) (by omega)
    have e2 := mm_failsF (L := L) (xs := xs) (d := d + 3) (V := V) (W := W) (e := 1) h0 (by omega)
    rw [if_neg h1]
    refine AC.bad H 1 (iI 0) (by omega) rfl ?_
    simp (disch := first | assumption | exact e_nk_i _ | exact e_nk_n | exact e_nk_r _ | exact e_bo_0 | exact e_bo_1 | exact e_bo_b _ | omega) only [e_cl_v, e_cl_x, e_add_0, e_add_s, Option.toList_some, Option.toList_none, List.cons_append, List.nil_append, iI_add, iI_sub, iI_mul, iI_lt, iI_eq, iI_le, r227_0, r227_1, r227_2, r227_5, r227_6, r227_7, r227_8, r227_9, r227_12, r227_13, r227_16, r227_19, r227_20, e1, e2]
    all_goals first | (simp; done) | rfl | (simp; rfl)
end E96
