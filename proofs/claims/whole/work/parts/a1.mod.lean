section Ea1
variable {L : Nat} {xs : Nat → Int32} {d : Nat} {M M2 M3 : e_MI} {V : e_ML} {W : e_MD} {K K2 : e_St} {h : e_H} {S : Int → e_St} {c cd n er o q k i : Int} {ρ ω β ε τ : Int → Int} {r : Option e_R} {an : Int32}
/-- the least end of all rows, and the first row that has it -/
def lsR (K : e_St) : exT := exR K (aW K).toNat (fun _ => 0) 0 (-1, fun _ => 0)
theorem exR_v (hr : kR K) : ∀ (m : Nat) (k : Int) (τ : Int → Int) (s : exT), k + m = aW K → 0 ≤ k → pfx K τ k → (s.1 ≠ -1 → vR K s.2) → (exR K m τ k s).1 ≠ -1 → vR K (exR K m τ k s).2
  | 0, k, τ, s, hk, h0, hp, hs => by
    have e : k = aW K := by omega
    subst e
    unfold exR
    split
    · exact hs
    · intro _
      exact hp.v hr h0
  | m + 1, k, τ, s, hk, h0, hp, hs => by
    have gen : ∀ o : Nat, (o : Int) ≤ K 310 → (exO K (exR K m) τ k s o).1 ≠ -1 → vR K (exO K (exR K m) τ k s o).2 := by
      intro o
      induction o with
      | zero => intro _; exact hs
      | succ o ih =>
        intro ho
        unfold exO
        split
        · exact ih (by omega)
        · next z =>
          have hc := hp.2 o (by omega) (by omega)
          exact exR_v hr m (k + 1) (uI τ k o) _ (by omega) (by omega) (hp.up h0 ⟨by omega, by omega⟩ (by omega)) (ih (by omega))
    have hn := hr.n
    exact gen (K 310).toNat (by omega)
theorem pfx_0 (hr : kR K) : pfx K (fun _ => 0) 0 := ⟨fun p a b => by omega, fun o a b => by
  have hn := hr.n
  have hw := hr.wk (o := o) a (by omega)
  have : cnt (fun _ => 0) o 0 = 0 := rfl
  omega⟩
theorem lsR_v (hr : kR K) (hn : 0 ≤ aW K) (h : (lsR K).1 ≠ -1) : vR K (lsR K).2 := exR_v hr (aW K).toNat 0 _ _ (by omega) (by omega) (pfx_0 hr) (fun a => absurd rfl a) h
theorem rf_findsLeast (H : RK M K c S) : ∃ M2 : e_MI, e_lim L xs (d + 4) 243 0 [some (.ref 184), none, none, none, none, none, none] [] (e_hp M V W) = some (.inl (some (.int (iI (lsR K).1))), e_hp M2 V W, 0, 0) ∧ RK M2 K c S ∧ frQ M M2 ∧ M2 184 0 = M 184 0 ∧ (aW K ≠ 0 → (lsR K).1 ≠ -1 → e_ar (M2 193) (aW K) (lsR K).2) ∧ -1 ≤ (lsR K).1 ∧ (lsR K).1 ≤ 2001 := by
  have hv := H.v.1
  have e1 := mm_all (L := L) (xs := xs) (d := d + 2) (V := V) (W := W) H.km H.r
  obtain ⟨M1, hM1⟩ : ∃ M1, M1 = e_u M 184 (upd (M 184) 9 (iI 0)) := ⟨_, rfl⟩
  have F1 : frZ M M1 := by
    rw [hM1]
    exact ⟨fun a x0 x1 x2 x3 x4 x5 x6 => e_u_n _ _ x0, fun j x => by rw [e_u_s, upd_n _ _ x]⟩
  have S1 : ∀ a, a ≠ 184 → M1 a = M a := fun a x => by rw [hM1, e_u_n _ _ x]
  by_cases hz : aW K = 0
  · have el : (lsR K).1 = 0 := by
      unfold lsR
      rw [hz]
      rfl
    rw [el]
    refine ⟨M1, ?_, H.q F1.fq (H.s.of fun a x y => S1 a (by omega)), F1.fq, F1.2 0 (by decide), fun a => absurd hz a, by omega, by omega⟩
    simp (disch := first | assumption | exact e_nk_i _ | exact e_nk_n | exact e_nk_r _ | exact e_bo_0 | exact e_bo_1 | exact e_bo_b _ | omega) only [e_cl_v, e_cl_x, e_add_0, e_add_s, Option.toList_some, Option.toList_none, List.cons_append, List.nil_append, iI_add, iI_sub, iI_mul, iI_lt, iI_eq, iI_le, r243_0, r243_1, r243_4, r243_5, r243_6, r243_7, r243_8, r243_9, r243_10, r243_11, r243_14, r243_15, r243_18, r243_19, e1]
    rw [if_pos hz, hM1]
  · obtain ⟨ρ, ω, β, ε, hS⟩ := H.s
    obtain ⟨M2, hM2⟩ : ∃ M2, M2 = e_u M1 194 (upd (M1 194) (0 : Int).toNat (iI 0)) := ⟨_, rfl⟩
    have S2 : ∀ a, a ≠ 194 → M2 a = M1 a := fun a x => by rw [hM2, e_u_n _ _ x]
    have F2 : frZ M M2 := F1.t ⟨fun a x0 x1 x2 x3 x4 x5 x6 => S2 a x6, fun j x => by rw [S2 184 (by decide)]⟩
    have hS2 : e_SC M2 ρ ω β ε := hS.of fun a x y => by rw [S2 a (by omega), S1 a (by omega)]
    obtain ⟨M3, l4, l5, l6, e, ⟨⟨ρ3, ω3, β3, ε3, hS3, hg3⟩, w2, w3⟩, F3, -⟩ := mm_walk (L := L) (xs := xs) (d := d) (V := V) (W := W) H.r hv.2 ((aW K).toNat - 1) 0 (fun _ => 0) (-1, fun _ => 0) M2 (by omega) (by omega) (pfx_0 H.r) (F2.km H.km) ⟨⟨ρ, ω, β, ε, hS2, fun p a b => by omega⟩, fun a => absurd rfl a, by simp⟩ (by rw [hM2, e_u_s, upd_s]) none none none
    have hm : (aW K).toNat - 1 + 1 = (aW K).toNat := by omega
    rw [hm] at e w2 w3
    have F := F2.t F3
    refine ⟨M3, ?_, H.q F.fq ⟨ρ3, ω3, β3, ε3, hS3⟩, F.fq, F.2 0 (by decide), fun _ => w2, w3⟩
    simp (disch := first | assumption | exact e_nk_i _ | exact e_nk_n | exact e_nk_r _ | exact e_bo_0 | exact e_bo_1 | exact e_bo_b _ | omega) only [e_cl_v, e_cl_x, e_add_0, e_add_s, Option.toList_some, Option.toList_none, List.cons_append, List.nil_append, iI_add, iI_sub, iI_mul, iI_lt, iI_eq, iI_le, r243_0, r243_1, r243_4, r243_5, r243_6, r243_7, r243_8, r243_9, r243_10, r243_11, r243_14, r243_15, r243_18, r243_19, r243_20, r243_21, r243_24, r243_25, r243_26, iI_vin, iI_nat, if_true, e1]
    rw [if_neg hz, ← hM1]
    have e2 := e (.inl (some (.int (iI (lsR K).1))), e_hp M3 V W, 0, 0) (by
      rw [r243_27]
      simp (disch := first | assumption | exact e_nk_i _ | exact e_nk_n | exact e_nk_r _ | exact e_bo_0 | exact e_bo_1 | exact e_bo_b _ | omega) only [e_cl_v, e_cl_x, e_add_0, e_add_s, Option.toList_some, Option.toList_none, List.cons_append, List.nil_append, iI_add, iI_sub, iI_mul, iI_lt, iI_eq, iI_le, r243_28, r243_173, r243_174]
      simp
      rfl)
    rw [hM2] at e2
    exact e2
def cdLs (K : e_St) : Int := if aW K ≤ 8 then 0 else 1
def lsK (K : e_St) : e_St := if (lsR K).1 = -1 then K else rtS K (lsR K).2
theorem kG_ls (hg : kG K) : kG (lsK K) := by
  unfold lsK
  split
  · exact hg
  · next z => exact kG_rt hg (lsR_v hg.1 hg.2.1.1.1 z)
theorem rf_least (H : RK M K c S) : AC (e_lim L xs (d + 5) 244 0 [some (.ref 184), none, none] [] (e_hp M V W)) M V W K c S (lsK K) (cdLs K) (iI (lsR K).1) := by
  have h0 := mT_0 M
  have hv := H.v.1
  have e1 := mm_all (L := L) (xs := xs) (d := d + 3) (V := V) (W := W) H.mT.km H.r
  unfold cdLs
  by_cases h1 : aW K ≤ 8
  · have e2 := mm_failsT (L := L) (xs := xs) (d := d + 4) (V := V) (W := W) (e := 1) h0 (by omega)
    obtain ⟨M1, e3, H1, F1, z1, -⟩ := rf_saves (L := L) (xs := xs) (d := d + 4) (V := V) (W := W) H.mT
    obtain ⟨M2, e4, H2, F2, z2, hb, hr1, hr2⟩ := rf_findsLeast (L := L) (xs := xs) (d := d) (V := V) (W := W) H1
    rw [if_pos h1]
    -- how the loop ends
    have fin : ∃ M5 : e_MI, e_lim L xs (d + 5) 244 40 [some (.ref 184), some (.int (iI (lsR K).1)), some (.int (iI 0))] [] (e_hp M2 V W) = some (.inl (some (.int (iI (lsR K).1))), e_hp M5 V W, 0, 0) ∧ e_KM M5 (lsK K) ∧ frN M2 M5 := by
      by_cases hn : (lsR K).1 = -1
      · have e5 := mm_all2 (L := L) (xs := xs) (d := d + 3) (V := V) (W := W) H2.km H.r.n
        refine ⟨M2, ?_, by unfold lsK; rw [if_pos hn]; exact H2.km, fun _ _ => rfl⟩
        rw [r244_40]
        simp (disch := first | assumption | exact e_nk_i _ | exact e_nk_n | exact e_nk_r _ | exact e_bo_0 | exact e_bo_1 | exact e_bo_b _ | omega) only [e_cl_v, e_cl_x, e_add_0, e_add_s, Option.toList_some, Option.toList_none, List.cons_append, List.nil_append, iI_add, iI_sub, iI_mul, iI_lt, iI_eq, iI_le, r244_41, r244_42, r244_45, r244_48, r244_49, r244_50, r244_75, r244_76, e5]
        rw [if_pos hn]
        simp
      · have key := G_lp (i := 0) (n := aW K) (I := fun i M4 => e_KM M4 (rwS K (fun p => if p < i then (lsR K).2 p else K (241 + p))) ∧ frN M2 M4) (P := fun i M4 => ∃ M5 : e_MI, e_lim L xs (d + 5) 244 40 [some (.ref 184), some (.int (iI (lsR K).1)), some (.int (iI i))] [] (e_hp M4 V W) = some (.inl (some (.int (iI (lsR K).1))), e_hp M5 V W, 0, 0) ∧ e_KM M5 (lsK K) ∧ frN M2 M5) (fun j M4 a b hI hc => ?_) (fun M4 hI => ?_) hv.1 M2 ⟨e_ar.cong H2.km (fun z x y => by
          unfold rwS
          split
          · simp only
            rw [if_neg (by omega), show 241 + (z - 241) = z by omega]
          · rfl), fun _ _ => rfl⟩
        · exact key
        · have g1 := hb (by omega) hn j a b
          rw [← hI.2 193 (by decide)] at g1
          have e5 : e_lim L xs (d + 4) 185 0 [some (.ref 184), none, none] [] (e_hp M4 V W) = some (.inl (some (.int (iI (aW K)))), e_hp M4 V W, 0, 0) := by
            have := mm_all2 (L := L) (xs := xs) (d := d + 3) (V := V) (W := W) hI.1 (by rw [rwS_n (by omega)]; exact H.r.n)
            rw [aW_rwS K _ H.r.n.2] at this
            exact this
          obtain ⟨M5, e, r⟩ := hc (e_u M4 185 (upd (M4 185) (241 + j).toNat (iI ((lsR K).2 j)))) ⟨e_ar.cong (KM_up hI.1 (v := (lsR K).2 j) (by omega)) (fun z x y => by
            rw [rwS_up a (by omega)]
            unfold rwS uI
            split
            · simp only
              by_cases hz : z - 241 = j
              · rw [if_pos hz, if_pos (by omega), hz]
              · rw [if_neg hz]
                by_cases hz2 : z - 241 < j
                · rw [if_pos hz2, if_pos (by omega)]
                · rw [if_neg hz2, if_neg (by omega)]
            · rfl), hI.2.t (fun a x => e_u_n _ _ x)⟩
          refine ⟨M5, ?_, r⟩
          rw [← e, r244_40]
          simp (disch := first | assumption | exact e_nk_i _ | exact e_nk_n | exact e_nk_r _ | exact e_bo_0 | exact e_bo_1 | exact e_bo_b _ | omega) only [e_cl_v, e_cl_x, e_add_0, e_add_s, Option.toList_some, Option.toList_none, List.cons_append, List.nil_append, iI_add, iI_sub, iI_mul, iI_lt, iI_eq, iI_le, r244_41, r244_42, r244_45, r244_48, r244_49, r244_50, r244_53, r244_54, r244_57, r244_60, r244_61, r244_62, r244_63, r244_66, r244_67, r244_68, r244_69, r244_72, iI_vin, iI_nat, if_true, e5, g1]
          rw [if_pos b, if_neg hn]
        · have e5 : e_lim L xs (d + 4) 185 0 [some (.ref 184), none, none] [] (e_hp M4 V W) = some (.inl (some (.int (iI (aW K)))), e_hp M4 V W, 0, 0) := by
            have := mm_all2 (L := L) (xs := xs) (d := d + 3) (V := V) (W := W) hI.1 (by rw [rwS_n (by omega)]; exact H.r.n)
            rw [aW_rwS K _ H.r.n.2] at this
            exact this
          refine ⟨M4, ?_, by unfold lsK; rw [if_neg hn]; exact hI.1, hI.2⟩
          rw [r244_40]
          simp (disch := first | assumption | exact e_nk_i _ | exact e_nk_n | exact e_nk_r _ | exact e_bo_0 | exact e_bo_1 | exact e_bo_b _ | omega) only [e_cl_v, e_cl_x, e_add_0, e_add_s, Option.toList_some, Option.toList_none, List.cons_append, List.nil_append, iI_add, iI_sub, iI_mul, iI_lt, iI_eq, iI_le, r244_41, r244_42, r244_45, r244_75, r244_76, e5]
          rw [if_neg (by omega)]
    obtain ⟨M5, e6, k5, f5⟩ := fin
    refine AC.ok (M3 := M5) rfl ?_ (H2.n k5 (kG_ls H.g) f5) ((F1.t F2.p).t f5.p) (by rw [f5 184 (by decide), z2, z1, h0])
    simp (disch := first | assumption | exact e_nk_i _ | exact e_nk_n | exact e_nk_r _ | exact e_bo_0 | exact e_bo_1 | exact e_bo_b _ | omega) only [e_cl_v, e_cl_x, e_add_0, e_add_s, Option.toList_some, Option.toList_none, List.cons_append, List.nil_append, iI_add, iI_sub, iI_mul, iI_lt, iI_eq, iI_le, r244_0, r244_1, r244_2, r244_5, r244_6, r244_7, r244_10, r244_12, r244_15, r244_16, r244_19, r244_20, r244_21, r244_24, r244_27, r244_28, r244_29, r244_30, r244_33, r244_34, r244_37, r244_38, r244_39, e1, e2, e3, e4]
    first
    | (rw [if_neg (by omega)]; simp; exact e6)
    | (simp; exact e6)
    | (simp [h1]; exact e6)
  · have e2 := mm_failsF (L := L) (xs := xs) (d := d + 4) (V := V) (W := W) (e := 1) h0 (by omega)
    rw [if_neg h1]
    refine AC.bad H 1 (iI 0) (by omega) rfl ?_
    simp (disch := first | assumption | exact e_nk_i _ | exact e_nk_n | exact e_nk_r _ | exact e_bo_0 | exact e_bo_1 | exact e_bo_b _ | omega) only [e_cl_v, e_cl_x, e_add_0, e_add_s, Option.toList_some, Option.toList_none, List.cons_append, List.nil_append, iI_add, iI_sub, iI_mul, iI_lt, iI_eq, iI_le, r244_0, r244_1, r244_2, r244_5, r244_6, r244_7, r244_10, r244_12, r244_15, r244_16, r244_19, r244_20, r244_21, r244_24, r244_27, r244_28, e1, e2]
    rw [if_pos (by omega)]
    all_goals first | (simp; done) | rfl | (simp; rfl)
end Ea1
