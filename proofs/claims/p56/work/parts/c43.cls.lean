section Ec43
variable {L : Nat} {xs : Nat → Int32} {d : Nat} {M M2 M3 : e_MI} {V : e_ML} {W : e_MD} {K K1 K2 : e_St} {S : Int → e_St} {h : e_H} {s s0 s1 t t2 a b2 n : Nat} {c o w z m k q p i f l b e mc tl T x y v N : Int} {sc bb : Bool} {ρ ν μ χ β ε τ τ2 u : Int → Int}
/-! rates, kept plans: the times stay -/
theorem TT.tau (h : TT M t K τ k) (ht : ∀ p, 0 ≤ p → p < k → τ p = τ2 p) : TT M t K τ2 k := by
  obtain ⟨ρ, ν, μ, χ, β, ε, hG, hg⟩ := h
  exact ⟨ρ, ν, μ, χ, β, ε, hG, hg.tau ht⟩
theorem eqK.pr (h : eqK K K2) (hg : kG K) (hrow : ∀ p, 0 ≤ p → p < aW K → K2 (241 + p) = K (241 + p)) (hP : PR M K) : PR M K2 := by
  obtain ⟨hr, ⟨ha, hv⟩, hp, hk, hd⟩ := hg
  obtain ⟨h0, c, c0, c1, hT, he⟩ := hP
  have hw := h.ww hr.n.2
  have hvp : vP K (rwK K) (aW K) := vR.vp hr hv
  have hro : ∀ p, 0 ≤ p → p < aW K → rwK K p = rwK K2 p := fun p a b => (hrow p a b).symm
  have hfi : fiR K2 (rwK K2) (aW K2) = fiR K (rwK K) (aW K) := by
    rw [hw, ← fiR_tau ha.1 hro, h.fi hr ha.1 hvp]
  refine ⟨by rw [hfi]; exact h0, c, c0, by rw [hw]; exact c1, ?_, fun y => ?_⟩
  · exact (h.tt hr (hvp.le c1) hT).tau (fun p a b => hro p a (by omega))
  · rw [hw]
    exact he (by rw [← hfi]; exact y)
theorem SH.rw2 (H : SH M 1 K) (hr : kR K) (h : ∀ z, z < 241 ∨ 257 ≤ z → K2 z = K z) (hrow : ∀ p, 0 ≤ p → p < aW K → K2 (241 + p) = K (241 + p)) : SH M 1 K2 := by
  obtain ⟨hB, hA⟩ := H.sb.kk hr (K2 := K2) (fun z hz => h z (by omega))
  refine SH_mk hB (fun p a b => ?_) (fun i a b => ?_) (fun q p a b c e f => ?_)
  · rw [hA] at b
    rw [hrow p a b]
    exact H.ro a b
  · rw [h _ (by omega)]
    exact H.kp a b
  · rw [h _ (by omega)] at c
    rw [hA] at f
    rw [h _ (by omega)]
    exact H.kr a b c e f
theorem CK.rw2 (H : CK M K c S) (hg : kG K) (h : ∀ z, z < 241 ∨ 257 ≤ z → K2 z = K z) (hrow : ∀ p, 0 ≤ p → p < aW K → K2 (241 + p) = K (241 + p)) : CK M K2 c S :=
  ⟨H.sh.rw2 hg.1 h hrow, H.hs, eqK.pr (fun z hz => h z (by omega)) hg hrow H.pr, H.tg⟩
theorem x_setRate (H : CK M K c S) (hg : kG K) (hv : i32 v) : ∃ M2 : e_MI, e_lim L xs (d + 7) 130 0 [some (.ref 0), some (.int (bI bb)), some (.int (iI v)), none, none] [] (e_hp M V W) = (if 0 ≤ v ∧ v ≤ 1000 then some (.inl (some (.int (iI (K (308 + if bb = true then 1 else 0))))), e_hp M2 V W, 0, 0) else some (.inr 0, e_hp M2 V W, 1, 6)) ∧ (0 ≤ v ∧ v ≤ 1000 → CK M2 (uI K (308 + if bb = true then 1 else 0) v) (svC c) (svS c S K)) ∧ (¬(0 ≤ v ∧ v ≤ 1000) → M2 = M) ∧ ∀ a, a < 1 ∨ 148 < a → M2 a = M a := by
  have i1 := m_isWithin (L := L) (xs := xs) (d := d + 6) (h := e_hp M V W) (x := v) (y2 := 0) (z2 := 1000) hv (by omega) (by omega)
  have r1 := m_requireArgument (L := L) (xs := xs) (d := d + 6) (h := e_hp M V W) (decide (0 ≤ v ∧ v ≤ 1000))
  by_cases h0 : 0 ≤ v ∧ v ≤ 1000
  · rw [if_pos (decide_eq_true h0)] at r1
    obtain ⟨M1, e1, h1, h2, h3, h4, hf⟩ := x_rem (L := L) (xs := xs) (d := d + 3) (V := V) (W := W) H hg
    have key : ∀ i, 0 ≤ i → i < 2 → CK (e_u M1 7 (upd (M1 7) i.toNat (iI v))) (uI K (308 + i) v) (svC c) (svS c S K) := fun i a b => by
      have hu : ∀ a, a ≠ 7 → e_u M1 7 (upd (M1 7) i.toNat (iI v)) a = M1 a := fun a y => e_u_n _ _ y
      exact ⟨SH_rate h1 hg.1 hg.2.1.1.2 ⟨a, b⟩, h2.of fun a x y => hu a (by omega), eqK.pr (fun z hz => uI_n _ _ (by omega)) hg (fun p x y => uI_n _ _ (by have := hg.2.1.1.2; omega)) (h3.of fun a x y => hu a (by omega)), h4.of fun a x y => hu a (by omega)⟩
    simp only [if_pos h0]
    cases bb with
    | true =>
      have e2 := m_atI (L := L) (xs := xs) (d := d + 6) (M := M1) (V := V) (W := W) (a := 7) (n := 2) si_7 (z := 1) (by omega) (by omega) (h1.ra (i := 1) (by omega) (by omega))
      have e3 := m_putI (L := L) (xs := xs) (d := d + 6) (M := M1) (V := V) (W := W) (v := iI v) (a := 7) (n := 2) si_7 (z := 1) (by omega) (by omega)
      refine ⟨e_u M1 7 (upd (M1 7) (1 : Int).toNat (iI v)), ?_, fun _ => ?_, fun y => absurd h0 y, fun a y => ?_⟩
      rotate_left
      · rw [if_pos rfl]
        exact key 1 (by omega) (by omega)
      · rw [e_u_n _ _ (by omega), hf a (by omega)]
      · rw [if_pos rfl, bI_t]
        simp (disch := first | assumption | exact e_nk_i _ | exact e_nk_n | exact e_nk_r _ | exact e_bo_0 | exact e_bo_1 | exact e_bo_b _ | omega) only [e_cl_v, e_cl_x, e_add_0, e_add_s, Option.toList_some, Option.toList_none, List.cons_append, List.nil_append, iI_add, iI_sub, iI_mul, iI_lt, iI_eq, iI_le, r130_0, r130_1, r130_2, r130_5, r130_8, r130_11, r130_12, r130_15, r130_16, r130_19, r130_22, r130_23, r130_26, r130_27, r130_30, r130_31, r130_32, r130_33, r130_36, r130_39, r130_40, r130_43, r130_45, r130_46, r130_49, r130_52, r130_53, r130_54, r130_57, r130_59, i1, r1, e1, e2, e3]
        simp
    | false =>
      have e2 := m_atI (L := L) (xs := xs) (d := d + 6) (M := M1) (V := V) (W := W) (a := 7) (n := 2) si_7 (z := 0) (by omega) (by omega) (h1.ra (i := 0) (by omega) (by omega))
      have e3 := m_putI (L := L) (xs := xs) (d := d + 6) (M := M1) (V := V) (W := W) (v := iI v) (a := 7) (n := 2) si_7 (z := 0) (by omega) (by omega)
      refine ⟨e_u M1 7 (upd (M1 7) (0 : Int).toNat (iI v)), ?_, fun _ => ?_, fun y => absurd h0 y, fun a y => ?_⟩
      rotate_left
      · rw [if_neg Bool.false_ne_true]
        exact key 0 (by omega) (by omega)
      · rw [e_u_n _ _ (by omega), hf a (by omega)]
      · rw [if_neg Bool.false_ne_true, bI_f]
        simp (disch := first | assumption | exact e_nk_i _ | exact e_nk_n | exact e_nk_r _ | exact e_bo_0 | exact e_bo_1 | exact e_bo_b _ | omega) only [e_cl_v, e_cl_x, e_add_0, e_add_s, Option.toList_some, Option.toList_none, List.cons_append, List.nil_append, iI_add, iI_sub, iI_mul, iI_lt, iI_eq, iI_le, r130_0, r130_1, r130_2, r130_5, r130_8, r130_11, r130_12, r130_15, r130_16, r130_19, r130_22, r130_23, r130_26, r130_27, r130_30, r130_31, r130_32, r130_33, r130_36, r130_39, r130_40, r130_43, r130_45, r130_46, r130_49, r130_52, r130_53, r130_54, r130_57, r130_59, i1, r1, e1, e2, e3]
        simp
  · rw [if_neg (by rw [decide_eq_true_eq]; exact h0)] at r1
    refine ⟨M, ?_, fun y => absurd y h0, fun _ => rfl, fun _ _ => rfl⟩
    rw [if_neg h0]
    simp (disch := first | assumption | exact e_nk_i _ | exact e_nk_n | exact e_nk_r _ | exact e_bo_0 | exact e_bo_1 | exact e_bo_b _ | omega) only [e_cl_v, e_cl_x, e_add_0, e_add_s, Option.toList_some, Option.toList_none, List.cons_append, List.nil_append, iI_add, iI_sub, iI_mul, iI_lt, iI_eq, iI_le, r130_0, r130_1, r130_2, r130_5, r130_8, r130_11, r130_12, r130_15, r130_16, r130_19, r130_22, r130_23, r130_26, r130_27, r130_30, r130_31, r130_32, r130_33, r130_36, r130_39, r130_40, r130_43, r130_45, r130_46, r130_49, r130_52, r130_53, r130_54, r130_57, r130_59, i1, r1]
theorem PR.edN (hP : PR M K) (hg : kG K) : ft K = true → e_lim L xs (d + 2) 79 0 [some (.ref 133), none, none] [] (e_hp M V W) = some (.inl (some (.int (iI (edW K)))), e_hp M V W, 0, 0) := fun h1 => by
  obtain ⟨hr, ⟨ha, hv⟩, hp, hk, hd⟩ := hg
  exact tt_latest (L := L) (xs := xs) (d := d) (V := V) (W := W) e_isT_0 (hP.tt h1) hr hp (vR.vp hr hv)
theorem x_keep (H : CK M K c S) (hg : kG K) (hq : i32 q) : ∃ M2 : e_MI, e_lim L xs (d + 7) 136 0 [some (.ref 0), some (.int (iI q))] [] (e_hp M V W) = (if 0 ≤ q ∧ q ≤ 2 then some (.inl (some (.int (iI (edN (kpK K q))))), e_hp M2 V W, 0, 0) else some (.inr 0, e_hp M2 V W, 1, 6)) ∧ (0 ≤ q ∧ q ≤ 2 → CK M2 (kpK K q) (svC c) (svS c S K)) ∧ (¬(0 ≤ q ∧ q ≤ 2) → M2 = M) ∧ ∀ a, a < 1 ∨ 148 < a → M2 a = M a := by
  have e0 := m_isSlot (L := L) (xs := xs) (d := d + 5) (M := M) (V := V) (W := W) (z := q) hq
  have r1 := m_requireArgument (L := L) (xs := xs) (d := d + 6) (h := e_hp M V W) (decide (0 ≤ q ∧ q ≤ 2))
  by_cases h0 : 0 ≤ q ∧ q ≤ 2
  · rw [if_pos (decide_eq_true h0)] at r1
    obtain ⟨M1, e1, h1, h2, h3, h4, hf⟩ := x_rem (L := L) (xs := xs) (d := d + 3) (V := V) (W := W) H hg
    obtain ⟨M2, e2, hS, hf2⟩ := s_keepRow (L := L) (xs := xs) (d := d + 5) (V := V) (W := W) h1 hg.1 hg.2.1.1.2 h0
    have hP : PR M2 (kpK K q) := eqK.pr (K := K) (fun z hz => by unfold kpK; rw [if_neg (by omega), if_neg (by omega)]) hg (fun p x y => by have := hg.2.1.1.2; unfold kpK; rw [if_neg (by omega), if_neg (by omega)]) (h3.of fun a x y => hf2 a (by omega) (by omega))
    have hg2 := kG_kp hg h0
    have hC : CK M2 (kpK K q) (svC c) (svS c S K) := ⟨hS, h2.of fun a x y => hf2 a (by omega) (by omega), hP, h4.of fun a x y => hf2 a (by omega) (by omega)⟩
    have c0 := hP.fits
    refine ⟨M2, ?_, fun _ => hC, fun y => absurd h0 y, fun a y => by rw [hf2 a (by omega) (by omega), hf a (by omega)]⟩
    rw [if_pos h0]
    unfold edN
    by_cases hft : ft (kpK K q) = true
    · have e3 := hP.edN (L := L) (xs := xs) (d := d + 4) (V := V) (W := W) hg2 hft
      rw [hft, bI_t] at c0
      rw [if_pos hft]
      simp (disch := first | assumption | exact e_nk_i _ | exact e_nk_n | exact e_nk_r _ | exact e_bo_0 | exact e_bo_1 | exact e_bo_b _ | omega) only [e_cl_v, e_cl_x, e_add_0, e_add_s, Option.toList_some, Option.toList_none, List.cons_append, List.nil_append, iI_add, iI_sub, iI_mul, iI_lt, iI_eq, iI_le, r136_0, r136_1, r136_4, r136_7, r136_8, r136_11, r136_12, r136_15, r136_18, r136_19, r136_22, r136_23, r136_26, r136_27, r136_30, r136_33, r136_36, r136_37, r136_40, r136_43, r136_46, r136_47, e0, r1, e1, e2, c0, e3]
      simp
    · rw [Bool.not_eq_true] at hft
      rw [hft, bI_f] at c0
      rw [if_neg (by rw [hft]; exact Bool.false_ne_true)]
      simp (disch := first | assumption | exact e_nk_i _ | exact e_nk_n | exact e_nk_r _ | exact e_bo_0 | exact e_bo_1 | exact e_bo_b _ | omega) only [e_cl_v, e_cl_x, e_add_0, e_add_s, Option.toList_some, Option.toList_none, List.cons_append, List.nil_append, iI_add, iI_sub, iI_mul, iI_lt, iI_eq, iI_le, r136_0, r136_1, r136_4, r136_7, r136_8, r136_11, r136_12, r136_15, r136_18, r136_19, r136_22, r136_23, r136_26, r136_27, r136_30, r136_33, r136_36, r136_37, r136_40, r136_43, r136_46, r136_47, e0, r1, e1, e2, c0]
      simp
  · rw [if_neg (by rw [decide_eq_true_eq]; exact h0)] at r1
    refine ⟨M, ?_, fun y => absurd y h0, fun _ => rfl, fun _ _ => rfl⟩
    rw [if_neg h0]
    simp (disch := first | assumption | exact e_nk_i _ | exact e_nk_n | exact e_nk_r _ | exact e_bo_0 | exact e_bo_1 | exact e_bo_b _ | omega) only [e_cl_v, e_cl_x, e_add_0, e_add_s, Option.toList_some, Option.toList_none, List.cons_append, List.nil_append, iI_add, iI_sub, iI_mul, iI_lt, iI_eq, iI_le, r136_0, r136_1, r136_4, r136_7, r136_8, r136_11, r136_12, r136_15, r136_18, r136_19, r136_22, r136_23, r136_26, r136_27, r136_30, r136_33, r136_36, r136_37, r136_40, r136_43, r136_46, r136_47, e0, r1]
end Ec43
