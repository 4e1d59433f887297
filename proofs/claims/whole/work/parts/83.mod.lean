section E83
variable {L : Nat} {xs : Nat → Int32} {d : Nat} {M M2 M3 : e_MI} {V : e_ML} {W : e_MD} {K K2 : e_St} {h : e_H} {S : Int → e_St} {c cd : Int} {ρ ω β ε τ T U : Int → Int} {r : Option e_R} {an : Int32}
def cdTw (m q : Int) : Int := if (0 ≤ m ∧ m ≤ 3) ∧ (0 ≤ q ∧ q ≤ 3) ∧ m ≠ q then 0 else 1
theorem mm_noTwoT (h0 : M 184 0 = iI 0) {m q : Int} (hm : 0 ≤ m ∧ m ≤ 3) (hq : 0 ≤ q ∧ q ≤ 3) (hn : m ≠ q) : e_lim L xs (d + 2) 258 0 [some (.ref 184), some (.int (iI m)), some (.int (iI q))] [] (e_hp M V W) = some (.inl (some (.int (iI 0))), e_hp M V W, 0, 0) := by
  have e1 := mm_isMachineT (L := L) (xs := xs) (d := d) (M := M) (V := V) (W := W) hm
  have e2 := mm_isMachineT (L := L) (xs := xs) (d := d) (M := M) (V := V) (W := W) hq
  have e3 := mm_failsT (L := L) (xs := xs) (d := d + 1) (V := V) (W := W) (e := 1) h0 (by omega)
  simp (disch := first | assumption | exact e_nk_i _ | exact e_nk_n | exact e_nk_r _ | exact e_bo_0 | exact e_bo_1 | exact e_bo_b _ | omega) only [e_cl_v, e_cl_x, e_add_0, e_add_s, Option.toList_some, Option.toList_none, List.cons_append, List.nil_append, iI_add, iI_sub, iI_mul, iI_lt, iI_eq, iI_le, r258_0, r258_1, r258_2, r258_3, r258_6, r258_9, r258_10, r258_11, r258_14, r258_17, r258_18, r258_19, r258_22, r258_23, r258_26, r258_27, r258_28, r258_31, e1, e2, e3]
  simp [hn]
theorem mm_noTwoF (h0 : M 184 0 = iI 0) {m q : Int} (h1 : i32 m) (h2 : i32 q) (hn : ¬((0 ≤ m ∧ m ≤ 3) ∧ (0 ≤ q ∧ q ≤ 3) ∧ m ≠ q)) : e_lim L xs (d + 2) 258 0 [some (.ref 184), some (.int (iI m)), some (.int (iI q))] [] (e_hp M V W) = some (.inl (some (.int (iI 1))), e_hp (e_u M 184 (upd (M 184) 0 (iI 1))) V W, 0, 0) := by
  have e3 := mm_failsF (L := L) (xs := xs) (d := d + 1) (V := V) (W := W) (e := 1) h0 (by omega)
  by_cases hm : 0 ≤ m ∧ m ≤ 3
  · have e1 := mm_isMachineT (L := L) (xs := xs) (d := d) (M := M) (V := V) (W := W) hm
    by_cases hq : 0 ≤ q ∧ q ≤ 3
    · have e2 := mm_isMachineT (L := L) (xs := xs) (d := d) (M := M) (V := V) (W := W) hq
      have e : m = q := by
        by_cases z : m = q
        · exact z
        · exact absurd ⟨hm, hq, z⟩ hn
      subst e
      simp (disch := first | assumption | exact e_nk_i _ | exact e_nk_n | exact e_nk_r _ | exact e_bo_0 | exact e_bo_1 | exact e_bo_b _ | omega) only [e_cl_v, e_cl_x, e_add_0, e_add_s, Option.toList_some, Option.toList_none, List.cons_append, List.nil_append, iI_add, iI_sub, iI_mul, iI_lt, iI_eq, iI_le, r258_0, r258_1, r258_2, r258_3, r258_6, r258_9, r258_10, r258_11, r258_14, r258_17, r258_18, r258_19, r258_22, r258_23, r258_26, r258_27, r258_28, r258_31, e1, e3]
      all_goals first | (simp; done) | rfl | (simp; rfl)
    · have e2 := mm_isMachineF (L := L) (xs := xs) (d := d) (M := M) (V := V) (W := W) h2 hq
      simp (disch := first | assumption | exact e_nk_i _ | exact e_nk_n | exact e_nk_r _ | exact e_bo_0 | exact e_bo_1 | exact e_bo_b _ | omega) only [e_cl_v, e_cl_x, e_add_0, e_add_s, Option.toList_some, Option.toList_none, List.cons_append, List.nil_append, iI_add, iI_sub, iI_mul, iI_lt, iI_eq, iI_le, r258_0, r258_1, r258_2, r258_3, r258_6, r258_9, r258_10, r258_11, r258_14, r258_17, r258_18, r258_19, r258_22, r258_23, r258_26, r258_27, r258_28, r258_31, e1, e2, e3]
      all_goals first | (simp; done) | rfl | (simp; rfl)
  · have e1 := mm_isMachineF (L := L) (xs := xs) (d := d) (M := M) (V := V) (W := W) h1 hm
    simp (disch := first | assumption | exact e_nk_i _ | exact e_nk_n | exact e_nk_r _ | exact e_bo_0 | exact e_bo_1 | exact e_bo_b _ | omega) only [e_cl_v, e_cl_x, e_add_0, e_add_s, Option.toList_some, Option.toList_none, List.cons_append, List.nil_append, iI_add, iI_sub, iI_mul, iI_lt, iI_eq, iI_le, r258_0, r258_1, r258_2, r258_3, r258_6, r258_9, r258_10, r258_11, r258_14, r258_17, r258_18, r258_19, r258_22, r258_23, r258_26, r258_27, r258_28, r258_31, e1, e3]
    all_goals first | (simp; done) | rfl | (simp; rfl)
/-- the ends on two machines -/
def twF (K : e_St) (m q : Int) (l : List Int) : Nat → Int × Int
  | 0 => (0, 0)
  | k + 1 => ((twF K m q l k).1 + tO K (l.getD k 0) m, (if (twF K m q l k).1 + tO K (l.getD k 0) m < (twF K m q l k).2 then (twF K m q l k).2 else (twF K m q l k).1 + tO K (l.getD k 0) m) + tO K (l.getD k 0) q)
def twW (K : e_St) (m q : Int) : Int := (twF K m q (twoL K m q) (twoL K m q).length).2
theorem twF_rg (hr : kR K) {m q : Int} {l : List Int} (hl : ∀ x ∈ l, 0 ≤ x ∧ x ≤ 7) : ∀ k : Nat, k ≤ l.length → (0 ≤ (twF K m q l k).1 ∧ (twF K m q l k).1 ≤ 324 * k) ∧ 0 ≤ (twF K m q l k).2 ∧ (twF K m q l k).2 ≤ 648 * k
  | 0, _ => by
    unfold twF
    omega
  | k + 1, h => by
    have ih := twF_rg hr (m := m) (q := q) hl k (by omega)
    have hx := hl _ (getD_mem (l := l) (i := k) (by omega))
    have h1 := tO_rg hr (o := l.getD k 0) (m := m) hx
    have h2 := tO_rg hr (o := l.getD k 0) (m := q) hx
    unfold twF
    simp only
    generalize l.getD k 0 = y at *
    push_cast
    split <;> omega
theorem rf_two (H : RK M K c S) {m q : Int} (hm : i32 m) (hq : i32 q) : AQ (e_lim L xs (d + 4) 259 0 [some (.ref 184), some (.int (iI m)), some (.int (iI q)), none, none, none] [] (e_hp M V W)) M V W K c S (cdTw m q) (iI (twW K m q)) := by
  have h0 := mT_0 M
  have hK := H.mT.km
  unfold cdTw
  by_cases h1 : (0 ≤ m ∧ m ≤ 3) ∧ (0 ≤ q ∧ q ≤ 3) ∧ m ≠ q
  · have e1 := mm_noTwoT (L := L) (xs := xs) (d := d + 1) (V := V) (W := W) h0 h1.1 h1.2.1 h1.2.2
    obtain ⟨M2, e2, hl, hF, hz⟩ := mm_rowsTwo (L := L) (xs := xs) (d := d) (V := V) (W := W) hK H.r (m := m) (m2 := q) h1.1 h1.2.1
    have hK2 := hF.KM hK
    have hl8 := twoL_le H.r (m := m) (m2 := q)
    rw [if_pos h1]
    refine AQ.of (M2 := M2) H rfl ?_ hF.q (H.mT.s.of fun a x y => hF.1 a (by omega) (by omega)) (by rw [hF.2 0 (by decide), h0])
    simp (disch := first | assumption | exact e_nk_i _ | exact e_nk_n | exact e_nk_r _ | exact e_bo_0 | exact e_bo_1 | exact e_bo_b _ | omega) only [e_cl_v, e_cl_x, e_add_0, e_add_s, Option.toList_some, Option.toList_none, List.cons_append, List.nil_append, iI_add, iI_sub, iI_mul, iI_lt, iI_eq, iI_le, r259_0, r259_1, r259_2, r259_5, r259_6, r259_7, r259_8, r259_11, r259_14, r259_15, r259_16, r259_17, r259_18, r259_19, r259_22, r259_23, r259_24, r259_25, r259_27, r259_28, e1, e2]
    simp only [if_true]
    unfold twW
    generalize hg : twoL K m q = l at *
    have hml : ∀ x ∈ l, 0 ≤ x ∧ x ≤ 7 := fun x hx => by
      rw [← hg] at hx
      have := twoL_mem H.r hx
      have := H.r.n
      omega
    refine G_loopI (C := fun i => e_lim L xs (d + 4) 259 30 [some (.ref 184), some (.int (iI m)), some (.int (iI q)), some (.int (iI (twF K m q l i.toNat).1)), some (.int (iI (twF K m q l i.toNat).2)), some (.int (iI i))] [] (e_hp M2 V W)) (i := 0) (n := (l.length : Int)) (by omega) (fun j a b hc => ?_) ?_
    · have hj : j.toNat < l.length := by omega
      have hx := hml _ (getD_mem hj)
      have e3 := mm_timeOn (L := L) (xs := xs) (d := d + 2) (V := V) (W := W) hK2 H.r (o := l.getD j.toNat 0) (m := m) hx h1.1
      have e5 := mm_timeOn (L := L) (xs := xs) (d := d + 2) (V := V) (W := W) hK2 H.r (o := l.getD j.toNat 0) (m := q) hx h1.2.1
      have r3 := tO_rg H.r (o := l.getD j.toNat 0) (m := m) hx
      have r5 := tO_rg H.r (o := l.getD j.toNat 0) (m := q) hx
      have e4 := la_get hl hj
      have hg2 := twF_rg H.r (m := m) (q := q) hml j.toNat (by omega)
      have hst : twF K m q l (j + 1).toNat = ((twF K m q l j.toNat).1 + tO K (l.getD j.toNat 0) m, (if (twF K m q l j.toNat).1 + tO K (l.getD j.toNat 0) m < (twF K m q l j.toNat).2 then (twF K m q l j.toNat).2 else (twF K m q l j.toNat).1 + tO K (l.getD j.toNat 0) m) + tO K (l.getD j.toNat 0) q) := by
        rw [show (j + 1).toNat = j.toNat + 1 by omega]
        rfl
      rw [hst] at hc
      generalize l.getD j.toNat 0 = y at *
      generalize (twF K m q l j.toNat).1 = t at *
      generalize (twF K m q l j.toNat).2 = s at *
      rw [r259_30]
      simp (disch := first | assumption | exact e_nk_i _ | exact e_nk_n | exact e_nk_r _ | exact e_bo_0 | exact e_bo_1 | exact e_bo_b _ | omega) only [e_cl_v, e_cl_x, e_add_0, e_add_s, Option.toList_some, Option.toList_none, List.cons_append, List.nil_append, iI_add, iI_sub, iI_mul, iI_lt, iI_eq, iI_le, r259_32, r259_33, r259_36, r259_39, r259_40, r259_41, r259_42, r259_45, r259_47, r259_48, r259_49, r259_52, r259_53, r259_54, r259_56, r259_57, r259_60, r259_62, r259_65, r259_66, r259_67, r259_68, r259_71, r259_73, r259_74, r259_75, r259_78, r259_79, r259_81, r259_84, iI_vin, iI_nat, if_true, hz, e3, e4, e5]
      rw [if_pos b]
      by_cases z1 : t + tO K y m < s
      · rw [if_pos z1] at hc ⊢
        exact hc
      · rw [if_neg z1] at hc ⊢
        exact hc
    · rw [r259_30]
      simp (disch := first | assumption | exact e_nk_i _ | exact e_nk_n | exact e_nk_r _ | exact e_bo_0 | exact e_bo_1 | exact e_bo_b _ | omega) only [e_cl_v, e_cl_x, e_add_0, e_add_s, Option.toList_some, Option.toList_none, List.cons_append, List.nil_append, iI_add, iI_sub, iI_mul, iI_lt, iI_eq, iI_le, r259_32, r259_33, r259_36, r259_87, r259_89, hz]
      rw [if_neg (by omega), Int.toNat_natCast]
  · have e1 := mm_noTwoF (L := L) (xs := xs) (d := d + 1) (V := V) (W := W) h0 hm hq h1
    rw [if_neg h1]
    refine AQ.bad H 1 (iI 0) (by omega) rfl ?_
    simp (disch := first | assumption | exact e_nk_i _ | exact e_nk_n | exact e_nk_r _ | exact e_bo_0 | exact e_bo_1 | exact e_bo_b _ | omega) only [e_cl_v, e_cl_x, e_add_0, e_add_s, Option.toList_some, Option.toList_none, List.cons_append, List.nil_append, iI_add, iI_sub, iI_mul, iI_lt, iI_eq, iI_le, r259_0, r259_1, r259_2, r259_5, r259_6, r259_7, r259_8, r259_11, r259_14, r259_15, r259_16, e1]
    all_goals first | (simp; done) | rfl | (simp; rfl)
def cdTA (K : e_St) (m q p : Int) : Int := if (0 ≤ m ∧ m ≤ 3) ∧ (0 ≤ q ∧ q ≤ 3) ∧ m ≠ q then (if 0 ≤ p ∧ p ≤ ((twoL K m q).length : Int) - 1 then 0 else 2) else 1
def anTA (K : e_St) (m q p : Int) : Int := (twoL K m q).getD p.toNat 0
theorem rf_twoAt (H : RK M K c S) {m q p : Int} (hm : i32 m) (hq : i32 q) (hp : i32 p) : AQ (e_lim L xs (d + 4) 260 0 [some (.ref 184), some (.int (iI m)), some (.int (iI q)), some (.int (iI p))] [] (e_hp M V W)) M V W K c S (cdTA K m q p) (iI (anTA K m q p)) := by
  have h0 := mT_0 M
  have hK := H.mT.km
  unfold cdTA
  by_cases h1 : (0 ≤ m ∧ m ≤ 3) ∧ (0 ≤ q ∧ q ≤ 3) ∧ m ≠ q
  · have e1 := mm_noTwoT (L := L) (xs := xs) (d := d + 1) (V := V) (W := W) h0 h1.1 h1.2.1 h1.2.2
    obtain ⟨M2, e2, hl, hF, hz⟩ := mm_rowsTwo (L := L) (xs := xs) (d := d) (V := V) (W := W) hK H.r (m := m) (m2 := q) h1.1 h1.2.1
    have hl8 := twoL_le H.r (m := m) (m2 := q)
    have h02 : M2 184 0 = iI 0 := by rw [hF.2 0 (by decide), h0]
    have hs2 : RS M2 := H.mT.s.of fun a x y => hF.1 a (by omega) (by omega)
    rw [if_pos h1]
    unfold anTA
    by_cases h5 : 0 ≤ p ∧ p ≤ ((twoL K m q).length : Int) - 1
    · have e5 := mm_inT (L := L) (xs := xs) (d := d + 3) (h := e_hp M2 V W) h5 (by omega) (by omega)
      have e6 := mm_failsT (L := L) (xs := xs) (d := d + 3) (V := V) (W := W) (e := 2) h02 (by omega)
      have e7 := la_get hl (i := p.toNat) (by omega)
      rw [if_pos h5]
      refine AQ.of (M2 := M2) H rfl ?_ hF.q hs2 h02
      simp (disch := first | assumption | exact e_nk_i _ | exact e_nk_n | exact e_nk_r _ | exact e_bo_0 | exact e_bo_1 | exact e_bo_b _ | omega) only [e_cl_v, e_cl_x, e_add_0, e_add_s, Option.toList_some, Option.toList_none, List.cons_append, List.nil_append, iI_add, iI_sub, iI_mul, iI_lt, iI_eq, iI_le, r260_0, r260_1, r260_2, r260_5, r260_6, r260_7, r260_8, r260_11, r260_14, r260_15, r260_16, r260_17, r260_18, r260_19, r260_22, r260_23, r260_24, r260_25, r260_26, r260_29, r260_30, r260_31, r260_34, r260_35, r260_38, r260_41, r260_42, r260_45, r260_46, r260_49, r260_50, r260_51, e1, e2, e5, e6, hz, iI_vin, iI_nat, if_true, e7]
      all_goals first | (simp; done) | rfl | (simp; rfl)
    · have e5 := mm_inF (L := L) (xs := xs) (d := d + 3) (h := e_hp M2 V W) h5 hp (by omega) (by omega)
      have e6 := mm_failsF (L := L) (xs := xs) (d := d + 3) (V := V) (W := W) (e := 2) h02 (by omega)
      rw [if_neg h5]
      refine ⟨mF M2 false 2, iI 0, ?_, (H.mT.q hF.q hs2).mF false 2, ((frQ_mT M).t hF.q).t (frQ_mF _ false 2), mF_0 _ false 2 h02, fun q => by omega⟩
      simp (disch := first | assumption | exact e_nk_i _ | exact e_nk_n | exact e_nk_r _ | exact e_bo_0 | exact e_bo_1 | exact e_bo_b _ | omega) only [e_cl_v, e_cl_x, e_add_0, e_add_s, Option.toList_some, Option.toList_none, List.cons_append, List.nil_append, iI_add, iI_sub, iI_mul, iI_lt, iI_eq, iI_le, r260_0, r260_1, r260_2, r260_5, r260_6, r260_7, r260_8, r260_11, r260_14, r260_15, r260_16, r260_17, r260_18, r260_19, r260_22, r260_23, r260_24, r260_25, r260_26, r260_29, r260_30, r260_31, r260_34, r260_35, r260_38, r260_41, r260_42, r260_45, r260_46, r260_49, r260_50, r260_51, e1, e2, e5, e6, hz]
      all_goals first | (simp; done) | rfl | (simp; rfl)
  · have e1 := mm_noTwoF (L := L) (xs := xs) (d := d + 1) (V := V) (W := W) h0 hm hq h1
    rw [if_neg h1]
    refine AQ.bad H 1 (iI 0) (by omega) rfl ?_
    simp (disch := first | assumption | exact e_nk_i _ | exact e_nk_n | exact e_nk_r _ | exact e_bo_0 | exact e_bo_1 | exact e_bo_b _ | omega) only [e_cl_v, e_cl_x, e_add_0, e_add_s, Option.toList_some, Option.toList_none, List.cons_append, List.nil_append, iI_add, iI_sub, iI_mul, iI_lt, iI_eq, iI_le, r260_0, r260_1, r260_2, r260_5, r260_6, r260_7, r260_8, r260_11, r260_14, r260_15, r260_16, r260_17, r260_18, r260_19, r260_22, r260_23, r260_24, r260_25, r260_26, r260_29, r260_30, r260_31, r260_34, r260_35, r260_38, r260_41, r260_42, r260_45, r260_46, r260_49, r260_50, r260_51, e1]
    all_goals first | (simp; done) | rfl | (simp; rfl)
end E83
