section E82
variable {L : Nat} {xs : Nat → Int32} {d : Nat} {M M2 M3 : e_MI} {V : e_ML} {W : e_MD} {K K2 : e_St} {h : e_H} {S : Int → e_St} {c cd : Int} {ρ ω β ε τ T U : Int → Int} {r : Option e_R} {an : Int32}
theorem gD_l {a b : List Int} {n : Nat} (h : n < a.length) : (a ++ b).getD n 0 = a.getD n 0 := by
  rw [List.getD_eq_getElem?_getD, List.getD_eq_getElem?_getD, List.getElem?_append_left h]
theorem gD_r {a b : List Int} {n : Nat} (h : a.length ≤ n) : (a ++ b).getD n 0 = b.getD (n - a.length) 0 := by
  rw [List.getD_eq_getElem?_getD, List.getD_eq_getElem?_getD, List.getElem?_append_right h]
def cdWO (K : e_St) (o w q : Int) : Int := if (0 ≤ o ∧ o ≤ K 310 - 1) ∧ 0 ≤ w ∧ w ≤ K (40 + o) - 1 then (if 0 ≤ q ∧ q ≤ 3 then 0 else 2) else 1
def anWO (K : e_St) (o w q : Int) : Int := if q = 3 then tk K o w else K (48 + 32 * q + 4 * o + w)
theorem rf_workOf (H : RK M K c S) {o w q : Int} (ho : i32 o) (hw : i32 w) (hq : i32 q) : AQ (e_lim L xs (d + 3) 200 0 [some (.ref 184), some (.int (iI o)), some (.int (iI w)), some (.int (iI q))] [] (e_hp M V W)) M V W K c S (cdWO K o w q) (iI (anWO K o w q)) := by
  have hn := H.r.n
  have h0 := mT_0 M
  have hK := H.mT.km
  unfold cdWO
  by_cases h1 : (0 ≤ o ∧ o ≤ K 310 - 1) ∧ 0 ≤ w ∧ w ≤ K (40 + o) - 1
  · have e1 := mm_noWorkT (L := L) (xs := xs) (d := d) (V := V) (W := W) hK H.r h0 h1.1 h1.2
    have hk := H.r.wk (o := o) h1.1.1 (by omega)
    rw [if_pos h1]
    by_cases h2 : 0 ≤ q ∧ q ≤ 3
    · have e2 := mm_inT (L := L) (xs := xs) (d := d + 2) (h := e_hp (mT M) V W) h2 (by omega) (by omega)
      have e3 := mm_failsT (L := L) (xs := xs) (d := d + 2) (V := V) (W := W) (e := 2) h0 (by omega)
      rw [if_pos h2]
      refine AQ.ok H rfl ?_
      unfold anWO
      by_cases h6 : q = 3
      · have e4 := mm_takes (L := L) (xs := xs) (d := d + 2) (V := V) (W := W) hK (o := o) (w := w) (by omega) (by omega) (by omega) (by omega)
        subst h6
        simp (disch := first | assumption | exact e_nk_i _ | exact e_nk_n | exact e_nk_r _ | exact e_bo_0 | exact e_bo_1 | exact e_bo_b _ | omega) only [e_cl_v, e_cl_x, e_add_0, e_add_s, Option.toList_some, Option.toList_none, List.cons_append, List.nil_append, iI_add, iI_sub, iI_mul, iI_lt, iI_eq, iI_le, r200_0, r200_1, r200_2, r200_5, r200_6, r200_7, r200_8, r200_11, r200_14, r200_15, r200_16, r200_17, r200_18, r200_21, r200_22, r200_25, r200_28, r200_29, r200_30, r200_31, r200_32, r200_35, r200_36, r200_37, r200_38, r200_41, r200_44, r200_45, r200_48, r200_50, r200_52, r200_53, r200_54, r200_55, r200_56, r200_57, r200_58, r200_59, r200_60, r200_61, r200_62, e1, e2, e3, e4]
        simp
      · have e4 := hK (48 + 32 * q + 4 * o + w) (by omega) (by omega)
        rw [if_neg h6]
        simp (disch := first | assumption | exact e_nk_i _ | exact e_nk_n | exact e_nk_r _ | exact e_bo_0 | exact e_bo_1 | exact e_bo_b _ | omega) only [e_cl_v, e_cl_x, e_add_0, e_add_s, Option.toList_some, Option.toList_none, List.cons_append, List.nil_append, iI_add, iI_sub, iI_mul, iI_lt, iI_eq, iI_le, r200_0, r200_1, r200_2, r200_5, r200_6, r200_7, r200_8, r200_11, r200_14, r200_15, r200_16, r200_17, r200_18, r200_21, r200_22, r200_25, r200_28, r200_29, r200_30, r200_31, r200_32, r200_35, r200_36, r200_37, r200_38, r200_41, r200_44, r200_45, r200_48, r200_50, r200_52, r200_53, r200_54, r200_55, r200_56, r200_57, r200_58, r200_59, r200_60, r200_61, r200_62, e1, e2, e3, iI_vin, iI_nat, if_true, e4]
        simp [h6]
    · have e2 := mm_inF (L := L) (xs := xs) (d := d + 2) (h := e_hp (mT M) V W) h2 hq (by omega) (by omega)
      have e3 := mm_failsF (L := L) (xs := xs) (d := d + 2) (V := V) (W := W) (e := 2) h0 (by omega)
      rw [if_neg h2]
      refine AQ.bad H 2 (iI 0) (by omega) rfl ?_
      simp (disch := first | assumption | exact e_nk_i _ | exact e_nk_n | exact e_nk_r _ | exact e_bo_0 | exact e_bo_1 | exact e_bo_b _ | omega) only [e_cl_v, e_cl_x, e_add_0, e_add_s, Option.toList_some, Option.toList_none, List.cons_append, List.nil_append, iI_add, iI_sub, iI_mul, iI_lt, iI_eq, iI_le, r200_0, r200_1, r200_2, r200_5, r200_6, r200_7, r200_8, r200_11, r200_14, r200_15, r200_16, r200_17, r200_18, r200_21, r200_22, r200_25, r200_28, r200_29, r200_30, r200_31, r200_32, r200_35, r200_36, r200_37, r200_38, r200_41, r200_44, r200_45, r200_48, r200_50, r200_52, r200_53, r200_54, r200_55, r200_56, r200_57, r200_58, r200_59, r200_60, r200_61, r200_62, e1, e2, e3]
      simp
  · have e1 := mm_noWorkF (L := L) (xs := xs) (d := d) (V := V) (W := W) hK H.r h0 ho hw h1
    rw [if_neg h1]
    refine AQ.bad H 1 (iI 0) (by omega) rfl ?_
    simp (disch := first | assumption | exact e_nk_i _ | exact e_nk_n | exact e_nk_r _ | exact e_bo_0 | exact e_bo_1 | exact e_bo_b _ | omega) only [e_cl_v, e_cl_x, e_add_0, e_add_s, Option.toList_some, Option.toList_none, List.cons_append, List.nil_append, iI_add, iI_sub, iI_mul, iI_lt, iI_eq, iI_le, r200_0, r200_1, r200_2, r200_5, r200_6, r200_7, r200_8, r200_11, r200_14, r200_15, r200_16, r200_17, r200_18, r200_21, r200_22, r200_25, r200_28, r200_29, r200_30, r200_31, r200_32, r200_35, r200_36, r200_37, r200_38, r200_41, r200_44, r200_45, r200_48, r200_50, r200_52, r200_53, r200_54, r200_55, r200_56, r200_57, r200_58, r200_59, r200_60, r200_61, r200_62, e1]
    simp
theorem rf_orders (H : RK M K c S) : AQ (e_lim L xs (d + 1) 201 0 [some (.ref 184)] [] (e_hp M V W)) M V W K c S 0 (iI (K 310)) := AQ.ok H rfl (mm_orders H.km)
theorem rf_works (H : RK M K c S) : AQ (e_lim L xs (d + 2) 202 0 [some (.ref 184)] [] (e_hp M V W)) M V W K c S 0 (iI (aW K)) := AQ.ok H rfl (mm_works H.km H.r)
theorem rf_errors (H : RK M K c S) : AQ (e_lim L xs d 288 0 [some (.ref 184)] [] (e_hp M V W)) M V W K c S 0 (iI 0) := AQ.ok H rfl mm_errors
theorem rf_bound (H : RK M K c S) : AQ (e_lim L xs (d + 4) 241 0 [some (.ref 184), none, none] [] (e_hp M V W)) M V W K c S 0 (iI (boW K)) := AQ.ok H rfl (mm_bound H.km H.r)
def cdMa (m : Int) : Int := if 0 ≤ m ∧ m ≤ 3 then 0 else 1
theorem rf_load (H : RK M K c S) {m : Int} (hm : i32 m) : AQ (e_lim L xs (d + 3) 239 0 [some (.ref 184), some (.int (iI m))] [] (e_hp M V W)) M V W K c S (cdMa m) (iI (lO K m)) := by
  refine AQ.mF H (decide (0 ≤ m ∧ m ≤ 3)) 1 _ (mm_load H.km H.r hm) ?_ (fun hz => ?_)
  · unfold cdMa
    simp
  · unfold cdMa at hz
    by_cases h : 0 ≤ m ∧ m ≤ 3
    · rw [if_pos h]
    · rw [if_neg h] at hz
      omega
def cdPl (K : e_St) (p : Int) : Int := if 0 ≤ p ∧ p ≤ aW K - 1 then 0 else 1
theorem rf_rowAt (H : RK M K c S) {p : Int} (hp : i32 p) : AQ (e_lim L xs (d + 2) 228 0 [some (.ref 184), some (.int (iI p))] [] (e_hp M V W)) M V W K c S (cdPl K p) (iI (K (241 + p))) := by
  refine AQ.mF H (decide (0 ≤ p ∧ p ≤ aW K - 1)) 1 _ (mm_rowAt H.km H.r H.v hp) ?_ (fun hz => ?_)
  · unfold cdPl
    simp
  · unfold cdPl at hz
    by_cases h : 0 ≤ p ∧ p ≤ aW K - 1
    · rw [if_pos h]
    · rw [if_neg h] at hz
      omega
def cdRs (m t : Int) : Int := if (0 ≤ m ∧ m ≤ 3) ∧ 0 ≤ t ∧ t ≤ 2000 then 0 else 1
theorem rf_rests (H : RK M K c S) {m t : Int} (hm : i32 m) (ht : i32 t) : AQ (e_lim L xs (d + 2) 210 0 [some (.ref 184), some (.int (iI m)), some (.int (iI t))] [] (e_hp M V W)) M V W K c S (cdRs m t) (bI (rsB K m t)) := by
  have h0 := mT_0 M
  have hK := H.mT.km
  have e3 := mm_failsT (L := L) (xs := xs) (d := d + 1) (V := V) (W := W) (e := 1) h0 (by omega)
  have e4 := mm_failsF (L := L) (xs := xs) (d := d + 1) (V := V) (W := W) (e := 1) h0 (by omega)
  unfold cdRs
  by_cases h1 : 0 ≤ m ∧ m ≤ 3
  · have e1 := mm_isMachineT (L := L) (xs := xs) (d := d) (M := mT M) (V := V) (W := W) h1
    by_cases h2 : 0 ≤ t ∧ t ≤ 2000
    · have e2 := mm_inT (L := L) (xs := xs) (d := d + 1) (h := e_hp (mT M) V W) h2 (by omega) (by omega)
      have e5 := mm_doesRest (L := L) (xs := xs) (d := d) (V := V) (W := W) hK H.r (m := m) (t := t) (by omega) (by omega)
      rw [if_pos ⟨h1, h2⟩]
      refine AQ.ok H rfl ?_
      simp (disch := first | assumption | exact e_nk_i _ | exact e_nk_n | exact e_nk_r _ | exact e_bo_0 | exact e_bo_1 | exact e_bo_b _ | omega) only [e_cl_v, e_cl_x, e_add_0, e_add_s, Option.toList_some, Option.toList_none, List.cons_append, List.nil_append, iI_add, iI_sub, iI_mul, iI_lt, iI_eq, iI_le, r210_0, r210_1, r210_2, r210_5, r210_6, r210_7, r210_8, r210_11, r210_14, r210_15, r210_16, r210_19, r210_22, r210_25, r210_26, r210_29, r210_30, r210_31, r210_34, r210_37, r210_38, r210_39, r210_40, r210_43, r210_46, r210_47, r210_50, r210_51, e1, e2, e3, e5, bI_0]
      cases rsB K m t <;> simp [bI_t, bI_f]
    · have e2 := mm_inF (L := L) (xs := xs) (d := d + 1) (h := e_hp (mT M) V W) h2 ht (by omega) (by omega)
      rw [if_neg (fun a => h2 a.2)]
      refine AQ.bad H 1 (iI 0) (by omega) rfl ?_
      simp (disch := first | assumption | exact e_nk_i _ | exact e_nk_n | exact e_nk_r _ | exact e_bo_0 | exact e_bo_1 | exact e_bo_b _ | omega) only [e_cl_v, e_cl_x, e_add_0, e_add_s, Option.toList_some, Option.toList_none, List.cons_append, List.nil_append, iI_add, iI_sub, iI_mul, iI_lt, iI_eq, iI_le, r210_0, r210_1, r210_2, r210_5, r210_6, r210_7, r210_8, r210_11, r210_14, r210_15, r210_16, r210_19, r210_22, r210_25, r210_26, r210_29, r210_30, r210_31, r210_34, r210_37, r210_38, r210_39, r210_40, r210_43, r210_46, r210_47, r210_50, r210_51, e1, e2, e4]
      simp
  · have e1 := mm_isMachineF (L := L) (xs := xs) (d := d) (M := mT M) (V := V) (W := W) hm h1
    rw [if_neg (fun a => h1 a.1)]
    refine AQ.bad H 1 (iI 0) (by omega) rfl ?_
    simp (disch := first | assumption | exact e_nk_i _ | exact e_nk_n | exact e_nk_r _ | exact e_bo_0 | exact e_bo_1 | exact e_bo_b _ | omega) only [e_cl_v, e_cl_x, e_add_0, e_add_s, Option.toList_some, Option.toList_none, List.cons_append, List.nil_append, iI_add, iI_sub, iI_mul, iI_lt, iI_eq, iI_le, r210_0, r210_1, r210_2, r210_5, r210_6, r210_7, r210_8, r210_11, r210_14, r210_15, r210_16, r210_19, r210_22, r210_25, r210_26, r210_29, r210_30, r210_31, r210_34, r210_37, r210_38, r210_39, r210_40, r210_43, r210_46, r210_47, r210_50, r210_51, e1, e4]
    simp
/-! one machine, two machines -/
theorem oneL_le (hr : kR K) {m : Int} {br : Bool} : (oneL K m br).length ≤ 8 := by
  have hn := hr.n
  have := rowL_len (isA K m br) (fun o => decide (tO K o m ≠ 0)) (K 310).toNat
  unfold oneL
  omega
theorem oneL_mem (hr : kR K) {m : Int} {br : Bool} {x : Int} (hx : x ∈ oneL K m br) : 0 ≤ x ∧ x < K 310 ∧ tO K x m ≠ 0 := by
  unfold oneL at hx
  rw [rowL_mem] at hx
  have hn := hr.n
  have := hx.2.2
  simp only [decide_eq_true_eq] at this
  exact ⟨by omega, by omega, this⟩
theorem twoL_le (hr : kR K) {m m2 : Int} : (twoL K m m2).length ≤ 8 := by
  have hn := hr.n
  have := rowL_len (isT K m m2) (fun o => decide (tO K o m + tO K o m2 ≠ 0)) (K 310).toNat
  unfold twoL
  omega
theorem twoL_mem (hr : kR K) {m m2 : Int} {x : Int} (hx : x ∈ twoL K m m2) : 0 ≤ x ∧ x < K 310 := by
  unfold twoL at hx
  rw [rowL_mem] at hx
  have hn := hr.n
  exact ⟨by omega, by omega⟩
/-- sums of weighted ends, lateness -/
def wtF (K : e_St) (m : Int) (l : List Int) : Nat → Int × Int
  | 0 => (0, 0)
  | k + 1 => ((wtF K m l k).1 + tO K (l.getD k 0) m, (wtF K m l k).2 + K (32 + l.getD k 0) * ((wtF K m l k).1 + tO K (l.getD k 0) m))
def wtW (K : e_St) (m : Int) : Int := (wtF K m (oneL K m true) (oneL K m true).length).2
def ltF (K : e_St) (m : Int) (l : List Int) : Nat → Int × Int
  | 0 => (0, 0)
  | k + 1 => ((ltF K m l k).1 + tO K (l.getD k 0) m, if k = 0 ∨ (ltF K m l k).2 < (ltF K m l k).1 + tO K (l.getD k 0) m - K (24 + l.getD k 0) then (ltF K m l k).1 + tO K (l.getD k 0) m - K (24 + l.getD k 0) else (ltF K m l k).2)
def ltW (K : e_St) (m : Int) : Int := (ltF K m (oneL K m false) (oneL K m false).length).2
theorem ltF_rg (hr : kR K) {m : Int} {l : List Int} (hl : ∀ x ∈ l, 0 ≤ x ∧ x ≤ 7) : ∀ k : Nat, k ≤ l.length → (0 ≤ (ltF K m l k).1 ∧ (ltF K m l k).1 ≤ 324 * k) ∧ -500 ≤ (ltF K m l k).2 ∧ (ltF K m l k).2 ≤ 324 * k
  | 0, _ => by
    unfold ltF
    omega
  | k + 1, h => by
    have ih := ltF_rg hr (m := m) hl k (by omega)
    have hx := hl _ (getD_mem (l := l) (i := k) (by omega))
    have h1 := tO_rg hr (o := l.getD k 0) (m := m) hx
    have h2 := hr.du (o := l.getD k 0) hx.1 (by omega)
    unfold ltF
    simp only
    generalize l.getD k 0 = y at *
    push_cast
    split <;> omega
theorem rf_weighted (H : RK M K c S) {m : Int} (hm : i32 m) : AQ (e_lim L xs (d + 4) 252 0 [some (.ref 184), some (.int (iI m)), none, none, none] [] (e_hp M V W)) M V W K c S (cdMa m) (iI (wtW K m)) := by
  have h0 := mT_0 M
  have hK := H.mT.km
  unfold cdMa
  by_cases h1 : 0 ≤ m ∧ m ≤ 3
  · have e1 := mm_noMachineT (L := L) (xs := xs) (d := d + 1) (V := V) (W := W) h0 h1
    obtain ⟨M2, e2, hl, hF, -, hz, -⟩ := mm_rowsOne (L := L) (xs := xs) (d := d) (V := V) (W := W) hK H.r (m := m) (br := true) h1
    have hF2 := hF.q
    have hK2 := hF.KM hK
    have hl8 := oneL_le H.r (m := m) (br := true)
    rw [if_pos h1]
    refine AQ.of (M2 := M2) H rfl ?_ hF2 (H.mT.s.of fun a x y => hF.1 a (by omega) (by omega) (by omega)) (by rw [hF.2 0 (by decide) (by decide), h0])
    rw [bI_t] at e2
    simp (disch := first | assumption | exact e_nk_i _ | exact e_nk_n | exact e_nk_r _ | exact e_bo_0 | exact e_bo_1 | exact e_bo_b _ | omega) only [e_cl_v, e_cl_x, e_add_0, e_add_s, Option.toList_some, Option.toList_none, List.cons_append, List.nil_append, iI_add, iI_sub, iI_mul, iI_lt, iI_eq, iI_le, r252_0, r252_1, r252_2, r252_5, r252_6, r252_7, r252_10, r252_13, r252_14, r252_15, r252_16, r252_17, r252_18, r252_21, r252_22, r252_23, r252_24, r252_25, r252_26, e1, e2]
    simp only [if_true]
    unfold wtW
    generalize hq : oneL K m true = l at *
    have hml : ∀ x ∈ l, 0 ≤ x ∧ x ≤ 7 := fun x hx => by
      rw [← hq] at hx
      have := oneL_mem H.r hx
      have := H.r.n
      omega
    refine G_loopI (C := fun i => e_lim L xs (d + 4) 252 28 [some (.ref 184), some (.int (iI m)), some (.int (iI (wtF K m l i.toNat).1)), some (.int (iI (wtF K m l i.toNat).2)), some (.int (iI i))] [] (e_hp M2 V W)) (i := 0) (n := (l.length : Int)) (by omega) (fun j a b hc => ?_) ?_
    · have hj : j.toNat < l.length := by omega
      have hx := hml _ (getD_mem hj)
      have e3 := mm_timeOn (L := L) (xs := xs) (d := d + 2) (V := V) (W := W) hK2 H.r (o := l.getD j.toNat 0) (m := m) hx h1
      have e4 := la_get hl hj
      have e5 := hK2 (32 + l.getD j.toNat 0) (by omega) (by omega)
      have hst : wtF K m l (j + 1).toNat = ((wtF K m l j.toNat).1 + tO K (l.getD j.toNat 0) m, (wtF K m l j.toNat).2 + K (32 + l.getD j.toNat 0) * ((wtF K m l j.toNat).1 + tO K (l.getD j.toNat 0) m)) := by
        rw [show (j + 1).toNat = j.toNat + 1 by omega]
        rfl
      rw [hst] at hc
      rw [r252_28]
      simp (disch := first | assumption | exact e_nk_i _ | exact e_nk_n | exact e_nk_r _ | exact e_bo_0 | exact e_bo_1 | exact e_bo_b _ | omega) only [e_cl_v, e_cl_x, e_add_0, e_add_s, Option.toList_some, Option.toList_none, List.cons_append, List.nil_append, iI_add, iI_sub, iI_mul, iI_lt, iI_eq, iI_le, r252_30, r252_31, r252_34, r252_37, r252_38, r252_39, r252_40, r252_43, r252_45, r252_46, r252_47, r252_50, r252_51, r252_52, r252_53, r252_54, r252_57, r252_59, r252_60, r252_63, r252_65, r252_66, r252_67, r252_68, r252_69, r252_70, r252_71, r252_72, r252_75, iI_vin, iI_nat, if_true, hz, e3, e4, e5]
      rw [if_pos b]
      exact hc
    · rw [r252_28]
      simp (disch := first | assumption | exact e_nk_i _ | exact e_nk_n | exact e_nk_r _ | exact e_bo_0 | exact e_bo_1 | exact e_bo_b _ | omega) only [e_cl_v, e_cl_x, e_add_0, e_add_s, Option.toList_some, Option.toList_none, List.cons_append, List.nil_append, iI_add, iI_sub, iI_mul, iI_lt, iI_eq, iI_le, r252_30, r252_31, r252_34, r252_78, r252_79, hz]
      rw [if_neg (by omega), Int.toNat_natCast]
  · have e1 := mm_noMachineF (L := L) (xs := xs) (d := d + 1) (V := V) (W := W) h0 hm h1
    rw [if_neg h1]
    refine AQ.bad H 1 (iI 0) (by omega) rfl ?_
    simp (disch := first | assumption | exact e_nk_i _ | exact e_nk_n | exact e_nk_r _ | exact e_bo_0 | exact e_bo_1 | exact e_bo_b _ | omega) only [e_cl_v, e_cl_x, e_add_0, e_add_s, Option.toList_some, Option.toList_none, List.cons_append, List.nil_append, iI_add, iI_sub, iI_mul, iI_lt, iI_eq, iI_le, r252_0, r252_1, r252_2, r252_5, r252_6, r252_7, r252_10, r252_13, r252_14, r252_15, e1]
    simp
theorem rf_lateness (H : RK M K c S) {m : Int} (hm : i32 m) : AQ (e_lim L xs (d + 4) 253 0 [some (.ref 184), some (.int (iI m)), none, none, none] [] (e_hp M V W)) M V W K c S (cdMa m) (iI (ltW K m)) := by
  have h0 := mT_0 M
  have hK := H.mT.km
  unfold cdMa
  by_cases h1 : 0 ≤ m ∧ m ≤ 3
  · have e1 := mm_noMachineT (L := L) (xs := xs) (d := d + 1) (V := V) (W := W) h0 h1
    obtain ⟨M2, e2, hl, hF, -, hz, -⟩ := mm_rowsOne (L := L) (xs := xs) (d := d) (V := V) (W := W) hK H.r (m := m) (br := false) h1
    have hF2 := hF.q
    have hK2 := hF.KM hK
    have hl8 := oneL_le H.r (m := m) (br := false)
    rw [if_pos h1]
    refine AQ.of (M2 := M2) H rfl ?_ hF2 (H.mT.s.of fun a x y => hF.1 a (by omega) (by omega) (by omega)) (by rw [hF.2 0 (by decide) (by decide), h0])
    rw [bI_f] at e2
    simp (disch := first | assumption | exact e_nk_i _ | exact e_nk_n | exact e_nk_r _ | exact e_bo_0 | exact e_bo_1 | exact e_bo_b _ | omega) only [e_cl_v, e_cl_x, e_add_0, e_add_s, Option.toList_some, Option.toList_none, List.cons_append, List.nil_append, iI_add, iI_sub, iI_mul, iI_lt, iI_eq, iI_le, r253_0, r253_1, r253_2, r253_5, r253_6, r253_7, r253_10, r253_13, r253_14, r253_15, r253_16, r253_17, r253_18, r253_21, r253_22, r253_23, r253_24, r253_25, r253_26, e1, e2]
    simp only [if_true]
    unfold ltW
    generalize hq : oneL K m false = l at *
    have hml : ∀ x ∈ l, 0 ≤ x ∧ x ≤ 7 := fun x hx => by
      rw [← hq] at hx
      have := oneL_mem H.r hx
      have := H.r.n
      omega
    refine G_loopI (C := fun i => e_lim L xs (d + 4) 253 28 [some (.ref 184), some (.int (iI m)), some (.int (iI (ltF K m l i.toNat).1)), some (.int (iI (ltF K m l i.toNat).2)), some (.int (iI i))] [] (e_hp M2 V W)) (i := 0) (n := (l.length : Int)) (by omega) (fun j a b hc => ?_) ?_
    · have hj : j.toNat < l.length := by omega
      have hx := hml _ (getD_mem hj)
      have e3 := mm_timeOn (L := L) (xs := xs) (d := d + 2) (V := V) (W := W) hK2 H.r (o := l.getD j.toNat 0) (m := m) hx h1
      have r3 := tO_rg H.r (o := l.getD j.toNat 0) (m := m) hx
      have e4 := la_get hl hj
      have e5 := hK2 (24 + l.getD j.toNat 0) (by omega) (by omega)
      have r5 := H.r.du (o := l.getD j.toNat 0) hx.1 (by omega)
      have hg := ltF_rg H.r (m := m) hml j.toNat (by omega)
      have hst : ltF K m l (j + 1).toNat = ((ltF K m l j.toNat).1 + tO K (l.getD j.toNat 0) m, if j.toNat = 0 ∨ (ltF K m l j.toNat).2 < (ltF K m l j.toNat).1 + tO K (l.getD j.toNat 0) m - K (24 + l.getD j.toNat 0) then (ltF K m l j.toNat).1 + tO K (l.getD j.toNat 0) m - K (24 + l.getD j.toNat 0) else (ltF K m l j.toNat).2) := by
        rw [show (j + 1).toNat = j.toNat + 1 by omega]
        rfl
      rw [hst] at hc
      generalize l.getD j.toNat 0 = y at *
      generalize (ltF K m l j.toNat).1 = t at *
      generalize (ltF K m l j.toNat).2 = s at *
      rw [r253_28]
      simp (disch := first | assumption | exact e_nk_i _ | exact e_nk_n | exact e_nk_r _ | exact e_bo_0 | exact e_bo_1 | exact e_bo_b _ | omega) only [e_cl_v, e_cl_x, e_add_0, e_add_s, Option.toList_some, Option.toList_none, List.cons_append, List.nil_append, iI_add, iI_sub, iI_mul, iI_lt, iI_eq, iI_le, r253_30, r253_31, r253_34, r253_37, r253_38, r253_39, r253_40, r253_43, r253_45, r253_46, r253_47, r253_50, r253_51, r253_52, r253_54, r253_57, r253_58, r253_59, r253_62, r253_64, r253_65, r253_68, r253_70, r253_71, r253_72, r253_73, r253_74, r253_75, r253_78, r253_79, r253_80, r253_83, r253_85, r253_86, r253_89, r253_91, r253_92, r253_93, r253_94, r253_95, r253_96, r253_99, iI_vin, iI_nat, if_true, hz, e3, e4, e5]
      rw [if_pos b]
      by_cases z0 : j = 0
      · rw [if_pos z0]
        rw [if_pos (Or.inl (by omega))] at hc
        exact hc
      · rw [if_neg z0]
        by_cases z1 : s < t + tO K y m - K (24 + y)
        · rw [if_pos (Or.inr z1)] at hc
          rw [if_pos z1]
          exact hc
        · rw [if_neg (fun a => a.elim (fun q => z0 (by omega)) z1)] at hc
          rw [if_neg z1]
          exact hc
    · rw [r253_28]
      simp (disch := first | assumption | exact e_nk_i _ | exact e_nk_n | exact e_nk_r _ | exact e_bo_0 | exact e_bo_1 | exact e_bo_b _ | omega) only [e_cl_v, e_cl_x, e_add_0, e_add_s, Option.toList_some, Option.toList_none, List.cons_append, List.nil_append, iI_add, iI_sub, iI_mul, iI_lt, iI_eq, iI_le, r253_30, r253_31, r253_34, r253_102, r253_103, hz]
      rw [if_neg (by omega), Int.toNat_natCast]
  · have e1 := mm_noMachineF (L := L) (xs := xs) (d := d + 1) (V := V) (W := W) h0 hm h1
    rw [if_neg h1]
    refine AQ.bad H 1 (iI 0) (by omega) rfl ?_
    simp (disch := first | assumption | exact e_nk_i _ | exact e_nk_n | exact e_nk_r _ | exact e_bo_0 | exact e_bo_1 | exact e_bo_b _ | omega) only [e_cl_v, e_cl_x, e_add_0, e_add_s, Option.toList_some, Option.toList_none, List.cons_append, List.nil_append, iI_add, iI_sub, iI_mul, iI_lt, iI_eq, iI_le, r253_0, r253_1, r253_2, r253_5, r253_6, r253_7, r253_10, r253_13, r253_14, r253_15, e1]
    simp
def goW (K : e_St) (m : Int) : List Int × List Int := goL (fun o => tO K o m) (fun o => K (24 + o)) (oneL K m false)
theorem rf_fewestLate (H : RK M K c S) {m : Int} (hm : i32 m) : AQ (e_lim L xs (d + 5) 254 0 [some (.ref 184), some (.int (iI m))] [] (e_hp M V W)) M V W K c S (cdMa m) (iI ((goW K m).2.length : Int)) := by
  have h0 := mT_0 M
  have hK := H.mT.km
  unfold cdMa
  by_cases h1 : 0 ≤ m ∧ m ≤ 3
  · have e1 := mm_noMachineT (L := L) (xs := xs) (d := d + 2) (V := V) (W := W) h0 h1
    obtain ⟨M2, e2, -, -, hF, -, hz⟩ := mm_goes (L := L) (xs := xs) (d := d) (V := V) (W := W) hK H.r (m := m) h1
    rw [if_pos h1]
    refine AQ.of (M2 := M2) H rfl ?_ hF.q (H.mT.s.of fun a x y => hF.1 a (by omega) (by omega) (by omega)) (by rw [hF.2 0 (by decide) (by decide), h0])
    simp (disch := first | assumption | exact e_nk_i _ | exact e_nk_n | exact e_nk_r _ | exact e_bo_0 | exact e_bo_1 | exact e_bo_b _ | omega) only [e_cl_v, e_cl_x, e_add_0, e_add_s, Option.toList_some, Option.toList_none, List.cons_append, List.nil_append, iI_add, iI_sub, iI_mul, iI_lt, iI_eq, iI_le, r254_0, r254_1, r254_2, r254_5, r254_6, r254_7, r254_10, r254_13, r254_14, r254_15, r254_16, r254_17, r254_20, r254_21, r254_24, e1, e2, hz]
    simp
    rfl
  · have e1 := mm_noMachineF (L := L) (xs := xs) (d := d + 2) (V := V) (W := W) h0 hm h1
    rw [if_neg h1]
    refine AQ.bad H 1 (iI 0) (by omega) rfl ?_
    simp (disch := first | assumption | exact e_nk_i _ | exact e_nk_n | exact e_nk_r _ | exact e_bo_0 | exact e_bo_1 | exact e_bo_b _ | omega) only [e_cl_v, e_cl_x, e_add_0, e_add_s, Option.toList_some, Option.toList_none, List.cons_append, List.nil_append, iI_add, iI_sub, iI_mul, iI_lt, iI_eq, iI_le, r254_0, r254_1, r254_2, r254_5, r254_6, r254_7, r254_10, r254_13, r254_14, r254_15, r254_16, r254_17, r254_20, r254_21, r254_24, e1]
    simp
theorem goW_len (hr : kR K) {m : Int} : (goW K m).1.length + (goW K m).2.length ≤ 8 := by
  have h8 := oneL_le hr (m := m) (br := false)
  have := (goL_rg (t := fun o => tO K o m) (u := fun o => K (24 + o)) (oneL K m false) (fun x hx => by
    have := oneL_mem hr hx
    have := hr.n
    omega) 0 ([], []) (Nat.le_refl _) (fun x hx => by rcases hx with y | y <;> cases y)).1
  have e : goW K m = (oneL K m false).foldl (goS (fun o => tO K o m) (fun o => K (24 + o))) ([], []) := rfl
  rw [e]
  omega
/-- the orders of a machine in a way -/
def wyL (K : e_St) (m w : Int) : List Int := if w = 2 then (goW K m).1 ++ (goW K m).2 else oneL K m (decide (w = 0))
def cdOA (K : e_St) (m w p : Int) : Int := if (0 ≤ m ∧ m ≤ 3) ∧ 0 ≤ w ∧ w ≤ 2 then (if 0 ≤ p ∧ p ≤ ((wyL K m w).length : Int) - 1 then 0 else 2) else 1
def anOA (K : e_St) (m w p : Int) : Int := (wyL K m w).getD p.toNat 0
theorem rf_oneAt (H : RK M K c S) {m w p : Int} (hm : i32 m) (hw : i32 w) (hp : i32 p) : AQ (e_lim L xs (d + 5) 255 0 [some (.ref 184), some (.int (iI m)), some (.int (iI w)), some (.int (iI p))] [] (e_hp M V W)) M V W K c S (cdOA K m w p) (iI (anOA K m w p)) := by
  have h0 := mT_0 M
  have hK := H.mT.km
  unfold cdOA
  by_cases h1 : 0 ≤ m ∧ m ≤ 3
  · have e1 := mm_noMachineT (L := L) (xs := xs) (d := d + 2) (V := V) (W := W) h0 h1
    by_cases h2 : 0 ≤ w ∧ w ≤ 2
    · have e2 := mm_inT (L := L) (xs := xs) (d := d + 4) (h := e_hp (mT M) V W) h2 (by omega) (by omega)
      have e3 := mm_failsT (L := L) (xs := xs) (d := d + 4) (V := V) (W := W) (e := 1) h0 (by omega)
      rw [if_pos ⟨h1, h2⟩]
      -- the rows, one way or another
      have rows : ∃ (M2 : e_MI) (a b : List Int), wyL K m w = a ++ b ∧ a.length + b.length ≤ 8 ∧ e_la (M2 196) a ∧ e_la (M2 197) b ∧ frO (mT M) M2 ∧ M2 184 17 = iI (a.length : Int) ∧ M2 184 18 = iI (b.length : Int) ∧ e_lim L xs (d + 5) 255 0 [some (.ref 184), some (.int (iI m)), some (.int (iI w)), some (.int (iI p))] [] (e_hp M V W) = e_lim L xs (d + 5) 255 56 [some (.ref 184), some (.int (iI m)), some (.int (iI w)), some (.int (iI p))] [] (e_hp M2 V W) := by
        by_cases h3 : w = 2
        · obtain ⟨M2, e4, l1, l2, hF, z1, z2⟩ := mm_goes (L := L) (xs := xs) (d := d) (V := V) (W := W) hK H.r (m := m) h1
          refine ⟨M2, (goW K m).1, (goW K m).2, by unfold wyL; rw [if_pos h3], goW_len H.r, l1, l2, hF, z1, z2, ?_⟩
          subst h3
          simp (disch := first | assumption | exact e_nk_i _ | exact e_nk_n | exact e_nk_r _ | exact e_bo_0 | exact e_bo_1 | exact e_bo_b _ | omega) only [e_cl_v, e_cl_x, e_add_0, e_add_s, Option.toList_some, Option.toList_none, List.cons_append, List.nil_append, iI_add, iI_sub, iI_mul, iI_lt, iI_eq, iI_le, r255_0, r255_1, r255_2, r255_5, r255_6, r255_7, r255_10, r255_13, r255_14, r255_15, r255_16, r255_17, r255_20, r255_21, r255_24, r255_27, r255_28, r255_29, r255_30, r255_31, r255_34, r255_35, r255_36, r255_39, r255_42, r255_43, r255_44, r255_45, r255_48, r255_49, r255_52, r255_53, e1, e2, e3, e4]
          simp
        · obtain ⟨M2, e4, l1, hF, -, z1, z2⟩ := mm_rowsOne (L := L) (xs := xs) (d := d + 1) (V := V) (W := W) hK H.r (m := m) (br := decide (w = 0)) h1
          refine ⟨M2, oneL K m (decide (w = 0)), [], by unfold wyL; rw [if_neg h3, List.append_nil], by
            have := oneL_le H.r (m := m) (br := decide (w = 0))
            simpa using this, l1, fun i x hx => by simp at hx, hF, z1, by rw [z2]; rfl, ?_⟩
          by_cases h4 : w = 0
          · subst h4
            rw [decide_eq_true rfl, bI_t] at e4
            simp (disch := first | assumption | exact e_nk_i _ | exact e_nk_n | exact e_nk_r _ | exact e_bo_0 | exact e_bo_1 | exact e_bo_b _ | omega) only [e_cl_v, e_cl_x, e_add_0, e_add_s, Option.toList_some, Option.toList_none, List.cons_append, List.nil_append, iI_add, iI_sub, iI_mul, iI_lt, iI_eq, iI_le, r255_0, r255_1, r255_2, r255_5, r255_6, r255_7, r255_10, r255_13, r255_14, r255_15, r255_16, r255_17, r255_20, r255_21, r255_24, r255_27, r255_28, r255_29, r255_30, r255_31, r255_34, r255_35, r255_36, r255_39, r255_42, r255_43, r255_44, r255_45, r255_48, r255_49, r255_52, r255_53, e1, e2, e3, e4]
            simp
          · rw [decide_eq_false h4, bI_f] at e4
            simp (disch := first | assumption | exact e_nk_i _ | exact e_nk_n | exact e_nk_r _ | exact e_bo_0 | exact e_bo_1 | exact e_bo_b _ | omega) only [e_cl_v, e_cl_x, e_add_0, e_add_s, Option.toList_some, Option.toList_none, List.cons_append, List.nil_append, iI_add, iI_sub, iI_mul, iI_lt, iI_eq, iI_le, r255_0, r255_1, r255_2, r255_5, r255_6, r255_7, r255_10, r255_13, r255_14, r255_15, r255_16, r255_17, r255_20, r255_21, r255_24, r255_27, r255_28, r255_29, r255_30, r255_31, r255_34, r255_35, r255_36, r255_39, r255_42, r255_43, r255_44, r255_45, r255_48, r255_49, r255_52, r255_53, e1, e2, e3, e4]
            simp [h3, h4]
      obtain ⟨M2, a, b, hab, hlen, la, lb, hF, z1, z2, eq⟩ := rows
      have h02 : M2 184 0 = iI 0 := by rw [hF.2 0 (by decide) (by decide), h0]
      have hs2 : RS M2 := H.mT.s.of fun a x y => hF.1 a (by omega) (by omega) (by omega)
      rw [eq]
      unfold anOA
      rw [hab, List.length_append]
      push_cast
      by_cases h5 : 0 ≤ p ∧ p ≤ (a.length : Int) + (b.length : Int) - 1
      · have e5 := mm_inT (L := L) (xs := xs) (d := d + 4) (h := e_hp M2 V W) h5 (by omega) (by omega)
        have e6 := mm_failsT (L := L) (xs := xs) (d := d + 4) (V := V) (W := W) (e := 2) h02 (by omega)
        rw [if_pos h5]
        refine AQ.of (M2 := M2) H rfl ?_ hF.q hs2 h02
        by_cases h6 : p < (a.length : Int)
        · have e7 := la_get la (i := p.toNat) (by omega)
          rw [gD_l (by omega)]
          simp (disch := first | assumption | exact e_nk_i _ | exact e_nk_n | exact e_nk_r _ | exact e_bo_0 | exact e_bo_1 | exact e_bo_b _ | omega) only [e_cl_v, e_cl_x, e_add_0, e_add_s, Option.toList_some, Option.toList_none, List.cons_append, List.nil_append, iI_add, iI_sub, iI_mul, iI_lt, iI_eq, iI_le, r255_56, r255_57, r255_58, r255_59, r255_60, r255_63, r255_64, r255_67, r255_68, r255_69, r255_70, r255_73, r255_74, r255_77, r255_80, r255_81, r255_82, r255_83, r255_84, r255_87, r255_90, r255_91, r255_94, r255_95, r255_96, r255_99, r255_100, r255_103, r255_104, r255_105, r255_108, r255_109, r255_110, e5, e6, z1, z2, iI_vin, iI_nat, if_true, e7]
          simp [h6]
        · have e7 := la_get lb (i := (p - (a.length : Int)).toNat) (by omega)
          rw [gD_r (by omega), show p.toNat - a.length = (p - (a.length : Int)).toNat by omega]
          simp (disch := first | assumption | exact e_nk_i _ | exact e_nk_n | exact e_nk_r _ | exact e_bo_0 | exact e_bo_1 | exact e_bo_b _ | omega) only [e_cl_v, e_cl_x, e_add_0, e_add_s, Option.toList_some, Option.toList_none, List.cons_append, List.nil_append, iI_add, iI_sub, iI_mul, iI_lt, iI_eq, iI_le, r255_56, r255_57, r255_58, r255_59, r255_60, r255_63, r255_64, r255_67, r255_68, r255_69, r255_70, r255_73, r255_74, r255_77, r255_80, r255_81, r255_82, r255_83, r255_84, r255_87, r255_90, r255_91, r255_94, r255_95, r255_96, r255_99, r255_100, r255_103, r255_104, r255_105, r255_108, r255_109, r255_110, e5, e6, z1, z2, iI_vin, iI_nat, if_true, e7]
          simp [h6]
      · have e5 := mm_inF (L := L) (xs := xs) (d := d + 4) (h := e_hp M2 V W) h5 hp (by omega) (by omega)
        have e6 := mm_failsF (L := L) (xs := xs) (d := d + 4) (V := V) (W := W) (e := 2) h02 (by omega)
        rw [if_neg h5]
        refine ⟨mF M2 false 2, iI 0, ?_, (H.mT.q hF.q hs2).mF false 2, ((frQ_mT M).t hF.q).t (frQ_mF _ false 2), mF_0 _ false 2 h02, fun q => by omega⟩
        simp (disch := first | assumption | exact e_nk_i _ | exact e_nk_n | exact e_nk_r _ | exact e_bo_0 | exact e_bo_1 | exact e_bo_b _ | omega) only [e_cl_v, e_cl_x, e_add_0, e_add_s, Option.toList_some, Option.toList_none, List.cons_append, List.nil_append, iI_add, iI_sub, iI_mul, iI_lt, iI_eq, iI_le, r255_56, r255_57, r255_58, r255_59, r255_60, r255_63, r255_64, r255_67, r255_68, r255_69, r255_70, r255_73, r255_74, r255_77, r255_80, r255_81, r255_82, r255_83, r255_84, r255_87, r255_90, r255_91, r255_94, r255_95, r255_96, r255_99, r255_100, r255_103, r255_104, r255_105, r255_108, r255_109, r255_110, e5, e6, z1, z2]
        simp
        rfl
    · have e2 := mm_inF (L := L) (xs := xs) (d := d + 4) (h := e_hp (mT M) V W) h2 hw (by omega) (by omega)
      have e3 := mm_failsF (L := L) (xs := xs) (d := d + 4) (V := V) (W := W) (e := 1) h0 (by omega)
      rw [if_neg (fun a => h2 a.2)]
      refine AQ.bad H 1 (iI 0) (by omega) rfl ?_
      simp (disch := first | assumption | exact e_nk_i _ | exact e_nk_n | exact e_nk_r _ | exact e_bo_0 | exact e_bo_1 | exact e_bo_b _ | omega) only [e_cl_v, e_cl_x, e_add_0, e_add_s, Option.toList_some, Option.toList_none, List.cons_append, List.nil_append, iI_add, iI_sub, iI_mul, iI_lt, iI_eq, iI_le, r255_0, r255_1, r255_2, r255_5, r255_6, r255_7, r255_10, r255_13, r255_14, r255_15, r255_16, r255_17, r255_20, r255_21, r255_24, r255_27, r255_28, r255_29, e1, e2, e3]
      simp
  · have e1 := mm_noMachineF (L := L) (xs := xs) (d := d + 2) (V := V) (W := W) h0 hm h1
    rw [if_neg (fun a => h1 a.1)]
    refine AQ.bad H 1 (iI 0) (by omega) rfl ?_
    simp (disch := first | assumption | exact e_nk_i _ | exact e_nk_n | exact e_nk_r _ | exact e_bo_0 | exact e_bo_1 | exact e_bo_b _ | omega) only [e_cl_v, e_cl_x, e_add_0, e_add_s, Option.toList_some, Option.toList_none, List.cons_append, List.nil_append, iI_add, iI_sub, iI_mul, iI_lt, iI_eq, iI_le, r255_0, r255_1, r255_2, r255_5, r255_6, r255_7, r255_10, r255_13, r255_14, r255_15, r255_16, r255_17, r255_20, r255_21, r255_24, r255_27, r255_28, r255_29, e1]
    simp
end E82
