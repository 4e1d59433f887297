section E81
variable {L : Nat} {xs : Nat → Int32} {d : Nat} {M M2 M3 : e_MI} {V : e_ML} {W : e_MD} {K K2 : e_St} {h : e_H} {S : Int → e_St} {c cd : Int} {ρ ω β ε τ T U : Int → Int} {r : Option e_R} {an : Int32}
/-- a question's answer -/
def AQ (r : Option e_R) (M : e_MI) (V : e_ML) (W : e_MD) (K : e_St) (c : Int) (S : Int → e_St) (cd : Int) (an : Int32) : Prop := ∃ (M2 : e_MI) (z : Int32), r = some (.inl (some (.int z)), e_hp M2 V W, 0, 0) ∧ RK M2 K c S ∧ frQ M M2 ∧ M2 184 0 = iI cd ∧ (cd = 0 → z = an)
/-- a change's answer -/
def AC (r : Option e_R) (M : e_MI) (V : e_ML) (W : e_MD) (K : e_St) (c : Int) (S : Int → e_St) (K2 : e_St) (cd : Int) (an : Int32) : Prop := ∃ (M2 : e_MI) (z : Int32), r = some (.inl (some (.int z)), e_hp M2 V W, 0, 0) ∧ frP M M2 ∧ M2 184 0 = iI cd ∧ (cd = 0 → z = an ∧ RK M2 K2 (svC c) (svS c S K)) ∧ (cd ≠ 0 → RK M2 K c S)
theorem AQ.mF (H : RK M K c S) (b : Bool) (e : Int) (z : Int32) (hr : r = some (.inl (some (.int z)), e_hp (mF (mT M) b e) V W, 0, 0)) (hcd : cd = if b = true then 0 else e) (hz : cd = 0 → z = an) : AQ r M V W K c S cd an := by
  subst hcd
  exact ⟨_, z, hr, H.mT.mF b e, (frQ_mT M).t (frQ_mF _ b e), mF_0 _ b e (mT_0 M), hz⟩
theorem AC.bad (H : RK M K c S) (e : Int) (z : Int32) (he : e ≠ 0) (hcd : cd = e) (hr : r = some (.inl (some (.int z)), e_hp (e_u (mT M) 184 (upd (mT M 184) 0 (iI e))) V W, 0, 0)) : AC r M V W K c S K2 cd an := by
  subst hcd
  refine ⟨_, z, hr, ((frQ_mT M).t (frQ_mF _ false cd)).p, ?_, fun a => absurd a he, fun _ => H.mT.mF false cd⟩
  rw [e_u_s, upd_s]
theorem AQ.bad (H : RK M K c S) (e : Int) (z : Int32) (he : e ≠ 0) (hcd : cd = e) (hr : r = some (.inl (some (.int z)), e_hp (e_u (mT M) 184 (upd (mT M 184) 0 (iI e))) V W, 0, 0)) : AQ r M V W K c S cd an := by
  subst hcd
  exact AQ.mF H false cd z hr rfl (fun a => absurd a he)
theorem AQ.ok (H : RK M K c S) (hcd : cd = 0) (hr : r = some (.inl (some (.int an)), e_hp (mT M) V W, 0, 0)) : AQ r M V W K c S cd an := by
  subst hcd
  exact AQ.mF H true 1 an hr rfl (fun _ => rfl)
theorem AQ.of (H : RK M K c S) (hcd : cd = 0) (hr : r = some (.inl (some (.int an)), e_hp M2 V W, 0, 0)) (hF : frQ (mT M) M2) (hs : RS M2) (h0 : M2 184 0 = iI 0) : AQ r M V W K c S cd an := by
  subst hcd
  exact ⟨_, _, hr, H.mT.q hF hs, (frQ_mT M).t hF, h0, fun _ => rfl⟩
/-- what fails tells when it holds, when it does not -/
theorem mm_failsT {e : Int} (h0 : M 184 0 = iI 0) (he : 0 < e ∧ e < 10) : e_lim L xs d 179 0 [some (.ref 184), some (.int (iI 1)), some (.int (iI e))] [] (e_hp M V W) = some (.inl (some (.int (iI 0))), e_hp M V W, 0, 0) := mm_fails (b := true) h0 he
theorem mm_failsF {e : Int} (h0 : M 184 0 = iI 0) (he : 0 < e ∧ e < 10) : e_lim L xs d 179 0 [some (.ref 184), some (.int (iI 0)), some (.int (iI e))] [] (e_hp M V W) = some (.inl (some (.int (iI 1))), e_hp (e_u M 184 (upd (M 184) 0 (iI e))) V W, 0, 0) := mm_fails (b := false) h0 he
theorem mm_inT {x y2 z2 : Int} (h1 : y2 ≤ x ∧ x ≤ z2) (hy : -2147483648 ≤ y2) (hz : z2 < 2147483648) : e_lim L xs d 178 0 [some (.int (iI x)), some (.int (iI y2)), some (.int (iI z2))] [] h = some (.inl (some (.int (iI 1))), h, 0, 0) := by
  rw [mm_in (by omega) (by omega) (by omega), decide_eq_true h1]
  rfl
theorem mm_inF {x y2 z2 : Int} (h1 : ¬(y2 ≤ x ∧ x ≤ z2)) (hx : i32 x) (hy : -2147483648 ≤ y2 ∧ y2 < 2147483648) (hz : -2147483648 ≤ z2 ∧ z2 < 2147483648) : e_lim L xs d 178 0 [some (.int (iI x)), some (.int (iI y2)), some (.int (iI z2))] [] h = some (.inl (some (.int (iI 0))), h, 0, 0) := by
  rw [mm_in hx hy hz, decide_eq_false h1]
  rfl
theorem mm_noOrderT (hK : e_KM M K) (hr : kR K) (h0 : M 184 0 = iI 0) {o : Int} (ho : 0 ≤ o ∧ o ≤ K 310 - 1) : e_lim L xs (d + 1) 188 0 [some (.ref 184), some (.int (iI o))] [] (e_hp M V W) = some (.inl (some (.int (iI 0))), e_hp M V W, 0, 0) := by
  have hn := hr.n
  rw [mm_noOrder hK hr h0 ⟨by omega, by omega⟩, decide_eq_true ho]
  rfl
theorem mm_noOrderF (hK : e_KM M K) (hr : kR K) (h0 : M 184 0 = iI 0) {o : Int} (h1 : i32 o) (ho : ¬(0 ≤ o ∧ o ≤ K 310 - 1)) : e_lim L xs (d + 1) 188 0 [some (.ref 184), some (.int (iI o))] [] (e_hp M V W) = some (.inl (some (.int (iI 1))), e_hp (e_u M 184 (upd (M 184) 0 (iI 1))) V W, 0, 0) := by
  rw [mm_noOrder hK hr h0 h1, decide_eq_false ho]
  rfl
theorem mm_noMachineT (h0 : M 184 0 = iI 0) {m : Int} (hm : 0 ≤ m ∧ m ≤ 3) : e_lim L xs (d + 2) 238 0 [some (.ref 184), some (.int (iI m))] [] (e_hp M V W) = some (.inl (some (.int (iI 0))), e_hp M V W, 0, 0) := by
  rw [mm_noMachine h0 ⟨by omega, by omega⟩, decide_eq_true hm]
  rfl
theorem mm_noMachineF (h0 : M 184 0 = iI 0) {m : Int} (h1 : i32 m) (hm : ¬(0 ≤ m ∧ m ≤ 3)) : e_lim L xs (d + 2) 238 0 [some (.ref 184), some (.int (iI m))] [] (e_hp M V W) = some (.inl (some (.int (iI 1))), e_hp (e_u M 184 (upd (M 184) 0 (iI 1))) V W, 0, 0) := by
  rw [mm_noMachine h0 h1, decide_eq_false hm]
  rfl
theorem mm_isMachineT {m : Int} (hm : 0 ≤ m ∧ m ≤ 3) : e_lim L xs (d + 1) 203 0 [some (.ref 184), some (.int (iI m))] [] (e_hp M V W) = some (.inl (some (.int (iI 1))), e_hp M V W, 0, 0) := by
  rw [mm_isMachine ⟨by omega, by omega⟩, decide_eq_true hm]
  rfl
theorem mm_isMachineF {m : Int} (h1 : i32 m) (hm : ¬(0 ≤ m ∧ m ≤ 3)) : e_lim L xs (d + 1) 203 0 [some (.ref 184), some (.int (iI m))] [] (e_hp M V W) = some (.inl (some (.int (iI 0))), e_hp M V W, 0, 0) := by
  rw [mm_isMachine h1, decide_eq_false hm]
  rfl
theorem mm_noWorkT (hK : e_KM M K) (hr : kR K) (h0 : M 184 0 = iI 0) {o w : Int} (ho : 0 ≤ o ∧ o ≤ K 310 - 1) (hw : 0 ≤ w ∧ w ≤ K (40 + o) - 1) : e_lim L xs (d + 2) 199 0 [some (.ref 184), some (.int (iI o)), some (.int (iI w))] [] (e_hp M V W) = some (.inl (some (.int (iI 0))), e_hp M V W, 0, 0) := by
  have hn := hr.n
  have hk := hr.wk (o := o) ho.1 (by omega)
  rw [mm_noWork hK hr h0 ⟨by omega, by omega⟩ ⟨by omega, by omega⟩, decide_eq_true ⟨ho, hw⟩]
  rfl
theorem mm_noWorkF (hK : e_KM M K) (hr : kR K) (h0 : M 184 0 = iI 0) {o w : Int} (h1 : i32 o) (h2 : i32 w) (ho : ¬((0 ≤ o ∧ o ≤ K 310 - 1) ∧ 0 ≤ w ∧ w ≤ K (40 + o) - 1)) : e_lim L xs (d + 2) 199 0 [some (.ref 184), some (.int (iI o)), some (.int (iI w))] [] (e_hp M V W) = some (.inl (some (.int (iI 1))), e_hp (e_u M 184 (upd (M 184) 0 (iI 1))) V W, 0, 0) := by
  rw [mm_noWork hK hr h0 h1 h2, decide_eq_false ho]
  rfl
/-! questions that need no times -/
def cdOO (K : e_St) (o w : Int) : Int := if 0 ≤ o ∧ o ≤ K 310 - 1 then (if 0 ≤ w ∧ w ≤ 6 then 0 else 2) else 1
def anOO (K : e_St) (o w : Int) : Int := if w = 6 then tF K o 0 else K (8 * w + o)
theorem rf_orderOf (H : RK M K c S) {o w : Int} (ho : i32 o) (hw : i32 w) : AQ (e_lim L xs (d + 2) 198 0 [some (.ref 184), some (.int (iI o)), some (.int (iI w))] [] (e_hp M V W)) M V W K c S (cdOO K o w) (iI (anOO K o w)) := by
  have hn := H.r.n
  have h0 := mT_0 M
  have hK := H.mT.km
  unfold cdOO
  by_cases hq : 0 ≤ o ∧ o ≤ K 310 - 1
  · have e1 := mm_noOrderT (L := L) (xs := xs) (d := d) (V := V) (W := W) hK H.r h0 hq
    rw [if_pos hq]
    by_cases hq2 : 0 ≤ w ∧ w ≤ 6
    · have e2 := mm_inT (L := L) (xs := xs) (d := d + 1) (h := e_hp (mT M) V W) hq2 (by omega) (by omega)
      have e3 := mm_failsT (L := L) (xs := xs) (d := d + 1) (V := V) (W := W) (e := 2) h0 (by omega)
      rw [if_pos hq2]
      refine AQ.ok H rfl ?_
      unfold anOO
      by_cases h6 : w = 6
      · have e4 := mm_timeFrom (L := L) (xs := xs) (d := d) (V := V) (W := W) hK H.r (o := o) (f := 0) (by omega) (by omega)
        subst h6
        simp (disch := first | assumption | exact e_nk_i _ | exact e_nk_n | exact e_nk_r _ | exact e_bo_0 | exact e_bo_1 | exact e_bo_b _ | omega) only [e_cl_v, e_cl_x, e_add_0, e_add_s, Option.toList_some, Option.toList_none, List.cons_append, List.nil_append, iI_add, iI_sub, iI_mul, iI_lt, iI_eq, iI_le, r198_0, r198_1, r198_2, r198_5, r198_6, r198_7, r198_10, r198_13, r198_14, r198_15, r198_16, r198_18, r198_21, r198_22, r198_25, r198_28, r198_29, r198_30, r198_31, r198_33, r198_36, r198_37, r198_38, r198_39, r198_42, r198_45, r198_46, r198_49, r198_51, r198_52, r198_53, r198_54, r198_55, r198_56, e1, e2, e3, e4]
        simp
      · have e4 := hK (8 * w + o) (by omega) (by omega)
        rw [if_neg h6]
        simp (disch := first | assumption | exact e_nk_i _ | exact e_nk_n | exact e_nk_r _ | exact e_bo_0 | exact e_bo_1 | exact e_bo_b _ | omega) only [e_cl_v, e_cl_x, e_add_0, e_add_s, Option.toList_some, Option.toList_none, List.cons_append, List.nil_append, iI_add, iI_sub, iI_mul, iI_lt, iI_eq, iI_le, r198_0, r198_1, r198_2, r198_5, r198_6, r198_7, r198_10, r198_13, r198_14, r198_15, r198_16, r198_18, r198_21, r198_22, r198_25, r198_28, r198_29, r198_30, r198_31, r198_33, r198_36, r198_37, r198_38, r198_39, r198_42, r198_45, r198_46, r198_49, r198_51, r198_52, r198_53, r198_54, r198_55, r198_56, e1, e2, e3, iI_vin, iI_nat, if_true, e4]
        simp [h6]
    · have e2 := mm_inF (L := L) (xs := xs) (d := d + 1) (h := e_hp (mT M) V W) hq2 hw (by omega) (by omega)
      have e3 := mm_failsF (L := L) (xs := xs) (d := d + 1) (V := V) (W := W) (e := 2) h0 (by omega)
      rw [if_neg hq2]
      refine AQ.bad H 2 (iI 0) (by omega) rfl ?_
      simp (disch := first | assumption | exact e_nk_i _ | exact e_nk_n | exact e_nk_r _ | exact e_bo_0 | exact e_bo_1 | exact e_bo_b _ | omega) only [e_cl_v, e_cl_x, e_add_0, e_add_s, Option.toList_some, Option.toList_none, List.cons_append, List.nil_append, iI_add, iI_sub, iI_mul, iI_lt, iI_eq, iI_le, r198_0, r198_1, r198_2, r198_5, r198_6, r198_7, r198_10, r198_13, r198_14, r198_15, r198_16, r198_18, r198_21, r198_22, r198_25, r198_28, r198_29, r198_30, r198_31, r198_33, r198_36, r198_37, r198_38, r198_39, r198_42, r198_45, r198_46, r198_49, r198_51, r198_52, r198_53, r198_54, r198_55, r198_56, e1, e2, e3]
      simp
  · have e1 := mm_noOrderF (L := L) (xs := xs) (d := d) (V := V) (W := W) hK H.r h0 ho hq
    rw [if_neg hq]
    refine AQ.bad H 1 (iI 0) (by omega) rfl ?_
    simp (disch := first | assumption | exact e_nk_i _ | exact e_nk_n | exact e_nk_r _ | exact e_bo_0 | exact e_bo_1 | exact e_bo_b _ | omega) only [e_cl_v, e_cl_x, e_add_0, e_add_s, Option.toList_some, Option.toList_none, List.cons_append, List.nil_append, iI_add, iI_sub, iI_mul, iI_lt, iI_eq, iI_le, r198_0, r198_1, r198_2, r198_5, r198_6, r198_7, r198_10, r198_13, r198_14, r198_15, r198_16, r198_18, r198_21, r198_22, r198_25, r198_28, r198_29, r198_30, r198_31, r198_33, r198_36, r198_37, r198_38, r198_39, r198_42, r198_45, r198_46, r198_49, r198_51, r198_52, r198_53, r198_54, r198_55, r198_56, e1]
    simp
end E81
