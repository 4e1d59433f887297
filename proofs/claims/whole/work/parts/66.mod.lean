section E66
variable {L : Nat} {xs : Nat → Int32} {d : Nat} {M : e_MI} {V : e_ML} {W : e_MD} {K : e_St} {h : e_H} {τ : Int → Int} {k : Int}
/-- no plan is kept -/
def gkK (K : e_St) : e_St := fun z => if 305 ≤ z ∧ z < 308 then 0 else K z
theorem mm_goesKept (hK : e_KM M K) : ∃ M2 : e_MI, e_lim L xs d 190 0 [some (.ref 184), none] [] (e_hp M V W) = some (.inl none, e_hp M2 V W, 0, 0) ∧ e_KM M2 (gkK K) ∧ frN M M2 := by
  have key := G_lp (i := 0) (n := 3) (I := fun i M1 => e_KM M1 (fun z => if 305 ≤ z ∧ z < 305 + i then 0 else K z) ∧ frN M M1) (P := fun i M1 => ∃ M2 : e_MI, e_lim L xs d 190 2 [some (.ref 184), some (.int (iI i))] [] (e_hp M1 V W) = some (.inl none, e_hp M2 V W, 0, 0) ∧ e_KM M2 (gkK K) ∧ frN M M2) (fun j M1 a b hI hc => ?_) (fun M1 hI => ?_) (by omega) M ⟨e_ar.cong hK (fun z x y => by rw [if_neg (by omega)]), fun _ _ => rfl⟩
  · obtain ⟨M2, e, r⟩ := key
    refine ⟨M2, ?_, r⟩
    rw [← e]
    simp (disch := first | assumption | exact e_nk_i _ | exact e_nk_n | exact e_nk_r _ | exact e_bo_0 | exact e_bo_1 | exact e_bo_b _ | omega) only [e_cl_v, e_cl_x, e_add_0, e_add_s, Option.toList_some, Option.toList_none, List.cons_append, List.nil_append, iI_add, iI_sub, iI_mul, iI_lt, iI_eq, iI_le, r190_0, r190_1]
  · obtain ⟨M2, e, r⟩ := hc (e_u M1 185 (upd (M1 185) (305 + j).toNat (iI 0))) ⟨e_ar.cong (KM_up hI.1 (v := 0) (by omega)) (fun z x y => by
      unfold uI
      by_cases hz : z = 305 + j
      · rw [if_pos hz, if_pos (by omega)]
      · rw [if_neg hz]
        simp only
        by_cases hw : 305 ≤ z ∧ z < 305 + j
        · rw [if_pos hw, if_pos (by omega)]
        · rw [if_neg hw, if_neg (by omega)]), hI.2.t (fun a x => e_u_n _ _ x)⟩
    refine ⟨M2, ?_, r⟩
    rw [← e, r190_2]
    simp (disch := first | assumption | exact e_nk_i _ | exact e_nk_n | exact e_nk_r _ | exact e_bo_0 | exact e_bo_1 | exact e_bo_b _ | omega) only [e_cl_v, e_cl_x, e_add_0, e_add_s, Option.toList_some, Option.toList_none, List.cons_append, List.nil_append, iI_add, iI_sub, iI_mul, iI_lt, iI_eq, iI_le, r190_3, r190_4, r190_7, r190_8, r190_11, r190_14, r190_15, r190_16, r190_17, r190_18, r190_21, iI_vin, iI_nat, if_true]
    rw [if_pos b]
  · refine ⟨M1, ?_, hI.1, hI.2⟩
    rw [r190_2]
    simp (disch := first | assumption | exact e_nk_i _ | exact e_nk_n | exact e_nk_r _ | exact e_bo_0 | exact e_bo_1 | exact e_bo_b _ | omega) only [e_cl_v, e_cl_x, e_add_0, e_add_s, Option.toList_some, Option.toList_none, List.cons_append, List.nil_append, iI_add, iI_sub, iI_mul, iI_lt, iI_eq, iI_le, r190_3, r190_4, r190_24]
    simp
/-- an order comes -/
def coK (K : e_St) (a b c e f : Int) : e_St := uI (uI (uI (uI (uI (uI (uI K (K 310) a) (8 + K 310) b) (16 + K 310) c) (24 + K 310) e) (32 + K 310) f) (40 + K 310) 0) 310 (K 310 + 1)
theorem mm_comes (hK : e_KM M K) (hn : 0 ≤ K 310 ∧ K 310 < 8) {a b c e f : Int} : ∃ M2 : e_MI, e_lim L xs (d + 1) 191 0 [some (.ref 184), some (.int (iI a)), some (.int (iI b)), some (.int (iI c)), some (.int (iI e)), some (.int (iI f)), none] [] (e_hp M V W) = some (.inl (some (.int (iI (K 310)))), e_hp M2 V W, 0, 0) ∧ e_KM M2 (coK K a b c e f) ∧ frN M M2 := by
  have e1 := mm_many (L := L) (xs := xs) (d := d) (V := V) (W := W) hK
  have e2 := hK 310 (by omega) (by omega)
  refine ⟨e_u M 185 (upd (upd (upd (upd (upd (upd (upd (M 185) (K 310).toNat (iI a)) (8 + K 310).toNat (iI b)) (16 + K 310).toNat (iI c)) (24 + K 310).toNat (iI e)) (32 + K 310).toNat (iI f)) (40 + K 310).toNat (iI 0)) (310 : Int).toNat (iI (K 310 + 1))), ?_, ?_, fun a x => e_u_n _ _ x⟩
  · simp (disch := first | assumption | exact e_nk_i _ | exact e_nk_n | exact e_nk_r _ | exact e_bo_0 | exact e_bo_1 | exact e_bo_b _ | omega) only [e_cl_v, e_cl_x, e_add_0, e_add_s, Option.toList_some, Option.toList_none, List.cons_append, List.nil_append, iI_add, iI_sub, iI_mul, iI_lt, iI_eq, iI_le, r191_0, r191_1, r191_4, r191_6, r191_7, r191_10, r191_11, r191_13, r191_14, r191_15, r191_16, r191_17, r191_20, r191_22, r191_24, r191_25, r191_26, r191_27, r191_28, r191_31, r191_33, r191_35, r191_36, r191_37, r191_38, r191_39, r191_42, r191_44, r191_46, r191_47, r191_49, r191_50, r191_51, r191_54, r191_56, r191_58, r191_59, r191_61, r191_62, r191_63, r191_66, r191_68, r191_70, r191_71, r191_72, r191_73, r191_74, r191_77, r191_80, r191_81, r191_82, r191_83, r191_84, r191_85, r191_87, iI_vin, iI_nat, if_true, Int.zero_add, e1, e_u_s, e_u_u, upd_n, e2]
  · unfold e_KM coK
    rw [e_u_s]
    exact ((((((hK.up (by omega)).up (by omega)).up (by omega)).up (by omega)).up (by omega)).up (by omega)).up (by omega)
/-- a work comes -/
def adK (K : e_St) (o m t l : Int) : e_St := uI (uI (uI (uI K (48 + (4 * o + K (40 + o))) m) (80 + (4 * o + K (40 + o))) t) (112 + (4 * o + K (40 + o))) l) (40 + o) (K (40 + o) + 1)
theorem mm_addsWork (hK : e_KM M K) {o m t l : Int} (ho : 0 ≤ o ∧ o ≤ 7) (hw : 0 ≤ K (40 + o) ∧ K (40 + o) ≤ 3) : ∃ M2 : e_MI, e_lim L xs (d + 1) 193 0 [some (.ref 184), some (.int (iI o)), some (.int (iI m)), some (.int (iI t)), some (.int (iI l)), none] [] (e_hp M V W) = some (.inl none, e_hp M2 V W, 0, 0) ∧ e_KM M2 (adK K o m t l) ∧ frN M M2 := by
  have e1 := mm_worksOf (L := L) (xs := xs) (d := d) (V := V) (W := W) hK (o := o) ho.1 (by omega)
  have e2 := hK (40 + o) (by omega) (by omega)
  refine ⟨e_u M 185 (upd (upd (upd (upd (M 185) (48 + (4 * o + K (40 + o))).toNat (iI m)) (80 + (4 * o + K (40 + o))).toNat (iI t)) (112 + (4 * o + K (40 + o))).toNat (iI l)) (40 + o).toNat (iI (K (40 + o) + 1))), ?_, ?_, fun a x => e_u_n _ _ x⟩
  · simp (disch := first | assumption | exact e_nk_i _ | exact e_nk_n | exact e_nk_r _ | exact e_bo_0 | exact e_bo_1 | exact e_bo_b _ | omega) only [e_cl_v, e_cl_x, e_add_0, e_add_s, Option.toList_some, Option.toList_none, List.cons_append, List.nil_append, iI_add, iI_sub, iI_mul, iI_lt, iI_eq, iI_le, r193_0, r193_1, r193_2, r193_3, r193_4, r193_5, r193_8, r193_9, r193_11, r193_12, r193_15, r193_17, r193_19, r193_20, r193_21, r193_22, r193_23, r193_26, r193_28, r193_30, r193_31, r193_32, r193_33, r193_34, r193_37, r193_39, r193_41, r193_42, r193_44, r193_45, r193_46, r193_49, r193_51, r193_52, r193_53, r193_54, r193_55, r193_56, r193_57, r193_58, iI_vin, iI_nat, if_true, e1, e_u_s, e_u_u, upd_n, e2]
  · unfold e_KM adK
    rw [e_u_s]
    exact (((hK.up (by omega)).up (by omega)).up (by omega)).up (by omega)
theorem mm_all2 (hK : e_KM M K) (hn : 0 ≤ K 310 ∧ K 310 ≤ 8) : e_lim L xs (d + 1) 185 0 [some (.ref 184), none, none] [] (e_hp M V W) = some (.inl (some (.int (iI (aW K)))), e_hp M V W, 0, 0) := by
  simp (disch := first | assumption | exact e_nk_i _ | exact e_nk_n | exact e_nk_r _ | exact e_bo_0 | exact e_bo_1 | exact e_bo_b _ | omega) only [e_cl_v, e_cl_x, e_add_0, e_add_s, Option.toList_some, Option.toList_none, List.cons_append, List.nil_append, iI_add, iI_sub, iI_mul, iI_lt, iI_eq, iI_le, r185_0, r185_1, r185_2, r185_3, r185_5, r185_6, r185_9, r185_12, r185_13, r185_14, r185_15, r185_18, r185_19, r185_20, r185_23, r185_26, r185_27]
  refine G_loopI (C := fun i => e_lim L xs (d + 1) 185 4 [some (.ref 184), some (.int (iI (SU (fun o => K (40 + o)) i))), some (.int (iI i))] [] (e_hp M V W)) hn.1 (fun j h1 h2 hc => ?_) ?_
  · have hs := SU_s (fun o => K (40 + o)) h1
    rw [← hc, hs]
    rw [r185_4]
    simp (disch := first | assumption | exact e_nk_i _ | exact e_nk_n | exact e_nk_r _ | exact e_bo_0 | exact e_bo_1 | exact e_bo_b _ | omega) only [e_cl_v, e_cl_x, e_add_0, e_add_s, Option.toList_some, Option.toList_none, List.cons_append, List.nil_append, iI_add, iI_sub, iI_mul, iI_lt, iI_eq, iI_le, r185_0, r185_1, r185_2, r185_3, r185_5, r185_6, r185_9, r185_12, r185_13, r185_14, r185_15, r185_18, r185_19, r185_20, r185_23, r185_26, r185_27, mm_many hK, mm_worksOf hK]
    rw [if_pos (by omega)]
  · rw [r185_4]
    simp (disch := first | assumption | exact e_nk_i _ | exact e_nk_n | exact e_nk_r _ | exact e_bo_0 | exact e_bo_1 | exact e_bo_b _ | omega) only [e_cl_v, e_cl_x, e_add_0, e_add_s, Option.toList_some, Option.toList_none, List.cons_append, List.nil_append, iI_add, iI_sub, iI_mul, iI_lt, iI_eq, iI_le, r185_0, r185_1, r185_2, r185_3, r185_5, r185_6, r185_9, r185_12, r185_13, r185_14, r185_15, r185_18, r185_19, r185_20, r185_23, r185_26, r185_27, mm_many hK]
    rw [if_neg (by omega)]
    rfl
theorem aW_rwS (K : e_St) (r : Int → Int) (hn : K 310 ≤ 8) : aW (rwS K r) = aW K := by
  unfold aW
  rw [rwS_n (by omega)]
  exact SU_cong (fun i a b => rwS_n (by omega))
/-- the present row comes out of tried -/
theorem mm_takesTried (hK : e_KM M K) (hr : kR K) (hn : 0 ≤ aW K ∧ aW K ≤ 16) (ht : e_ar (M 192) (aW K) τ) : ∃ M2 : e_MI, e_lim L xs (d + 2) 266 0 [some (.ref 184), none] [] (e_hp M V W) = some (.inl none, e_hp M2 V W, 0, 0) ∧ e_KM M2 (rwS K (fun p => if p < aW K then τ p else K (241 + p))) ∧ frN M M2 := by
  have key := G_lp (i := 0) (n := aW K) (I := fun i M1 => e_KM M1 (rwS K (fun p => if p < i then τ p else K (241 + p))) ∧ frN M M1) (P := fun i M1 => ∃ M2 : e_MI, e_lim L xs (d + 2) 266 2 [some (.ref 184), some (.int (iI i))] [] (e_hp M1 V W) = some (.inl none, e_hp M2 V W, 0, 0) ∧ e_KM M2 (rwS K (fun p => if p < aW K then τ p else K (241 + p))) ∧ frN M M2) (fun j M1 a b hI hc => ?_) (fun M1 hI => ?_) hn.1 M ⟨e_ar.cong hK (fun z x y => by
      unfold rwS
      split
      · simp only
        rw [if_neg (by omega), show 241 + (z - 241) = z by omega]
      · rfl), fun _ _ => rfl⟩
  · obtain ⟨M2, e, r⟩ := key
    refine ⟨M2, ?_, r⟩
    rw [← e]
    simp (disch := first | assumption | exact e_nk_i _ | exact e_nk_n | exact e_nk_r _ | exact e_bo_0 | exact e_bo_1 | exact e_bo_b _ | omega) only [e_cl_v, e_cl_x, e_add_0, e_add_s, Option.toList_some, Option.toList_none, List.cons_append, List.nil_append, iI_add, iI_sub, iI_mul, iI_lt, iI_eq, iI_le, r266_0, r266_1]
  · have e1 : e_lim L xs (d + 1) 185 0 [some (.ref 184), none, none] [] (e_hp M1 V W) = some (.inl (some (.int (iI (aW K)))), e_hp M1 V W, 0, 0) := by
      have := mm_all2 (L := L) (xs := xs) (d := d) (V := V) (W := W) hI.1 (by rw [rwS_n (by omega)]; exact hr.n)
      rw [aW_rwS K _ hr.n.2] at this
      exact this
    have e2 := ht j a b
    rw [← hI.2 192 (by decide)] at e2
    obtain ⟨M2, e, r⟩ := hc (e_u M1 185 (upd (M1 185) (241 + j).toNat (iI (τ j)))) ⟨e_ar.cong (KM_up hI.1 (v := τ j) (by omega)) (fun z x y => by
      rw [rwS_up a (by omega)]
      unfold rwS uI
      split
      · simp only
        by_cases hz : z - 241 = j
        · rw [if_pos hz, if_pos (by omega), hz]
        · rw [if_neg hz]
          by_cases hw : z - 241 < j
          · rw [if_pos hw, if_pos (by omega)]
          · rw [if_neg hw, if_neg (by omega)]
      · rfl), hI.2.t (fun a x => e_u_n _ _ x)⟩
    refine ⟨M2, ?_, r⟩
    rw [← e, r266_2]
    simp (disch := first | assumption | exact e_nk_i _ | exact e_nk_n | exact e_nk_r _ | exact e_bo_0 | exact e_bo_1 | exact e_bo_b _ | omega) only [e_cl_v, e_cl_x, e_add_0, e_add_s, Option.toList_some, Option.toList_none, List.cons_append, List.nil_append, iI_add, iI_sub, iI_mul, iI_lt, iI_eq, iI_le, r266_3, r266_4, r266_7, r266_10, r266_11, r266_14, r266_17, r266_18, r266_19, r266_20, r266_23, r266_24, r266_25, r266_26, r266_29, iI_vin, iI_nat, if_true, e1, e2]
    rw [if_pos b]
  · refine ⟨M1, ?_, hI.1, hI.2⟩
    have e1 : e_lim L xs (d + 1) 185 0 [some (.ref 184), none, none] [] (e_hp M1 V W) = some (.inl (some (.int (iI (aW K)))), e_hp M1 V W, 0, 0) := by
      have := mm_all2 (L := L) (xs := xs) (d := d) (V := V) (W := W) hI.1 (by rw [rwS_n (by omega)]; exact hr.n)
      rw [aW_rwS K _ hr.n.2] at this
      exact this
    rw [r266_2]
    simp (disch := first | assumption | exact e_nk_i _ | exact e_nk_n | exact e_nk_r _ | exact e_bo_0 | exact e_bo_1 | exact e_bo_b _ | omega) only [e_cl_v, e_cl_x, e_add_0, e_add_s, Option.toList_some, Option.toList_none, List.cons_append, List.nil_append, iI_add, iI_sub, iI_mul, iI_lt, iI_eq, iI_le, r266_3, r266_4, r266_7, r266_32, e1]
    rw [if_neg (by omega)]
end E66
