section E63
variable {L : Nat} {xs : Nat → Int32} {d : Nat} {M : e_MI} {V : e_ML} {W : e_MD} {K : e_St} {h : e_H} {ρ ω β ε ρ2 ω2 β2 ε2 τ : Int → Int} {k : Int}
/-- whether an order stands ahead of another on two machines -/
def isT (K : e_St) (a b o p : Int) : Bool := if decide (tO K o a < tO K o b) = decide (tO K p a < tO K p b) then (if tO K o a < tO K o b then decide (tO K o a < tO K p a) else decide (tO K p b < tO K o b)) else decide (tO K o a < tO K o b)
theorem bI_eq (a b : Bool) : bI a = bI b ↔ a = b := by cases a <;> cases b <;> decide
theorem mm_isTwoAhead (hK : e_KM M K) (hr : kR K) {m m2 o p : Int} (hm : 0 ≤ m ∧ m ≤ 3) (hm2 : 0 ≤ m2 ∧ m2 ≤ 3) (ho : 0 ≤ o ∧ o ≤ 7) (hp : 0 ≤ p ∧ p ≤ 7) : e_lim L xs (d + 2) 256 0 [some (.ref 184), some (.int (iI o)), some (.int (iI p)), some (.int (iI m)), some (.int (iI m2)), none, none] [] (e_hp M V W) = some (.inl (some (.int (bI (isT K m m2 o p)))), e_hp M V W, 0, 0) := by
  have e1 := mm_timeOn (L := L) (xs := xs) (d := d) (V := V) (W := W) hK hr (o := o) (m := m) ho hm
  have e2 := mm_timeOn (L := L) (xs := xs) (d := d) (V := V) (W := W) hK hr (o := o) (m := m2) ho hm2
  have e3 := mm_timeOn (L := L) (xs := xs) (d := d) (V := V) (W := W) hK hr (o := p) (m := m) hp hm
  have e4 := mm_timeOn (L := L) (xs := xs) (d := d) (V := V) (W := W) hK hr (o := p) (m := m2) hp hm2
  have r1 := tO_rg hr (o := o) (m := m) ho
  have r2 := tO_rg hr (o := o) (m := m2) ho
  have r3 := tO_rg hr (o := p) (m := m) hp
  have r4 := tO_rg hr (o := p) (m := m2) hp
  unfold isT
  generalize tO K o m = a at *
  generalize tO K o m2 = b at *
  generalize tO K p m = a2 at *
  generalize tO K p m2 = b2 at *
  simp (disch := first | assumption | exact e_nk_i _ | exact e_nk_n | exact e_nk_r _ | exact e_bo_0 | exact e_bo_1 | exact e_bo_b _ | omega) only [e_cl_v, e_cl_x, e_add_0, e_add_s, Option.toList_some, Option.toList_none, List.cons_append, List.nil_append, iI_add, iI_sub, iI_mul, iI_lt, iI_eq, iI_le, r256_0, r256_1, r256_2, r256_3, r256_6, r256_7, r256_8, r256_10, r256_13, r256_16, r256_17, r256_20, r256_21, r256_23, r256_24, r256_25, r256_26, r256_29, r256_30, r256_31, r256_33, r256_36, r256_39, r256_40, r256_43, r256_44, r256_46, r256_48, r256_50, r256_53, r256_55, r256_56, r256_58, r256_61, r256_62, r256_63, r256_64, r256_67, r256_68, r256_69, r256_70, r256_73, r256_76, r256_77, r256_80, r256_81, r256_84, r256_85, r256_86, r256_88, r256_91, r256_92, r256_93, r256_95, r256_98, r256_101, r256_102, r256_105, r256_106, e1, e2, e3, e4, if_true]
  by_cases z1 : a < b
  · by_cases z2 : a2 < b2
    · by_cases z3 : a < a2
      · simp [z1, z2, z3, bI, iI_eq]
      · simp [z1, z2, z3, bI, iI_eq]
    · simp [z1, z2, bI, iI_eq]
  · by_cases z2 : a2 < b2
    · simp [z1, z2, bI, iI_eq]
    · by_cases z3 : b2 < b
      · simp [z1, z2, z3, bI, iI_eq]
      · simp [z1, z2, z3, bI, iI_eq]
def frW (M M2 : e_MI) : Prop := (∀ a, a ≠ 184 → a ≠ 198 → M2 a = M a) ∧ ∀ j, j ≠ 20 → M2 184 j = M 184 j
theorem frW.t {M2 M3 : e_MI} (h : frW M M2) (h2 : frW M2 M3) : frW M M3 := ⟨fun a x0 x1 => by rw [h2.1 a x0 x1, h.1 a x0 x1], fun j x0 => by rw [h2.2 j x0, h.2 j x0]⟩
theorem frW.KM {M2 : e_MI} (h : frW M M2) (hK : e_KM M K) : e_KM M2 K := by
  unfold e_KM
  rw [h.1 _ (by decide) (by decide)]
  exact hK
/-- the orders that two machines take -/
def twoL (K : e_St) (m m2 : Int) : List Int := rowL (isT K m m2) (fun o => decide (tO K o m + tO K o m2 ≠ 0)) (K 310).toNat
theorem mm_twoIn (hr : kR K) {m o m2 : Int} (hm : 0 ≤ m ∧ m ≤ 3) (hm2 : 0 ≤ m2 ∧ m2 ≤ 3) (ho : 0 ≤ o ∧ o ≤ 7) : ∀ (a b : List Int) (M : e_MI), e_KM M K → (∀ x ∈ a, 0 ≤ x ∧ x ≤ 7) → a.length + b.length ≤ 7 → M 184 20 = iI ((a.length + b.length : Nat) : Int) → e_ho (M 198) a.reverse b → ∃ (M2 : e_MI) (z : Int32), e_lim L xs (d + 3) 257 40 [some (.ref 184), some (.int (iI m)), some (.int (iI m2)), some (.int (iI o)), some (.int (iI (a.length : Int)))] [] (e_hp M V W) = e_lim L xs (d + 3) 257 104 [some (.ref 184), some (.int (iI m)), some (.int (iI m2)), some (.int (iI o)), some (.int z)] [] (e_hp M2 V W) ∧ e_la (M2 198) (insG (isT K m m2) o a b) ∧ (∀ x, x ≠ 184 → x ≠ 198 → M2 x = M x) ∧ (∀ j, j ≠ 20 → M2 184 j = M 184 j) ∧ M2 184 20 = iI ((a.length + b.length + 1 : Nat) : Int)
  | [], b, M, hK, ha, hl, hc, hh => by
    refine ⟨e_u (e_u M 198 (upd (M 198) 0 (iI o))) 184 (upd (M 184) 20 (iI ((b.length + 1 : Nat) : Int))), iI 0, ?_, ?_, fun x y z => ?_, fun j y => ?_, ?_⟩
    · rw [show (([] : List Int).length : Int) = 0 from rfl]
      rw [List.length_nil, Nat.zero_add] at hc
      simp (disch := first | assumption | exact e_nk_i _ | exact e_nk_n | exact e_nk_r _ | exact e_bo_0 | exact e_bo_1 | exact e_bo_b _ | omega) only [e_cl_v, e_cl_x, e_add_0, e_add_s, Option.toList_some, Option.toList_none, List.cons_append, List.nil_append, iI_add, iI_sub, iI_mul, iI_lt, iI_eq, iI_le, r257_40, r257_42, r257_45, r257_46, r257_47, r257_48, r257_51, r257_53, r257_54, r257_55, r257_56, r257_57, r257_58, r257_61, r257_64, r257_65, r257_68, r257_70, r257_71, r257_74, r257_76, r257_77, r257_78, r257_79, r257_80, r257_83, r257_86, r257_87, r257_90, r257_92, r257_93, r257_94, r257_95, r257_96, r257_99, r257_100, r257_101, iI_vin, iI_nat, if_true, e_u_n, hc]
      simp
    · rw [e_u_n _ _ (by decide), e_u_s]
      exact ho_pu (a := []) hh
    · rw [e_u_n _ _ y, e_u_n _ _ z]
    · rw [e_u_s, upd_n _ _ y]
    · rw [e_u_s, upd_s, List.length_nil, Nat.zero_add]
  | x :: a, b, M, hK, ha, hl, hc, hh => by
    rw [List.length_cons] at hl hc
    have hx := ha x (List.mem_cons_self)
    have e1 := mm_isTwoAhead (L := L) (xs := xs) (d := d) (V := V) (W := W) hK hr (m := m) (o := o) (p := x) (m2 := m2) hm hm2 ho hx
    have hat : M 198 a.length = iI x := by
      have := hh
      rw [List.reverse_cons] at this
      have := ho_at this
      rw [List.length_reverse] at this
      exact this
    have hn : ((a.length + 1 : Nat) : Int) - 1 = (a.length : Int) := by omega
    have ht : (((a.length + 1 : Nat) : Int)).toNat = a.length + 1 := by omega
    have ht2 : ((a.length : Int)).toNat = a.length := by omega
    by_cases hq : isT K m m2 o x = true
    · obtain ⟨M2, z, e, r1, r2, r3, r4⟩ := mm_twoIn hr hm hm2 ho a (x :: b) (e_u M 198 (upd (M 198) (a.length + 1) (iI x))) (by unfold e_KM; rw [e_u_n _ _ (by decide)]; exact hK) (fun y hy => ha y (List.mem_cons_of_mem x hy)) (by rw [List.length_cons]; omega) (by rw [e_u_n _ _ (by decide), hc, List.length_cons]; congr 1; omega) (by
        rw [e_u_s]
        have h1 := hh
        rw [List.reverse_cons] at h1
        have := ho_mv h1
        rw [List.length_reverse] at this
        exact this)
      refine ⟨M2, z, ?_, ?_, fun y u w => by rw [r2 y u w, e_u_n _ _ w], fun j u => by rw [r3 j u, e_u_n _ _ (by decide)], by rw [r4, List.length_cons, List.length_cons]; congr 1; omega⟩
      · rw [← e]
        rw [hq] at e1
        rw [List.length_cons]
        rw [r257_40]
        simp (disch := first | assumption | exact e_nk_i _ | exact e_nk_n | exact e_nk_r _ | exact e_bo_0 | exact e_bo_1 | exact e_bo_b _ | omega) only [e_cl_v, e_cl_x, e_add_0, e_add_s, Option.toList_some, Option.toList_none, List.cons_append, List.nil_append, iI_add, iI_sub, iI_mul, iI_lt, iI_eq, iI_le, r257_42, r257_45, r257_46, r257_47, r257_48, r257_51, r257_53, r257_54, r257_55, r257_56, r257_57, r257_58, r257_61, r257_64, r257_65, r257_68, r257_70, r257_71, r257_74, r257_76, r257_77, r257_78, r257_79, r257_80, r257_83, iI_vin, iI_nat, if_true, hn, ht, ht2, hat, e1, bI_0]
        rw [if_neg (by omega)]
        simp
        rw [show (a.length : Int) + 1 + -1 = a.length by omega]
      · unfold insG
        rw [if_pos hq]
        exact r1
    · have hqf : isT K m m2 o x = false := by simpa using hq
      refine ⟨e_u (e_u M 198 (upd (M 198) (a.length + 1) (iI o))) 184 (upd (M 184) 20 (iI ((a.length + 1 + b.length + 1 : Nat) : Int))), iI ((a.length + 1 : Nat) : Int), ?_, ?_, fun x y z => ?_, fun j y => ?_, ?_⟩
      · rw [hqf] at e1
        rw [List.length_cons]
        simp (disch := first | assumption | exact e_nk_i _ | exact e_nk_n | exact e_nk_r _ | exact e_bo_0 | exact e_bo_1 | exact e_bo_b _ | omega) only [e_cl_v, e_cl_x, e_add_0, e_add_s, Option.toList_some, Option.toList_none, List.cons_append, List.nil_append, iI_add, iI_sub, iI_mul, iI_lt, iI_eq, iI_le, r257_40, r257_42, r257_45, r257_46, r257_47, r257_48, r257_51, r257_53, r257_54, r257_55, r257_56, r257_57, r257_58, r257_61, r257_64, r257_65, r257_68, r257_70, r257_71, r257_74, r257_76, r257_77, r257_78, r257_79, r257_80, r257_83, r257_86, r257_87, r257_90, r257_92, r257_93, r257_94, r257_95, r257_96, r257_99, r257_100, r257_101, iI_vin, iI_nat, if_true, hn, ht, ht2, hat, e1, bI_0, e_u_n, hc]
        rw [if_neg (by omega)]
        simp
      · rw [e_u_n _ _ (by decide), e_u_s]
        unfold insG
        rw [if_neg hq]
        have := ho_pu (o := o) hh
        rw [List.length_reverse, List.length_cons] at this
        exact this
      · rw [e_u_n _ _ y, e_u_n _ _ z]
      · rw [e_u_s, upd_n _ _ y]
      · rw [e_u_s, upd_s, List.length_cons]
theorem mm_rowsTwo (hK : e_KM M K) (hr : kR K) {m m2 : Int} (hm : 0 ≤ m ∧ m ≤ 3) (hm2 : 0 ≤ m2 ∧ m2 ≤ 3) : ∃ M2 : e_MI, e_lim L xs (d + 3) 257 0 [some (.ref 184), some (.int (iI m)), some (.int (iI m2)), none, none] [] (e_hp M V W) = some (.inl none, e_hp M2 V W, 0, 0) ∧ e_la (M2 198) (twoL K m m2) ∧ frW M M2 ∧ M2 184 20 = iI ((twoL K m m2).length : Int) := by
  have hn := hr.n
  have key := G_lp (i := 0) (n := K 310) (I := fun i M1 => e_la (M1 198) (rowL (isT K m m2) (fun o => decide (tO K o m + tO K o m2 ≠ 0)) i.toNat) ∧ frW M M1 ∧ M1 184 20 = iI ((rowL (isT K m m2) (fun o => decide (tO K o m + tO K o m2 ≠ 0)) i.toNat).length : Int)) (P := fun i M1 => ∃ M2 : e_MI, e_lim L xs (d + 3) 257 7 [some (.ref 184), some (.int (iI m)), some (.int (iI m2)), some (.int (iI i)), none] [] (e_hp M1 V W) = some (.inl none, e_hp M2 V W, 0, 0) ∧ e_la (M2 198) (twoL K m m2) ∧ frW M M2 ∧ M2 184 20 = iI ((twoL K m m2).length : Int)) (fun j M1 a b hI hc => ?_) (fun M1 hI => ?_) hn.1 (e_u M 184 (upd (M 184) 20 (iI 0))) ⟨fun i x hx => by simp [rowL] at hx, ⟨fun a x y => e_u_n _ _ x, fun j x => by rw [e_u_s, upd_n _ _ x]⟩, by rw [e_u_s, upd_s]; rfl⟩
  · obtain ⟨M2, e, r⟩ := key
    refine ⟨M2, ?_, r⟩
    rw [← e]
    simp (disch := first | assumption | exact e_nk_i _ | exact e_nk_n | exact e_nk_r _ | exact e_bo_0 | exact e_bo_1 | exact e_bo_b _ | omega) only [e_cl_v, e_cl_x, e_add_0, e_add_s, Option.toList_some, Option.toList_none, List.cons_append, List.nil_append, iI_add, iI_sub, iI_mul, iI_lt, iI_eq, iI_le, r257_0, r257_1, r257_2, r257_5, r257_6, e_u_u, e_u_s]
  · obtain ⟨i1, i2, i4⟩ := hI
    have hK1 := i2.KM hK
    have e1 := mm_many (L := L) (xs := xs) (d := d + 2) (V := V) (W := W) hK1
    have e2 := mm_timeOn (L := L) (xs := xs) (d := d + 1) (V := V) (W := W) hK1 hr (o := j) (m := m) (by omega) hm
    have r2 := tO_rg hr (o := j) (m := m) (by omega)
    have e2b := mm_timeOn (L := L) (xs := xs) (d := d + 1) (V := V) (W := W) hK1 hr (o := j) (m := m2) (by omega) hm2
    have r2b := tO_rg hr (o := j) (m := m2) (by omega)
    have hlen := rowL_len (isT K m m2) (fun o => decide (tO K o m + tO K o m2 ≠ 0)) j.toNat
    have hst : rowL (isT K m m2) (fun o => decide (tO K o m + tO K o m2 ≠ 0)) (j + 1).toNat = if decide (tO K j m + tO K j m2 ≠ 0) = true then insS (isT K m m2) j (rowL (isT K m m2) (fun o => decide (tO K o m + tO K o m2 ≠ 0)) j.toNat) else rowL (isT K m m2) (fun o => decide (tO K o m + tO K o m2 ≠ 0)) j.toNat := by
      rw [show (j + 1).toNat = j.toNat + 1 by omega]
      show (if decide (tO K (j.toNat : Int) m + tO K (j.toNat : Int) m2 ≠ 0) = true then insS (isT K m m2) (j.toNat : Int) _ else _) = _
      rw [Int.toNat_of_nonneg a]
    rw [hst] at hc
    by_cases hq : tO K j m + tO K j m2 = 0
    · rw [if_neg (by simp [hq])] at hc
      obtain ⟨M2, e, r⟩ := hc M1 ⟨i1, i2, i4⟩
      refine ⟨M2, ?_, r⟩
      rw [← e, r257_7]
      simp (disch := first | assumption | exact e_nk_i _ | exact e_nk_n | exact e_nk_r _ | exact e_bo_0 | exact e_bo_1 | exact e_bo_b _ | omega) only [e_cl_v, e_cl_x, e_add_0, e_add_s, Option.toList_some, Option.toList_none, List.cons_append, List.nil_append, iI_add, iI_sub, iI_mul, iI_lt, iI_eq, iI_le, r257_8, r257_9, r257_12, r257_15, r257_16, r257_17, r257_18, r257_21, r257_22, r257_23, r257_24, r257_27, r257_28, r257_31, r257_104, r257_107, e1, e2, e2b]
      rw [if_pos b, hq]
      simp
    · rw [if_pos (by simp [hq])] at hc
      have hmem : ∀ x ∈ (rowL (isT K m m2) (fun o => decide (tO K o m + tO K o m2 ≠ 0)) j.toNat).reverse, 0 ≤ x ∧ x ≤ 7 := fun x hx => by
        rw [List.mem_reverse, rowL_mem] at hx
        omega
      obtain ⟨M2, z, e, r1, r2, r3, r4⟩ := mm_twoIn (L := L) (xs := xs) (d := d) (V := V) (W := W) hr (m := m) (o := j) (m2 := m2) hm hm2 (by omega) (rowL (isT K m m2) (fun o => decide (tO K o m + tO K o m2 ≠ 0)) j.toNat).reverse [] M1 hK1 hmem (by rw [List.length_reverse, List.length_nil]; omega) (by rw [i4, List.length_reverse, List.length_nil]; rfl) (by rw [List.reverse_reverse]; exact ho_in i1)
      have hF2 : frW M M2 := i2.t ⟨fun a x y => r2 a x y, fun j x => r3 j x⟩
      obtain ⟨M3, e3, r⟩ := hc M2 ⟨r1, hF2, by
        rw [r4, (insS_perm (isT K m m2) j _).length_eq, List.length_reverse, List.length_nil, List.length_cons]⟩
      refine ⟨M3, ?_, r⟩
      have e4 : e_lim L xs (d + 3) 257 104 [some (.ref 184), some (.int (iI m)), some (.int (iI m2)), some (.int (iI j)), some (.int z)] [] (e_hp M2 V W) = some (.inl none, e_hp M3 V W, 0, 0) := by
        simp (disch := first | assumption | exact e_nk_i _ | exact e_nk_n | exact e_nk_r _ | exact e_bo_0 | exact e_bo_1 | exact e_bo_b _ | omega) only [e_cl_v, e_cl_x, e_add_0, e_add_s, Option.toList_some, Option.toList_none, List.cons_append, List.nil_append, iI_add, iI_sub, iI_mul, iI_lt, iI_eq, iI_le, r257_104, r257_107]
        exact G_less (by repeat (first | exact e_ll.rf | refine e_ll_c ?_ | refine e_ll_x ?_)) e3
      rw [← e4, ← e, r257_7]
      rw [List.length_reverse]
      simp (disch := first | assumption | exact e_nk_i _ | exact e_nk_n | exact e_nk_r _ | exact e_bo_0 | exact e_bo_1 | exact e_bo_b _ | omega) only [e_cl_v, e_cl_x, e_add_0, e_add_s, Option.toList_some, Option.toList_none, List.cons_append, List.nil_append, iI_add, iI_sub, iI_mul, iI_lt, iI_eq, iI_le, r257_8, r257_9, r257_12, r257_15, r257_16, r257_17, r257_18, r257_21, r257_22, r257_23, r257_24, r257_27, r257_28, r257_31, r257_34, r257_35, r257_38, e1, e2, e2b, i4]
      rw [if_pos b, if_neg hq]
  · obtain ⟨i1, i2, i4⟩ := hI
    have hK1 := i2.KM hK
    have e1 := mm_many (L := L) (xs := xs) (d := d + 2) (V := V) (W := W) hK1
    refine ⟨M1, ?_, i1, i2, i4⟩
    rw [r257_7]
    simp (disch := first | assumption | exact e_nk_i _ | exact e_nk_n | exact e_nk_r _ | exact e_bo_0 | exact e_bo_1 | exact e_bo_b _ | omega) only [e_cl_v, e_cl_x, e_add_0, e_add_s, Option.toList_some, Option.toList_none, List.cons_append, List.nil_append, iI_add, iI_sub, iI_mul, iI_lt, iI_eq, iI_le, r257_8, r257_9, r257_12, r257_110, e1]
    rw [if_neg (by omega)]
end E63
