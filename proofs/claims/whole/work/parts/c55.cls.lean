section Ec55
variable {L : Nat} {xs : Nat → Int32} {d : Nat} {M M2 M3 : e_MI} {V V2 : e_ML} {W : e_MD} {K K1 K2 : e_St} {S : Int → e_St} {h : e_H} {t t2 b2 : Nat} {c o w z m k q p i f e mc tl T x y v N n : Int} {sc bb : Bool} {l : List Int} {ρ ν μ χ β ε τ τ2 u : Int → Int}
/-! one machine's questions, two machines, in the class -/
theorem x_weighted (H : CK M K c S) (hg : kG K) (hm : i32 m) : ∃ M2 : e_MI, e_lim L xs (d + 5) 134 0 [some (.ref 0), some (.int (iI m))] [] (e_hp M V W) = (if 0 ≤ m ∧ m ≤ 3 then some (.inl (some (.int (iI (wtW K m)))), e_hp M2 V W, 0, 0) else some (.inr 0, e_hp M2 V W, 1, 6)) ∧ CK M2 K c S ∧ ∀ a, 178 < a → M2 a = M a := by
  have hr := hg.1
  have e0 := m_isMachine (L := L) (xs := xs) (d := d + 3) (M := M) (V := V) (W := W) (z := m) hm
  have r1 := m_requireArgument (L := L) (xs := xs) (d := d + 4) (h := e_hp M V W) (decide (0 ≤ m ∧ m ≤ 3))
  by_cases h0 : 0 ≤ m ∧ m ≤ 3
  · rw [if_pos (decide_eq_true h0)] at r1
    obtain ⟨M2, e1, ⟨g1, g2, g3, g4⟩, hf⟩ := o_arrange (L := L) (xs := xs) (d := d) (V := V) (W := W) H.sh hr h0 (w := 0) (by omega)
    have gi := wyL_in hr m 0
    have H2 : CK M2 K c S := H.of fun a x y => hf a (by omega)
    have e2 := o_sumEnds (L := L) (xs := xs) (d := d + 2) (V := V) (W := W) H2.sh hr g4 gi.2 gi.1 g1 g2
    have hw : wyL K m 0 = oneL K m true := rfl
    rw [hw] at e2
    refine ⟨M2, ?_, H2, fun a y => hf a (by omega)⟩
    rw [if_pos h0]
    simp (disch := first | assumption | exact e_nk_i _ | exact e_nk_n | exact e_nk_r _ | exact e_bo_0 | exact e_bo_1 | exact e_bo_b _ | omega) only [e_cl_v, e_cl_x, e_add_0, e_add_s, Option.toList_some, Option.toList_none, List.cons_append, List.nil_append, iI_add, iI_sub, iI_mul, iI_lt, iI_eq, iI_le, r134_0, r134_1, r134_4, r134_7, r134_8, r134_11, r134_12, r134_15, r134_16, r134_17, r134_20, r134_21, r134_24, r134_25, r134_28, r134_31, e0, r1, e1, e2]
    rfl
  · rw [if_neg (by rw [decide_eq_true_eq]; exact h0)] at r1
    refine ⟨M, ?_, H, fun _ _ => rfl⟩
    rw [if_neg h0]
    simp (disch := first | assumption | exact e_nk_i _ | exact e_nk_n | exact e_nk_r _ | exact e_bo_0 | exact e_bo_1 | exact e_bo_b _ | omega) only [e_cl_v, e_cl_x, e_add_0, e_add_s, Option.toList_some, Option.toList_none, List.cons_append, List.nil_append, iI_add, iI_sub, iI_mul, iI_lt, iI_eq, iI_le, r134_0, r134_1, r134_4, r134_7, r134_8, r134_11, r134_12, r134_15, r134_16, r134_17, r134_20, r134_21, r134_24, r134_25, r134_28, r134_31, e0, r1]
theorem x_lateness (H : CK M K c S) (hg : kG K) (hm : i32 m) : ∃ M2 : e_MI, e_lim L xs (d + 5) 135 0 [some (.ref 0), some (.int (iI m))] [] (e_hp M V W) = (if 0 ≤ m ∧ m ≤ 3 then some (.inl (some (.int (iI (ltW K m)))), e_hp M2 V W, 0, 0) else some (.inr 0, e_hp M2 V W, 1, 6)) ∧ CK M2 K c S ∧ ∀ a, 178 < a → M2 a = M a := by
  have hr := hg.1
  have e0 := m_isMachine (L := L) (xs := xs) (d := d + 3) (M := M) (V := V) (W := W) (z := m) hm
  have r1 := m_requireArgument (L := L) (xs := xs) (d := d + 4) (h := e_hp M V W) (decide (0 ≤ m ∧ m ≤ 3))
  by_cases h0 : 0 ≤ m ∧ m ≤ 3
  · rw [if_pos (decide_eq_true h0)] at r1
    obtain ⟨M2, e1, ⟨g1, g2, g3, g4⟩, hf⟩ := o_arrange (L := L) (xs := xs) (d := d) (V := V) (W := W) H.sh hr h0 (w := 1) (by omega)
    have gi := wyL_in hr m 1
    have H2 : CK M2 K c S := H.of fun a x y => hf a (by omega)
    have e2 := o_lateness (L := L) (xs := xs) (d := d + 2) (V := V) (W := W) H2.sh hr g4 gi.2 gi.1 g1 g2
    have hw : wyL K m 1 = oneL K m false := rfl
    rw [hw] at e2
    refine ⟨M2, ?_, H2, fun a y => hf a (by omega)⟩
    rw [if_pos h0]
    simp (disch := first | assumption | exact e_nk_i _ | exact e_nk_n | exact e_nk_r _ | exact e_bo_0 | exact e_bo_1 | exact e_bo_b _ | omega) only [e_cl_v, e_cl_x, e_add_0, e_add_s, Option.toList_some, Option.toList_none, List.cons_append, List.nil_append, iI_add, iI_sub, iI_mul, iI_lt, iI_eq, iI_le, r135_0, r135_1, r135_4, r135_7, r135_8, r135_11, r135_12, r135_15, r135_16, r135_17, r135_20, r135_21, r135_24, r135_25, r135_28, r135_31, e0, r1, e1, e2]
    rfl
  · rw [if_neg (by rw [decide_eq_true_eq]; exact h0)] at r1
    refine ⟨M, ?_, H, fun _ _ => rfl⟩
    rw [if_neg h0]
    simp (disch := first | assumption | exact e_nk_i _ | exact e_nk_n | exact e_nk_r _ | exact e_bo_0 | exact e_bo_1 | exact e_bo_b _ | omega) only [e_cl_v, e_cl_x, e_add_0, e_add_s, Option.toList_some, Option.toList_none, List.cons_append, List.nil_append, iI_add, iI_sub, iI_mul, iI_lt, iI_eq, iI_le, r135_0, r135_1, r135_4, r135_7, r135_8, r135_11, r135_12, r135_15, r135_16, r135_17, r135_20, r135_21, r135_24, r135_25, r135_28, r135_31, e0, r1]
theorem x_fewestLate (H : CK M K c S) (hg : kG K) (hm : i32 m) : ∃ M2 : e_MI, e_lim L xs (d + 5) 136 0 [some (.ref 0), some (.int (iI m))] [] (e_hp M V W) = (if 0 ≤ m ∧ m ≤ 3 then some (.inl (some (.int (iI ((goW K m).2.length : Int)))), e_hp M2 V W, 0, 0) else some (.inr 0, e_hp M2 V W, 1, 6)) ∧ CK M2 K c S ∧ ∀ a, 178 < a → M2 a = M a := by
  have hr := hg.1
  have e0 := m_isMachine (L := L) (xs := xs) (d := d + 3) (M := M) (V := V) (W := W) (z := m) hm
  have r1 := m_requireArgument (L := L) (xs := xs) (d := d + 4) (h := e_hp M V W) (decide (0 ≤ m ∧ m ≤ 3))
  by_cases h0 : 0 ≤ m ∧ m ≤ 3
  · rw [if_pos (decide_eq_true h0)] at r1
    obtain ⟨M2, e1, ⟨g1, g2, g3, g4⟩, hf⟩ := o_arrange (L := L) (xs := xs) (d := d) (V := V) (W := W) H.sh hr h0 (w := 2) (by omega)
    have H2 : CK M2 K c S := H.of fun a x y => hf a (by omega)
    have e2 := g3 rfl
    refine ⟨M2, ?_, H2, fun a y => hf a (by omega)⟩
    rw [if_pos h0]
    simp (disch := first | assumption | exact e_nk_i _ | exact e_nk_n | exact e_nk_r _ | exact e_bo_0 | exact e_bo_1 | exact e_bo_b _ | omega) only [e_cl_v, e_cl_x, e_add_0, e_add_s, Option.toList_some, Option.toList_none, List.cons_append, List.nil_append, iI_add, iI_sub, iI_mul, iI_lt, iI_eq, iI_le, r136_0, r136_1, r136_4, r136_7, r136_8, r136_11, r136_12, r136_15, r136_16, r136_17, r136_20, r136_21, r136_24, r136_27, e0, r1, e1, e2]
  · rw [if_neg (by rw [decide_eq_true_eq]; exact h0)] at r1
    refine ⟨M, ?_, H, fun _ _ => rfl⟩
    rw [if_neg h0]
    simp (disch := first | assumption | exact e_nk_i _ | exact e_nk_n | exact e_nk_r _ | exact e_bo_0 | exact e_bo_1 | exact e_bo_b _ | omega) only [e_cl_v, e_cl_x, e_add_0, e_add_s, Option.toList_some, Option.toList_none, List.cons_append, List.nil_append, iI_add, iI_sub, iI_mul, iI_lt, iI_eq, iI_le, r136_0, r136_1, r136_4, r136_7, r136_8, r136_11, r136_12, r136_15, r136_16, r136_17, r136_20, r136_21, r136_24, r136_27, e0, r1]
theorem x_oneAt (H : CK M K c S) (hg : kG K) (hm : i32 m) (hw : i32 w) (hp : i32 p) : ∃ M2 : e_MI, e_lim L xs (d + 5) 137 0 [some (.ref 0), some (.int (iI m)), some (.int (iI w)), some (.int (iI p))] [] (e_hp M V W) = (if (0 ≤ m ∧ m ≤ 3) ∧ 0 ≤ w ∧ w ≤ 2 then (if 0 ≤ p ∧ p ≤ ((wyL K m w).length : Int) - 1 then some (.inl (some (.int (iI (anOA K m w p)))), e_hp M2 V W, 0, 0) else some (.inr 2, e_hp M2 V W, 1, 6)) else some (.inr 0, e_hp M2 V W, 1, 6)) ∧ CK M2 K c S ∧ ∀ a, 178 < a → M2 a = M a := by
  have hr := hg.1
  have e0 := m_isMachine (L := L) (xs := xs) (d := d + 3) (M := M) (V := V) (W := W) (z := m) hm
  have i1 := m_isWithin (L := L) (xs := xs) (d := d + 4) (h := e_hp M V W) (x := w) (y2 := 0) (z2 := 2) hw (by omega) (by omega)
  have rt := m_requireArgument (L := L) (xs := xs) (d := d + 4) (h := e_hp M V W) true
  have rf := m_requireArgument (L := L) (xs := xs) (d := d + 4) (h := e_hp M V W) false
  rw [if_pos rfl, bI_t] at rt
  rw [if_neg (by decide), bI_f] at rf
  by_cases h0 : 0 ≤ m ∧ m ≤ 3
  · rw [decide_eq_true h0, bI_t] at e0
    by_cases h1 : 0 ≤ w ∧ w ≤ 2
    · rw [decide_eq_true h1, bI_t] at i1
      obtain ⟨M2, e1, ⟨g1, g2, g3, g4⟩, hf⟩ := o_arrange (L := L) (xs := xs) (d := d) (V := V) (W := W) H.sh hr h0 h1
      have gi := wyL_in hr m w
      have H2 : CK M2 K c S := H.of fun a x y => hf a (by omega)
      have i2 := m_isWithin (L := L) (xs := xs) (d := d + 4) (h := e_hp M2 V W) (x := p) (y2 := 0) (z2 := ((wyL K m w).length : Int) - 1) hp (by omega) (by omega)
      have r2 := m_requireIndex (L := L) (xs := xs) (d := d + 4) (h := e_hp M2 V W) (decide (0 ≤ p ∧ p ≤ ((wyL K m w).length : Int) - 1))
      refine ⟨M2, ?_, H2, fun a y => hf a (by omega)⟩
      rw [if_pos ⟨h0, h1⟩]
      by_cases h2 : 0 ≤ p ∧ p ≤ ((wyL K m w).length : Int) - 1
      · rw [if_pos (decide_eq_true h2)] at r2
        have e2 := m_atI (L := L) (xs := xs) (d := d + 4) (M := M2) (V := V) (W := W) (v := iI ((wyL K m w).getD p.toNat 0)) si_171 (z := p) h2.1 (by omega) (la_get g1 (by omega))
        rw [if_pos h2]
        simp (disch := first | assumption | exact e_nk_i _ | exact e_nk_n | exact e_nk_r _ | exact e_bo_0 | exact e_bo_1 | exact e_bo_b _ | omega) only [e_cl_v, e_cl_x, e_add_0, e_add_s, Option.toList_some, Option.toList_none, List.cons_append, List.nil_append, iI_add, iI_sub, iI_mul, iI_lt, iI_eq, iI_le, r137_0, r137_1, r137_4, r137_7, r137_8, r137_9, r137_10, r137_13, r137_16, r137_17, r137_20, r137_21, r137_24, r137_25, r137_28, r137_29, r137_32, r137_33, r137_34, r137_37, r137_38, r137_39, r137_40, r137_43, r137_46, r137_47, r137_48, r137_51, r137_54, r137_55, r137_58, r137_61, r137_62, r137_65, e0, i1, rt, e1, g2, i2, r2, e2]
        simp
        rfl
      · rw [if_neg (by rw [decide_eq_true_eq]; exact h2)] at r2
        rw [if_neg h2]
        simp (disch := first | assumption | exact e_nk_i _ | exact e_nk_n | exact e_nk_r _ | exact e_bo_0 | exact e_bo_1 | exact e_bo_b _ | omega) only [e_cl_v, e_cl_x, e_add_0, e_add_s, Option.toList_some, Option.toList_none, List.cons_append, List.nil_append, iI_add, iI_sub, iI_mul, iI_lt, iI_eq, iI_le, r137_0, r137_1, r137_4, r137_7, r137_8, r137_9, r137_10, r137_13, r137_16, r137_17, r137_20, r137_21, r137_24, r137_25, r137_28, r137_29, r137_32, r137_33, r137_34, r137_37, r137_38, r137_39, r137_40, r137_43, r137_46, r137_47, r137_48, r137_51, r137_54, r137_55, r137_58, r137_61, r137_62, r137_65, e0, i1, rt, e1, g2, i2, r2]
        simp
    · rw [decide_eq_false h1, bI_f] at i1
      refine ⟨M, ?_, H, fun _ _ => rfl⟩
      rw [if_neg (fun y => h1 y.2)]
      simp (disch := first | assumption | exact e_nk_i _ | exact e_nk_n | exact e_nk_r _ | exact e_bo_0 | exact e_bo_1 | exact e_bo_b _ | omega) only [e_cl_v, e_cl_x, e_add_0, e_add_s, Option.toList_some, Option.toList_none, List.cons_append, List.nil_append, iI_add, iI_sub, iI_mul, iI_lt, iI_eq, iI_le, r137_0, r137_1, r137_4, r137_7, r137_8, r137_9, r137_10, r137_13, r137_16, r137_17, r137_20, r137_21, r137_24, r137_25, r137_28, r137_29, r137_32, r137_33, r137_34, r137_37, r137_38, r137_39, r137_40, r137_43, r137_46, r137_47, r137_48, r137_51, r137_54, r137_55, r137_58, r137_61, r137_62, r137_65, e0, i1, rf]
      simp
  · rw [decide_eq_false h0, bI_f] at e0
    refine ⟨M, ?_, H, fun _ _ => rfl⟩
    rw [if_neg (fun y => h0 y.1)]
    simp (disch := first | assumption | exact e_nk_i _ | exact e_nk_n | exact e_nk_r _ | exact e_bo_0 | exact e_bo_1 | exact e_bo_b _ | omega) only [e_cl_v, e_cl_x, e_add_0, e_add_s, Option.toList_some, Option.toList_none, List.cons_append, List.nil_append, iI_add, iI_sub, iI_mul, iI_lt, iI_eq, iI_le, r137_0, r137_1, r137_4, r137_7, r137_8, r137_9, r137_10, r137_13, r137_16, r137_17, r137_20, r137_21, r137_24, r137_25, r137_28, r137_29, r137_32, r137_33, r137_34, r137_37, r137_38, r137_39, r137_40, r137_43, r137_46, r137_47, r137_48, r137_51, r137_54, r137_55, r137_58, r137_61, r137_62, r137_65, e0, rf]
    simp
theorem w_isAhead (hr : kR K) (hA : e_ar (M 174) n (fun o => tO K o m)) (hB : e_ar (M 175) n (fun o => tO K o q)) (ho : 0 ≤ o ∧ o < n) (hp : 0 ≤ p ∧ p < n) (hn : n ≤ 8) : e_lim L xs (d + 1) 101 0 [some (.ref 173), some (.int (iI o)), some (.int (iI p)), none, none] [] (e_hp M V W) = some (.inl (some (.int (bI (isT K m q o p)))), e_hp M V W, 0, 0) := by
  have e1 := m_atI (L := L) (xs := xs) (d := d) (M := M) (V := V) (W := W) (a := 174) (n := 8) si_174 (z := o) ho.1 (by omega) (hA o ho.1 ho.2)
  have e2 := m_atI (L := L) (xs := xs) (d := d) (M := M) (V := V) (W := W) (a := 175) (n := 8) si_175 (z := o) ho.1 (by omega) (hB o ho.1 ho.2)
  have e3 := m_atI (L := L) (xs := xs) (d := d) (M := M) (V := V) (W := W) (a := 174) (n := 8) si_174 (z := p) hp.1 (by omega) (hA p hp.1 hp.2)
  have e4 := m_atI (L := L) (xs := xs) (d := d) (M := M) (V := V) (W := W) (a := 175) (n := 8) si_175 (z := p) hp.1 (by omega) (hB p hp.1 hp.2)
  have r1 := tO_rg hr (o := o) (m := m) (by omega)
  have r2 := tO_rg hr (o := o) (m := q) (by omega)
  have r3 := tO_rg hr (o := p) (m := m) (by omega)
  have r4 := tO_rg hr (o := p) (m := q) (by omega)
  simp only at e1 e2 e3 e4
  unfold isT
  generalize tO K o m = a at *
  generalize tO K o q = b at *
  generalize tO K p m = a2 at *
  generalize tO K p q = b2 at *
  simp (disch := first | assumption | exact e_nk_i _ | exact e_nk_n | exact e_nk_r _ | exact e_bo_0 | exact e_bo_1 | exact e_bo_b _ | omega) only [e_cl_v, e_cl_x, e_add_0, e_add_s, Option.toList_some, Option.toList_none, List.cons_append, List.nil_append, iI_add, iI_sub, iI_mul, iI_lt, iI_eq, iI_le, r101_0, r101_1, r101_4, r101_5, r101_8, r101_9, r101_12, r101_13, r101_16, r101_19, r101_20, r101_23, r101_24, r101_25, r101_26, r101_29, r101_30, r101_33, r101_34, r101_37, r101_38, r101_41, r101_44, r101_45, r101_48, r101_49, r101_51, r101_52, r101_54, r101_57, r101_58, r101_59, r101_60, r101_63, r101_64, r101_67, r101_68, r101_71, r101_72, r101_75, r101_76, r101_79, r101_82, r101_83, r101_86, r101_87, r101_90, r101_91, r101_94, r101_95, r101_98, r101_99, r101_102, r101_103, r101_106, r101_109, r101_110, r101_113, r101_114, e1, e2, e3, e4]
  by_cases z1 : a < b
  · by_cases z2 : a2 < b2
    · by_cases z3 : a < a2
      · simp [z1, z2, z3, bI, iI_eq]
      · simp [z1, z2, z3, bI, iI_eq]
    · simp [z1, z2, bI, iI_eq]
  · by_cases z2 : a2 < b2
    · simp [z1, z2, bI, iI_eq]
    · by_cases z3 : b2 < b
      · simp [z1, z2, z3, bI, iI_eq]
      · simp [z1, z2, z3, bI, iI_eq]
theorem w_insIn (hr : kR K) (ho : 0 ≤ o ∧ o < n) (hn : n ≤ 8) : ∀ (a b : List Int) (M : e_MI), e_ar (M 174) n (fun o => tO K o m) → e_ar (M 175) n (fun o => tO K o q) → (∀ x ∈ a, 0 ≤ x ∧ x < n) → a.length + b.length ≤ 7 → M 173 3 = iI ((a.length + b.length : Nat) : Int) → e_ho (M 176) a.reverse b → ∃ M2 : e_MI, e_lim L xs (d + 2) 100 5 [some (.ref 173), some (.int (iI o)), some (.int (iI (a.length : Int)))] [] (e_hp M V W) = some (.inl none, e_hp M2 V W, 0, 0) ∧ e_la (M2 176) (insG (isT K m q) o a b) ∧ (∀ x, x ≠ 173 → x ≠ 176 → M2 x = M x) ∧ M2 173 3 = iI ((a.length + b.length + 1 : Nat) : Int)
  | [], b, M, hA, hB, ha, hl, hc, hh => by
    rw [List.length_nil, Nat.zero_add] at hc hl
    have e1 := m_putI (L := L) (xs := xs) (d := d + 1) (M := M) (V := V) (W := W) (v := iI o) si_176 (z := 0) (by omega) (by omega)
    refine ⟨e_u (e_u M 176 (upd (M 176) 0 (iI o))) 173 (upd (M 173) 3 (iI ((b.length + 1 : Nat) : Int))), ?_, ?_, fun x y z => ?_, ?_⟩
    · rw [show (([] : List Int).length : Int) = 0 from rfl]
      simp (disch := first | assumption | exact e_nk_i _ | exact e_nk_n | exact e_nk_r _ | exact e_bo_0 | exact e_bo_1 | exact e_bo_b _ | omega) only [e_cl_v, e_cl_x, e_add_0, e_add_s, Option.toList_some, Option.toList_none, List.cons_append, List.nil_append, iI_add, iI_sub, iI_mul, iI_lt, iI_eq, iI_le, r100_5, r100_6, r100_9, r100_10, r100_11, r100_12, r100_15, r100_16, r100_17, r100_18, r100_21, r100_24, r100_27, r100_28, r100_31, r100_32, r100_33, r100_36, r100_37, r100_38, r100_39, r100_42, r100_45, r100_48, r100_51, r100_52, r100_55, r100_56, r100_57, r100_60, r100_61, r100_62, r100_65, r100_66, r100_67, r100_70, e1, e_u_n, hc]
      simp
    · rw [e_u_n _ _ (by decide), e_u_s]
      exact ho_pu (a := []) hh
    · rw [e_u_n _ _ y, e_u_n _ _ z]
    · rw [e_u_s, upd_s, List.length_nil, Nat.zero_add]
  | x :: a, b, M, hA, hB, ha, hl, hc, hh => by
    rw [List.length_cons] at hl hc
    have hx := ha x (List.mem_cons_self)
    have e1 := w_isAhead (L := L) (xs := xs) (d := d) (V := V) (W := W) hr hA hB ho hx hn
    have hat : M 176 a.length = iI x := by
      have := hh
      rw [List.reverse_cons] at this
      have := ho_at this
      rw [List.length_reverse] at this
      exact this
    have hn2 : ((a.length + 1 : Nat) : Int) - 1 = (a.length : Int) := by omega
    have e2 := m_atI (L := L) (xs := xs) (d := d + 1) (M := M) (V := V) (W := W) (v := iI x) si_176 (z := (a.length : Int)) (by omega) (by omega) (by rw [Int.toNat_natCast]; exact hat)
    by_cases hq : isT K m q o x = true
    · have e3 := m_putI (L := L) (xs := xs) (d := d + 1) (M := M) (V := V) (W := W) (v := iI x) si_176 (z := ((a.length + 1 : Nat) : Int)) (by omega) (by omega)
      rw [Int.toNat_natCast] at e3
      obtain ⟨M2, e, r1, r2, r4⟩ := w_insIn hr ho hn a (x :: b) (e_u M 176 (upd (M 176) (a.length + 1) (iI x))) (by rw [e_u_n _ _ (by decide)]; exact hA) (by rw [e_u_n _ _ (by decide)]; exact hB) (fun y hy => ha y (List.mem_cons_of_mem x hy)) (by rw [List.length_cons]; omega) (by rw [e_u_n _ _ (by decide), hc, List.length_cons]; congr 1; omega) (by
        rw [e_u_s]
        have h1 := hh
        rw [List.reverse_cons] at h1
        have := ho_mv h1
        rw [List.length_reverse] at this
        exact this)
      refine ⟨M2, ?_, ?_, fun y u w => by rw [r2 y u w, e_u_n _ _ w], by rw [r4, List.length_cons, List.length_cons]; congr 1; omega⟩
      · rw [hq, bI_t] at e1
        rw [← e, List.length_cons, r100_5]
        simp (disch := first | assumption | exact e_nk_i _ | exact e_nk_n | exact e_nk_r _ | exact e_bo_0 | exact e_bo_1 | exact e_bo_b _ | omega) only [e_cl_v, e_cl_x, e_add_0, e_add_s, Option.toList_some, Option.toList_none, List.cons_append, List.nil_append, iI_add, iI_sub, iI_mul, iI_lt, iI_eq, iI_le, r100_6, r100_9, r100_10, r100_11, r100_12, r100_15, r100_16, r100_17, r100_18, r100_21, r100_24, r100_27, r100_28, r100_31, r100_32, r100_33, r100_36, r100_37, r100_38, r100_39, r100_42, r100_45, r100_48, hn2, e2, e1, e3]
        rw [if_neg (by omega)]
        simp
        rw [show (a.length : Int) + 1 + -1 = a.length by omega]
      · unfold insG
        rw [if_pos hq]
        exact r1
    · have hqf : isT K m q o x = false := by simpa using hq
      have e3 := m_putI (L := L) (xs := xs) (d := d + 1) (M := M) (V := V) (W := W) (v := iI o) si_176 (z := ((a.length + 1 : Nat) : Int)) (by omega) (by omega)
      rw [Int.toNat_natCast] at e3
      refine ⟨e_u (e_u M 176 (upd (M 176) (a.length + 1) (iI o))) 173 (upd (M 173) 3 (iI ((a.length + 1 + b.length + 1 : Nat) : Int))), ?_, ?_, fun x y z => ?_, ?_⟩
      · rw [hqf, bI_f] at e1
        rw [List.length_cons]
        simp (disch := first | assumption | exact e_nk_i _ | exact e_nk_n | exact e_nk_r _ | exact e_bo_0 | exact e_bo_1 | exact e_bo_b _ | omega) only [e_cl_v, e_cl_x, e_add_0, e_add_s, Option.toList_some, Option.toList_none, List.cons_append, List.nil_append, iI_add, iI_sub, iI_mul, iI_lt, iI_eq, iI_le, r100_5, r100_6, r100_9, r100_10, r100_11, r100_12, r100_15, r100_16, r100_17, r100_18, r100_21, r100_24, r100_27, r100_28, r100_31, r100_32, r100_33, r100_36, r100_37, r100_38, r100_39, r100_42, r100_45, r100_48, r100_51, r100_52, r100_55, r100_56, r100_57, r100_60, r100_61, r100_62, r100_65, r100_66, r100_67, r100_70, hn2, e2, e1, e3, e_u_n, hc]
        rw [if_neg (by omega)]
        simp
      · rw [e_u_n _ _ (by decide), e_u_s]
        unfold insG
        rw [if_neg hq]
        have := ho_pu (o := o) hh
        rw [List.length_reverse, List.length_cons] at this
        exact this
      · rw [e_u_n _ _ y, e_u_n _ _ z]
      · rw [e_u_s, upd_s, List.length_cons]
/-- two machines' row stands -/
def WR (M : e_MI) (K : e_St) (m q : Int) : Prop := e_la (M 176) (twoL K m q) ∧ M 173 3 = iI ((twoL K m q).length : Int) ∧ e_ar (M 174) (K 310) (fun o => tO K o m) ∧ e_ar (M 175) (K 310) (fun o => tO K o q)
theorem w_arrange (H : SH M 1 K) (hr : kR K) (hm : 0 ≤ m ∧ m ≤ 3) (hq : 0 ≤ q ∧ q ≤ 3) : ∃ M2 : e_MI, e_lim L xs (d + 3) 99 0 [some (.ref 173), some (.ref 1), some (.int (iI m)), some (.int (iI q)), none, none, none] [] (e_hp M V W) = some (.inl none, e_hp M2 V W, 0, 0) ∧ WR M2 K m q ∧ ∀ a, a < 173 ∨ 176 < a → M2 a = M a := by
  have hn8 := hr.n
  have key := G_lp (i := 0) (n := K 310) (I := fun i M1 => e_la (M1 176) (rowL (isT K m q) (fun o => decide (tO K o m + tO K o q ≠ 0)) i.toNat) ∧ M1 173 3 = iI ((rowL (isT K m q) (fun o => decide (tO K o m + tO K o q ≠ 0)) i.toNat).length : Int) ∧ e_ar (M1 174) i (fun o => tO K o m) ∧ e_ar (M1 175) i (fun o => tO K o q) ∧ ∀ a, a < 173 ∨ 176 < a → M1 a = M a) (P := fun i M1 => ∃ M2 : e_MI, e_lim L xs (d + 3) 99 8 [some (.ref 173), some (.ref 1), some (.int (iI m)), some (.int (iI q)), some (.int (iI i)), none, none] [] (e_hp M1 V W) = some (.inl none, e_hp M2 V W, 0, 0) ∧ WR M2 K m q ∧ ∀ a, a < 173 ∨ 176 < a → M2 a = M a) (fun j M1 a b hI hc => ?_) (fun M1 hI => ?_) hn8.1 (e_u M 173 (upd (M 173) 3 (iI 0))) ⟨fun i x hx => by simp [rowL] at hx, by rw [e_u_s, upd_s]; rfl, fun z a b => by omega, fun z a b => by omega, fun a x => e_u_n _ _ (by omega)⟩
  · obtain ⟨M2, e, r⟩ := key
    refine ⟨M2, ?_, r⟩
    rw [← e]
    simp (disch := first | assumption | exact e_nk_i _ | exact e_nk_n | exact e_nk_r _ | exact e_bo_0 | exact e_bo_1 | exact e_bo_b _ | omega) only [e_cl_v, e_cl_x, e_add_0, e_add_s, Option.toList_some, Option.toList_none, List.cons_append, List.nil_append, iI_add, iI_sub, iI_mul, iI_lt, iI_eq, iI_le, r99_0, r99_1, r99_2, r99_5, r99_6]
  · obtain ⟨i1, i2, i3, i4, i5⟩ := hI
    have H1 : SH M1 1 K := H.of fun a x y => i5 a (by omega)
    have c1 := H1.cn
    have e1 := s_timeOn (L := L) (xs := xs) (d := d) (V := V) (W := W) H1 hr (o := j) a b (m := m) hm
    have e2 := s_timeOn (L := L) (xs := xs) (d := d) (V := V) (W := W) H1 hr (o := j) a b (m := q) hq
    have r1 := tO_rg hr (o := j) (m := m) (by omega)
    have r2 := tO_rg hr (o := j) (m := q) (by omega)
    have e3 := m_putI (L := L) (xs := xs) (d := d + 2) (M := M1) (V := V) (W := W) (v := iI (tO K j m)) si_174 (z := j) a (by omega)
    have e4 := m_putI (L := L) (xs := xs) (d := d + 2) (M := e_u M1 174 (upd (M1 174) j.toNat (iI (tO K j m)))) (V := V) (W := W) (v := iI (tO K j q)) si_175 (z := j) a (by omega)
    rw [e_u_n _ _ (show (175 : Nat) ≠ 174 by decide)] at e4
    have hA2 : e_ar (e_u (e_u M1 174 (upd (M1 174) j.toNat (iI (tO K j m)))) 175 (upd (M1 175) j.toNat (iI (tO K j q))) 174) (j + 1) (fun o => tO K o m) := by
      rw [e_u_n _ _ (by decide), e_u_s]
      refine (i3.more (v := tO K j m) a).cong (fun z x y => ?_)
      unfold uI
      by_cases hz : z = j
      · rw [if_pos hz, hz]
      · rw [if_neg hz]
    have hB2 : e_ar (e_u (e_u M1 174 (upd (M1 174) j.toNat (iI (tO K j m)))) 175 (upd (M1 175) j.toNat (iI (tO K j q))) 175) (j + 1) (fun o => tO K o q) := by
      rw [e_u_s]
      refine (i4.more (v := tO K j q) a).cong (fun z x y => ?_)
      unfold uI
      by_cases hz : z = j
      · rw [if_pos hz, hz]
      · rw [if_neg hz]
    have f2 : ∀ z, z ≠ 174 → z ≠ 175 → e_u (e_u M1 174 (upd (M1 174) j.toNat (iI (tO K j m)))) 175 (upd (M1 175) j.toNat (iI (tO K j q))) z = M1 z := fun z y w => by rw [e_u_n _ _ w, e_u_n _ _ y]
    have hlen := rowL_len (isT K m q) (fun o => decide (tO K o m + tO K o q ≠ 0)) j.toNat
    have hst : rowL (isT K m q) (fun o => decide (tO K o m + tO K o q ≠ 0)) (j + 1).toNat = if decide (tO K j m + tO K j q ≠ 0) = true then insS (isT K m q) j (rowL (isT K m q) (fun o => decide (tO K o m + tO K o q ≠ 0)) j.toNat) else rowL (isT K m q) (fun o => decide (tO K o m + tO K o q ≠ 0)) j.toNat := by
      rw [show (j + 1).toNat = j.toNat + 1 by omega]
      show (if decide (tO K (j.toNat : Int) m + tO K (j.toNat : Int) q ≠ 0) = true then insS (isT K m q) (j.toNat : Int) _ else _) = _
      rw [Int.toNat_of_nonneg a]
    rw [hst] at hc
    generalize hM2 : e_u (e_u M1 174 (upd (M1 174) j.toNat (iI (tO K j m)))) 175 (upd (M1 175) j.toNat (iI (tO K j q))) = Mb at *
    by_cases hz : tO K j m + tO K j q = 0
    · rw [if_neg (by simp [hz])] at hc
      obtain ⟨M2, e, r⟩ := hc Mb ⟨by rw [f2 176 (by decide) (by decide)]; exact i1, by rw [f2 173 (by decide) (by decide)]; exact i2, hA2, hB2, fun z y => by rw [f2 z (by omega) (by omega), i5 z y]⟩
      refine ⟨M2, ?_, r⟩
      have e' := G_less (l := [some (.ref 173), some (.ref 1), some (.int (iI m)), some (.int (iI q)), some (.int (iI (j + 1))), some (.int (iI (tO K j m))), some (.int (iI (tO K j q)))]) (by repeat (first | exact e_ll.rf | refine e_ll_c ?_ | refine e_ll_x ?_)) e
      rw [← e', r99_8]
      simp (disch := first | assumption | exact e_nk_i _ | exact e_nk_n | exact e_nk_r _ | exact e_bo_0 | exact e_bo_1 | exact e_bo_b _ | omega) only [e_cl_v, e_cl_x, e_add_0, e_add_s, Option.toList_some, Option.toList_none, List.cons_append, List.nil_append, iI_add, iI_sub, iI_mul, iI_lt, iI_eq, iI_le, r99_10, r99_11, r99_14, r99_17, r99_18, r99_20, r99_21, r99_24, r99_26, r99_27, r99_29, r99_30, r99_33, r99_35, r99_36, r99_39, r99_41, r99_43, r99_46, r99_47, r99_50, r99_52, r99_54, r99_57, r99_59, r99_61, r99_62, r99_65, r99_66, r99_68, r99_71, r99_74, c1, e1, e2, e3, e4]
      rw [if_pos b]
      first | rw [if_pos (by omega)] | rw [if_neg (by omega)]
    · rw [if_pos (by simp [hz])] at hc
      have hmem : ∀ x ∈ (rowL (isT K m q) (fun o => decide (tO K o m + tO K o q ≠ 0)) j.toNat).reverse, 0 ≤ x ∧ x < j + 1 := fun x hx => by
        rw [List.mem_reverse, rowL_mem] at hx
        omega
      obtain ⟨M4, e5, r3, r4, r5⟩ := w_insIn (L := L) (xs := xs) (d := d) (V := V) (W := W) (m := m) (q := q) (o := j) (n := j + 1) hr ⟨a, by omega⟩ (by omega) (rowL (isT K m q) (fun o => decide (tO K o m + tO K o q ≠ 0)) j.toNat).reverse [] Mb hA2 hB2 hmem (by rw [List.length_reverse, List.length_nil]; omega) (by rw [f2 173 (by decide) (by decide), i2, List.length_reverse, List.length_nil]; rfl) (by rw [List.reverse_reverse, f2 176 (by decide) (by decide)]; exact ho_in i1)
      have c3 : Mb 173 3 = iI ((rowL (isT K m q) (fun o => decide (tO K o m + tO K o q ≠ 0)) j.toNat).length : Int) := by rw [f2 173 (by decide) (by decide), i2]
      rw [List.length_reverse] at e5
      have e6 : e_lim L xs (d + 2) 100 0 [some (.ref 173), some (.int (iI j)), none] [] (e_hp Mb V W) = some (.inl none, e_hp M4 V W, 0, 0) := by
        rw [← e5]
        simp (disch := first | assumption | exact e_nk_i _ | exact e_nk_n | exact e_nk_r _ | exact e_bo_0 | exact e_bo_1 | exact e_bo_b _ | omega) only [e_cl_v, e_cl_x, e_add_0, e_add_s, Option.toList_some, Option.toList_none, List.cons_append, List.nil_append, iI_add, iI_sub, iI_mul, iI_lt, iI_eq, iI_le, r100_0, r100_1, r100_4, c3]
      obtain ⟨M2, e, r⟩ := hc M4 ⟨r3, by rw [r5, (insS_perm (isT K m q) j _).length_eq, List.length_reverse, List.length_nil, List.length_cons], by rw [r4 174 (by decide) (by decide)]; exact hA2, by rw [r4 175 (by decide) (by decide)]; exact hB2, fun z y => by rw [r4 z (by omega) (by omega), f2 z (by omega) (by omega), i5 z y]⟩
      refine ⟨M2, ?_, r⟩
      have e' := G_less (l := [some (.ref 173), some (.ref 1), some (.int (iI m)), some (.int (iI q)), some (.int (iI (j + 1))), some (.int (iI (tO K j m))), some (.int (iI (tO K j q)))]) (by repeat (first | exact e_ll.rf | refine e_ll_c ?_ | refine e_ll_x ?_)) e
      rw [← e', r99_8]
      simp (disch := first | assumption | exact e_nk_i _ | exact e_nk_n | exact e_nk_r _ | exact e_bo_0 | exact e_bo_1 | exact e_bo_b _ | omega) only [e_cl_v, e_cl_x, e_add_0, e_add_s, Option.toList_some, Option.toList_none, List.cons_append, List.nil_append, iI_add, iI_sub, iI_mul, iI_lt, iI_eq, iI_le, r99_10, r99_11, r99_14, r99_17, r99_18, r99_20, r99_21, r99_24, r99_26, r99_27, r99_29, r99_30, r99_33, r99_35, r99_36, r99_39, r99_41, r99_43, r99_46, r99_47, r99_50, r99_52, r99_54, r99_57, r99_59, r99_61, r99_62, r99_65, r99_66, r99_68, r99_71, r99_74, c1, e1, e2, e3, e4, e6]
      rw [if_pos b]
      first | rw [if_neg (by omega)] | rw [if_pos (by omega)]
  · obtain ⟨i1, i2, i3, i4, i5⟩ := hI
    have c1 : M1 1 0 = iI (K 310) := by rw [i5 1 (by omega)]; exact H.cn
    refine ⟨M1, ?_, ⟨i1, i2, i3, i4⟩, i5⟩
    rw [r99_8]
    simp (disch := first | assumption | exact e_nk_i _ | exact e_nk_n | exact e_nk_r _ | exact e_bo_0 | exact e_bo_1 | exact e_bo_b _ | omega) only [e_cl_v, e_cl_x, e_add_0, e_add_s, Option.toList_some, Option.toList_none, List.cons_append, List.nil_append, iI_add, iI_sub, iI_mul, iI_lt, iI_eq, iI_le, r99_10, r99_11, r99_14, r99_77, c1]
    rw [if_neg (by omega)]
theorem twoL_in (hr : kR K) (m q : Int) : (∀ x ∈ twoL K m q, 0 ≤ x ∧ x < K 310) ∧ (twoL K m q).length ≤ 8 := by
  have hn := hr.n
  have hlen := rowL_len (isT K m q) (fun o => decide (tO K o m + tO K o q ≠ 0)) (K 310).toNat
  refine ⟨fun x hx => ?_, by unfold twoL; omega⟩
  unfold twoL at hx
  rw [rowL_mem] at hx
  omega
theorem w_finish (hr : kR K) (hR : WR M K m q) : e_lim L xs (d + 1) 102 0 [some (.ref 173), none, none, none, none] [] (e_hp M V W) = some (.inl (some (.int (iI (twW K m q)))), e_hp M V W, 0, 0) := by
  obtain ⟨g1, g2, g3, g4⟩ := hR
  have hn := hr.n
  have gi := twoL_in hr m q
  unfold twW
  generalize twoL K m q = l at *
  have main : e_lim L xs (d + 1) 102 6 [some (.ref 173), some (.int (iI (twF K m q l (0 : Int).toNat).1)), some (.int (iI (twF K m q l (0 : Int).toNat).2)), some (.int (iI 0)), none] [] (e_hp M V W) = some (.inl (some (.int (iI (twF K m q l l.length).2))), e_hp M V W, 0, 0) := by
    refine G_loopI (C := fun i => e_lim L xs (d + 1) 102 6 [some (.ref 173), some (.int (iI (twF K m q l i.toNat).1)), some (.int (iI (twF K m q l i.toNat).2)), some (.int (iI i)), none] [] (e_hp M V W)) (i := 0) (n := l.length) (by omega) (fun j a b hc2 => ?_) ?_
    · obtain ⟨p, hp⟩ : ∃ p : Nat, j = (p : Int) := ⟨j.toNat, by omega⟩
      subst hp
      have hx := gi.1 _ (getD_mem (l := l) (i := p) (by omega))
      have e1 := m_atI (L := L) (xs := xs) (d := d) (M := M) (V := V) (W := W) (v := iI (l.getD p 0)) si_176 (z := (p : Int)) (by omega) (by omega) (by rw [Int.toNat_natCast]; exact la_get g1 (by omega))
      have e2 := m_atI (L := L) (xs := xs) (d := d) (M := M) (V := V) (W := W) (a := 174) (n := 8) si_174 (z := l.getD p 0) hx.1 (by omega) (g3 _ hx.1 hx.2)
      have e3 := m_atI (L := L) (xs := xs) (d := d) (M := M) (V := V) (W := W) (a := 175) (n := 8) si_175 (z := l.getD p 0) hx.1 (by omega) (g4 _ hx.1 hx.2)
      have r0 := twF_rg (m := m) (q := q) hr (l := l) (fun x hx => by have := gi.1 x hx; omega) p (by omega)
      have r1 := tO_rg hr (o := l.getD p 0) (m := m) (by omega)
      have hst : twF K m q l ((p : Int) + 1).toNat = ((twF K m q l p).1 + tO K (l.getD p 0) m, max ((twF K m q l p).1 + tO K (l.getD p 0) m) (twF K m q l p).2 + tO K (l.getD p 0) q) := by
        rw [show ((p : Int) + 1).toNat = p + 1 by omega]
        show ((twF K m q l p).1 + tO K (l.getD p 0) m, (if (twF K m q l p).1 + tO K (l.getD p 0) m < (twF K m q l p).2 then (twF K m q l p).2 else (twF K m q l p).1 + tO K (l.getD p 0) m) + tO K (l.getD p 0) q) = _
        rw [mx_if]
      rw [hst] at hc2
      simp only at hc2
      simp only [Int.toNat_natCast]
      generalize twF K m q l p = s at *
      generalize l.getD p 0 = g at *
      have e' := G_less (l := [some (.ref 173), some (.int (iI (s.1 + tO K g m))), some (.int (iI (max (s.1 + tO K g m) s.2 + tO K g q))), some (.int (iI ((p : Int) + 1))), some (.int (iI g))]) (by repeat (first | exact e_ll.rf | refine e_ll_c ?_ | refine e_ll_x ?_)) hc2
      rw [← e', r102_6]
      simp (disch := first | assumption | exact e_nk_i _ | exact e_nk_n | exact e_nk_r _ | exact e_bo_0 | exact e_bo_1 | exact e_bo_b _ | omega) only [e_cl_v, e_cl_x, e_add_0, e_add_s, Option.toList_some, Option.toList_none, List.cons_append, List.nil_append, iI_add, iI_sub, iI_mul, iI_lt, iI_eq, iI_le, r102_7, r102_8, r102_11, r102_14, r102_15, r102_18, r102_19, r102_22, r102_24, r102_25, r102_26, r102_29, r102_31, r102_34, r102_35, r102_36, r102_37, r102_38, r102_41, r102_42, r102_45, r102_47, r102_50, r102_51, r102_52, r102_55, g2, e1, e2, e3, iI_mx]
      rw [if_pos (by omega)]
    · simp only [Int.toNat_natCast]
      rw [r102_6]
      simp (disch := first | assumption | exact e_nk_i _ | exact e_nk_n | exact e_nk_r _ | exact e_bo_0 | exact e_bo_1 | exact e_bo_b _ | omega) only [e_cl_v, e_cl_x, e_add_0, e_add_s, Option.toList_some, Option.toList_none, List.cons_append, List.nil_append, iI_add, iI_sub, iI_mul, iI_lt, iI_eq, iI_le, r102_7, r102_8, r102_11, r102_58, r102_59, g2]
      rw [if_neg (by omega)]
  have main' : e_lim L xs (d + 1) 102 6 [some (.ref 173), some (.int (iI 0)), some (.int (iI 0)), some (.int (iI 0)), none] [] (e_hp M V W) = some (.inl (some (.int (iI (twF K m q l l.length).2))), e_hp M V W, 0, 0) := main
  simp (disch := first | assumption | exact e_nk_i _ | exact e_nk_n | exact e_nk_r _ | exact e_bo_0 | exact e_bo_1 | exact e_bo_b _ | omega) only [e_cl_v, e_cl_x, e_add_0, e_add_s, Option.toList_some, Option.toList_none, List.cons_append, List.nil_append, iI_add, iI_sub, iI_mul, iI_lt, iI_eq, iI_le, r102_0, r102_1, r102_2, r102_3, r102_4, r102_5, main']
theorem x_two (H : CK M K c S) (hg : kG K) (hm : i32 m) (hq : i32 q) : ∃ M2 : e_MI, e_lim L xs (d + 4) 138 0 [some (.ref 0), some (.int (iI m)), some (.int (iI q))] [] (e_hp M V W) = (if (0 ≤ m ∧ m ≤ 3) ∧ (0 ≤ q ∧ q ≤ 3) ∧ m ≠ q then some (.inl (some (.int (iI (twW K m q)))), e_hp M2 V W, 0, 0) else some (.inr 0, e_hp M2 V W, 1, 6)) ∧ CK M2 K c S ∧ ∀ a, 178 < a → M2 a = M a := by
  have hr := hg.1
  have e0 := m_isMachine (L := L) (xs := xs) (d := d + 2) (M := M) (V := V) (W := W) (z := m) hm
  have e1 := m_isMachine (L := L) (xs := xs) (d := d + 2) (M := M) (V := V) (W := W) (z := q) hq
  have rt := m_requireArgument (L := L) (xs := xs) (d := d + 3) (h := e_hp M V W) true
  have rf := m_requireArgument (L := L) (xs := xs) (d := d + 3) (h := e_hp M V W) false
  rw [if_pos rfl, bI_t] at rt
  rw [if_neg (by decide), bI_f] at rf
  by_cases h0 : 0 ≤ m ∧ m ≤ 3
  · rw [decide_eq_true h0, bI_t] at e0
    by_cases h1 : 0 ≤ q ∧ q ≤ 3
    · rw [decide_eq_true h1, bI_t] at e1
      by_cases h2 : m = q
      · refine ⟨M, ?_, H, fun _ _ => rfl⟩
        rw [if_neg (fun y => y.2.2 h2)]
        simp (disch := first | assumption | exact e_nk_i _ | exact e_nk_n | exact e_nk_r _ | exact e_bo_0 | exact e_bo_1 | exact e_bo_b _ | omega) only [e_cl_v, e_cl_x, e_add_0, e_add_s, Option.toList_some, Option.toList_none, List.cons_append, List.nil_append, iI_add, iI_sub, iI_mul, iI_lt, iI_eq, iI_le, r138_0, r138_1, r138_4, r138_7, r138_8, r138_11, r138_14, r138_15, r138_16, r138_19, r138_20, r138_23, r138_24, r138_27, r138_28, r138_31, r138_32, r138_35, r138_36, r138_37, r138_40, r138_41, r138_44, r138_47, e0, e1, rf]
        simp [h2]
      · obtain ⟨M2, e2, hR, hf⟩ := w_arrange (L := L) (xs := xs) (d := d) (V := V) (W := W) H.sh hr h0 h1
        have e3 := w_finish (L := L) (xs := xs) (d := d + 2) (V := V) (W := W) hr hR
        refine ⟨M2, ?_, H.of fun a x y => hf a (by omega), fun a y => hf a (by omega)⟩
        rw [if_pos ⟨h0, h1, h2⟩]
        simp (disch := first | assumption | exact e_nk_i _ | exact e_nk_n | exact e_nk_r _ | exact e_bo_0 | exact e_bo_1 | exact e_bo_b _ | omega) only [e_cl_v, e_cl_x, e_add_0, e_add_s, Option.toList_some, Option.toList_none, List.cons_append, List.nil_append, iI_add, iI_sub, iI_mul, iI_lt, iI_eq, iI_le, r138_0, r138_1, r138_4, r138_7, r138_8, r138_11, r138_14, r138_15, r138_16, r138_19, r138_20, r138_23, r138_24, r138_27, r138_28, r138_31, r138_32, r138_35, r138_36, r138_37, r138_40, r138_41, r138_44, r138_47, e0, e1, rt, e2, e3]
        simp [h2]
    · rw [decide_eq_false h1, bI_f] at e1
      refine ⟨M, ?_, H, fun _ _ => rfl⟩
      rw [if_neg (fun y => h1 y.2.1)]
      simp (disch := first | assumption | exact e_nk_i _ | exact e_nk_n | exact e_nk_r _ | exact e_bo_0 | exact e_bo_1 | exact e_bo_b _ | omega) only [e_cl_v, e_cl_x, e_add_0, e_add_s, Option.toList_some, Option.toList_none, List.cons_append, List.nil_append, iI_add, iI_sub, iI_mul, iI_lt, iI_eq, iI_le, r138_0, r138_1, r138_4, r138_7, r138_8, r138_11, r138_14, r138_15, r138_16, r138_19, r138_20, r138_23, r138_24, r138_27, r138_28, r138_31, r138_32, r138_35, r138_36, r138_37, r138_40, r138_41, r138_44, r138_47, e0, e1, rf]
      simp
  · rw [decide_eq_false h0, bI_f] at e0
    refine ⟨M, ?_, H, fun _ _ => rfl⟩
    rw [if_neg (fun y => h0 y.1)]
    simp (disch := first | assumption | exact e_nk_i _ | exact e_nk_n | exact e_nk_r _ | exact e_bo_0 | exact e_bo_1 | exact e_bo_b _ | omega) only [e_cl_v, e_cl_x, e_add_0, e_add_s, Option.toList_some, Option.toList_none, List.cons_append, List.nil_append, iI_add, iI_sub, iI_mul, iI_lt, iI_eq, iI_le, r138_0, r138_1, r138_4, r138_7, r138_8, r138_11, r138_14, r138_15, r138_16, r138_19, r138_20, r138_23, r138_24, r138_27, r138_28, r138_31, r138_32, r138_35, r138_36, r138_37, r138_40, r138_41, r138_44, r138_47, e0, rf]
    simp
theorem x_twoAt (H : CK M K c S) (hg : kG K) (hm : i32 m) (hq : i32 q) (hp : i32 p) : ∃ M2 : e_MI, e_lim L xs (d + 4) 139 0 [some (.ref 0), some (.int (iI m)), some (.int (iI q)), some (.int (iI p))] [] (e_hp M V W) = (if (0 ≤ m ∧ m ≤ 3) ∧ (0 ≤ q ∧ q ≤ 3) ∧ m ≠ q then (if 0 ≤ p ∧ p ≤ ((twoL K m q).length : Int) - 1 then some (.inl (some (.int (iI (anTA K m q p)))), e_hp M2 V W, 0, 0) else some (.inr 2, e_hp M2 V W, 1, 6)) else some (.inr 0, e_hp M2 V W, 1, 6)) ∧ CK M2 K c S ∧ ∀ a, 178 < a → M2 a = M a := by
  have hr := hg.1
  have e0 := m_isMachine (L := L) (xs := xs) (d := d + 2) (M := M) (V := V) (W := W) (z := m) hm
  have e1 := m_isMachine (L := L) (xs := xs) (d := d + 2) (M := M) (V := V) (W := W) (z := q) hq
  have rt := m_requireArgument (L := L) (xs := xs) (d := d + 3) (h := e_hp M V W) true
  have rf := m_requireArgument (L := L) (xs := xs) (d := d + 3) (h := e_hp M V W) false
  rw [if_pos rfl, bI_t] at rt
  rw [if_neg (by decide), bI_f] at rf
  by_cases h0 : 0 ≤ m ∧ m ≤ 3
  · rw [decide_eq_true h0, bI_t] at e0
    by_cases h1 : 0 ≤ q ∧ q ≤ 3
    · rw [decide_eq_true h1, bI_t] at e1
      by_cases h2 : m = q
      · refine ⟨M, ?_, H, fun _ _ => rfl⟩
        rw [if_neg (fun y => y.2.2 h2)]
        simp (disch := first | assumption | exact e_nk_i _ | exact e_nk_n | exact e_nk_r _ | exact e_bo_0 | exact e_bo_1 | exact e_bo_b _ | omega) only [e_cl_v, e_cl_x, e_add_0, e_add_s, Option.toList_some, Option.toList_none, List.cons_append, List.nil_append, iI_add, iI_sub, iI_mul, iI_lt, iI_eq, iI_le, r139_0, r139_1, r139_4, r139_7, r139_8, r139_11, r139_14, r139_15, r139_16, r139_19, r139_20, r139_23, r139_24, r139_27, r139_28, r139_31, r139_32, r139_35, r139_36, r139_37, r139_40, r139_41, r139_42, r139_43, r139_46, r139_49, r139_50, r139_51, r139_54, r139_57, r139_58, r139_61, r139_64, r139_65, r139_68, e0, e1, rf]
        simp [h2]
      · obtain ⟨M2, e2, ⟨g1, g2, g3, g4⟩, hf⟩ := w_arrange (L := L) (xs := xs) (d := d) (V := V) (W := W) H.sh hr h0 h1
        have gi := twoL_in hr m q
        have i2 := m_isWithin (L := L) (xs := xs) (d := d + 3) (h := e_hp M2 V W) (x := p) (y2 := 0) (z2 := ((twoL K m q).length : Int) - 1) hp (by omega) (by omega)
        have r2 := m_requireIndex (L := L) (xs := xs) (d := d + 3) (h := e_hp M2 V W) (decide (0 ≤ p ∧ p ≤ ((twoL K m q).length : Int) - 1))
        refine ⟨M2, ?_, H.of fun a x y => hf a (by omega), fun a y => hf a (by omega)⟩
        rw [if_pos ⟨h0, h1, h2⟩]
        by_cases h3 : 0 ≤ p ∧ p ≤ ((twoL K m q).length : Int) - 1
        · rw [if_pos (decide_eq_true h3)] at r2
          have e3 := m_atI (L := L) (xs := xs) (d := d + 3) (M := M2) (V := V) (W := W) (v := iI ((twoL K m q).getD p.toNat 0)) si_176 (z := p) h3.1 (by omega) (la_get g1 (by omega))
          rw [if_pos h3]
          simp (disch := first | assumption | exact e_nk_i _ | exact e_nk_n | exact e_nk_r _ | exact e_bo_0 | exact e_bo_1 | exact e_bo_b _ | omega) only [e_cl_v, e_cl_x, e_add_0, e_add_s, Option.toList_some, Option.toList_none, List.cons_append, List.nil_append, iI_add, iI_sub, iI_mul, iI_lt, iI_eq, iI_le, r139_0, r139_1, r139_4, r139_7, r139_8, r139_11, r139_14, r139_15, r139_16, r139_19, r139_20, r139_23, r139_24, r139_27, r139_28, r139_31, r139_32, r139_35, r139_36, r139_37, r139_40, r139_41, r139_42, r139_43, r139_46, r139_49, r139_50, r139_51, r139_54, r139_57, r139_58, r139_61, r139_64, r139_65, r139_68, e0, e1, rt, e2, g2, i2, r2, e3]
          simp [h2]
          rfl
        · rw [if_neg (by rw [decide_eq_true_eq]; exact h3)] at r2
          rw [if_neg h3]
          simp (disch := first | assumption | exact e_nk_i _ | exact e_nk_n | exact e_nk_r _ | exact e_bo_0 | exact e_bo_1 | exact e_bo_b _ | omega) only [e_cl_v, e_cl_x, e_add_0, e_add_s, Option.toList_some, Option.toList_none, List.cons_append, List.nil_append, iI_add, iI_sub, iI_mul, iI_lt, iI_eq, iI_le, r139_0, r139_1, r139_4, r139_7, r139_8, r139_11, r139_14, r139_15, r139_16, r139_19, r139_20, r139_23, r139_24, r139_27, r139_28, r139_31, r139_32, r139_35, r139_36, r139_37, r139_40, r139_41, r139_42, r139_43, r139_46, r139_49, r139_50, r139_51, r139_54, r139_57, r139_58, r139_61, r139_64, r139_65, r139_68, e0, e1, rt, e2, g2, i2, r2]
          simp [h2]
    · rw [decide_eq_false h1, bI_f] at e1
      refine ⟨M, ?_, H, fun _ _ => rfl⟩
      rw [if_neg (fun y => h1 y.2.1)]
      simp (disch := first | assumption | exact e_nk_i _ | exact e_nk_n | exact e_nk_r _ | exact e_bo_0 | exact e_bo_1 | exact e_bo_b _ | omega) only [e_cl_v, e_cl_x, e_add_0, e_add_s, Option.toList_some, Option.toList_none, List.cons_append, List.nil_append, iI_add, iI_sub, iI_mul, iI_lt, iI_eq, iI_le, r139_0, r139_1, r139_4, r139_7, r139_8, r139_11, r139_14, r139_15, r139_16, r139_19, r139_20, r139_23, r139_24, r139_27, r139_28, r139_31, r139_32, r139_35, r139_36, r139_37, r139_40, r139_41, r139_42, r139_43, r139_46, r139_49, r139_50, r139_51, r139_54, r139_57, r139_58, r139_61, r139_64, r139_65, r139_68, e0, e1, rf]
      simp
  · rw [decide_eq_false h0, bI_f] at e0
    refine ⟨M, ?_, H, fun _ _ => rfl⟩
    rw [if_neg (fun y => h0 y.1)]
    simp (disch := first | assumption | exact e_nk_i _ | exact e_nk_n | exact e_nk_r _ | exact e_bo_0 | exact e_bo_1 | exact e_bo_b _ | omega) only [e_cl_v, e_cl_x, e_add_0, e_add_s, Option.toList_some, Option.toList_none, List.cons_append, List.nil_append, iI_add, iI_sub, iI_mul, iI_lt, iI_eq, iI_le, r139_0, r139_1, r139_4, r139_7, r139_8, r139_11, r139_14, r139_15, r139_16, r139_19, r139_20, r139_23, r139_24, r139_27, r139_28, r139_31, r139_32, r139_35, r139_36, r139_37, r139_40, r139_41, r139_42, r139_43, r139_46, r139_49, r139_50, r139_51, r139_54, r139_57, r139_58, r139_61, r139_64, r139_65, r139_68, e0, rf]
    simp
end Ec55
