section Ec55
variable {L : Nat} {xs : Nat → Int32} {d : Nat} {M M2 M3 : e_MI} {V V2 : e_ML} {W : e_MD} {K K1 K2 : e_St} {S : Int → e_St} {h : e_H} {t t2 b2 : Nat} {c o w z m k q p i f e mc tl T x y v N n : Int} {sc bb : Bool} {l : List Int} {ρ ν μ χ β ε τ τ2 u : Int → Int}
/-! one machine's questions, two machines, in the class -/
theorem x_weighted (H : CK M K c S) (hg : kG K) (hm : i32 m) : ∃ M2 : e_MI, e_lim L xs (d + 5) 125 0 [some (.ref 0), some (.int (iI m))] [] (e_hp M V W) = (if 0 ≤ m ∧ m ≤ 3 then some (.inl (some (.int (iI (wtW K m)))), e_hp M2 V W, 0, 0) else some (.inr 0, e_hp M2 V W, 1, 6)) ∧ CK M2 K c S ∧ ∀ a, 178 < a → M2 a = M a := by
  have hr := hg.1
  have e0 := m_isMachine (L := L) (xs := xs) (d := d + 3) (M := M) (V := V) (W := W) (z := m) hm
  have r1 := m_requireArgument (L := L) (xs := xs) (d := d + 4) (h := e_hp M V W) (decide (0 ≤ m ∧ m ≤ 3))
  by_cases h0 : 0 ≤ m ∧ m ≤ 3
  · rw [if_pos (decide_eq_true h0)] at r1
    obtain ⟨M2, e1, ⟨g1, g2, g3, g4⟩, hf⟩ := o_arrange (L := L) (xs := xs) (d := d) (V := V) (W := W) H.sh hr h0 (w := 0) (by omega)
    have gi := wyL_in hr m 0
    have H2 : CK M2 K c S := H.of fun a x y => hf a (by omega)
    have e2 := o_sumEnds (L := L) (xs := xs) (d := d + 2) (V := V) (W := W) H2.sh hr g4 gi.2 gi.1 g1 g2
    have hw : wyL K m 0 = oneL K m true := rfl
    rw [hw] at e2
    refine ⟨M2, ?_, H2, fun a y => hf a (by omega)⟩
    rw [if_pos h0]
    simp (disch := first | assumption | exact e_nk_i _ | exact e_nk_n | exact e_nk_r _ | exact e_bo_0 | exact e_bo_1 | exact e_bo_b _ | omega) only [e_cl_v, e_cl_x, e_add_0, e_add_s, Option.toList_some, Option.toList_none, List.cons_append, List.nil_append, iI_add, iI_sub, iI_mul, iI_lt, iI_eq, iI_le, r125_0, r125_1, r125_4, r125_7, r125_8, r125_11, r125_12, r125_15, r125_16, r125_17, r125_20, r125_21, r125_24, r125_25, r125_28, r125_31, e0, r1, e1, e2]
    rfl
  · rw [if_neg (by rw [decide_eq_true_eq]; exact h0)] at r1
    refine ⟨M, ?_, H, fun _ _ => rfl⟩
    rw [if_neg h0]
    simp (disch := first | assumption | exact e_nk_i _ | exact e_nk_n | exact e_nk_r _ | exact e_bo_0 | exact e_bo_1 | exact e_bo_b _ | omega) only [e_cl_v, e_cl_x, e_add_0, e_add_s, Option.toList_some, Option.toList_none, List.cons_append, List.nil_append, iI_add, iI_sub, iI_mul, iI_lt, iI_eq, iI_le, r125_0, r125_1, r125_4, r125_7, r125_8, r125_11, r125_12, r125_15, r125_16, r125_17, r125_20, r125_21, r125_24, r125_25, r125_28, r125_31, e0, r1]
theorem x_lateness (H : CK M K c S) (hg : kG K) (hm : i32 m) : ∃ M2 : e_MI, e_lim L xs (d + 5) 126 0 [some (.ref 0), some (.int (iI m))] [] (e_hp M V W) = (if 0 ≤ m ∧ m ≤ 3 then some (.inl (some (.int (iI (ltW K m)))), e_hp M2 V W, 0, 0) else some (.inr 0, e_hp M2 V W, 1, 6)) ∧ CK M2 K c S ∧ ∀ a, 178 < a → M2 a = M a := by
  have hr := hg.1
  have e0 := m_isMachine (L := L) (xs := xs) (d := d + 3) (M := M) (V := V) (W := W) (z := m) hm
  have r1 := m_requireArgument (L := L) (xs := xs) (d := d + 4) (h := e_hp M V W) (decide (0 ≤ m ∧ m ≤ 3))
  by_cases h0 : 0 ≤ m ∧ m ≤ 3
  · rw [if_pos (decide_eq_true h0)] at r1
    obtain ⟨M2, e1, ⟨g1, g2, g3, g4⟩, hf⟩ := o_arrange (L := L) (xs := xs) (d := d) (V := V) (W := W) H.sh hr h0 (w := 1) (by omega)
    have gi := wyL_in hr m 1
    have H2 : CK M2 K c S := H.of fun a x y => hf a (by omega)
    have e2 := o_lateness (L := L) (xs := xs) (d := d + 2) (V := V) (W := W) H2.sh hr g4 gi.2 gi.1 g1 g2
    have hw : wyL K m 1 = oneL K m false := rfl
    rw [hw] at e2
    refine ⟨M2, ?_, H2, fun a y => hf a (by omega)⟩
    rw [if_pos h0]
    simp (disch := first | assumption | exact e_nk_i _ | exact e_nk_n | exact e_nk_r _ | exact e_bo_0 | exact e_bo_1 | exact e_bo_b _ | omega) only [e_cl_v, e_cl_x, e_add_0, e_add_s, Option.toList_some, Option.toList_none, List.cons_append, List.nil_append, iI_add, iI_sub, iI_mul, iI_lt, iI_eq, iI_le, r126_0, r126_1, r126_4, r126_7, r126_8, r126_11, r126_12, r126_15, r126_16, r126_17, r126_20, r126_21, r126_24, r126_25, r126_28, r126_31, e0, r1, e1, e2]
    rfl
  · rw [if_neg (by rw [decide_eq_true_eq]; exact h0)] at r1
    refine ⟨M, ?_, H, fun _ _ => rfl⟩
    rw [if_neg h0]
    simp (disch := first | assumption | exact e_nk_i _ | exact e_nk_n | exact e_nk_r _ | exact e_bo_0 | exact e_bo_1 | exact e_bo_b _ | omega) only [e_cl_v, e_cl_x, e_add_0, e_add_s, Option.toList_some, Option.toList_none, List.cons_append, List.nil_append, iI_add, iI_sub, iI_mul, iI_lt, iI_eq, iI_le, r126_0, r126_1, r126_4, r126_7, r126_8, r126_11, r126_12, r126_15, r126_16, r126_17, r126_20, r126_21, r126_24, r126_25, r126_28, r126_31, e0, r1]
theorem x_fewestLate (H : CK M K c S) (hg : kG K) (hm : i32 m) : ∃ M2 : e_MI, e_lim L xs (d + 5) 127 0 [some (.ref 0), some (.int (iI m))] [] (e_hp M V W) = (if 0 ≤ m ∧ m ≤ 3 then some (.inl (some (.int (iI ((goW K m).2.length : Int)))), e_hp M2 V W, 0, 0) else some (.inr 0, e_hp M2 V W, 1, 6)) ∧ CK M2 K c S ∧ ∀ a, 178 < a → M2 a = M a := by
  have hr := hg.1
  have e0 := m_isMachine (L := L) (xs := xs) (d := d + 3) (M := M) (V := V) (W := W) (z := m) hm
  have r1 := m_requireArgument (L := L) (xs := xs) (d := d + 4) (h := e_hp M V W) (decide (0 ≤ m ∧ m ≤ 3))
  by_cases h0 : 0 ≤ m ∧ m ≤ 3
  · rw [if_pos (decide_eq_true h0)] at r1
    obtain ⟨M2, e1, ⟨g1, g2, g3, g4⟩, hf⟩ := o_arrange (L := L) (xs := xs) (d := d) (V := V) (W := W) H.sh hr h0 (w := 2) (by omega)
    have H2 : CK M2 K c S := H.of fun a x y => hf a (by omega)
    have e2 := g3 rfl
    refine ⟨M2, ?_, H2, fun a y => hf a (by omega)⟩
    rw [if_pos h0]
    simp (disch := first | assumption | exact e_nk_i _ | exact e_nk_n | exact e_nk_r _ | exact e_bo_0 | exact e_bo_1 | exact e_bo_b _ | omega) only [e_cl_v, e_cl_x, e_add_0, e_add_s, Option.toList_some, Option.toList_none, List.cons_append, List.nil_append, iI_add, iI_sub, iI_mul, iI_lt, iI_eq, iI_le, r127_0, r127_1, r127_4, r127_7, r127_8, r127_11, r127_12, r127_15, r127_16, r127_17, r127_20, r127_21, r127_24, r127_27, e0, r1, e1, e2]
  · rw [if_neg (by rw [decide_eq_true_eq]; exact h0)] at r1
    refine ⟨M, ?_, H, fun _ _ => rfl⟩
    rw [if_neg h0]
    simp (disch := first | assumption | exact e_nk_i _ | exact e_nk_n | exact e_nk_r _ | exact e_bo_0 | exact e_bo_1 | exact e_bo_b _ | omega) only [e_cl_v, e_cl_x, e_add_0, e_add_s, Option.toList_some, Option.toList_none, List.cons_append, List.nil_append, iI_add, iI_sub, iI_mul, iI_lt, iI_eq, iI_le, r127_0, r127_1, r127_4, r127_7, r127_8, r127_11, r127_12, r127_15, r127_16, r127_17, r127_20, r127_21, r127_24, r127_27, e0, r1]
theorem x_oneAt (H : CK M K c S) (hg : kG K) (hm : i32 m) (hw : i32 w) (hp : i32 p) : ∃ M2 : e_MI, e_lim L xs (d + 5) 128 0 [some (.ref 0), some (.int (iI m)), some (.int (iI w)), some (.int (iI p))] [] (e_hp M V W) = (if (0 ≤ m ∧ m ≤ 3) ∧ 0 ≤ w ∧ w ≤ 2 then (if 0 ≤ p ∧ p ≤ ((wyL K m w).length : Int) - 1 then some (.inl (some (.int (iI (anOA K m w p)))), e_hp M2 V W, 0, 0) else some (.inr 2, e_hp M2 V W, 1, 6)) else some (.inr 0, e_hp M2 V W, 1, 6)) ∧ CK M2 K c S ∧ ∀ a, 178 < a → M2 a = M a := by
  have hr := hg.1
  have e0 := m_isMachine (L := L) (xs := xs) (d := d + 3) (M := M) (V := V) (W := W) (z := m) hm
  have i1 := m_isWithin (L := L) (xs := xs) (d := d + 4) (h := e_hp M V W) (x := w) (y2 := 0) (z2 := 2) hw (by omega) (by omega)
  have rt := m_requireArgument (L := L) (xs := xs) (d := d + 4) (h := e_hp M V W) true
  have rf := m_requireArgument (L := L) (xs := xs) (d := d + 4) (h := e_hp M V W) false
  rw [if_pos rfl, bI_t] at rt
  rw [if_neg (by decide), bI_f] at rf
  by_cases h0 : 0 ≤ m ∧ m ≤ 3
  · rw [decide_eq_true h0, bI_t] at e0
    by_cases h1 : 0 ≤ w ∧ w ≤ 2
    · rw [decide_eq_true h1, bI_t] at i1
      obtain ⟨M2, e1, ⟨g1, g2, g3, g4⟩, hf⟩ := o_arrange (L := L) (xs := xs) (d := d) (V := V) (W := W) H.sh hr h0 h1
      have gi := wyL_in hr m w
      have H2 : CK M2 K c S := H.of fun a x y => hf a (by omega)
      have i2 := m_isWithin (L := L) (xs := xs) (d := d + 4) (h := e_hp M2 V W) (x := p) (y2 := 0) (z2 := ((wyL K m w).length : Int) - 1) hp (by omega) (by omega)
      have r2 := m_requireIndex (L := L) (xs := xs) (d := d + 4) (h := e_hp M2 V W) (decide (0 ≤ p ∧ p ≤ ((wyL K m w).length : Int) - 1))
      refine ⟨M2, ?_, H2, fun a y => hf a (by omega)⟩
      rw [if_pos ⟨h0, h1⟩]
      by_cases h2 : 0 ≤ p ∧ p ≤ ((wyL K m w).length : Int) - 1
      · rw [if_pos (decide_eq_true h2)] at r2
        have e2 := m_atI (L := L) (xs := xs) (d := d + 4) (M := M2) (V := V) (W := W) (v := iI ((wyL K m w).getD p.toNat 0)) si_171 (z := p) h2.1 (by omega) (la_get g1 (by omega))
        rw [if_pos h2]
        simp (disch := first | assumption | exact e_nk_i _ | exact e_nk_n | exact e_nk_r _ | exact e_bo_0 | exact e_bo_1 | exact e_bo_b _ | omega) only [e_cl_v, e_cl_x, e_add_0, e_add_s, Option.toList_some, Option.toList_none, List.cons_append, List.nil_append, iI_add, iI_sub, iI_mul, iI_lt, iI_eq, iI_le, r128_0, r128_1, r128_4, r128_7, r128_8, r128_9, r128_10, r128_13, r128_16, r128_17, r128_20, r128_21, r128_24, r128_25, r128_28, r128_29, r128_32, r128_33, r128_34, r128_37, r128_38, r128_39, r128_40, r128_43, r128_46, r128_47, r128_48, r128_51, r128_54, r128_55, r128_58, r128_61, r128_62, r128_65, e0, i1, rt, e1, g2, i2, r2, e2]
        simp
        rfl
      · rw [if_neg (by rw [decide_eq_true_eq]; exact h2)] at r2
        rw [if_neg h2]
        simp (disch := first | assumption | exact e_nk_i _ | exact e_nk_n | exact e_nk_r _ | exact e_bo_0 | exact e_bo_1 | exact e_bo_b _ | omega) only [e_cl_v, e_cl_x, e_add_0, e_add_s, Option.toList_some, Option.toList_none, List.cons_append, List.nil_append, iI_add, iI_sub, iI_mul, iI_lt, iI_eq, iI_le, r128_0, r128_1, r128_4, r128_7, r128_8, r128_9, r128_10, r128_13, r128_16, r128_17, r128_20, r128_21, r128_24, r128_25, r128_28, r128_29, r128_32, r128_33, r128_34, r128_37, r128_38, r128_39, r128_40, r128_43, r128_46, r128_47, r128_48, r128_51, r128_54, r128_55, r128_58, r128_61, r128_62, r128_65, e0, i1, rt, e1, g2, i2, r2]
        simp
    · rw [decide_eq_false h1, bI_f] at i1
      refine ⟨M, ?_, H, fun _ _ => rfl⟩
      rw [if_neg (fun y => h1 y.2)]
      simp (disch := first | assumption | exact e_nk_i _ | exact e_nk_n | exact e_nk_r _ | exact e_bo_0 | exact e_bo_1 | exact e_bo_b _ | omega) only [e_cl_v, e_cl_x, e_add_0, e_add_s, Option.toList_some, Option.toList_none, List.cons_append, List.nil_append, iI_add, iI_sub, iI_mul, iI_lt, iI_eq, iI_le, r128_0, r128_1, r128_4, r128_7, r128_8, r128_9, r128_10, r128_13, r128_16, r128_17, r128_20, r128_21, r128_24, r128_25, r128_28, r128_29, r128_32, r128_33, r128_34, r128_37, r128_38, r128_39, r128_40, r128_43, r128_46, r128_47, r128_48, r128_51, r128_54, r128_55, r128_58, r128_61, r128_62, r128_65, e0, i1, rf]
      simp
  · rw [decide_eq_false h0, bI_f] at e0
    refine ⟨M, ?_, H, fun _ _ => rfl⟩
    rw [if_neg (fun y => h0 y.1)]
    simp (disch := first | assumption | exact e_nk_i _ | exact e_nk_n | exact e_nk_r _ | exact e_bo_0 | exact e_bo_1 | exact e_bo_b _ | omega) only [e_cl_v, e_cl_x, e_add_0, e_add_s, Option.toList_some, Option.toList_none, List.cons_append, List.nil_append, iI_add, iI_sub, iI_mul, iI_lt, iI_eq, iI_le, r128_0, r128_1, r128_4, r128_7, r128_8, r128_9, r128_10, r128_13, r128_16, r128_17, r128_20, r128_21, r128_24, r128_25, r128_28, r128_29, r128_32, r128_33, r128_34, r128_37, r128_38, r128_39, r128_40, r128_43, r128_46, r128_47, r128_48, r128_51, r128_54, r128_55, r128_58, r128_61, r128_62, r128_65, e0, rf]
    simp
theorem w_isAhead (hr : kR K) (hA : e_ar (M 174) n (fun o => tO K o m)) (hB : e_ar (M 175) n (fun o => tO K o q)) (ho : 0 ≤ o ∧ o < n) (hp : 0 ≤ p ∧ p < n) (hn : n ≤ 8) : e_lim L xs (d + 1) 98 0 [some (.ref 173), some (.int (iI o)), some (.int (iI p)), none, none] [] (e_hp M V W) = some (.inl (some (.int (bI (isT K m q o p)))), e_hp M V W, 0, 0) := by
  have e1 := m_atI (L := L) (xs := xs) (d := d) (M := M) (V := V) (W := W) (a := 174) (n := 8) si_174 (z := o) ho.1 (by omega) (hA o ho.1 ho.2)
  have e2 := m_atI (L := L) (xs := xs) (d := d) (M := M) (V := V) (W := W) (a := 175) (n := 8) si_175 (z := o) ho.1 (by omega) (hB o ho.1 ho.2)
  have e3 := m_atI (L := L) (xs := xs) (d := d) (M := M) (V := V) (W := W) (a := 174) (n := 8) si_174 (z := p) hp.1 (by omega) (hA p hp.1 hp.2)
  have e4 := m_atI (L := L) (xs := xs) (d := d) (M := M) (V := V) (W := W) (a := 175) (n := 8) si_175 (z := p) hp.1 (by omega) (hB p hp.1 hp.2)
  have r1 := tO_rg hr (o := o) (m := m) (by omega)
  have r2 := tO_rg hr (o := o) (m := q) (by omega)
  have r3 := tO_rg hr (o := p) (m := m) (by omega)
  have r4 := tO_rg hr (o := p) (m := q) (by omega)
  simp only at e1 e2 e3 e4
  unfold isT
  generalize tO K o m = a at *
  generalize tO K o q = b at *
  generalize tO K p m = a2 at *
  generalize tO K p q = b2 at *
  simp (disch := first | assumption | exact e_nk_i _ | exact e_nk_n | exact e_nk_r _ | exact e_bo_0 | exact e_bo_1 | exact e_bo_b _ | omega) only [e_cl_v, e_cl_x, e_add_0, e_add_s, Option.toList_some, Option.toList_none, List.cons_append, List.nil_append, iI_add, iI_sub, iI_mul, iI_lt, iI_eq, iI_le, r98_0, r98_1, r98_4, r98_5, r98_8, r98_9, r98_12, r98_13, r98_16, r98_19, r98_20, r98_23, r98_24, r98_25, r98_26, r98_29, r98_30, r98_33, r98_34, r98_37, r98_38, r98_41, r98_44, r98_45, r98_48, r98_49, r98_51, r98_52, r98_54, r98_57, r98_58, r98_59, r98_60, r98_63, r98_64, r98_67, r98_68, r98_71, r98_72, r98_75, r98_76, r98_79, r98_82, r98_83, r98_86, r98_87, r98_90, r98_91, r98_94, r98_95, r98_98, r98_99, r98_102, r98_103, r98_106, r98_109, r98_110, r98_113, r98_114, e1, e2, e3, e4]
  by_cases z1 : a < b
  · by_cases z2 : a2 < b2
    · by_cases z3 : a < a2
      · simp [z1, z2, z3, bI, iI_eq]
      · simp [z1, z2, z3, bI, iI_eq]
    · simp [z1, z2, bI, iI_eq]
  · by_cases z2 : a2 < b2
    · simp [z1, z2, bI, iI_eq]
    · by_cases z3 : b2 < b
      · simp [z1, z2, z3, bI, iI_eq]
      · simp [z1, z2, z3, bI, iI_eq]
theorem w_insIn (hr : kR K) (ho : 0 ≤ o ∧ o < n) (hn : n ≤ 8) : ∀ (a b : List Int) (M : e_MI), e_ar (M 174) n (fun o => tO K o m) → e_ar (M 175) n (fun o => tO K o q) → (∀ x ∈ a, 0 ≤ x ∧ x < n) → a.length + b.length ≤ 7 → M 173 3 = iI ((a.length + b.length : Nat) : Int) → e_ho (M 176) a.reverse b → ∃ M2 : e_MI, e_lim L xs (d + 2) 97 5 [some (.ref 173), some (.int (iI o)), some (.int (iI (a.length : Int)))] [] (e_hp M V W) = some (.inl none, e_hp M2 V W, 0, 0) ∧ e_la (M2 176) (insG (isT K m q) o a b) ∧ (∀ x, x ≠ 173 → x ≠ 176 → M2 x = M x) ∧ M2 173 3 = iI ((a.length + b.length + 1 : Nat) : Int)
  | [], b, M, hA, hB, ha, hl, hc, hh => by
    rw [List.length_nil, Nat.zero_add] at hc hl
    have e1 := m_putI (L := L) (xs := xs) (d := d + 1) (M := M) (V := V) (W := W) (v := iI o) si_176 (z := 0) (by omega) (by omega)
    refine ⟨e_u (e_u M 176 (upd (M 176) 0 (iI o))) 173 (upd (M 173) 3 (iI ((b.length + 1 : Nat) : Int))), ?_, ?_, fun x y z => ?_, ?_⟩
    · rw [show (([] : List Int).length : Int) = 0 from rfl]
      simp (disch := first | assumption | exact e_nk_i _ | exact e_nk_n | exact e_nk_r _ | exact e_bo_0 | exact e_bo_1 | exact e_bo_b _ | omega) only [e_cl_v, e_cl_x, e_add_0, e_add_s, Option.toList_some, Option.toList_none, List.cons_append, List.nil_append, iI_add, iI_sub, iI_mul, iI_lt, iI_eq, iI_le, r97_5, r97_6, r97_9, r97_10, r97_11, r97_12, r97_15, r97_16, r97_17, r97_18, r97_21, r97_24, r97_27, r97_28, r97_31, r97_32, r97_33, r97_36, r97_37, r97_38, r97_39, r97_42, r97_45, r97_48, r97_51, r97_52, r97_55, r97_56, r97_57, r97_60, r97_61, r97_62, r97_65, r97_66, r97_67, r97_70, e1, e_u_n, hc]
      simp
    · rw [e_u_n _ _ (by decide), e_u_s]
      exact ho_pu (a := []) hh
    · rw [e_u_n _ _ y, e_u_n _ _ z]
    · rw [e_u_s, upd_s, List.length_nil, Nat.zero_add]
  | x :: a, b, M, hA, hB, ha, hl, hc, hh => by
    rw [List.length_cons] at hl hc
    have hx := ha x (List.mem_cons_self)
    have e1 := w_isAhead (L := L) (xs := xs) (d := d) (V := V) (W := W) hr hA hB ho hx hn
    have hat : M 176 a.length = iI x := by
      have := hh
      rw [List.reverse_cons] at this
      have := ho_at this
      rw [List.length_reverse] at this
      exact this
    have hn2 : ((a.length + 1 : Nat) : Int) - 1 = (a.length : Int) := by omega
    have e2 := m_atI (L := L) (xs := xs) (d := d + 1) (M := M) (V := V) (W := W) (v := iI x) si_176 (z := (a.length : Int)) (by omega) (by omega) (by rw [Int.toNat_natCast]; exact hat)
    by_cases hq : isT K m q o x = true
    · have e3 := m_putI (L := L) (xs := xs) (d := d + 1) (M := M) (V := V) (W := W) (v := iI x) si_176 (z := ((a.length + 1 : Nat) : Int)) (by omega) (by omega)
      rw [Int.toNat_natCast] at e3
      obtain ⟨M2, e, r1, r2, r4⟩ := w_insIn hr ho hn a (x :: b) (e_u M 176 (upd (M 176) (a.length + 1) (iI x))) (by rw [e_u_n _ _ (by decide)]; exact hA) (by rw [e_u_n _ _ (by decide)]; exact hB) (fun y hy => ha y (List.mem_cons_of_mem x hy)) (by rw [List.length_cons]; omega) (by rw [e_u_n _ _ (by decide), hc, List.length_cons]; congr 1; omega) (by
        rw [e_u_s]
        have h1 := hh
        rw [List.reverse_cons] at h1
        have := ho_mv h1
        rw [List.length_reverse] at this
        exact this)
      refine ⟨M2, ?_, ?_, fun y u w => by rw [r2 y u w, e_u_n _ _ w], by rw [r4, List.length_cons, List.length_cons]; congr 1; omega⟩
      · rw [hq, bI_t] at e1
        rw [← e, List.length_cons, r97_5]
        simp (disch := first | assumption | exact e_nk_i _ | exact e_nk_n | exact e_nk_r _ | exact e_bo_0 | exact e_bo_1 | exact e_bo_b _ | omega) only [e_cl_v, e_cl_x, e_add_0, e_add_s, Option.toList_some, Option.toList_none, List.cons_append, List.nil_append, iI_add, iI_sub, iI_mul, iI_lt, iI_eq, iI_le, r97_6, r97_9, r97_10, r97_11, r97_12, r97_15, r97_16, r97_17, r97_18, r97_21, r97_24, r97_27, r97_28, r97_31, r97_32, r97_33, r97_36, r97_37, r97_38, r97_39, r97_42, r97_45, r97_48, hn2, e2, e1, e3]
        rw [if_neg (by omega)]
        simp
        rw [show (a.length : Int) + 1 + -1 = a.length by omega]
      · unfold insG
        rw [if_pos hq]
        exact r1
    · have hqf : isT K m q o x = false := by simpa using hq
      have e3 := m_putI (L := L) (xs := xs) (d := d + 1) (M := M) (V := V) (W := W) (v := iI o) si_176 (z := ((a.length + 1 : Nat) : Int)) (by omega) (by omega)
      rw [Int.toNat_natCast] at e3
      refine ⟨e_u (e_u M 176 (upd (M 176) (a.length + 1) (iI o))) 173 (upd (M 173) 3 (iI ((a.length + 1 + b.length + 1 : Nat) : Int))), ?_, ?_, fun x y z => ?_, ?_⟩
      · rw [hqf, bI_f] at e1
        rw [List.length_cons]
        simp (disch := first | assumption | exact e_nk_i _ | exact e_nk_n | exact e_nk_r _ | exact e_bo_0 | exact e_bo_1 | exact e_bo_b _ | omega) only [e_cl_v, e_cl_x, e_add_0, e_add_s, Option.toList_some, Option.toList_none, List.cons_append, List.nil_append, iI_add, iI_sub, iI_mul, iI_lt, iI_eq, iI_le, r97_5, r97_6, r97_9, r97_10, r97_11, r97_12, r97_15, r97_16, r97_17, r97_18, r97_21, r97_24, r97_27, r97_28, r97_31, r97_32, r97_33, r97_36, r97_37, r97_38, r97_39, r97_42, r97_45, r97_48, r97_51, r97_52, r97_55, r97_56, r97_57, r97_60, r97_61, r97_62, r97_65, r97_66, r97_67, r97_70, hn2, e2, e1, e3, e_u_n, hc]
        rw [if_neg (by omega)]
        simp
      · rw [e_u_n _ _ (by decide), e_u_s]
        unfold insG
        rw [if_neg hq]
        have := ho_pu (o := o) hh
        rw [List.length_reverse, List.length_cons] at this
        exact this
      · rw [e_u_n _ _ y, e_u_n _ _ z]
      · rw [e_u_s, upd_s, List.length_cons]
/-- two machines' row stands -/
def WR (M : e_MI) (K : e_St) (m q : Int) : Prop := e_la (M 176) (twoL K m q) ∧ M 173 3 = iI ((twoL K m q).length : Int) ∧ e_ar (M 174) (K 310) (fun o => tO K o m) ∧ e_ar (M 175) (K 310) (fun o => tO K o q)
theorem w_arrange (H : SH M 1 K) (hr : kR K) (hm : 0 ≤ m ∧ m ≤ 3) (hq : 0 ≤ q ∧ q ≤ 3) : ∃ M2 : e_MI, e_lim L xs (d + 3) 96 0 [some (.ref 173), some (.ref 1), some (.int (iI m)), some (.int (iI q)), none, none, none] [] (e_hp M V W) = some (.inl none, e_hp M2 V W, 0, 0) ∧ WR M2 K m q ∧ ∀ a, a < 173 ∨ 176 < a → M2 a = M a := by
  have hn8 := hr.n
  have key := G_lp (i := 0) (n := K 310) (I := fun i M1 => e_la (M1 176) (rowL (isT K m q) (fun o => decide (tO K o m + tO K o q ≠ 0)) i.toNat) ∧ M1 173 3 = iI ((rowL (isT K m q) (fun o => decide (tO K o m + tO K o q ≠ 0)) i.toNat).length : Int) ∧ e_ar (M1 174) i (fun o => tO K o m) ∧ e_ar (M1 175) i (fun o => tO K o q) ∧ ∀ a, a < 173 ∨ 176 < a → M1 a = M a) (P := fun i M1 => ∃ M2 : e_MI, e_lim L xs (d + 3) 96 8 [some (.ref 173), some (.ref 1), some (.int (iI m)), some (.int (iI q)), some (.int (iI i)), none, none] [] (e_hp M1 V W) = some (.inl none, e_hp M2 V W, 0, 0) ∧ WR M2 K m q ∧ ∀ a, a < 173 ∨ 176 < a → M2 a = M a) (fun j M1 a b hI hc => ?_) (fun M1 hI => ?_) hn8.1 (e_u M 173 (upd (M 173) 3 (iI 0))) ⟨fun i x hx => by simp [rowL] at hx, by rw [e_u_s, upd_s]; rfl, fun z a b => by omega, fun z a b => by omega, fun a x => e_u_n _ _ (by omega)⟩
  · obtain ⟨M2, e, r⟩ := key
    refine ⟨M2, ?_, r⟩
    rw [← e]
    simp (disch := first | assumption | exact e_nk_i _ | exact e_nk_n | exact e_nk_r _ | exact e_bo_0 | exact e_bo_1 | exact e_bo_b _ | omega) only [e_cl_v, e_cl_x, e_add_0, e_add_s, Option.toList_some, Option.toList_none, List.cons_append, List.nil_append, iI_add, iI_sub, iI_mul, iI_lt, iI_eq, iI_le, r96_0, r96_1, r96_2, r96_5, r96_6]
  · obtain ⟨i1, i2, i3, i4, i5⟩ := hI
    have H1 : SH M1 1 K := H.of fun a x y => i5 a (by omega)
    have c1 := H1.cn
    have e1 := s_timeOn (L := L) (xs := xs) (d := d) (V := V) (W := W) H1 hr (o := j) a b (m := m) hm
    have e2 := s_timeOn (L := L) (xs := xs) (d := d) (V := V) (W := W) H1 hr (o := j) a b (m := q) hq
    have r1 := tO_rg hr (o := j) (m := m) (by omega)
    have r2 := tO_rg hr (o := j) (m := q) (by omega)
    have e3 := m_putI (L := L) (xs := xs) (d := d + 2) (M := M1) (V := V) (W := W) (v := iI (tO K j m)) si_174 (z := j) a (by omega)
    have e4 := m_putI (L := L) (xs := xs) (d := d + 2) (M := e_u M1 174 (upd (M1 174) j.toNat (iI (tO K j m)))) (V := V) (W := W) (v := iI (tO K j q)) si_175 (z := j) a (by omega)
    rw [e_u_n _ _ (show (175 : Nat) ≠ 174 by decide)] at e4
    have hA2 : e_ar (e_u (e_u M1 174 (upd (M1 174) j.toNat (iI (tO K j m)))) 175 (upd (M1 175) j.toNat (iI (tO K j q))) 174) (j + 1) (fun o => tO K o m) := by
      rw [e_u_n _ _ (by decide), e_u_s]
      refine (i3.more (v := tO K j m) a).cong (fun z x y => ?_)
      unfold uI
      by_cases hz : z = j
      · rw [if_pos hz, hz]
      · rw [if_neg hz]
    have hB2 : e_ar (e_u (e_u M1 174 (upd (M1 174) j.toNat (iI (tO K j m)))) 175 (upd (M1 175) j.toNat (iI (tO K j q))) 175) (j + 1) (fun o => tO K o q) := by
      rw [e_u_s]
      refine (i4.more (v := tO K j q) a).cong (fun z x y => ?_)
      unfold uI
      by_cases hz : z = j
      · rw [if_pos hz, hz]
      · rw [if_neg hz]
    have f2 : ∀ z, z ≠ 174 → z ≠ 175 → e_u (e_u M1 174 (upd (M1 174) j.toNat (iI (tO K j m)))) 175 (upd (M1 175) j.toNat (iI (tO K j q))) z = M1 z := fun z y w => by rw [e_u_n _ _ w, e_u_n _ _ y]
    have hlen := rowL_len (isT K m q) (fun o => decide (tO K o m + tO K o q ≠ 0)) j.toNat
    have hst : rowL (isT K m q) (fun o => decide (tO K o m + tO K o q ≠ 0)) (j + 1).toNat = if decide (tO K j m + tO K j q ≠ 0) = true then insS (isT K m q) j (rowL (isT K m q) (fun o => decide (tO K o m + tO K o q ≠ 0)) j.toNat) else rowL (isT K m q) (fun o => decide (tO K o m + tO K o q ≠ 0)) j.toNat := by
      rw [show (j + 1).toNat = j.toNat + 1 by omega]
      show (if decide (tO K (j.toNat : Int) m + tO K (j.toNat : Int) q ≠ 0) = true then insS (isT K m q) (j.toNat : Int) _ else _) = _
      rw [Int.toNat_of_nonneg a]
    rw [hst] at hc
    generalize hM2 : e_u (e_u M1 174 (upd (M1 174) j.toNat (iI (tO K j m)))) 175 (upd (M1 175) j.toNat (iI (tO K j q))) = Mb at *
    by_cases hz : tO K j m + tO K j q = 0
    · rw [if_neg (by simp [hz])] at hc
      obtain ⟨M2, e, r⟩ := hc Mb ⟨by rw [f2 176 (by decide) (by decide)]; exact i1, by rw [f2 173 (by decide) (by decide)]; exact i2, hA2, hB2, fun z y => by rw [f2 z (by omega) (by omega), i5 z y]⟩
      refine ⟨M2, ?_, r⟩
      have e' := G_less (l := [some (.ref 173), some (.ref 1), some (.int (iI m)), some (.int (iI q)), some (.int (iI (j + 1))), some (.int (iI (tO K j m))), some (.int (iI (tO K j q)))]) (by repeat (first | exact e_ll.rf | refine e_ll_c ?_ | refine e_ll_x ?_)) e
      rw [← e', r96_8]
      simp (disch := first | assumption | exact e_nk_i _ | exact e_nk_n | exact e_nk_r _ | exact e_bo_0 | exact e_bo_1 | exact e_bo_b _ | omega) only [e_cl_v, e_cl_x, e_add_0, e_add_s, Option.toList_some, Option.toList_none, List.cons_append, List.nil_append, iI_add, iI_sub, iI_mul, iI_lt, iI_eq, iI_le, r96_10, r96_11, r96_14, r96_17, r96_18, r96_20, r96_21, r96_24, r96_26, r96_27, r96_29, r96_30, r96_33, r96_35, r96_36, r96_39, r96_41, r96_43, r96_46, r96_47, r96_50, r96_52, r96_54, r96_57, r96_59, r96_61, r96_62, r96_65, r96_66, r96_68, r96_71, r96_74, c1, e1, e2, e3, e4]
      rw [if_pos b]
      first | rw [if_pos (by omega)] | rw [if_neg (by omega)]
    · rw [if_pos (by simp [hz])] at hc
      have hmem : ∀ x ∈ (rowL (isT K m q) (fun o => decide (tO K o m + tO K o q ≠ 0)) j.toNat).reverse, 0 ≤ x ∧ x < j + 1 := fun x hx => by
        rw [List.mem_reverse, rowL_mem] at hx
        omega
      obtain ⟨M4, e5, r3, r4, r5⟩ := w_insIn (L := L) (xs := xs) (d := d) (V := V) (W := W) (m := m) (q := q) (o := j) (n := j + 1) hr ⟨a, by omega⟩ (by omega) (rowL (isT K m q) (fun o => decide (tO K o m + tO K o q ≠ 0)) j.toNat).reverse [] Mb hA2 hB2 hmem (by rw [List.length_reverse, List.length_nil]; omega) (by rw [f2 173 (by decide) (by decide), i2, List.length_reverse, List.length_nil]; rfl) (by rw [List.reverse_reverse, f2 176 (by decide) (by decide)]; exact ho_in i1)
      have c3 : Mb 173 3 = iI ((rowL (isT K m q) (fun o => decide (tO K o m + tO K o q ≠ 0)) j.toNat).length : Int) := by rw [f2 173 (by decide) (by decide), i2]
      rw [List.length_reverse] at e5
      have e6 : e_lim L xs (d + 2) 97 0 [some (.ref 173), some (.int (iI j)), none] [] (e_hp Mb V W) = some (.inl none, e_hp M4 V W, 0, 0) := by
        rw [← e5]
        simp (disch := first | assumption | exact e_nk_i _ | exact e_nk_n | exact e_nk_r _ | exact e_bo_0 | exact e_bo_1 | exact e_bo_b _ | omega) only [e_cl_v, e_cl_x, e_add_0, e_add_s, Option.toList_some, Option.toList_none, List.cons_append, List.nil_append, iI_add, iI_sub, iI_mul, iI_lt, iI_eq, iI_le, r97_0, r97_1, r97_4, c3]
      obtain ⟨M2, e, r⟩ := hc M4 ⟨r3, by rw [r5, (insS_perm (isT K m q) j _).length_eq, List.length_reverse, List.length_nil, List.length_cons], by rw [r4 174 (by decide) (by decide)]; exact hA2, by rw [r4 175 (by decide) (by decide)]; exact hB2, fun z y => by rw [r4 z (by omega) (by omega), f2 z (by omega) (by omega), i5 z y]⟩
      refine ⟨M2, ?_, r⟩
      have e' := G_less (l := [some (.ref 173), some (.ref 1), some (.int (iI m)), some (.int (iI q)), some (.int (iI (j + 1))), some (.int (iI (tO K j m))), some (.int (iI (tO K j q)))]) (by repeat (first | exact e_ll.rf | refine e_ll_c ?_ | refine e_ll_x ?_)) e
      rw [← e', r96_8]
      simp (disch := first | assumption | exact e_nk_i _ | exact e_nk_n | exact e_nk_r _ | exact e_bo_0 | exact e_bo_1 | exact e_bo_b _ | omega) only [e_cl_v, e_cl_x, e_add_0, e_add_s, Option.toList_some, Option.toList_none, List.cons_append, List.nil_append, iI_add, iI_sub, iI_mul, iI_lt, iI_eq, iI_le, r96_10, r96_11, r96_14, r96_17, r96_18, r96_20, r96_21, r96_24, r96_26, r96_27, r96_29, r96_30, r96_33, r96_35, r96_36, r96_39, r96_41, r96_43, r96_46, r96_47, r96_50, r96_52, r96_54, r96_57, r96_59, r96_61, r96_62, r96_65, r96_66, r96_68, r96_71, r96_74, c1, e1, e2, e3, e4, e6]
      rw [if_pos b]
      first | rw [if_neg (by omega)] | rw [if_pos (by omega)]
  · obtain ⟨i1, i2, i3, i4, i5⟩ := hI
    have c1 : M1 1 0 = iI (K 310) := by rw [i5 1 (by omega)]; exact H.cn
    refine ⟨M1, ?_, ⟨i1, i2, i3, i4⟩, i5⟩
    rw [r96_8]
    simp (disch := first | assumption | exact e_nk_i _ | exact e_nk_n | exact e_nk_r _ | exact e_bo_0 | exact e_bo_1 | exact e_bo_b _ | omega) only [e_cl_v, e_cl_x, e_add_0, e_add_s, Option.toList_some, Option.toList_none, List.cons_append, List.nil_append, iI_add, iI_sub, iI_mul, iI_lt, iI_eq, iI_le, r96_10, r96_11, r96_14, r96_77, c1]
    rw [if_neg (by omega)]
theorem twoL_in (hr : kR K) (m q : Int) : (∀ x ∈ twoL K m q, 0 ≤ x ∧ x < K 310) ∧ (twoL K m q).length ≤ 8 := by
  have hn := hr.n
  have hlen := rowL_len (isT K m q) (fun o => decide (tO K o m + tO K o q ≠ 0)) (K 310).toNat
  refine ⟨fun x hx => ?_, by unfold twoL; omega⟩
  unfold twoL at hx
  rw [rowL_mem] at hx
  omega
theorem w_finish (hr : kR K) (hR : WR M K m q) : e_lim L xs (d + 1) 99 0 [some (.ref 173), none, none, none, none] [] (e_hp M V W) = some (.inl (some (.int (iI (twW K m q)))), e_hp M V W, 0, 0) := by
  obtain ⟨g1, g2, g3, g4⟩ := hR
  have hn := hr.n
  have gi := twoL_in hr m q
  unfold twW
  generalize twoL K m q = l at *
  have main : e_lim L xs (d + 1) 99 6 [some (.ref 173), some (.int (iI (twF K m q l (0 : Int).toNat).1)), some (.int (iI (twF K m q l (0 : Int).toNat).2)), some (.int (iI 0)), none] [] (e_hp M V W) = some (.inl (some (.int (iI (twF K m q l l.length).2))), e_hp M V W, 0, 0) := by
    refine G_loopI (C := fun i => e_lim L xs (d + 1) 99 6 [some (.ref 173), some (.int (iI (twF K m q l i.toNat).1)), some (.int (iI (twF K m q l i.toNat).2)), some (.int (iI i)), none] [] (e_hp M V W)) (i := 0) (n := l.length) (by omega) (fun j a b hc2 => ?_) ?_
    · obtain ⟨p, hp⟩ : ∃ p : Nat, j = (p : Int) := ⟨j.toNat, by omega⟩
      subst hp
      have hx := gi.1 _ (getD_mem (l := l) (i := p) (by omega))
      have e1 := m_atI (L := L) (xs := xs) (d := d) (M := M) (V := V) (W := W) (v := iI (l.getD p 0)) si_176 (z := (p : Int)) (by omega) (by omega) (by rw [Int.toNat_natCast]; exact la_get g1 (by omega))
      have e2 := m_atI (L := L) (xs := xs) (d := d) (M := M) (V := V) (W := W) (a := 174) (n := 8) si_174 (z := l.getD p 0) hx.1 (by omega) (g3 _ hx.1 hx.2)
      have e3 := m_atI (L := L) (xs := xs) (d := d) (M := M) (V := V) (W := W) (a := 175) (n := 8) si_175 (z := l.getD p 0) hx.1 (by omega) (g4 _ hx.1 hx.2)
      have r0 := twF_rg (m := m) (q := q) hr (l := l) (fun x hx => by have := gi.1 x hx; omega) p (by omega)
      have r1 := tO_rg hr (o := l.getD p 0) (m := m) (by omega)
      have hst : twF K m q l ((p : Int) + 1).toNat = ((twF K m q l p).1 + tO K (l.getD p 0) m, max ((twF K m q l p).1 + tO K (l.getD p 0) m) (twF K m q l p).2 + tO K (l.getD p 0) q) := by
        rw [show ((p : Int) + 1).toNat = p + 1 by omega]
        show ((twF K m q l p).1 + tO K (l.getD p 0) m, (if (twF K m q l p).1 + tO K (l.getD p 0) m < (twF K m q l p).2 then (twF K m q l p).2 else (twF K m q l p).1 + tO K (l.getD p 0) m) + tO K (l.getD p 0) q) = _
        rw [mx_if]
      rw [hst] at hc2
      simp only at hc2
      simp only [Int.toNat_natCast]
      generalize twF K m q l p = s at *
      generalize l.getD p 0 = g at *
      have e' := G_less (l := [some (.ref 173), some (.int (iI (s.1 + tO K g m))), some (.int (iI (max (s.1 + tO K g m) s.2 + tO K g q))), some (.int (iI ((p : Int) + 1))), some (.int (iI g))]) (by repeat (first | exact e_ll.rf | refine e_ll_c ?_ | refine e_ll_x ?_)) hc2
      rw [← e', r99_6]
      simp (disch := first | assumption | exact e_nk_i _ | exact e_nk_n | exact e_nk_r _ | exact e_bo_0 | exact e_bo_1 | exact e_bo_b _ | omega) only [e_cl_v, e_cl_x, e_add_0, e_add_s, Option.toList_some, Option.toList_none, List.cons_append, List.nil_append, iI_add, iI_sub, iI_mul, iI_lt, iI_eq, iI_le, r99_7, r99_8, r99_11, r99_14, r99_15, r99_18, r99_19, r99_22, r99_24, r99_25, r99_26, r99_29, r99_31, r99_34, r99_35, r99_36, r99_37, r99_38, r99_41, r99_42, r99_45, r99_47, r99_50, r99_51, r99_52, r99_55, g2, e1, e2, e3, iI_mx]
      rw [if_pos (by omega)]
    · simp only [Int.toNat_natCast]
      rw [r99_6]
      simp (disch := first | assumption | exact e_nk_i _ | exact e_nk_n | exact e_nk_r _ | exact e_bo_0 | exact e_bo_1 | exact e_bo_b _ | omega) only [e_cl_v, e_cl_x, e_add_0, e_add_s, Option.toList_some, Option.toList_none, List.cons_append, List.nil_append, iI_add, iI_sub, iI_mul, iI_lt, iI_eq, iI_le, r99_7, r99_8, r99_11, r99_58, r99_59, g2]
      rw [if_neg (by omega)]
  have main' : e_lim L xs (d + 1) 99 6 [some (.ref 173), some (.int (iI 0)), some (.int (iI 0)), some (.int (iI 0)), none] [] (e_hp M V W) = some (.inl (some (.int (iI (twF K m q l l.length).2))), e_hp M V W, 0, 0) := main
  simp (disch := first | assumption | exact e_nk_i _ | exact e_nk_n | exact e_nk_r _ | exact e_bo_0 | exact e_bo_1 | exact e_bo_b _ | omega) only [e_cl_v, e_cl_x, e_add_0, e_add_s, Option.toList_some, Option.toList_none, List.cons_append, List.nil_append, iI_add, iI_sub, iI_mul, iI_lt, iI_eq, iI_le, r99_0, r99_1, r99_2, r99_3, r99_4, r99_5, main']
theorem x_two (H : CK M K c S) (hg : kG K) (hm : i32 m) (hq : i32 q) : ∃ M2 : e_MI, e_lim L xs (d + 4) 129 0 [some (.ref 0), some (.int (iI m)), some (.int (iI q))] [] (e_hp M V W) = (if (0 ≤ m ∧ m ≤ 3) ∧ (0 ≤ q ∧ q ≤ 3) ∧ m ≠ q then some (.inl (some (.int (iI (twW K m q)))), e_hp M2 V W, 0, 0) else some (.inr 0, e_hp M2 V W, 1, 6)) ∧ CK M2 K c S ∧ ∀ a, 178 < a → M2 a = M a := by
  have hr := hg.1
  have e0 := m_isMachine (L := L) (xs := xs) (d := d + 2) (M := M) (V := V) (W := W) (z := m) hm
  have e1 := m_isMachine (L := L) (xs := xs) (d := d + 2) (M := M) (V := V) (W := W) (z := q) hq
  have rt := m_requireArgument (L := L) (xs := xs) (d := d + 3) (h := e_hp M V W) true
  have rf := m_requireArgument (L := L) (xs := xs) (d := d + 3) (h := e_hp M V W) false
  rw [if_pos rfl, bI_t] at rt
  rw [if_neg (by decide), bI_f] at rf
  by_cases h0 : 0 ≤ m ∧ m ≤ 3
  · rw [decide_eq_true h0, bI_t] at e0
    by_cases h1 : 0 ≤ q ∧ q ≤ 3
    · rw [decide_eq_true h1, bI_t] at e1
      by_cases h2 : m = q
      · refine ⟨M, ?_, H, fun _ _ => rfl⟩
        rw [if_neg (fun y => y.2.2 h2)]
        simp (disch := first | assumption | exact e_nk_i _ | exact e_nk_n | exact e_nk_r _ | exact e_bo_0 | exact e_bo_1 | exact e_bo_b _ | omega) only [e_cl_v, e_cl_x, e_add_0, e_add_s, Option.toList_some, Option.toList_none, List.cons_append, List.nil_append, iI_add, iI_sub, iI_mul, iI_lt, iI_eq, iI_le, r129_0, r129_1, r129_4, r129_7, r129_8, r129_11, r129_14, r129_15, r129_16, r129_19, r129_20, r129_23, r129_24, r129_27, r129_28, r129_31, r129_32, r129_35, r129_36, r129_37, r129_40, r129_41, r129_44, r129_47, e0, e1, rf]
        simp [h2]
      · obtain ⟨M2, e2, hR, hf⟩ := w_arrange (L := L) (xs := xs) (d := d) (V := V) (W := W) H.sh hr h0 h1
        have e3 := w_finish (L := L) (xs := xs) (d := d + 2) (V := V) (W := W) hr hR
        refine ⟨M2, ?_, H.of fun a x y => hf a (by omega), fun a y => hf a (by omega)⟩
        rw [if_pos ⟨h0, h1, h2⟩]
        simp (disch := first | assumption | exact e_nk_i _ | exact e_nk_n | exact e_nk_r _ | exact e_bo_0 | exact e_bo_1 | exact e_bo_b _ | omega) only [e_cl_v, e_cl_x, e_add_0, e_add_s, Option.toList_some, Option.toList_none, List.cons_append, List.nil_append, iI_add, iI_sub, iI_mul, iI_lt, iI_eq, iI_le, r129_0, r129_1, r129_4, r129_7, r129_8, r129_11, r129_14, r129_15, r129_16, r129_19, r129_20, r129_23, r129_24, r129_27, r129_28, r129_31, r129_32, r129_35, r129_36, r129_37, r129_40, r129_41, r129_44, r129_47, e0, e1, rt, e2, e3]
        simp [h2]
    · rw [decide_eq_false h1, bI_f] at e1
      refine ⟨M, ?_, H, fun _ _ => rfl⟩
      rw [if_neg (fun y => h1 y.2.1)]
      simp (disch := first | assumption | exact e_nk_i _ | exact e_nk_n | exact e_nk_r _ | exact e_bo_0 | exact e_bo_1 | exact e_bo_b _ | omega) only [e_cl_v, e_cl_x, e_add_0, e_add_s, Option.toList_some, Option.toList_none, List.cons_append, List.nil_append, iI_add, iI_sub, iI_mul, iI_lt, iI_eq, iI_le, r129_0, r129_1, r129_4, r129_7, r129_8, r129_11, r129_14, r129_15, r129_16, r129_19, r129_20, r129_23, r129_24, r129_27, r129_28, r129_31, r129_32, r129_35, r129_36, r129_37, r129_40, r129_41, r129_44, r129_47, e0, e1, rf]
      simp
  · rw [decide_eq_false h0, bI_f] at e0
    refine ⟨M, ?_, H, fun _ _ => rfl⟩
    rw [if_neg (fun y => h0 y.1)]
    simp (disch := first | assumption | exact e_nk_i _ | exact e_nk_n | exact e_nk_r _ | exact e_bo_0 | exact e_bo_1 | exact e_bo_b _ | omega) only [e_cl_v, e_cl_x, e_add_0, e_add_s, Option.toList_some, Option.toList_none, List.cons_append, List.nil_append, iI_add, iI_sub, iI_mul, iI_lt, iI_eq, iI_le, r129_0, r129_1, r129_4, r129_7, r129_8, r129_11, r129_14, r129_15, r129_16, r129_19, r129_20, r129_23, r129_24, r129_27, r129_28, r129_31, r129_32, r129_35, r129_36, r129_37, r129_40, r129_41, r129_44, r129_47, e0, rf]
    simp
end Ec55
