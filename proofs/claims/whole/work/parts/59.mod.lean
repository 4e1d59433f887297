section E59
variable {L : Nat} {xs : Nat → Int32} {d : Nat} {M : e_MI} {V : e_ML} {W : e_MD} {K : e_St} {h : e_H} {ρ ω β ε ρ2 ω2 β2 ε2 τ : Int → Int} {k : Int}
/-- what is to be in there: all orders have pieces and amounts -/
def kP (K : e_St) : Prop := (∀ o, 0 ≤ o → o < K 310 → 1 ≤ K (8 + o)) ∧ ∀ o w, 0 ≤ o → o < K 310 → 0 ≤ w → w < K (40 + o) → 1 ≤ K (80 + 4 * o + w)
theorem tF_rg (hr : kR K) {o f : Int} (ho : 0 ≤ o ∧ o ≤ 7) : 0 ≤ tF K o f ∧ tF K o f ≤ 324 := by
  have hw := hr.wk (o := o) ho.1 (by omega)
  have := SU_le (f := fun w => if f ≤ w then tk K o w else 0) (n := K (40 + o)) (c := 81) (fun i a b => by
    have := tk_rg hr (o := o) (w := i) ho (by omega)
    split <;> omega) hw.1
  unfold tF
  omega
theorem tO_rg (hr : kR K) {o m : Int} (ho : 0 ≤ o ∧ o ≤ 7) : 0 ≤ tO K o m ∧ tO K o m ≤ 324 := by
  have hw := hr.wk (o := o) ho.1 (by omega)
  have := SU_le (f := fun w => if K (48 + 4 * o + w) = m then tk K o w else 0) (n := K (40 + o)) (c := 81) (fun i a b => by
    have := tk_rg hr (o := o) (w := i) ho (by omega)
    split <;> omega) hw.1
  unfold tO
  omega
theorem lO_rg (hr : kR K) {m : Int} : 0 ≤ lO K m ∧ lO K m ≤ 2592 := by
  have hn := hr.n
  have := SU_le (f := fun o => tO K o m) (n := K 310) (c := 324) (fun i a b => tO_rg hr (by omega)) hn.1
  unfold lO
  omega
theorem SU_le2 {f g : Int → Int} {n : Int} (hn : 0 ≤ n) (h : ∀ i, 0 ≤ i → i < n → f i ≤ g i) : SU f n ≤ SU g n := by
  revert h
  refine SU_ind (P := fun n => (∀ i, 0 ≤ i → i < n → f i ≤ g i) → SU f n ≤ SU g n) (fun _ => Int.le_refl _) (fun i hi ih h => ?_) n hn
  rw [SU_s f hi, SU_s g hi]
  have h1 := ih (fun p a b => h p a (by omega))
  have h2 := h i hi (by omega)
  omega
theorem tF_mono (hr : kR K) {o f f2 : Int} (ho : 0 ≤ o ∧ o ≤ 7) (hf : f ≤ f2) : tF K o f2 ≤ tF K o f := by
  have hw := hr.wk (o := o) ho.1 (by omega)
  refine SU_le2 hw.1 (fun i a b => ?_)
  have := tk_rg hr (o := o) (w := i) ho (by omega)
  split <;> split <;> omega
/-- the least head and tail of a machine's works -/
def bdS (K : e_St) (m o : Int) (s : Int × Int) : Nat → Int × Int
  | 0 => s
  | j + 1 => if K (48 + 4 * o + j) = m then
      (if (bdS K m o s j).1 = -1 ∨ K (16 + o) + tF K o 0 - tF K o j < (bdS K m o s j).1 then K (16 + o) + tF K o 0 - tF K o j else (bdS K m o s j).1,
       if (bdS K m o s j).2 = -1 ∨ tF K o (j + 1) < (bdS K m o s j).2 then tF K o (j + 1) else (bdS K m o s j).2)
    else bdS K m o s j
def bdO (K : e_St) (m : Int) : Nat → Int × Int
  | 0 => (-1, -1)
  | o + 1 => bdS K m o (bdO K m o) (K (40 + o)).toNat
def bdW (K : e_St) (m : Int) : Int := if (bdO K m (K 310).toNat).1 = -1 then 0 else (bdO K m (K 310).toNat).1 + lO K m + (bdO K m (K 310).toNat).2
def bdR (s : Int × Int) : Prop := (-1 ≤ s.1 ∧ s.1 ≤ 1000) ∧ (-1 ≤ s.2 ∧ s.2 ≤ 1000)
theorem bdS_rg (hr : kR K) {m o : Int} (ho : 0 ≤ o ∧ o ≤ 7) {s : Int × Int} (hs : bdR s) : ∀ j : Nat, bdR (bdS K m o s j)
  | 0 => hs
  | j + 1 => by
    have ih := bdS_rg hr ho hs (m := m) j
    have r1 := hr.re (o := o) ho.1 (by omega)
    have r2 := tF_rg hr (f := 0) ho
    have r3 := tF_rg hr (f := (j : Int)) ho
    have r4 := tF_rg hr (f := (j : Int) + 1) ho
    have r5 := tF_mono hr (f := 0) (f2 := (j : Int)) ho (by omega)
    obtain ⟨i1, i2⟩ := ih
    unfold bdS
    split
    · refine ⟨?_, ?_⟩
      · simp only
        split <;> omega
      · simp only
        split <;> omega
    · exact ⟨i1, i2⟩
theorem bdO_rg (hr : kR K) {m : Int} : ∀ o : Nat, (o : Int) ≤ 8 → bdR (bdO K m o)
  | 0, _ => by unfold bdO bdR; simp only; omega
  | o + 1, h => bdS_rg hr (by omega) (bdO_rg hr o (by omega)) _
theorem mm_boundIn (hK : e_KM M K) (hr : kR K) {m o : Int} (hm : 0 ≤ m ∧ m ≤ 3) (ho : 0 ≤ o ∧ o < K 310) {s : Int × Int} (hs : bdR s) {r : e_R} (he : e_lim L xs (d + 2) 240 7 [some (.ref 184), some (.int (iI m)), some (.int (iI (bdS K m o s (K (40 + o)).toNat).1)), some (.int (iI (bdS K m o s (K (40 + o)).toNat).2)), some (.int (iI (o + 1))), none, none, none] [] (e_hp M V W) = some r) : e_lim L xs (d + 2) 240 7 [some (.ref 184), some (.int (iI m)), some (.int (iI s.1)), some (.int (iI s.2)), some (.int (iI o)), none, none, none] [] (e_hp M V W) = some r := by
  have hn := hr.n
  have hw := hr.wk (o := o) ho.1 (by omega)
  have e1 := mm_many (L := L) (xs := xs) (d := d + 1) (V := V) (W := W) hK
  have e2 := mm_worksOf (L := L) (xs := xs) (d := d + 1) (V := V) (W := W) hK (o := o) ho.1 (by omega)
  rw [r240_7]
  simp (disch := first | assumption | exact e_nk_i _ | exact e_nk_n | exact e_nk_r _ | exact e_bo_0 | exact e_bo_1 | exact e_bo_b _ | omega) only [e_cl_v, e_cl_x, e_add_0, e_add_s, Option.toList_some, Option.toList_none, List.cons_append, List.nil_append, iI_add, iI_sub, iI_mul, iI_lt, iI_eq, iI_le, r240_9, r240_10, r240_13, r240_16, r240_17, e1]
  rw [if_pos ho.2]
  refine G_loopI (C := fun i => e_lim L xs (d + 2) 240 19 [some (.ref 184), some (.int (iI m)), some (.int (iI (bdS K m o s i.toNat).1)), some (.int (iI (bdS K m o s i.toNat).2)), some (.int (iI o)), some (.int (iI i)), none, none] [] (e_hp M V W)) (i := 0) hw.1 (fun j a b hc => ?_) ?_
  · have hb := bdS_rg hr (m := m) (o := o) (by omega) hs j.toNat
    obtain ⟨i1, i2⟩ := hb
    have r1 := hr.re (o := o) ho.1 (by omega)
    have r2 := tF_rg hr (o := o) (f := 0) (by omega)
    have r3 := tF_rg hr (o := o) (f := j) (by omega)
    have r4 := tF_rg hr (o := o) (f := j + 1) (by omega)
    have t0 := mm_timeFrom (L := L) (xs := xs) (d := d) (V := V) (W := W) hK hr (o := o) (f := 0) (by omega) (by omega)
    have t1 := mm_timeFrom (L := L) (xs := xs) (d := d) (V := V) (W := W) hK hr (o := o) (f := j) (by omega) (by omega)
    have t2 := mm_timeFrom (L := L) (xs := xs) (d := d) (V := V) (W := W) hK hr (o := o) (f := j + 1) (by omega) (by omega)
    have e3 := hK (48 + 4 * o + j) (by omega) (by omega)
    have e4 := hK (16 + o) (by omega) (by omega)
    have q3 := hr.mc (i := 4 * o + j) (by omega) (by omega)
    rw [show 48 + (4 * o + j) = 48 + 4 * o + j by omega] at q3
    have hst : bdS K m o s (j + 1).toNat = if K (48 + 4 * o + j) = m then
      (if (bdS K m o s j.toNat).1 = -1 ∨ K (16 + o) + tF K o 0 - tF K o j < (bdS K m o s j.toNat).1 then K (16 + o) + tF K o 0 - tF K o j else (bdS K m o s j.toNat).1,
       if (bdS K m o s j.toNat).2 = -1 ∨ tF K o (j + 1) < (bdS K m o s j.toNat).2 then tF K o (j + 1) else (bdS K m o s j.toNat).2)
      else bdS K m o s j.toNat := by
      rw [show (j + 1).toNat = j.toNat + 1 by omega]
      show (if K (48 + 4 * o + (j.toNat : Int)) = m then _ else _) = _
      rw [Int.toNat_of_nonneg a]
    rw [hst] at hc
    rw [r240_19]
    by_cases hq : K (48 + 4 * o + j) = m
    · rw [if_pos hq] at hc
      have ga : ∀ l6 : Option Value, ∀ l7 : Option Value, ∀ z : Int, e_lim L xs (d + 2) 240 107 [some (.ref 184), some (.int (iI m)), some (.int (iI (if (bdS K m o s j.toNat).1 = -1 ∨ K (16 + o) + tF K o 0 - tF K o j < (bdS K m o s j.toNat).1 then K (16 + o) + tF K o 0 - tF K o j else (bdS K m o s j.toNat).1))), some (.int (iI (bdS K m o s j.toNat).2)), some (.int (iI o)), some (.int (iI j)), l6, some (.int (iI (tF K o (j + 1))))] [] (e_hp M V W) = some r := by
        intro l6 l7 z
        simp (disch := first | assumption | exact e_nk_i _ | exact e_nk_n | exact e_nk_r _ | exact e_bo_0 | exact e_bo_1 | exact e_bo_b _ | omega) only [e_cl_v, e_cl_x, e_add_0, e_add_s, Option.toList_some, Option.toList_none, List.cons_append, List.nil_append, iI_add, iI_sub, iI_mul, iI_lt, iI_eq, iI_le, r240_107, r240_108, r240_109, r240_112, r240_114, r240_115, r240_118, r240_120, r240_121, r240_124]
        by_cases z1 : (bdS K m o s j.toNat).2 = -1
        · rw [if_pos (show ((bdS K m o s j.toNat).2 = -1 ∨ tF K o (j + 1) < (bdS K m o s j.toNat).2) from Or.inl z1)] at hc
          rw [if_pos z1]
          exact G_less (by repeat (first | exact e_ll.rf | refine e_ll_c ?_ | refine e_ll_x ?_)) hc
        · rw [if_neg z1]
          by_cases z2 : tF K o (j + 1) < (bdS K m o s j.toNat).2
          · rw [if_pos (show ((bdS K m o s j.toNat).2 = -1 ∨ tF K o (j + 1) < (bdS K m o s j.toNat).2) from Or.inr z2)] at hc
            rw [if_pos z2]
            exact G_less (by repeat (first | exact e_ll.rf | refine e_ll_c ?_ | refine e_ll_x ?_)) hc
          · rw [if_neg (show ¬((bdS K m o s j.toNat).2 = -1 ∨ tF K o (j + 1) < (bdS K m o s j.toNat).2) from fun z => z.elim z1 z2)] at hc
            rw [if_neg z2]
            exact G_less (by repeat (first | exact e_ll.rf | refine e_ll_c ?_ | refine e_ll_x ?_)) hc
      simp (disch := first | assumption | exact e_nk_i _ | exact e_nk_n | exact e_nk_r _ | exact e_bo_0 | exact e_bo_1 | exact e_bo_b _ | omega) only [e_cl_v, e_cl_x, e_add_0, e_add_s, Option.toList_some, Option.toList_none, List.cons_append, List.nil_append, iI_add, iI_sub, iI_mul, iI_lt, iI_eq, iI_le, r240_21, r240_22, r240_24, r240_27, r240_30, r240_31, r240_34, r240_36, r240_37, r240_39, r240_40, r240_41, r240_43, r240_44, r240_45, r240_46, r240_49, r240_52, r240_53, r240_56, r240_58, r240_60, r240_61, r240_62, r240_63, r240_65, r240_66, r240_69, r240_70, r240_71, r240_73, r240_75, r240_78, r240_79, r240_81, r240_82, r240_84, r240_86, r240_87, r240_88, r240_91, r240_93, r240_94, r240_95, r240_98, r240_100, r240_101, r240_104, r240_106, iI_vin, iI_nat, if_true, e2, e3, e4, t0, t1, t2, if_pos hq]
      rw [if_pos b]
      by_cases z1 : (bdS K m o s j.toNat).1 = -1
      · rw [if_pos (Or.inl z1)] at ga
        rw [if_pos z1]
        exact ga _ none 0
      · rw [if_neg z1]
        by_cases z2 : K (16 + o) + tF K o 0 - tF K o j < (bdS K m o s j.toNat).1
        · rw [if_pos (Or.inr z2)] at ga
          rw [if_pos z2]
          exact ga _ none 0
        · rw [if_neg (fun z => z.elim z1 z2)] at ga
          rw [if_neg z2]
          exact ga _ none 0
    · rw [if_neg hq] at hc
      simp (disch := first | assumption | exact e_nk_i _ | exact e_nk_n | exact e_nk_r _ | exact e_bo_0 | exact e_bo_1 | exact e_bo_b _ | omega) only [e_cl_v, e_cl_x, e_add_0, e_add_s, Option.toList_some, Option.toList_none, List.cons_append, List.nil_append, iI_add, iI_sub, iI_mul, iI_lt, iI_eq, iI_le, r240_21, r240_22, r240_24, r240_27, r240_30, r240_31, r240_34, r240_36, r240_37, r240_39, r240_40, r240_41, r240_43, r240_44, r240_45, r240_46, r240_49, r240_121, r240_124, iI_vin, iI_nat, if_true, e2, e3, if_neg hq]
      rw [if_pos b]
      exact hc
  · rw [r240_19]
    simp (disch := first | assumption | exact e_nk_i _ | exact e_nk_n | exact e_nk_r _ | exact e_bo_0 | exact e_bo_1 | exact e_bo_b _ | omega) only [e_cl_v, e_cl_x, e_add_0, e_add_s, Option.toList_some, Option.toList_none, List.cons_append, List.nil_append, iI_add, iI_sub, iI_mul, iI_lt, iI_eq, iI_le, r240_21, r240_22, r240_24, r240_27, r240_127, r240_130, e2]
    rw [if_neg (by omega)]
    exact G_less (by repeat (first | exact e_ll.rf | refine e_ll_c ?_ | refine e_ll_x ?_)) he
theorem mm_boundOf (hK : e_KM M K) (hr : kR K) {m : Int} (hm : 0 ≤ m ∧ m ≤ 3) : e_lim L xs (d + 3) 240 0 [some (.ref 184), some (.int (iI m)), none, none, none, none, none, none] [] (e_hp M V W) = some (.inl (some (.int (iI (bdW K m)))), e_hp M V W, 0, 0) := by
  have hn := hr.n
  have e1 := mm_many (L := L) (xs := xs) (d := d + 2) (V := V) (W := W) hK
  have e2 := mm_loadOf (L := L) (xs := xs) (d := d) (V := V) (W := W) hK hr hm
  have e3 := lO_rg (m := m) hr
  simp (disch := first | assumption | exact e_nk_i _ | exact e_nk_n | exact e_nk_r _ | exact e_bo_0 | exact e_bo_1 | exact e_bo_b _ | omega) only [e_cl_v, e_cl_x, e_add_0, e_add_s, Option.toList_some, Option.toList_none, List.cons_append, List.nil_append, iI_add, iI_sub, iI_mul, iI_lt, iI_eq, iI_le, r240_0, r240_1, r240_2, r240_3, r240_4, r240_5]
  refine G_loopI (C := fun i => e_lim L xs (d + 3) 240 7 [some (.ref 184), some (.int (iI m)), some (.int (iI (bdO K m i.toNat).1)), some (.int (iI (bdO K m i.toNat).2)), some (.int (iI i)), none, none, none] [] (e_hp M V W)) (i := 0) hn.1 (fun j a b hc => ?_) ?_
  · have hb := bdO_rg (K := K) hr (m := m) j.toNat (by omega)
    have hst : bdO K m (j + 1).toNat = bdS K m j (bdO K m j.toNat) (K (40 + j)).toNat := by
      rw [show (j + 1).toNat = j.toNat + 1 by omega]
      show bdS K m (j.toNat : Int) (bdO K m j.toNat) (K (40 + (j.toNat : Int))).toNat = _
      rw [Int.toNat_of_nonneg a]
    rw [hst] at hc
    exact mm_boundIn (d := d + 1) hK hr hm ⟨a, b⟩ hb hc
  · have hb := bdO_rg (K := K) hr (m := m) (K 310).toNat (by omega)
    obtain ⟨i1, i2⟩ := hb
    unfold bdW
    rw [r240_7]
    by_cases hq : (bdO K m (K 310).toNat).1 = -1
    · rw [if_pos hq]
      simp (disch := first | assumption | exact e_nk_i _ | exact e_nk_n | exact e_nk_r _ | exact e_bo_0 | exact e_bo_1 | exact e_bo_b _ | omega) only [e_cl_v, e_cl_x, e_add_0, e_add_s, Option.toList_some, Option.toList_none, List.cons_append, List.nil_append, iI_add, iI_sub, iI_mul, iI_lt, iI_eq, iI_le, r240_9, r240_10, r240_13, r240_133, r240_134, r240_135, r240_138, r240_139, r240_142, r240_143, r240_144, r240_145, r240_148, r240_149, r240_150, r240_151, e1, e2, if_pos hq]
      rw [if_neg (by omega)]
    · rw [if_neg hq]
      simp (disch := first | assumption | exact e_nk_i _ | exact e_nk_n | exact e_nk_r _ | exact e_bo_0 | exact e_bo_1 | exact e_bo_b _ | omega) only [e_cl_v, e_cl_x, e_add_0, e_add_s, Option.toList_some, Option.toList_none, List.cons_append, List.nil_append, iI_add, iI_sub, iI_mul, iI_lt, iI_eq, iI_le, r240_9, r240_10, r240_13, r240_133, r240_134, r240_135, r240_138, r240_139, r240_142, r240_143, r240_144, r240_145, r240_148, r240_149, r240_150, r240_151, e1, e2, if_neg hq]
      rw [if_neg (by omega)]
end E59
