section E56
variable {L : Nat} {xs : Nat → Int32} {d : Nat} {M : e_MI} {V : e_ML} {W : e_MD} {K : e_St} {h : e_H} {ρ ω β ε ρ2 ω2 β2 ε2 τ : Int → Int} {k : Int}
/-- a number of 32 bits -/
def i32 (x : Int) : Prop := -2147483648 ≤ x ∧ x < 2147483648
/-- the memory after fails -/
def mF (M : e_MI) (b : Bool) (c : Int) : e_MI := if b = true then M else e_u M 184 (upd (M 184) 0 (iI c))
theorem mF_t (M : e_MI) (c : Int) : mF M true c = M := rfl
theorem mF_f (M : e_MI) (c : Int) : mF M false c = e_u M 184 (upd (M 184) 0 (iI c)) := rfl
theorem mm_noOrder (hK : e_KM M K) (hr : kR K) (h0 : M 184 0 = iI 0) {o : Int} (ho : i32 o) : e_lim L xs (d + 1) 188 0 [some (.ref 184), some (.int (iI o))] [] (e_hp M V W) = some (.inl (some (.int (bI (!decide (0 ≤ o ∧ o ≤ K 310 - 1))))), e_hp (mF M (decide (0 ≤ o ∧ o ≤ K 310 - 1)) 1) V W, 0, 0) := by
  have hn := hr.n
  have e1 := mm_many (L := L) (xs := xs) (d := d) (V := V) (W := W) hK
  have e2 := mm_in (L := L) (xs := xs) (d := d) (h := e_hp M V W) (x := o) (y2 := 0) (z2 := K 310 - 1) ho (by omega) (by omega)
  have e3 := mm_fails (L := L) (xs := xs) (d := d) (V := V) (W := W) (b := decide (0 ≤ o ∧ o ≤ K 310 - 1)) (c := 1) h0 (by omega)
  simp (disch := first | assumption | exact e_nk_i _ | exact e_nk_n | exact e_nk_r _ | exact e_bo_0 | exact e_bo_1 | exact e_bo_b _ | omega) only [e_cl_v, e_cl_x, e_add_0, e_add_s, Option.toList_some, Option.toList_none, List.cons_append, List.nil_append, iI_add, iI_sub, iI_mul, iI_lt, iI_eq, iI_le, r188_0, r188_1, r188_2, r188_3, r188_4, r188_7, r188_8, r188_9, r188_12, r188_13, r188_16, e1, e2, e3]
  rfl
theorem mm_noMachine (h0 : M 184 0 = iI 0) {m : Int} (hm : i32 m) : e_lim L xs (d + 2) 238 0 [some (.ref 184), some (.int (iI m))] [] (e_hp M V W) = some (.inl (some (.int (bI (!decide (0 ≤ m ∧ m ≤ 3))))), e_hp (mF M (decide (0 ≤ m ∧ m ≤ 3)) 1) V W, 0, 0) := by
  have e2 := mm_in (L := L) (xs := xs) (d := d) (h := e_hp M V W) (x := m) (y2 := 0) (z2 := 3) hm (by omega) (by omega)
  have e3 := mm_fails (L := L) (xs := xs) (d := d + 1) (V := V) (W := W) (b := decide (0 ≤ m ∧ m ≤ 3)) (c := 1) h0 (by omega)
  simp (disch := first | assumption | exact e_nk_i _ | exact e_nk_n | exact e_nk_r _ | exact e_bo_0 | exact e_bo_1 | exact e_bo_b _ | omega) only [e_cl_v, e_cl_x, e_add_0, e_add_s, Option.toList_some, Option.toList_none, List.cons_append, List.nil_append, iI_add, iI_sub, iI_mul, iI_lt, iI_eq, iI_le, r238_0, r238_1, r238_2, r238_3, r238_6, r238_7, r238_10, r203_0, r203_1, r203_2, r203_3, r203_6, e2, e3]
  rfl
theorem mm_isMachine {m : Int} (hm : i32 m) : e_lim L xs (d + 1) 203 0 [some (.ref 184), some (.int (iI m))] [] (e_hp M V W) = some (.inl (some (.int (bI (decide (0 ≤ m ∧ m ≤ 3))))), e_hp M V W, 0, 0) := by
  have e2 := mm_in (L := L) (xs := xs) (d := d) (h := e_hp M V W) (x := m) (y2 := 0) (z2 := 3) hm (by omega) (by omega)
  simp (disch := first | assumption | exact e_nk_i _ | exact e_nk_n | exact e_nk_r _ | exact e_bo_0 | exact e_bo_1 | exact e_bo_b _ | omega) only [e_cl_v, e_cl_x, e_add_0, e_add_s, Option.toList_some, Option.toList_none, List.cons_append, List.nil_append, iI_add, iI_sub, iI_mul, iI_lt, iI_eq, iI_le, r203_0, r203_1, r203_2, r203_3, r203_6, e2]
theorem mm_noSlot (h0 : M 184 0 = iI 0) {m : Int} (hm : i32 m) : e_lim L xs (d + 1) 271 0 [some (.ref 184), some (.int (iI m))] [] (e_hp M V W) = some (.inl (some (.int (bI (!decide (0 ≤ m ∧ m ≤ 2))))), e_hp (mF M (decide (0 ≤ m ∧ m ≤ 2)) 1) V W, 0, 0) := by
  have e2 := mm_in (L := L) (xs := xs) (d := d) (h := e_hp M V W) (x := m) (y2 := 0) (z2 := 2) hm (by omega) (by omega)
  have e3 := mm_fails (L := L) (xs := xs) (d := d) (V := V) (W := W) (b := decide (0 ≤ m ∧ m ≤ 2)) (c := 1) h0 (by omega)
  simp (disch := first | assumption | exact e_nk_i _ | exact e_nk_n | exact e_nk_r _ | exact e_bo_0 | exact e_bo_1 | exact e_bo_b _ | omega) only [e_cl_v, e_cl_x, e_add_0, e_add_s, Option.toList_some, Option.toList_none, List.cons_append, List.nil_append, iI_add, iI_sub, iI_mul, iI_lt, iI_eq, iI_le, r271_0, r271_1, r271_2, r271_3, r271_4, r271_7, r271_8, r271_11, e2, e3]
  rfl
theorem mm_noPlace (hK : e_KM M K) (hr : kR K) (hv : kV K) (h0 : M 184 0 = iI 0) {m : Int} (hm : i32 m) : e_lim L xs (d + 2) 267 0 [some (.ref 184), some (.int (iI m))] [] (e_hp M V W) = some (.inl (some (.int (bI (!decide (0 ≤ m ∧ m ≤ aW K - 1))))), e_hp (mF M (decide (0 ≤ m ∧ m ≤ aW K - 1)) 1) V W, 0, 0) := by
  have hn := hv.1
  have e1 := mm_all (L := L) (xs := xs) (d := d) (V := V) (W := W) hK hr
  have e2 := mm_in (L := L) (xs := xs) (d := d + 1) (h := e_hp M V W) (x := m) (y2 := 0) (z2 := aW K - 1) hm (by omega) (by omega)
  have e3 := mm_fails (L := L) (xs := xs) (d := d + 1) (V := V) (W := W) (b := decide (0 ≤ m ∧ m ≤ aW K - 1)) (c := 1) h0 (by omega)
  simp (disch := first | assumption | exact e_nk_i _ | exact e_nk_n | exact e_nk_r _ | exact e_bo_0 | exact e_bo_1 | exact e_bo_b _ | omega) only [e_cl_v, e_cl_x, e_add_0, e_add_s, Option.toList_some, Option.toList_none, List.cons_append, List.nil_append, iI_add, iI_sub, iI_mul, iI_lt, iI_eq, iI_le, r267_0, r267_1, r267_2, r267_3, r267_4, r267_7, r267_8, r267_9, r267_12, r267_13, r267_16, e1, e2, e3]
  rfl
theorem mm_timeFrom (hK : e_KM M K) (hr : kR K) {o f : Int} (ho : 0 ≤ o ∧ o ≤ 7) (hf : 0 ≤ f ∧ f ≤ 4) : e_lim L xs (d + 1) 187 0 [some (.ref 184), some (.int (iI o)), some (.int (iI f)), none, none] [] (e_hp M V W) = some (.inl (some (.int (iI (tF K o f)))), e_hp M V W, 0, 0) := by
  have hw := hr.wk (o := o) ho.1 (by omega)
  have e1 := mm_worksOf (L := L) (xs := xs) (d := d) (V := V) (W := W) hK (o := o) ho.1 (by omega)
  have hz : ∀ j, 0 ≤ j → j ≤ f → SU (fun w => if f ≤ w then tk K o w else 0) j = 0 := by
    intro j a
    refine SU_ind (P := fun j => j ≤ f → SU (fun w => if f ≤ w then tk K o w else 0) j = 0) (fun _ => rfl) (fun i hi ih h => ?_) j a
    rw [SU_s _ hi, ih (by omega), if_neg (by omega)]
    rfl
  have hfin : ∀ j, K (40 + o) ≤ j → j ≤ f → tF K o f = 0 := fun j a b => hz _ hw.1 (by omega)
  simp (disch := first | assumption | exact e_nk_i _ | exact e_nk_n | exact e_nk_r _ | exact e_bo_0 | exact e_bo_1 | exact e_bo_b _ | omega) only [e_cl_v, e_cl_x, e_add_0, e_add_s, Option.toList_some, Option.toList_none, List.cons_append, List.nil_append, iI_add, iI_sub, iI_mul, iI_lt, iI_eq, iI_le, r187_0, r187_1, r187_2, r187_3, r187_7, r187_8, r187_9, r187_12, r187_15, r187_16, r187_17, r187_18, r187_20, r187_23, r187_24, r187_25, r187_28, r187_31, r187_32]
  by_cases hc : f ≤ K (40 + o)
  · rw [show (iI 0 : Int32) = iI (SU (fun w => if f ≤ w then tk K o w else 0) f) by rw [hz f hf.1 (Int.le_refl _)]]
    refine (G_loopI (C := fun i => e_lim L xs (d + 1) 187 5 [some (.ref 184), some (.int (iI o)), some (.int (iI f)), some (.int (iI (SU (fun w => if f ≤ w then tk K o w else 0) i))), some (.int (iI i))] [] (e_hp M V W)) (i := f) hc (fun j a b hc => ?_) ?_)
    · have e2 := mm_takes (L := L) (xs := xs) (d := d) (V := V) (W := W) hK (o := o) (w := j) ho.1 (by omega) (by omega) (by omega)
      rw [SU_s _ (show 0 ≤ j by omega), if_pos a] at hc
      rw [r187_5]
      simp (disch := first | assumption | exact e_nk_i _ | exact e_nk_n | exact e_nk_r _ | exact e_bo_0 | exact e_bo_1 | exact e_bo_b _ | omega) only [e_cl_v, e_cl_x, e_add_0, e_add_s, Option.toList_some, Option.toList_none, List.cons_append, List.nil_append, iI_add, iI_sub, iI_mul, iI_lt, iI_eq, iI_le, r187_0, r187_1, r187_2, r187_3, r187_7, r187_8, r187_9, r187_12, r187_15, r187_16, r187_17, r187_18, r187_20, r187_23, r187_24, r187_25, r187_28, r187_31, r187_32, e1, e2]
      rw [if_pos b]
      exact hc
    · rw [r187_5]
      simp (disch := first | assumption | exact e_nk_i _ | exact e_nk_n | exact e_nk_r _ | exact e_bo_0 | exact e_bo_1 | exact e_bo_b _ | omega) only [e_cl_v, e_cl_x, e_add_0, e_add_s, Option.toList_some, Option.toList_none, List.cons_append, List.nil_append, iI_add, iI_sub, iI_mul, iI_lt, iI_eq, iI_le, r187_0, r187_1, r187_2, r187_3, r187_7, r187_8, r187_9, r187_12, r187_15, r187_16, r187_17, r187_18, r187_20, r187_23, r187_24, r187_25, r187_28, r187_31, r187_32, e1]
      rw [if_neg (by omega)]
      rfl
  · rw [r187_5]
    simp (disch := first | assumption | exact e_nk_i _ | exact e_nk_n | exact e_nk_r _ | exact e_bo_0 | exact e_bo_1 | exact e_bo_b _ | omega) only [e_cl_v, e_cl_x, e_add_0, e_add_s, Option.toList_some, Option.toList_none, List.cons_append, List.nil_append, iI_add, iI_sub, iI_mul, iI_lt, iI_eq, iI_le, r187_0, r187_1, r187_2, r187_3, r187_7, r187_8, r187_9, r187_12, r187_15, r187_16, r187_17, r187_18, r187_20, r187_23, r187_24, r187_25, r187_28, r187_31, r187_32, e1]
    rw [if_neg (by omega), hfin f (by omega) (by omega)]
theorem mm_timeOn (hK : e_KM M K) (hr : kR K) {o m : Int} (ho : 0 ≤ o ∧ o ≤ 7) (hm : 0 ≤ m ∧ m ≤ 3) : e_lim L xs (d + 1) 236 0 [some (.ref 184), some (.int (iI o)), some (.int (iI m)), none, none] [] (e_hp M V W) = some (.inl (some (.int (iI (tO K o m)))), e_hp M V W, 0, 0) := by
  have hw := hr.wk (o := o) ho.1 (by omega)
  have e1 := mm_worksOf (L := L) (xs := xs) (d := d) (V := V) (W := W) hK (o := o) ho.1 (by omega)
  simp (disch := first | assumption | exact e_nk_i _ | exact e_nk_n | exact e_nk_r _ | exact e_bo_0 | exact e_bo_1 | exact e_bo_b _ | omega) only [e_cl_v, e_cl_x, e_add_0, e_add_s, Option.toList_some, Option.toList_none, List.cons_append, List.nil_append, iI_add, iI_sub, iI_mul, iI_lt, iI_eq, iI_le, r236_0, r236_1, r236_2, r236_3, r236_7, r236_8, r236_9, r236_12, r236_15, r236_16, r236_17, r236_20, r236_22, r236_23, r236_24, r236_25, r236_26, r236_28, r236_29, r236_30, r236_31, r236_34, r236_35, r236_36, r236_38, r236_41, r236_44, r236_45, r236_46, r236_47, r236_50, r236_53, r236_54]
  rw [show (iI 0 : Int32) = iI (SU (fun w => if K (48 + 4 * o + w) = m then tk K o w else 0) 0) from rfl]
  refine (G_loopI (C := fun i => e_lim L xs (d + 1) 236 5 [some (.ref 184), some (.int (iI o)), some (.int (iI m)), some (.int (iI (SU (fun w => if K (48 + 4 * o + w) = m then tk K o w else 0) i))), some (.int (iI i))] [] (e_hp M V W)) (i := 0) hw.1 (fun j a b hc => ?_) ?_)
  · have e2 := mm_takes (L := L) (xs := xs) (d := d) (V := V) (W := W) hK (o := o) (w := j) ho.1 (by omega) (by omega) (by omega)
    have e3 := hK (48 + 4 * o + j) (by omega) (by omega)
    have q3 := hr.mc (i := 4 * o + j) (by omega) (by omega)
    rw [show 48 + (4 * o + j) = 48 + 4 * o + j by omega] at q3
    rw [SU_s _ a] at hc
    rw [r236_5]
    simp (disch := first | assumption | exact e_nk_i _ | exact e_nk_n | exact e_nk_r _ | exact e_bo_0 | exact e_bo_1 | exact e_bo_b _ | omega) only [e_cl_v, e_cl_x, e_add_0, e_add_s, Option.toList_some, Option.toList_none, List.cons_append, List.nil_append, iI_add, iI_sub, iI_mul, iI_lt, iI_eq, iI_le, r236_0, r236_1, r236_2, r236_3, r236_7, r236_8, r236_9, r236_12, r236_15, r236_16, r236_17, r236_20, r236_22, r236_23, r236_24, r236_25, r236_26, r236_28, r236_29, r236_30, r236_31, r236_34, r236_35, r236_36, r236_38, r236_41, r236_44, r236_45, r236_46, r236_47, r236_50, r236_53, r236_54, iI_vin, iI_nat, if_true, e1, e2, e3]
    rw [if_pos b]
    by_cases hq : K (48 + 4 * o + j) = m
    · rw [if_pos hq] at hc ⊢
      exact hc
    · rw [if_neg hq] at hc ⊢
      exact hc
  · rw [r236_5]
    simp (disch := first | assumption | exact e_nk_i _ | exact e_nk_n | exact e_nk_r _ | exact e_bo_0 | exact e_bo_1 | exact e_bo_b _ | omega) only [e_cl_v, e_cl_x, e_add_0, e_add_s, Option.toList_some, Option.toList_none, List.cons_append, List.nil_append, iI_add, iI_sub, iI_mul, iI_lt, iI_eq, iI_le, r236_0, r236_1, r236_2, r236_3, r236_7, r236_8, r236_9, r236_12, r236_15, r236_16, r236_17, r236_20, r236_22, r236_23, r236_24, r236_25, r236_26, r236_28, r236_29, r236_30, r236_31, r236_34, r236_35, r236_36, r236_38, r236_41, r236_44, r236_45, r236_46, r236_47, r236_50, r236_53, r236_54, e1]
    rw [if_neg (by omega)]
    rfl
theorem mm_loadOf (hK : e_KM M K) (hr : kR K) {m : Int} (hm : 0 ≤ m ∧ m ≤ 3) : e_lim L xs (d + 2) 237 0 [some (.ref 184), some (.int (iI m)), none, none] [] (e_hp M V W) = some (.inl (some (.int (iI (lO K m)))), e_hp M V W, 0, 0) := by
  have hn := hr.n
  have e1 := mm_many (L := L) (xs := xs) (d := d + 1) (V := V) (W := W) hK
  simp (disch := first | assumption | exact e_nk_i _ | exact e_nk_n | exact e_nk_r _ | exact e_bo_0 | exact e_bo_1 | exact e_bo_b _ | omega) only [e_cl_v, e_cl_x, e_add_0, e_add_s, Option.toList_some, Option.toList_none, List.cons_append, List.nil_append, iI_add, iI_sub, iI_mul, iI_lt, iI_eq, iI_le, r237_0, r237_1, r237_2, r237_3, r237_5, r237_6, r237_9, r237_12, r237_13, r237_14, r237_15, r237_16, r237_19, r237_20, r237_21, r237_24, r237_27, r237_28]
  rw [show (iI 0 : Int32) = iI (SU (fun o => tO K o m) 0) from rfl]
  refine (G_loopI (C := fun i => e_lim L xs (d + 2) 237 4 [some (.ref 184), some (.int (iI m)), some (.int (iI (SU (fun o => tO K o m) i))), some (.int (iI i))] [] (e_hp M V W)) (i := 0) hn.1 (fun j a b hc => ?_) ?_)
  · have e2 := mm_timeOn (L := L) (xs := xs) (d := d) (V := V) (W := W) hK hr (o := j) (m := m) (by omega) hm
    rw [SU_s _ a] at hc
    rw [r237_4]
    simp (disch := first | assumption | exact e_nk_i _ | exact e_nk_n | exact e_nk_r _ | exact e_bo_0 | exact e_bo_1 | exact e_bo_b _ | omega) only [e_cl_v, e_cl_x, e_add_0, e_add_s, Option.toList_some, Option.toList_none, List.cons_append, List.nil_append, iI_add, iI_sub, iI_mul, iI_lt, iI_eq, iI_le, r237_0, r237_1, r237_2, r237_3, r237_5, r237_6, r237_9, r237_12, r237_13, r237_14, r237_15, r237_16, r237_19, r237_20, r237_21, r237_24, r237_27, r237_28, e1, e2]
    rw [if_pos b]
    exact hc
  · rw [r237_4]
    simp (disch := first | assumption | exact e_nk_i _ | exact e_nk_n | exact e_nk_r _ | exact e_bo_0 | exact e_bo_1 | exact e_bo_b _ | omega) only [e_cl_v, e_cl_x, e_add_0, e_add_s, Option.toList_some, Option.toList_none, List.cons_append, List.nil_append, iI_add, iI_sub, iI_mul, iI_lt, iI_eq, iI_le, r237_0, r237_1, r237_2, r237_3, r237_5, r237_6, r237_9, r237_12, r237_13, r237_14, r237_15, r237_16, r237_19, r237_20, r237_21, r237_24, r237_27, r237_28, e1]
    rw [if_neg (by omega)]
    rfl
theorem mm_stands (hS : e_SC M ρ ω β ε) {o n : Int} (ho : 0 ≤ o ∧ o ≤ 8) (hn : 0 ≤ n ∧ n ≤ 16) : e_lim L xs d 242 0 [some (.ref 184), some (.int (iI o)), some (.int (iI n)), none, none] [] (e_hp M V W) = some (.inl (some (.int (iI (cnt ρ o n)))), e_hp M V W, 0, 0) := by
  obtain ⟨h1, h2, h3, h4, g1, g2, g3, g4⟩ := hS
  simp (disch := first | assumption | exact e_nk_i _ | exact e_nk_n | exact e_nk_r _ | exact e_bo_0 | exact e_bo_1 | exact e_bo_b _ | omega) only [e_cl_v, e_cl_x, e_add_0, e_add_s, Option.toList_some, Option.toList_none, List.cons_append, List.nil_append, iI_add, iI_sub, iI_mul, iI_lt, iI_eq, iI_le, r242_0, r242_1, r242_2, r242_3, r242_7, r242_8, r242_11, r242_12, r242_13, r242_16, r242_18, r242_19, r242_20, r242_23, r242_24, r242_27, r242_28, r242_29, r242_30, r242_33, r242_36, r242_37]
  rw [show (iI 0 : Int32) = iI (cnt ρ o 0) from rfl]
  refine (G_loopI (C := fun i => e_lim L xs d 242 5 [some (.ref 184), some (.int (iI o)), some (.int (iI n)), some (.int (iI (cnt ρ o i))), some (.int (iI i))] [] (e_hp M V W)) (i := 0) hn.1 (fun j a b hc => ?_) ?_)
  · have e2 := h1 j a (by omega)
    have q2 := g1 j a (by omega)
    rw [cnt_s _ _ a] at hc
    rw [r242_5]
    simp (disch := first | assumption | exact e_nk_i _ | exact e_nk_n | exact e_nk_r _ | exact e_bo_0 | exact e_bo_1 | exact e_bo_b _ | omega) only [e_cl_v, e_cl_x, e_add_0, e_add_s, Option.toList_some, Option.toList_none, List.cons_append, List.nil_append, iI_add, iI_sub, iI_mul, iI_lt, iI_eq, iI_le, r242_0, r242_1, r242_2, r242_3, r242_7, r242_8, r242_11, r242_12, r242_13, r242_16, r242_18, r242_19, r242_20, r242_23, r242_24, r242_27, r242_28, r242_29, r242_30, r242_33, r242_36, r242_37, iI_vin, iI_nat, if_true, e2]
    rw [if_pos b]
    by_cases hq : ρ j = o
    · rw [if_pos hq] at hc ⊢
      exact hc
    · rw [if_neg hq] at hc ⊢
      exact hc
  · rw [r242_5]
    simp (disch := first | assumption | exact e_nk_i _ | exact e_nk_n | exact e_nk_r _ | exact e_bo_0 | exact e_bo_1 | exact e_bo_b _ | omega) only [e_cl_v, e_cl_x, e_add_0, e_add_s, Option.toList_some, Option.toList_none, List.cons_append, List.nil_append, iI_add, iI_sub, iI_mul, iI_lt, iI_eq, iI_le, r242_0, r242_1, r242_2, r242_3, r242_7, r242_8, r242_11, r242_12, r242_13, r242_16, r242_18, r242_19, r242_20, r242_23, r242_24, r242_27, r242_28, r242_29, r242_30, r242_33, r242_36, r242_37]
    rw [if_neg (by omega)]
end E56
