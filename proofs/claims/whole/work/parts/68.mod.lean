section E68
variable {L : Nat} {xs : Nat → Int32} {d : Nat} {M : e_MI} {V : e_ML} {W : e_MD} {K : e_St} {h : e_H} {ρ ω β ε τ : Int → Int} {k : Int}
/-! numbers of 64 bits -/
def lI (z : Int) : Int64 := Int64.ofInt z
theorem lI_add (a b : Int) : lI a + lI b = lI (a + b) := (Int64.ofInt_add a b).symm
theorem lI_sub (a b : Int) : lI a - lI b = lI (a - b) := (Int64.ofInt_sub a b).symm
theorem lI_mul (a b : Int) : lI a * lI b = lI (a * b) := (Int64.ofInt_mul a b).symm
theorem lI_0 : (0 : Int64) = lI 0 := rfl
theorem lI_toInt {z : Int} (h1 : -9223372036854775808 ≤ z) (h2 : z < 9223372036854775808) : (lI z).toInt = z := by
  unfold lI
  exact Int64.toInt_ofInt_of_le (by simpa using h1) (by simpa using h2)
theorem lI_i {z : Int} (h1 : -2147483648 ≤ z ∧ z < 2147483648) : (iI z).toInt64 = lI z := by
  apply Int64.toInt_inj.mp
  rw [Int32.toInt_toInt64, iI_toInt h1.1 h1.2, lI_toInt (by omega) (by omega)]
theorem lI_lt {a b : Int} (ha : -2147483648 ≤ a ∧ a < 2147483648) (hb : -2147483648 ≤ b ∧ b < 2147483648) : lI a < lI b ↔ a < b := by
  rw [Int64.lt_iff_toInt_lt, lI_toInt (by omega) (by omega), lI_toInt (by omega) (by omega)]
/-- what an order costs -/
def ctO (K : e_St) (e : Int → Int) (o : Int) : Int := (if 0 < e o - K (24 + o) then (e o - K (24 + o)) * K 309 else (0 - (e o - K (24 + o))) * K 308) * K (32 + o)
def ctW (K : e_St) (e : Int → Int) : Int := SU (ctO K e) (K 310)
theorem scE_rg (hr : kR K) (hv : vR K τ) (hn : 0 ≤ aW K ∧ aW K ≤ 16) (hS : e_SC M ρ ω β ε) (hg : agR K τ (aW K) ρ ω β ε) {p : Int} (h0 : 0 ≤ p) (h1 : p < aW K) : 0 ≤ scE K τ p ∧ scE K τ p ≤ 2001 := by
  rw [← (hg p h0 h1).2.2.2]
  exact hS.2.2.2.2.2.2.2 p h0 (by omega)
theorem enO_rg (hr : kR K) (hv : vR K τ) (hn : 0 ≤ aW K ∧ aW K ≤ 16) (hS : e_SC M ρ ω β ε) (hg : agR K τ (aW K) ρ ω β ε) {o : Int} (ho : 0 ≤ o ∧ o < K 310) : 0 ≤ enO K τ o ∧ enO K τ o ≤ 2001 := by
  have hn8 := hr.n
  have hwk := hr.wk (o := o) ho.1 (by omega)
  have h2 := hr.re (o := o) ho.1 (by omega)
  unfold enO
  split
  · omega
  · obtain ⟨a, b, c⟩ := plO_sp hr hv hn.1 ho (w := K (40 + o) - 1) (by omega)
    exact scE_rg hr hv hn hS hg a.1 a.2
theorem mm_costNow (hK : e_KM M K) (hr : kR K) (hv : vR K τ) (hn : 0 ≤ aW K ∧ aW K ≤ 16) (hS : e_SC M ρ ω β ε) (hg : agR K τ (aW K) ρ ω β ε) : e_lim L xs (d + 2) 262 0 [some (.ref 184), none, none, none, none, none, none] [] (e_hp M V W) = some (.inl (some (.long (lI (ctW K (enO K τ))))), e_hp M V W, 0, 0) := by
  have hn8 := hr.n
  have e1 := mm_many (L := L) (xs := xs) (d := d + 1) (V := V) (W := W) hK
  have e5 := hK 309 (by omega) (by omega)
  have e6 := hK 308 (by omega) (by omega)
  have r5 := hr.r1
  have r6 := hr.r0
  simp (disch := first | assumption | exact e_nk_i _ | exact e_nk_n | exact e_nk_r _ | exact e_bo_0 | exact e_bo_1 | exact e_bo_b _ | omega) only [e_cl_v, e_cl_x, e_add_0, e_add_s, Option.toList_some, Option.toList_none, List.cons_append, List.nil_append, iI_add, iI_sub, iI_mul, iI_lt, iI_eq, iI_le, r262_0, r262_1, r262_2, r262_3, lI_0]
  rw [show lI 0 = lI (SU (ctO K (enO K τ)) 0) from rfl]
  refine G_loopI (C := fun i => e_lim L xs (d + 2) 262 4 [some (.ref 184), some (.long (lI (SU (ctO K (enO K τ)) i))), none, some (.int (iI i)), none, none, none] [] (e_hp M V W)) (i := 0) hn8.1 (fun j a b hc => ?_) ?_
  · have e2 := mm_endIs (L := L) (xs := xs) (d := d) (V := V) (W := W) hK hr hv hn hS hg (o := j) ⟨a, b⟩
    have r2 := enO_rg hr hv hn hS hg (o := j) ⟨a, b⟩
    have e3 := hK (24 + j) (by omega) (by omega)
    have r3 := hr.du (o := j) a (by omega)
    have e4 := hK (32 + j) (by omega) (by omega)
    have r4 := hr.we (o := j) a (by omega)
    rw [SU_s _ a] at hc
    have hct : ctO K (enO K τ) j = (if 0 < enO K τ j - K (24 + j) then (enO K τ j - K (24 + j)) * K 309 else (0 - (enO K τ j - K (24 + j))) * K 308) * K (32 + j) := rfl
    rw [hct] at hc
    generalize enO K τ j = e at *
    rw [r262_4]
    simp (disch := first | assumption | exact e_nk_i _ | exact e_nk_n | exact e_nk_r _ | exact e_bo_0 | exact e_bo_1 | exact e_bo_b _ | omega) only [e_cl_v, e_cl_x, e_add_0, e_add_s, Option.toList_some, Option.toList_none, List.cons_append, List.nil_append, iI_add, iI_sub, iI_mul, iI_lt, iI_eq, iI_le, r262_5, r262_6, r262_9, r262_12, r262_13, r262_14, r262_17, r262_18, r262_21, r262_23, r262_24, r262_25, r262_26, r262_27, r262_29, r262_31, r262_34, r262_36, r262_37, r262_38, r262_41, r262_44, r262_45, r262_46, r262_47, r262_50, r262_51, r262_53, r262_54, r262_55, r262_56, r262_59, r262_62, r262_63, r262_64, r262_65, r262_67, r262_68, r262_70, r262_71, r262_74, r262_76, r262_77, r262_78, r262_79, r262_80, r262_81, r262_82, r262_83, r262_86, iI_vin, iI_nat, if_true, e1, e2, e3, e4, e5, e6, lI_0, lI_i, lI_add, lI_sub, lI_mul]
    rw [if_pos b]
    by_cases z : 0 < e - K (24 + j)
    · rw [if_pos z] at hc
      rw [if_neg (by omega)]
      exact G_less (by repeat (first | exact e_ll.rf | refine e_ll_c ?_ | refine e_ll_x ?_)) hc
    · rw [if_neg z] at hc
      rw [if_pos (by omega)]
      exact G_less (by repeat (first | exact e_ll.rf | refine e_ll_c ?_ | refine e_ll_x ?_)) hc
  · rw [r262_4]
    simp (disch := first | assumption | exact e_nk_i _ | exact e_nk_n | exact e_nk_r _ | exact e_bo_0 | exact e_bo_1 | exact e_bo_b _ | omega) only [e_cl_v, e_cl_x, e_add_0, e_add_s, Option.toList_some, Option.toList_none, List.cons_append, List.nil_append, iI_add, iI_sub, iI_mul, iI_lt, iI_eq, iI_le, r262_5, r262_6, r262_9, r262_89, r262_90, e1]
    rw [if_neg (by omega)]
    rfl
end E68
