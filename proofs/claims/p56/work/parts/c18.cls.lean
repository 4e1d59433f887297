section Ec18
variable {L : Nat} {xs : Nat → Int32} {d : Nat} {M M2 M3 : e_MI} {V : e_ML} {W : e_MD} {K K2 : e_St} {h : e_H} {s t t2 a b2 n : Nat} {o j w z m k q p i f l b e mc tl v T x N : Int} {sc : Bool} {ρ ν μ χ β ε τ u : Int → Int}
/-! the class copies and fills -/
theorem m_copyN (ha : e_isI a n) (hb : e_isI b2 n) : ∃ g : Nat → Int32, e_lim L xs (d + 1) 162 0 [some (.ref a), some (.ref b2)] [] (e_hp M V W) = some (.inl none, e_hp (e_u M b2 g) V W, 0, 0) ∧ ∀ i : Nat, i < n → g i = M a i := by
  have hn := e_nI_lt a
  rw [ha.n] at hn
  have n1 : (iI (n : Int)).toNatClampNeg = n := by
    rw [iI_nat (by omega) (by omega)]
    omega
  have n0 : (iI 0).toNatClampNeg = 0 := rfl
  have hA := ha.A
  have hB := hb.A
  have hnA := ha.n
  have hnB := hb.n
  refine ⟨va_cpy (M a) (M b2) 0 0 n, ?_, fun i hi => ?_⟩
  · simp (disch := first | assumption | exact e_nk_i _ | exact e_nk_n | exact e_nk_r _ | exact e_bo_0 | exact e_bo_1 | exact e_bo_b _ | omega) only [e_cl_v, e_cl_x, e_add_0, e_add_s, Option.toList_some, Option.toList_none, List.cons_append, List.nil_append, iI_add, iI_sub, iI_mul, iI_lt, iI_eq, iI_le, r162_0, r162_1, r162_2, r162_3, r162_4, r162_5, r162_6, r162_7, r162_8, hnA, hnB]
    rw [if_neg (by omega), r162_11 ha.A hb.A (by
      rw [ha.n, hb.n, n1, n0, show (0 : Int32) = iI 0 from rfl, iI_lt (by omega) (by omega), iI_lt (by omega) (by omega)]
      omega), n1, n0]
    simp (disch := first | assumption | exact e_nk_i _ | exact e_nk_n | exact e_nk_r _ | exact e_bo_0 | exact e_bo_1 | exact e_bo_b _ | omega) only [e_cl_v, e_cl_x, e_add_0, e_add_s, Option.toList_some, Option.toList_none, List.cons_append, List.nil_append, iI_add, iI_sub, iI_mul, iI_lt, iI_eq, iI_le, r162_14]
  · unfold va_cpy
    simp [hi]
end Ec18
