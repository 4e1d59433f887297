section Ec26
variable {L : Nat} {xs : Nat → Int32} {d : Nat} {M M2 M3 : e_MI} {V : e_ML} {W : e_MD} {K K2 : e_St} {S : Int → e_St} {h : e_H} {s s0 s1 t t2 a b2 n : Nat} {c o j w z m k q p i f l b e mc tl T x y N : Int} {sc : Bool} {ρ ν μ χ β ε τ u : Int → Int}
/-! the class copies an order -/
theorem s_orderCellR {v : Int32} (h0 : 0 ≤ o) (h1 : o < 8) (h2 : 0 ≤ j) (h3 : j < 6) (hv : M 2 (o * 6 + j).toNat = v) : e_lim L xs (d + 1) 27 0 [some (.ref 1), some (.int (iI o)), some (.int (iI j))] [] (e_hp M V W) = some (.inl (some (.int v)), e_hp M V W, 0, 0) := by
  have e1 := m_atI (L := L) (xs := xs) (d := d) (M := M) (V := V) (W := W) (a := 2) (n := 48) si_2 (z := o * 6 + j) (by omega) (by omega) hv
  simp (disch := first | assumption | exact e_nk_i _ | exact e_nk_n | exact e_nk_r _ | exact e_bo_0 | exact e_bo_1 | exact e_bo_b _ | omega) only [e_cl_v, e_cl_x, e_add_0, e_add_s, Option.toList_some, Option.toList_none, List.cons_append, List.nil_append, iI_add, iI_sub, iI_mul, iI_lt, iI_eq, iI_le, r27_0, r27_1, r27_4, r27_5, r27_7, r27_8, r27_9, r27_10, r27_13, e1]
end Ec26
