section E71
variable {L : Nat} {xs : Nat → Int32} {d : Nat} {M : e_MI} {V : e_ML} {W : e_MD} {K : e_St} {h : e_H}
/-- a byte of a number -/
def bB (x : Int32) (s : Int) : Int32 := (x >>> (iI s &&& 31)) &&& iI 255
def bC (x : Int32) (s : Int) : Int := if bB x s = iI 0 then 0 else 1
/-- how many bytes it has -/
def nB (x : Int32) : Int := bC x 0 + bC x 8 + bC x 16 + bC x 24
theorem mm_bytesSeg {x : Int32} {n s : Int} (hs : 0 ≤ s ∧ s < 32) : e_lim L xs d 276 4 [some (.int x), some (.int (iI n)), some (.int (iI s))] [] h = e_lim L xs d 276 4 [some (.int x), some (.int (iI (n + bC x s))), some (.int (iI (s + 8)))] [] h := by
  rw [r276_4]
  simp (disch := first | assumption | exact e_nk_i _ | exact e_nk_n | exact e_nk_r _ | exact e_bo_0 | exact e_bo_1 | exact e_bo_b _ | omega) only [e_cl_v, e_cl_x, e_add_0, e_add_s, Option.toList_some, Option.toList_none, List.cons_append, List.nil_append, iI_add, iI_sub, iI_mul, iI_lt, iI_eq, iI_le, r276_5, r276_7, r276_10, r276_11, r276_12, r276_13, r276_14, r276_17, r276_18, r276_21, r276_22, r276_25, r276_26, r276_27, r276_28, r276_31]
  rw [if_pos hs.2]
  unfold bC bB
  split
  · rfl
  · rfl
theorem mm_bytesIn {x : Int32} : e_lim L xs d 276 0 [some (.int x), none, none] [] h = some (.inl (some (.int (iI (nB x)))), h, 0, 0) := by
  simp (disch := first | assumption | exact e_nk_i _ | exact e_nk_n | exact e_nk_r _ | exact e_bo_0 | exact e_bo_1 | exact e_bo_b _ | omega) only [e_cl_v, e_cl_x, e_add_0, e_add_s, Option.toList_some, Option.toList_none, List.cons_append, List.nil_append, iI_add, iI_sub, iI_mul, iI_lt, iI_eq, iI_le, r276_0, r276_1, r276_2, r276_3]
  rw [mm_bytesSeg (by omega), mm_bytesSeg (by omega), mm_bytesSeg (by omega), mm_bytesSeg (by omega), r276_4]
  simp (disch := first | assumption | exact e_nk_i _ | exact e_nk_n | exact e_nk_r _ | exact e_bo_0 | exact e_bo_1 | exact e_bo_b _ | omega) only [e_cl_v, e_cl_x, e_add_0, e_add_s, Option.toList_some, Option.toList_none, List.cons_append, List.nil_append, iI_add, iI_sub, iI_mul, iI_lt, iI_eq, iI_le, r276_5, r276_7, r276_34, r276_35]
  rw [if_neg (by omega)]
  unfold nB
  rw [show (0 : Int) + bC x 0 + bC x (0 + 8) + bC x (0 + 8 + 8) + bC x (0 + 8 + 8 + 8) = bC x 0 + bC x 8 + bC x 16 + bC x 24 by rw [Int.zero_add]; rfl]
end E71
