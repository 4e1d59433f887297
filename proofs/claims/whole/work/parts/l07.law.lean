/-! one turn of the law, case by case -/
section El7
variable {L : Nat} {xs : Nat → Int32} {d : Nat} {M M2 M3 : e_MI} {V V2 : e_ML} {W W2 : e_MD} {i k : Int} {z : Int32} {z8 : Int64} {u8 : UInt64} {u4 : UInt32} {a b a3 b3 : Nat} {bb : Bool} {x : Option Value ⊕ Nat} {h3 : e_H}
theorem f2d_ok {y : UInt32} (h : y.toNat % 2147483648 ≤ 2139095040) : FP.f2d y &&& 0x7fffffffffffffff ≤ 0x7ff0000000000000 := by
  refine n64_ok ?_
  have q : FP.Core.decode FP.Core.b32 y.toNat = if y.toNat / 8388608 % 256 = 255 then (if y.toNat % 8388608 = 0 then .inf (FP.Core.fieldS FP.Core.b32 y.toNat) else .nan) else if y.toNat / 8388608 % 256 = 0 then .fin (FP.Core.fieldS FP.Core.b32 y.toNat) (y.toNat % 8388608) (-149) else .fin (FP.Core.fieldS FP.Core.b32 y.toNat) (8388608 + y.toNat % 8388608) (-149 + (((y.toNat / 8388608 % 256 : Nat) : Int) - 1)) := rfl
  have hn : FP.Core.decode FP.Core.b32 y.toNat ≠ .nan := by
    rw [q]
    split
    · rw [if_pos (by omega)]
      intro hh
      cases hh
    · split
      · intro hh
        cases hh
      · intro hh
        cases hh
  have h0 : FP.Core.fIsNaN y = false := by
    show decide (FP.Core.decode FP.Core.b32 y.toNat = .nan) = false
    exact decide_eq_false hn
  have e1 : FP.f2d y = FP.Core.f2d y := by
    unfold FP.f2d
    rw [h0]
    rfl
  have e : (FP.f2d y).toNat = FP.Core.encode FP.Core.b64 (FP.Core.round FP.Core.b64 (FP.Core.decode FP.Core.b32 y.toNat)) % 18446744073709551616 := by
    rw [e1]
    show (UInt64.ofNat _).toNat = _
    rw [UInt64.toNat_ofNat']
    rfl
  rw [e]
  rw [q]
  split
  · rw [if_pos (by omega)]
    have := inf64 (s := FP.Core.fieldS FP.Core.b32 y.toNat)
    show FP.Core.encode FP.Core.b64 (.inf _) % _ % _ ≤ _
    omega
  · split
    · have := rrt64 (s := FP.Core.fieldS FP.Core.b32 y.toNat) (n := y.toNat % 8388608) (k := 1) (e := -149)
      show FP.Core.encode FP.Core.b64 (FP.Core.roundRatio FP.Core.b64 _ _ 1 _) % _ % _ ≤ _
      omega
    · have := rrt64 (s := FP.Core.fieldS FP.Core.b32 y.toNat) (n := 8388608 + y.toNat % 8388608) (k := 1) (e := -149 + (((y.toNat / 8388608 % 256 : Nat) : Int) - 1))
      show FP.Core.encode FP.Core.b64 (FP.Core.roundRatio FP.Core.b64 _ _ 1 _) % _ % _ ≤ _
      omega
theorem ord_self {q : FP.Core.Datum} (h : q ≠ .nan) : FP.Core.order q q = some .eq := by
  have e : ∀ v : Int, compare v v = Ordering.eq := fun v => by simp [compare, compareOfLessAndEq]
  cases q with
  | nan => exact absurd rfl h
  | inf s => exact congrArg some (e _)
  | fin s c r => exact congrArg some (e _)
theorem dcmp_self {y : UInt64} (h : y &&& 0x7fffffffffffffff ≤ 0x7ff0000000000000) : Op.cmpValue (FP.dcmp y y) .l = iI 0 := by
  rw [UInt64.le_iff_toNat_le, UInt64.toNat_and] at h
  have e1 : (0x7fffffffffffffff : UInt64).toNat = 2 ^ 63 - 1 := rfl
  have e2 : (0x7ff0000000000000 : UInt64).toNat = 9218868437227405312 := by decide
  rw [e1, e2, Nat.and_two_pow_sub_one_eq_mod] at h
  have q : FP.Core.decode FP.Core.b64 y.toNat ≠ .nan := by
    have e : FP.Core.decode FP.Core.b64 y.toNat = if y.toNat / 4503599627370496 % 2048 = 2047 then (if y.toNat % 4503599627370496 = 0 then .inf (FP.Core.fieldS FP.Core.b64 y.toNat) else .nan) else if y.toNat / 4503599627370496 % 2048 = 0 then .fin (FP.Core.fieldS FP.Core.b64 y.toNat) (y.toNat % 4503599627370496) (-1074) else .fin (FP.Core.fieldS FP.Core.b64 y.toNat) (4503599627370496 + y.toNat % 4503599627370496) (-1074 + (((y.toNat / 4503599627370496 % 2048 : Nat) : Int) - 1)) := rfl
    rw [e]
    split
    · rw [if_pos (by omega)]
      intro hh
      cases hh
    · split
      · intro hh
        cases hh
      · intro hh
        cases hh
  show Op.cmpValue (FP.Core.order _ _) .l = _
  rw [ord_self q]
  rfl
theorem lg_self (y : Int64) : lg_cmp y y = iI 0 := ((lg_cmp_eq y y).mpr rfl).trans rfl
theorem bI_t0 : (bI true = iI 0) = False := eq_false (by decide)
theorem bI_f0 : bI false = iI 0 := rfl
theorem m_thrown : e_lim L xs d 177 0 [some (.ref 184)] [] (e_hp M V W) = some (.inl (some (.int (M 184 0))), e_hp M V W, 0, 0) := by
  simp (disch := first | assumption | exact e_nk_i _ | exact e_nk_n | exact e_nk_r _ | exact e_bo_0 | exact e_bo_1 | exact e_bo_b _ | omega) only [r177_0, r177_1, r177_4]
theorem lc0 (h0 : 0 ≤ i) (h1 : i + 5 < (L : Int)) (hL : L ≤ 3072) (hw : e_lim L xs (d + 1) 289 0 [some (.ref 0), some (.int (xs (i + 1).toNat)), some (.int (xs (i + 2).toNat)), some (.int (xs (i + 3).toNat)), some (.int (xs (i + 4).toNat)), some (.int (xs (i + 5).toNat)), some (.ref 202), none] [] (e_hp M V W) = some (.inl (some (.int (iI k))), e_hp M2 V2 W2, a, b)) (hm : e_lim L xs (d + 1) 192 0 [some (.ref 184), some (.int (xs (i + 1).toNat)), some (.int (xs (i + 2).toNat)), some (.int (xs (i + 3).toNat)), some (.int (xs (i + 4).toNat)), some (.int (xs (i + 5).toNat)), none] [] (e_hp M2 V2 W2) = some (.inl (some (.int z)), e_hp M3 V2 W2, 0, 0)) (hk : M3 184 0 = iI k) (hk2 : 0 ≤ k ∧ k ≤ 9) (hz : k = 0 → V2 202 0 = z.toInt64) (hr : e_lim L xs (d + 2) 331 3141 [some (.ref e_SCR), some (.ref 0), some (.ref 184), some (.ref 202), some (.ref 203), some (.int (iI i)), none, none, none] [] (e_hp M3 V2 W2) = some (x, h3, a3, b3)) : e_lim L xs (d + 2) 331 272 [some (.ref e_SCR), some (.ref 0), some (.ref 184), some (.ref 202), some (.ref 203), some (.int (iI i)), none, none, none] [] (e_hp M V W) = some (x, h3, a + a3, b + b3) := by
  have ht := m_thrown (L := L) (xs := xs) (d := d + 1) (M := M3) (V := V2) (W := W2)
  rw [hk] at ht
  by_cases hq : k = 0
  · have hz2 := hz hq
    subst hq
    simp (disch := first | assumption | exact e_nk_i _ | exact e_nk_n | exact e_nk_r _ | exact e_bo_0 | exact e_bo_1 | exact e_bo_b _ | omega) only [Nat.reduceAdd, e_cl_v, e_cl_x, e_add_0, e_add_s, Option.toList_some, Option.toList_none, List.cons_append, List.nil_append, r331_272, r331_273, r331_279, r331_285, r331_291, r331_297, r331_303, r331_304, r331_307, r331_309, r331_310, r331_316, r331_322, r331_328, r331_334, r331_340, r331_343, r331_345, r331_346, r331_349, r331_351, r331_354, r331_355, r331_356, r331_358, r331_361, r331_362, r331_363, r331_364, r331_366, r331_367, r331_368, r331_371, r331_372, r331_373, hw, hm, ht, eq_self, if_true, if_false, hz2, lg_self]
    refine (congrArg (e_add a b) (G_less ?_ hr)).trans rfl
    exact by repeat (first | exact e_ll.rf | refine e_ll_c ?_ | refine e_ll_x ?_)
  · have hne : ¬(iI k = iI 0) := fun h => hq ((iI_eq (by omega) (by omega)).mp h)
    simp (disch := first | assumption | exact e_nk_i _ | exact e_nk_n | exact e_nk_r _ | exact e_bo_0 | exact e_bo_1 | exact e_bo_b _ | omega) only [Nat.reduceAdd, e_cl_v, e_cl_x, e_add_0, e_add_s, Option.toList_some, Option.toList_none, List.cons_append, List.nil_append, r331_272, r331_273, r331_279, r331_285, r331_291, r331_297, r331_303, r331_304, r331_307, r331_309, r331_310, r331_316, r331_322, r331_328, r331_334, r331_340, r331_343, r331_345, r331_346, r331_349, r331_351, r331_354, r331_355, r331_356, r331_358, r331_361, r331_362, r331_363, r331_364, r331_366, r331_367, r331_368, r331_371, r331_372, r331_373, hw, hm, ht, eq_self, if_true, if_false, hne]
    refine (congrArg (e_add a b) (G_less ?_ hr)).trans rfl
    exact by repeat (first | exact e_ll.rf | refine e_ll_c ?_ | refine e_ll_x ?_)
theorem lc1 (h0 : 0 ≤ i) (h1 : i + 5 < (L : Int)) (hL : L ≤ 3072) (hw : e_lim L xs (d + 1) 290 0 [some (.ref 0), some (.int (xs (i + 1).toNat)), some (.int (xs (i + 2).toNat)), some (.int (xs (i + 3).toNat)), some (.int (xs (i + 4).toNat)), some (.ref 202), none] [] (e_hp M V W) = some (.inl (some (.int (iI k))), e_hp M2 V2 W2, a, b)) (hm : e_lim L xs (d + 1) 194 0 [some (.ref 184), some (.int (xs (i + 1).toNat)), some (.int (xs (i + 2).toNat)), some (.int (xs (i + 3).toNat)), some (.int (xs (i + 4).toNat))] [] (e_hp M2 V2 W2) = some (.inl (some (.int z)), e_hp M3 V2 W2, 0, 0)) (hk : M3 184 0 = iI k) (hk2 : 0 ≤ k ∧ k ≤ 9) (hz : k = 0 → V2 202 0 = z.toInt64) (hr : e_lim L xs (d + 2) 331 3141 [some (.ref e_SCR), some (.ref 0), some (.ref 184), some (.ref 202), some (.ref 203), some (.int (iI i)), none, none, none] [] (e_hp M3 V2 W2) = some (x, h3, a3, b3)) : e_lim L xs (d + 2) 331 376 [some (.ref e_SCR), some (.ref 0), some (.ref 184), some (.ref 202), some (.ref 203), some (.int (iI i)), none, none, none] [] (e_hp M V W) = some (x, h3, a + a3, b + b3) := by
  have ht := m_thrown (L := L) (xs := xs) (d := d + 1) (M := M3) (V := V2) (W := W2)
  rw [hk] at ht
  by_cases hq : k = 0
  · have hz2 := hz hq
    subst hq
    simp (disch := first | assumption | exact e_nk_i _ | exact e_nk_n | exact e_nk_r _ | exact e_bo_0 | exact e_bo_1 | exact e_bo_b _ | omega) only [Nat.reduceAdd, e_cl_v, e_cl_x, e_add_0, e_add_s, Option.toList_some, Option.toList_none, List.cons_append, List.nil_append, r331_376, r331_377, r331_383, r331_389, r331_395, r331_401, r331_402, r331_405, r331_407, r331_408, r331_414, r331_420, r331_426, r331_432, r331_435, r331_437, r331_438, r331_441, r331_443, r331_446, r331_447, r331_448, r331_450, r331_453, r331_454, r331_455, r331_456, r331_458, r331_459, r331_460, r331_463, r331_464, r331_465, hw, hm, ht, eq_self, if_true, if_false, hz2, lg_self]
    refine (congrArg (e_add a b) (G_less ?_ hr)).trans rfl
    exact by repeat (first | exact e_ll.rf | refine e_ll_c ?_ | refine e_ll_x ?_)
  · have hne : ¬(iI k = iI 0) := fun h => hq ((iI_eq (by omega) (by omega)).mp h)
    simp (disch := first | assumption | exact e_nk_i _ | exact e_nk_n | exact e_nk_r _ | exact e_bo_0 | exact e_bo_1 | exact e_bo_b _ | omega) only [Nat.reduceAdd, e_cl_v, e_cl_x, e_add_0, e_add_s, Option.toList_some, Option.toList_none, List.cons_append, List.nil_append, r331_376, r331_377, r331_383, r331_389, r331_395, r331_401, r331_402, r331_405, r331_407, r331_408, r331_414, r331_420, r331_426, r331_432, r331_435, r331_437, r331_438, r331_441, r331_443, r331_446, r331_447, r331_448, r331_450, r331_453, r331_454, r331_455, r331_456, r331_458, r331_459, r331_460, r331_463, r331_464, r331_465, hw, hm, ht, eq_self, if_true, if_false, hne]
    refine (congrArg (e_add a b) (G_less ?_ hr)).trans rfl
    exact by repeat (first | exact e_ll.rf | refine e_ll_c ?_ | refine e_ll_x ?_)
theorem lc2 (h0 : 0 ≤ i) (h1 : i + 5 < (L : Int)) (hL : L ≤ 3072) (hw : e_lim L xs (d + 1) 291 0 [some (.ref 0), some (.int (xs (i + 1).toNat)), some (.ref 202), none] [] (e_hp M V W) = some (.inl (some (.int (iI k))), e_hp M2 V2 W2, a, b)) (hm : e_lim L xs (d + 1) 195 0 [some (.ref 184), some (.int (xs (i + 1).toNat)), none, none, none] [] (e_hp M2 V2 W2) = some (.inl (some (.int z)), e_hp M3 V2 W2, 0, 0)) (hk : M3 184 0 = iI k) (hk2 : 0 ≤ k ∧ k ≤ 9) (hz : k = 0 → V2 202 0 = z.toInt64) (hr : e_lim L xs (d + 2) 331 3141 [some (.ref e_SCR), some (.ref 0), some (.ref 184), some (.ref 202), some (.ref 203), some (.int (iI i)), none, none, none] [] (e_hp M3 V2 W2) = some (x, h3, a3, b3)) : e_lim L xs (d + 2) 331 468 [some (.ref e_SCR), some (.ref 0), some (.ref 184), some (.ref 202), some (.ref 203), some (.int (iI i)), none, none, none] [] (e_hp M V W) = some (x, h3, a + a3, b + b3) := by
  have ht := m_thrown (L := L) (xs := xs) (d := d + 1) (M := M3) (V := V2) (W := W2)
  rw [hk] at ht
  by_cases hq : k = 0
  · have hz2 := hz hq
    subst hq
    simp (disch := first | assumption | exact e_nk_i _ | exact e_nk_n | exact e_nk_r _ | exact e_bo_0 | exact e_bo_1 | exact e_bo_b _ | omega) only [Nat.reduceAdd, e_cl_v, e_cl_x, e_add_0, e_add_s, Option.toList_some, Option.toList_none, List.cons_append, List.nil_append, r331_468, r331_469, r331_475, r331_476, r331_479, r331_481, r331_482, r331_488, r331_491, r331_493, r331_494, r331_497, r331_499, r331_502, r331_503, r331_504, r331_506, r331_509, r331_510, r331_511, r331_512, r331_514, r331_515, r331_516, r331_519, r331_520, r331_521, hw, hm, ht, eq_self, if_true, if_false, hz2, lg_self]
    refine (congrArg (e_add a b) (G_less ?_ hr)).trans rfl
    exact by repeat (first | exact e_ll.rf | refine e_ll_c ?_ | refine e_ll_x ?_)
  · have hne : ¬(iI k = iI 0) := fun h => hq ((iI_eq (by omega) (by omega)).mp h)
    simp (disch := first | assumption | exact e_nk_i _ | exact e_nk_n | exact e_nk_r _ | exact e_bo_0 | exact e_bo_1 | exact e_bo_b _ | omega) only [Nat.reduceAdd, e_cl_v, e_cl_x, e_add_0, e_add_s, Option.toList_some, Option.toList_none, List.cons_append, List.nil_append, r331_468, r331_469, r331_475, r331_476, r331_479, r331_481, r331_482, r331_488, r331_491, r331_493, r331_494, r331_497, r331_499, r331_502, r331_503, r331_504, r331_506, r331_509, r331_510, r331_511, r331_512, r331_514, r331_515, r331_516, r331_519, r331_520, r331_521, hw, hm, ht, eq_self, if_true, if_false, hne]
    refine (congrArg (e_add a b) (G_less ?_ hr)).trans rfl
    exact by repeat (first | exact e_ll.rf | refine e_ll_c ?_ | refine e_ll_x ?_)
theorem lc3 (h0 : 0 ≤ i) (h1 : i + 5 < (L : Int)) (hL : L ≤ 3072) (hw : e_lim L xs (d + 1) 292 0 [some (.ref 0), some (.int (xs (i + 1).toNat)), some (.int (xs (i + 2).toNat)), some (.ref 202), none] [] (e_hp M V W) = some (.inl (some (.int (iI k))), e_hp M2 V2 W2, a, b)) (hm : e_lim L xs (d + 1) 196 0 [some (.ref 184), some (.int (xs (i + 1).toNat)), some (.int (xs (i + 2).toNat)), none] [] (e_hp M2 V2 W2) = some (.inl (some (.int z)), e_hp M3 V2 W2, 0, 0)) (hk : M3 184 0 = iI k) (hk2 : 0 ≤ k ∧ k ≤ 9) (hz : k = 0 → V2 202 0 = z.toInt64) (hr : e_lim L xs (d + 2) 331 3141 [some (.ref e_SCR), some (.ref 0), some (.ref 184), some (.ref 202), some (.ref 203), some (.int (iI i)), none, none, none] [] (e_hp M3 V2 W2) = some (x, h3, a3, b3)) : e_lim L xs (d + 2) 331 524 [some (.ref e_SCR), some (.ref 0), some (.ref 184), some (.ref 202), some (.ref 203), some (.int (iI i)), none, none, none] [] (e_hp M V W) = some (x, h3, a + a3, b + b3) := by
  have ht := m_thrown (L := L) (xs := xs) (d := d + 1) (M := M3) (V := V2) (W := W2)
  rw [hk] at ht
  by_cases hq : k = 0
  · have hz2 := hz hq
    subst hq
    simp (disch := first | assumption | exact e_nk_i _ | exact e_nk_n | exact e_nk_r _ | exact e_bo_0 | exact e_bo_1 | exact e_bo_b _ | omega) only [Nat.reduceAdd, e_cl_v, e_cl_x, e_add_0, e_add_s, Option.toList_some, Option.toList_none, List.cons_append, List.nil_append, r331_524, r331_525, r331_531, r331_537, r331_538, r331_541, r331_543, r331_544, r331_550, r331_556, r331_559, r331_561, r331_562, r331_565, r331_567, r331_570, r331_571, r331_572, r331_574, r331_577, r331_578, r331_579, r331_580, r331_582, r331_583, r331_584, r331_587, r331_588, r331_589, hw, hm, ht, eq_self, if_true, if_false, hz2, lg_self]
    refine (congrArg (e_add a b) (G_less ?_ hr)).trans rfl
    exact by repeat (first | exact e_ll.rf | refine e_ll_c ?_ | refine e_ll_x ?_)
  · have hne : ¬(iI k = iI 0) := fun h => hq ((iI_eq (by omega) (by omega)).mp h)
    simp (disch := first | assumption | exact e_nk_i _ | exact e_nk_n | exact e_nk_r _ | exact e_bo_0 | exact e_bo_1 | exact e_bo_b _ | omega) only [Nat.reduceAdd, e_cl_v, e_cl_x, e_add_0, e_add_s, Option.toList_some, Option.toList_none, List.cons_append, List.nil_append, r331_524, r331_525, r331_531, r331_537, r331_538, r331_541, r331_543, r331_544, r331_550, r331_556, r331_559, r331_561, r331_562, r331_565, r331_567, r331_570, r331_571, r331_572, r331_574, r331_577, r331_578, r331_579, r331_580, r331_582, r331_583, r331_584, r331_587, r331_588, r331_589, hw, hm, ht, eq_self, if_true, if_false, hne]
    refine (congrArg (e_add a b) (G_less ?_ hr)).trans rfl
    exact by repeat (first | exact e_ll.rf | refine e_ll_c ?_ | refine e_ll_x ?_)
theorem lc4 (h0 : 0 ≤ i) (h1 : i + 5 < (L : Int)) (hL : L ≤ 3072) (hw : e_lim L xs (d + 1) 293 0 [some (.ref 0), some (.int (xs (i + 1).toNat)), some (.int (xs (i + 2).toNat)), some (.ref 202), none] [] (e_hp M V W) = some (.inl (some (.int (iI k))), e_hp M2 V2 W2, a, b)) (hm : e_lim L xs (d + 1) 197 0 [some (.ref 184), some (.int (xs (i + 1).toNat)), some (.int (xs (i + 2).toNat)), none, none] [] (e_hp M2 V2 W2) = some (.inl (some (.int z)), e_hp M3 V2 W2, 0, 0)) (hk : M3 184 0 = iI k) (hk2 : 0 ≤ k ∧ k ≤ 9) (hz : k = 0 → V2 202 0 = z.toInt64) (hr : e_lim L xs (d + 2) 331 3141 [some (.ref e_SCR), some (.ref 0), some (.ref 184), some (.ref 202), some (.ref 203), some (.int (iI i)), none, none, none] [] (e_hp M3 V2 W2) = some (x, h3, a3, b3)) : e_lim L xs (d + 2) 331 592 [some (.ref e_SCR), some (.ref 0), some (.ref 184), some (.ref 202), some (.ref 203), some (.int (iI i)), none, none, none] [] (e_hp M V W) = some (x, h3, a + a3, b + b3) := by
  have ht := m_thrown (L := L) (xs := xs) (d := d + 1) (M := M3) (V := V2) (W := W2)
  rw [hk] at ht
  by_cases hq : k = 0
  · have hz2 := hz hq
    subst hq
    simp (disch := first | assumption | exact e_nk_i _ | exact e_nk_n | exact e_nk_r _ | exact e_bo_0 | exact e_bo_1 | exact e_bo_b _ | omega) only [Nat.reduceAdd, e_cl_v, e_cl_x, e_add_0, e_add_s, Option.toList_some, Option.toList_none, List.cons_append, List.nil_append, r331_592, r331_593, r331_599, r331_605, r331_606, r331_609, r331_611, r331_612, r331_618, r331_624, r331_627, r331_629, r331_630, r331_633, r331_635, r331_638, r331_639, r331_640, r331_642, r331_645, r331_646, r331_647, r331_648, r331_650, r331_651, r331_652, r331_655, r331_656, r331_657, hw, hm, ht, eq_self, if_true, if_false, hz2, lg_self]
    refine (congrArg (e_add a b) (G_less ?_ hr)).trans rfl
    exact by repeat (first | exact e_ll.rf | refine e_ll_c ?_ | refine e_ll_x ?_)
  · have hne : ¬(iI k = iI 0) := fun h => hq ((iI_eq (by omega) (by omega)).mp h)
    simp (disch := first | assumption | exact e_nk_i _ | exact e_nk_n | exact e_nk_r _ | exact e_bo_0 | exact e_bo_1 | exact e_bo_b _ | omega) only [Nat.reduceAdd, e_cl_v, e_cl_x, e_add_0, e_add_s, Option.toList_some, Option.toList_none, List.cons_append, List.nil_append, r331_592, r331_593, r331_599, r331_605, r331_606, r331_609, r331_611, r331_612, r331_618, r331_624, r331_627, r331_629, r331_630, r331_633, r331_635, r331_638, r331_639, r331_640, r331_642, r331_645, r331_646, r331_647, r331_648, r331_650, r331_651, r331_652, r331_655, r331_656, r331_657, hw, hm, ht, eq_self, if_true, if_false, hne]
    refine (congrArg (e_add a b) (G_less ?_ hr)).trans rfl
    exact by repeat (first | exact e_ll.rf | refine e_ll_c ?_ | refine e_ll_x ?_)
theorem lc5 (h0 : 0 ≤ i) (h1 : i + 5 < (L : Int)) (hL : L ≤ 3072) (hw : e_lim L xs (d + 1) 294 0 [some (.ref 0), some (.int (xs (i + 1).toNat)), some (.int (xs (i + 2).toNat)), some (.ref 202), none] [] (e_hp M V W) = some (.inl (some (.int (iI k))), e_hp M2 V2 W2, a, b)) (hm : e_lim L xs (d + 1) 198 0 [some (.ref 184), some (.int (xs (i + 1).toNat)), some (.int (xs (i + 2).toNat))] [] (e_hp M2 V2 W2) = some (.inl (some (.int z)), e_hp M3 V2 W2, 0, 0)) (hk : M3 184 0 = iI k) (hk2 : 0 ≤ k ∧ k ≤ 9) (hz : k = 0 → V2 202 0 = z.toInt64) (hr : e_lim L xs (d + 2) 331 3141 [some (.ref e_SCR), some (.ref 0), some (.ref 184), some (.ref 202), some (.ref 203), some (.int (iI i)), none, none, none] [] (e_hp M3 V2 W2) = some (x, h3, a3, b3)) : e_lim L xs (d + 2) 331 660 [some (.ref e_SCR), some (.ref 0), some (.ref 184), some (.ref 202), some (.ref 203), some (.int (iI i)), none, none, none] [] (e_hp M V W) = some (x, h3, a + a3, b + b3) := by
  have ht := m_thrown (L := L) (xs := xs) (d := d + 1) (M := M3) (V := V2) (W := W2)
  rw [hk] at ht
  by_cases hq : k = 0
  · have hz2 := hz hq
    subst hq
    simp (disch := first | assumption | exact e_nk_i _ | exact e_nk_n | exact e_nk_r _ | exact e_bo_0 | exact e_bo_1 | exact e_bo_b _ | omega) only [Nat.reduceAdd, e_cl_v, e_cl_x, e_add_0, e_add_s, Option.toList_some, Option.toList_none, List.cons_append, List.nil_append, r331_660, r331_661, r331_667, r331_673, r331_674, r331_677, r331_679, r331_680, r331_686, r331_692, r331_695, r331_697, r331_698, r331_701, r331_703, r331_706, r331_707, r331_708, r331_710, r331_713, r331_714, r331_715, r331_716, r331_718, r331_719, r331_720, r331_723, r331_724, r331_725, hw, hm, ht, eq_self, if_true, if_false, hz2, lg_self]
    refine (congrArg (e_add a b) (G_less ?_ hr)).trans rfl
    exact by repeat (first | exact e_ll.rf | refine e_ll_c ?_ | refine e_ll_x ?_)
  · have hne : ¬(iI k = iI 0) := fun h => hq ((iI_eq (by omega) (by omega)).mp h)
    simp (disch := first | assumption | exact e_nk_i _ | exact e_nk_n | exact e_nk_r _ | exact e_bo_0 | exact e_bo_1 | exact e_bo_b _ | omega) only [Nat.reduceAdd, e_cl_v, e_cl_x, e_add_0, e_add_s, Option.toList_some, Option.toList_none, List.cons_append, List.nil_append, r331_660, r331_661, r331_667, r331_673, r331_674, r331_677, r331_679, r331_680, r331_686, r331_692, r331_695, r331_697, r331_698, r331_701, r331_703, r331_706, r331_707, r331_708, r331_710, r331_713, r331_714, r331_715, r331_716, r331_718, r331_719, r331_720, r331_723, r331_724, r331_725, hw, hm, ht, eq_self, if_true, if_false, hne]
    refine (congrArg (e_add a b) (G_less ?_ hr)).trans rfl
    exact by repeat (first | exact e_ll.rf | refine e_ll_c ?_ | refine e_ll_x ?_)
theorem lc6 (h0 : 0 ≤ i) (h1 : i + 5 < (L : Int)) (hL : L ≤ 3072) (hw : e_lim L xs (d + 1) 295 0 [some (.ref 0), some (.int (xs (i + 1).toNat)), some (.int (xs (i + 2).toNat)), some (.int (xs (i + 3).toNat)), some (.ref 202), none] [] (e_hp M V W) = some (.inl (some (.int (iI k))), e_hp M2 V2 W2, a, b)) (hm : e_lim L xs (d + 1) 200 0 [some (.ref 184), some (.int (xs (i + 1).toNat)), some (.int (xs (i + 2).toNat)), some (.int (xs (i + 3).toNat))] [] (e_hp M2 V2 W2) = some (.inl (some (.int z)), e_hp M3 V2 W2, 0, 0)) (hk : M3 184 0 = iI k) (hk2 : 0 ≤ k ∧ k ≤ 9) (hz : k = 0 → V2 202 0 = z.toInt64) (hr : e_lim L xs (d + 2) 331 3141 [some (.ref e_SCR), some (.ref 0), some (.ref 184), some (.ref 202), some (.ref 203), some (.int (iI i)), none, none, none] [] (e_hp M3 V2 W2) = some (x, h3, a3, b3)) : e_lim L xs (d + 2) 331 728 [some (.ref e_SCR), some (.ref 0), some (.ref 184), some (.ref 202), some (.ref 203), some (.int (iI i)), none, none, none] [] (e_hp M V W) = some (x, h3, a + a3, b + b3) := by
  have ht := m_thrown (L := L) (xs := xs) (d := d + 1) (M := M3) (V := V2) (W := W2)
  rw [hk] at ht
  by_cases hq : k = 0
  · have hz2 := hz hq
    subst hq
    simp (disch := first | assumption | exact e_nk_i _ | exact e_nk_n | exact e_nk_r _ | exact e_bo_0 | exact e_bo_1 | exact e_bo_b _ | omega) only [Nat.reduceAdd, e_cl_v, e_cl_x, e_add_0, e_add_s, Option.toList_some, Option.toList_none, List.cons_append, List.nil_append, r331_728, r331_729, r331_735, r331_741, r331_747, r331_748, r331_751, r331_753, r331_754, r331_760, r331_766, r331_772, r331_775, r331_777, r331_778, r331_781, r331_783, r331_786, r331_787, r331_788, r331_790, r331_793, r331_794, r331_795, r331_796, r331_798, r331_799, r331_800, r331_803, r331_804, r331_805, hw, hm, ht, eq_self, if_true, if_false, hz2, lg_self]
    refine (congrArg (e_add a b) (G_less ?_ hr)).trans rfl
    exact by repeat (first | exact e_ll.rf | refine e_ll_c ?_ | refine e_ll_x ?_)
  · have hne : ¬(iI k = iI 0) := fun h => hq ((iI_eq (by omega) (by omega)).mp h)
    simp (disch := first | assumption | exact e_nk_i _ | exact e_nk_n | exact e_nk_r _ | exact e_bo_0 | exact e_bo_1 | exact e_bo_b _ | omega) only [Nat.reduceAdd, e_cl_v, e_cl_x, e_add_0, e_add_s, Option.toList_some, Option.toList_none, List.cons_append, List.nil_append, r331_728, r331_729, r331_735, r331_741, r331_747, r331_748, r331_751, r331_753, r331_754, r331_760, r331_766, r331_772, r331_775, r331_777, r331_778, r331_781, r331_783, r331_786, r331_787, r331_788, r331_790, r331_793, r331_794, r331_795, r331_796, r331_798, r331_799, r331_800, r331_803, r331_804, r331_805, hw, hm, ht, eq_self, if_true, if_false, hne]
    refine (congrArg (e_add a b) (G_less ?_ hr)).trans rfl
    exact by repeat (first | exact e_ll.rf | refine e_ll_c ?_ | refine e_ll_x ?_)
theorem lc7 (hw : e_lim L xs (d + 1) 114 0 [some (.ref 0)] [] (e_hp M V W) = some (.inl (some (.int z)), e_hp M2 V2 W2, 0, 0)) (hm : e_lim L xs (d + 1) 201 0 [some (.ref 184)] [] (e_hp M2 V2 W2) = some (.inl (some (.int z)), e_hp M3 V2 W2, 0, 0)) (hr : e_lim L xs (d + 2) 331 3141 [some (.ref e_SCR), some (.ref 0), some (.ref 184), some (.ref 202), some (.ref 203), some (.int (iI i)), none, none, none] [] (e_hp M3 V2 W2) = some (x, h3, a3, b3)) : e_lim L xs (d + 2) 331 808 [some (.ref e_SCR), some (.ref 0), some (.ref 184), some (.ref 202), some (.ref 203), some (.int (iI i)), none, none, none] [] (e_hp M V W) = some (x, h3, a3, b3) := by
  simp (disch := first | assumption | exact e_nk_i _ | exact e_nk_n | exact e_nk_r _ | exact e_bo_0 | exact e_bo_1 | exact e_bo_b _ | omega) only [Nat.reduceAdd, e_cl_v, e_cl_x, e_add_0, e_add_s, Option.toList_some, Option.toList_none, List.cons_append, List.nil_append, r331_808, r331_809, r331_812, r331_813, r331_816, r331_819, r331_820, hw, hm, eq_self, if_true]
  exact hr
theorem lc8 (hw : e_lim L xs (d + 1) 115 0 [some (.ref 0)] [] (e_hp M V W) = some (.inl (some (.int z)), e_hp M2 V2 W2, 0, 0)) (hm : e_lim L xs (d + 1) 202 0 [some (.ref 184)] [] (e_hp M2 V2 W2) = some (.inl (some (.int z)), e_hp M3 V2 W2, 0, 0)) (hr : e_lim L xs (d + 2) 331 3141 [some (.ref e_SCR), some (.ref 0), some (.ref 184), some (.ref 202), some (.ref 203), some (.int (iI i)), none, none, none] [] (e_hp M3 V2 W2) = some (x, h3, a3, b3)) : e_lim L xs (d + 2) 331 821 [some (.ref e_SCR), some (.ref 0), some (.ref 184), some (.ref 202), some (.ref 203), some (.int (iI i)), none, none, none] [] (e_hp M V W) = some (x, h3, a3, b3) := by
  simp (disch := first | assumption | exact e_nk_i _ | exact e_nk_n | exact e_nk_r _ | exact e_bo_0 | exact e_bo_1 | exact e_bo_b _ | omega) only [Nat.reduceAdd, e_cl_v, e_cl_x, e_add_0, e_add_s, Option.toList_some, Option.toList_none, List.cons_append, List.nil_append, r331_821, r331_822, r331_825, r331_826, r331_829, r331_832, r331_833, hw, hm, eq_self, if_true]
  exact hr
theorem lc9 (h0 : 0 ≤ i) (h1 : i + 5 < (L : Int)) (hL : L ≤ 3072) (hw : e_lim L xs (d + 1) 296 0 [some (.ref 0), some (.int (xs (i + 1).toNat)), some (.int (xs (i + 2).toNat)), some (.int (xs (i + 3).toNat)), some (.int (xs (i + 4).toNat)), some (.ref 202), none] [] (e_hp M V W) = some (.inl (some (.int (iI k))), e_hp M2 V2 W2, a, b)) (hm : e_lim L xs (d + 1) 205 0 [some (.ref 184), some (.int (xs (i + 1).toNat)), some (.int (xs (i + 2).toNat)), some (.int (xs (i + 3).toNat)), some (.int (xs (i + 4).toNat)), none] [] (e_hp M2 V2 W2) = some (.inl (some (.int z)), e_hp M3 V2 W2, 0, 0)) (hk : M3 184 0 = iI k) (hk2 : 0 ≤ k ∧ k ≤ 9) (hz : k = 0 → V2 202 0 = z.toInt64) (hr : e_lim L xs (d + 2) 331 3141 [some (.ref e_SCR), some (.ref 0), some (.ref 184), some (.ref 202), some (.ref 203), some (.int (iI i)), none, none, none] [] (e_hp M3 V2 W2) = some (x, h3, a3, b3)) : e_lim L xs (d + 2) 331 834 [some (.ref e_SCR), some (.ref 0), some (.ref 184), some (.ref 202), some (.ref 203), some (.int (iI i)), none, none, none] [] (e_hp M V W) = some (x, h3, a + a3, b + b3) := by
  have ht := m_thrown (L := L) (xs := xs) (d := d + 1) (M := M3) (V := V2) (W := W2)
  rw [hk] at ht
  by_cases hq : k = 0
  · have hz2 := hz hq
    subst hq
    simp (disch := first | assumption | exact e_nk_i _ | exact e_nk_n | exact e_nk_r _ | exact e_bo_0 | exact e_bo_1 | exact e_bo_b _ | omega) only [Nat.reduceAdd, e_cl_v, e_cl_x, e_add_0, e_add_s, Option.toList_some, Option.toList_none, List.cons_append, List.nil_append, r331_834, r331_835, r331_841, r331_847, r331_853, r331_859, r331_860, r331_863, r331_865, r331_866, r331_872, r331_878, r331_884, r331_890, r331_893, r331_895, r331_896, r331_899, r331_901, r331_904, r331_905, r331_906, r331_908, r331_911, r331_912, r331_913, r331_914, r331_916, r331_917, r331_918, r331_921, r331_922, r331_923, hw, hm, ht, eq_self, if_true, if_false, hz2, lg_self]
    refine (congrArg (e_add a b) (G_less ?_ hr)).trans rfl
    exact by repeat (first | exact e_ll.rf | refine e_ll_c ?_ | refine e_ll_x ?_)
  · have hne : ¬(iI k = iI 0) := fun h => hq ((iI_eq (by omega) (by omega)).mp h)
    simp (disch := first | assumption | exact e_nk_i _ | exact e_nk_n | exact e_nk_r _ | exact e_bo_0 | exact e_bo_1 | exact e_bo_b _ | omega) only [Nat.reduceAdd, e_cl_v, e_cl_x, e_add_0, e_add_s, Option.toList_some, Option.toList_none, List.cons_append, List.nil_append, r331_834, r331_835, r331_841, r331_847, r331_853, r331_859, r331_860, r331_863, r331_865, r331_866, r331_872, r331_878, r331_884, r331_890, r331_893, r331_895, r331_896, r331_899, r331_901, r331_904, r331_905, r331_906, r331_908, r331_911, r331_912, r331_913, r331_914, r331_916, r331_917, r331_918, r331_921, r331_922, r331_923, hw, hm, ht, eq_self, if_true, if_false, hne]
    refine (congrArg (e_add a b) (G_less ?_ hr)).trans rfl
    exact by repeat (first | exact e_ll.rf | refine e_ll_c ?_ | refine e_ll_x ?_)
theorem lc10 (h0 : 0 ≤ i) (h1 : i + 5 < (L : Int)) (hL : L ≤ 3072) (hw : e_lim L xs (d + 1) 297 0 [some (.ref 0), some (.int (xs (i + 1).toNat)), some (.int (xs (i + 2).toNat)), some (.int (xs (i + 3).toNat)), some (.ref 202), none] [] (e_hp M V W) = some (.inl (some (.int (iI k))), e_hp M2 V2 W2, a, b)) (hm : e_lim L xs (d + 1) 207 0 [some (.ref 184), some (.int (xs (i + 1).toNat)), some (.int (xs (i + 2).toNat)), some (.int (xs (i + 3).toNat)), none, none] [] (e_hp M2 V2 W2) = some (.inl (some (.int z)), e_hp M3 V2 W2, 0, 0)) (hk : M3 184 0 = iI k) (hk2 : 0 ≤ k ∧ k ≤ 9) (hz : k = 0 → V2 202 0 = z.toInt64) (hr : e_lim L xs (d + 2) 331 3141 [some (.ref e_SCR), some (.ref 0), some (.ref 184), some (.ref 202), some (.ref 203), some (.int (iI i)), none, none, none] [] (e_hp M3 V2 W2) = some (x, h3, a3, b3)) : e_lim L xs (d + 2) 331 926 [some (.ref e_SCR), some (.ref 0), some (.ref 184), some (.ref 202), some (.ref 203), some (.int (iI i)), none, none, none] [] (e_hp M V W) = some (x, h3, a + a3, b + b3) := by
  have ht := m_thrown (L := L) (xs := xs) (d := d + 1) (M := M3) (V := V2) (W := W2)
  rw [hk] at ht
  by_cases hq : k = 0
  · have hz2 := hz hq
    subst hq
    simp (disch := first | assumption | exact e_nk_i _ | exact e_nk_n | exact e_nk_r _ | exact e_bo_0 | exact e_bo_1 | exact e_bo_b _ | omega) only [Nat.reduceAdd, e_cl_v, e_cl_x, e_add_0, e_add_s, Option.toList_some, Option.toList_none, List.cons_append, List.nil_append, r331_926, r331_927, r331_933, r331_939, r331_945, r331_946, r331_949, r331_951, r331_952, r331_958, r331_964, r331_970, r331_973, r331_975, r331_976, r331_979, r331_981, r331_984, r331_985, r331_986, r331_988, r331_991, r331_992, r331_993, r331_994, r331_996, r331_997, r331_998, r331_1001, r331_1002, r331_1003, hw, hm, ht, eq_self, if_true, if_false, hz2, lg_self]
    refine (congrArg (e_add a b) (G_less ?_ hr)).trans rfl
    exact by repeat (first | exact e_ll.rf | refine e_ll_c ?_ | refine e_ll_x ?_)
  · have hne : ¬(iI k = iI 0) := fun h => hq ((iI_eq (by omega) (by omega)).mp h)
    simp (disch := first | assumption | exact e_nk_i _ | exact e_nk_n | exact e_nk_r _ | exact e_bo_0 | exact e_bo_1 | exact e_bo_b _ | omega) only [Nat.reduceAdd, e_cl_v, e_cl_x, e_add_0, e_add_s, Option.toList_some, Option.toList_none, List.cons_append, List.nil_append, r331_926, r331_927, r331_933, r331_939, r331_945, r331_946, r331_949, r331_951, r331_952, r331_958, r331_964, r331_970, r331_973, r331_975, r331_976, r331_979, r331_981, r331_984, r331_985, r331_986, r331_988, r331_991, r331_992, r331_993, r331_994, r331_996, r331_997, r331_998, r331_1001, r331_1002, r331_1003, hw, hm, ht, eq_self, if_true, if_false, hne]
    refine (congrArg (e_add a b) (G_less ?_ hr)).trans rfl
    exact by repeat (first | exact e_ll.rf | refine e_ll_c ?_ | refine e_ll_x ?_)
theorem lc11 (hw : e_lim L xs (d + 1) 118 0 [some (.ref 0), none] [] (e_hp M V W) = some (.inl (some (.int z)), e_hp M2 V2 W2, 0, 0)) (hm : e_lim L xs (d + 1) 208 0 [some (.ref 184), none] [] (e_hp M2 V2 W2) = some (.inl (some (.int z)), e_hp M3 V2 W2, 0, 0)) (hr : e_lim L xs (d + 2) 331 3141 [some (.ref e_SCR), some (.ref 0), some (.ref 184), some (.ref 202), some (.ref 203), some (.int (iI i)), none, none, none] [] (e_hp M3 V2 W2) = some (x, h3, a3, b3)) : e_lim L xs (d + 2) 331 1006 [some (.ref e_SCR), some (.ref 0), some (.ref 184), some (.ref 202), some (.ref 203), some (.int (iI i)), none, none, none] [] (e_hp M V W) = some (x, h3, a3, b3) := by
  simp (disch := first | assumption | exact e_nk_i _ | exact e_nk_n | exact e_nk_r _ | exact e_bo_0 | exact e_bo_1 | exact e_bo_b _ | omega) only [Nat.reduceAdd, e_cl_v, e_cl_x, e_add_0, e_add_s, Option.toList_some, Option.toList_none, List.cons_append, List.nil_append, r331_1006, r331_1007, r331_1010, r331_1011, r331_1014, r331_1017, r331_1018, hw, hm, eq_self, if_true]
  exact hr
theorem lc12 (h0 : 0 ≤ i) (h1 : i + 5 < (L : Int)) (hL : L ≤ 3072) (hw : e_lim L xs (d + 1) 298 0 [some (.ref 0), some (.int (xs (i + 1).toNat)), some (.int (xs (i + 2).toNat)), some (.ref 202), none] [] (e_hp M V W) = some (.inl (some (.int (iI k))), e_hp M2 V2 W2, a, b)) (hm : e_lim L xs (d + 1) 209 0 [some (.ref 184), some (.int (xs (i + 1).toNat)), some (.int (xs (i + 2).toNat)), none] [] (e_hp M2 V2 W2) = some (.inl (some (.int z)), e_hp M3 V2 W2, 0, 0)) (hk : M3 184 0 = iI k) (hk2 : 0 ≤ k ∧ k ≤ 9) (hz : k = 0 → V2 202 0 = z.toInt64) (hr : e_lim L xs (d + 2) 331 3141 [some (.ref e_SCR), some (.ref 0), some (.ref 184), some (.ref 202), some (.ref 203), some (.int (iI i)), none, none, none] [] (e_hp M3 V2 W2) = some (x, h3, a3, b3)) : e_lim L xs (d + 2) 331 1019 [some (.ref e_SCR), some (.ref 0), some (.ref 184), some (.ref 202), some (.ref 203), some (.int (iI i)), none, none, none] [] (e_hp M V W) = some (x, h3, a + a3, b + b3) := by
  have ht := m_thrown (L := L) (xs := xs) (d := d + 1) (M := M3) (V := V2) (W := W2)
  rw [hk] at ht
  by_cases hq : k = 0
  · have hz2 := hz hq
    subst hq
    simp (disch := first | assumption | exact e_nk_i _ | exact e_nk_n | exact e_nk_r _ | exact e_bo_0 | exact e_bo_1 | exact e_bo_b _ | omega) only [Nat.reduceAdd, e_cl_v, e_cl_x, e_add_0, e_add_s, Option.toList_some, Option.toList_none, List.cons_append, List.nil_append, r331_1019, r331_1020, r331_1026, r331_1032, r331_1033, r331_1036, r331_1038, r331_1039, r331_1045, r331_1051, r331_1054, r331_1056, r331_1057, r331_1060, r331_1062, r331_1065, r331_1066, r331_1067, r331_1069, r331_1072, r331_1073, r331_1074, r331_1075, r331_1077, r331_1078, r331_1079, r331_1082, r331_1083, r331_1084, hw, hm, ht, eq_self, if_true, if_false, hz2, lg_self]
    refine (congrArg (e_add a b) (G_less ?_ hr)).trans rfl
    exact by repeat (first | exact e_ll.rf | refine e_ll_c ?_ | refine e_ll_x ?_)
  · have hne : ¬(iI k = iI 0) := fun h => hq ((iI_eq (by omega) (by omega)).mp h)
    simp (disch := first | assumption | exact e_nk_i _ | exact e_nk_n | exact e_nk_r _ | exact e_bo_0 | exact e_bo_1 | exact e_bo_b _ | omega) only [Nat.reduceAdd, e_cl_v, e_cl_x, e_add_0, e_add_s, Option.toList_some, Option.toList_none, List.cons_append, List.nil_append, r331_1019, r331_1020, r331_1026, r331_1032, r331_1033, r331_1036, r331_1038, r331_1039, r331_1045, r331_1051, r331_1054, r331_1056, r331_1057, r331_1060, r331_1062, r331_1065, r331_1066, r331_1067, r331_1069, r331_1072, r331_1073, r331_1074, r331_1075, r331_1077, r331_1078, r331_1079, r331_1082, r331_1083, r331_1084, hw, hm, ht, eq_self, if_true, if_false, hne]
    refine (congrArg (e_add a b) (G_less ?_ hr)).trans rfl
    exact by repeat (first | exact e_ll.rf | refine e_ll_c ?_ | refine e_ll_x ?_)
theorem lc13 (h0 : 0 ≤ i) (h1 : i + 5 < (L : Int)) (hL : L ≤ 3072) (hw : e_lim L xs (d + 1) 299 0 [some (.ref 0), some (.int (xs (i + 1).toNat)), some (.int (xs (i + 2).toNat)), some (.ref 202), none] [] (e_hp M V W) = some (.inl (some (.int (iI k))), e_hp M2 V2 W2, a, b)) (hm : e_lim L xs (d + 1) 210 0 [some (.ref 184), some (.int (xs (i + 1).toNat)), some (.int (xs (i + 2).toNat))] [] (e_hp M2 V2 W2) = some (.inl (some (.int z)), e_hp M3 V2 W2, 0, 0)) (hk : M3 184 0 = iI k) (hk2 : 0 ≤ k ∧ k ≤ 9) (hz : k = 0 → z = bI bb ∧ V2 202 0 = if bb = true then 1 else 0) (hr : e_lim L xs (d + 2) 331 3141 [some (.ref e_SCR), some (.ref 0), some (.ref 184), some (.ref 202), some (.ref 203), some (.int (iI i)), none, none, none] [] (e_hp M3 V2 W2) = some (x, h3, a3, b3)) : e_lim L xs (d + 2) 331 1087 [some (.ref e_SCR), some (.ref 0), some (.ref 184), some (.ref 202), some (.ref 203), some (.int (iI i)), none, none, none] [] (e_hp M V W) = some (x, h3, a + a3, b + b3) := by
  have ht := m_thrown (L := L) (xs := xs) (d := d + 1) (M := M3) (V := V2) (W := W2)
  rw [hk] at ht
  by_cases hq : k = 0
  · have hz2 := hz hq
    subst hq
    obtain ⟨hz3, hz4⟩ := hz2
    rw [hz3] at hm
    cases bb with
    | true =>
      rw [if_pos rfl] at hz4
      simp (disch := first | assumption | exact e_nk_i _ | exact e_nk_n | exact e_nk_r _ | exact e_bo_0 | exact e_bo_1 | exact e_bo_b _ | omega) only [Nat.reduceAdd, e_cl_v, e_cl_x, e_add_0, e_add_s, Option.toList_some, Option.toList_none, List.cons_append, List.nil_append, r331_1087, r331_1088, r331_1094, r331_1100, r331_1101, r331_1104, r331_1106, r331_1107, r331_1113, r331_1119, r331_1122, r331_1124, r331_1125, r331_1128, r331_1130, r331_1133, r331_1134, r331_1135, r331_1137, r331_1140, r331_1141, r331_1142, r331_1143, r331_1145, r331_1148, r331_1149, r331_1152, r331_1153, r331_1154, r331_1157, r331_1158, r331_1159, hw, hm, ht, eq_self, if_true, if_false, hz4, lg_self, bI_t0, bI_f0]
      refine (congrArg (e_add a b) (G_less ?_ hr)).trans rfl
      exact by repeat (first | exact e_ll.rf | refine e_ll_c ?_ | refine e_ll_x ?_)
    | false =>
      rw [if_neg (by decide)] at hz4
      simp (disch := first | assumption | exact e_nk_i _ | exact e_nk_n | exact e_nk_r _ | exact e_bo_0 | exact e_bo_1 | exact e_bo_b _ | omega) only [Nat.reduceAdd, e_cl_v, e_cl_x, e_add_0, e_add_s, Option.toList_some, Option.toList_none, List.cons_append, List.nil_append, r331_1087, r331_1088, r331_1094, r331_1100, r331_1101, r331_1104, r331_1106, r331_1107, r331_1113, r331_1119, r331_1122, r331_1124, r331_1125, r331_1128, r331_1130, r331_1133, r331_1134, r331_1135, r331_1137, r331_1140, r331_1141, r331_1142, r331_1143, r331_1145, r331_1148, r331_1149, r331_1152, r331_1153, r331_1154, r331_1157, r331_1158, r331_1159, hw, hm, ht, eq_self, if_true, if_false, hz4, lg_self, bI_t0, bI_f0]
      refine (congrArg (e_add a b) (G_less ?_ hr)).trans rfl
      exact by repeat (first | exact e_ll.rf | refine e_ll_c ?_ | refine e_ll_x ?_)
  · have hne : ¬(iI k = iI 0) := fun h => hq ((iI_eq (by omega) (by omega)).mp h)
    simp (disch := first | assumption | exact e_nk_i _ | exact e_nk_n | exact e_nk_r _ | exact e_bo_0 | exact e_bo_1 | exact e_bo_b _ | omega) only [Nat.reduceAdd, e_cl_v, e_cl_x, e_add_0, e_add_s, Option.toList_some, Option.toList_none, List.cons_append, List.nil_append, r331_1087, r331_1088, r331_1094, r331_1100, r331_1101, r331_1104, r331_1106, r331_1107, r331_1113, r331_1119, r331_1122, r331_1124, r331_1125, r331_1128, r331_1130, r331_1133, r331_1134, r331_1135, r331_1137, r331_1140, r331_1141, r331_1142, r331_1143, r331_1145, r331_1148, r331_1149, r331_1152, r331_1153, r331_1154, r331_1157, r331_1158, r331_1159, hw, hm, ht, eq_self, if_true, if_false, hne]
    refine (congrArg (e_add a b) (G_less ?_ hr)).trans rfl
    exact by repeat (first | exact e_ll.rf | refine e_ll_c ?_ | refine e_ll_x ?_)
theorem lc14 (h0 : 0 ≤ i) (h1 : i + 5 < (L : Int)) (hL : L ≤ 3072) (hw : e_lim L xs (d + 1) 300 0 [some (.ref 0), some (.int (xs (i + 1).toNat)), some (.ref 202), none] [] (e_hp M V W) = some (.inl (some (.int (iI k))), e_hp M2 V2 W2, a, b)) (hm : e_lim L xs (d + 1) 227 0 [some (.ref 184), some (.int (xs (i + 1).toNat)), none, none, none, none, none, none, none, none, none, none] [] (e_hp M2 V2 W2) = some (.inl (some (.int z)), e_hp M3 V2 W2, 0, 0)) (hk : M3 184 0 = iI k) (hk2 : 0 ≤ k ∧ k ≤ 9) (hz : k = 0 → z = bI bb ∧ V2 202 0 = if bb = true then 1 else 0) (hr : e_lim L xs (d + 2) 331 3141 [some (.ref e_SCR), some (.ref 0), some (.ref 184), some (.ref 202), some (.ref 203), some (.int (iI i)), none, none, none] [] (e_hp M3 V2 W2) = some (x, h3, a3, b3)) : e_lim L xs (d + 2) 331 1162 [some (.ref e_SCR), some (.ref 0), some (.ref 184), some (.ref 202), some (.ref 203), some (.int (iI i)), none, none, none] [] (e_hp M V W) = some (x, h3, a + a3, b + b3) := by
  have ht := m_thrown (L := L) (xs := xs) (d := d + 1) (M := M3) (V := V2) (W := W2)
  rw [hk] at ht
  by_cases hq : k = 0
  · have hz2 := hz hq
    subst hq
    obtain ⟨hz3, hz4⟩ := hz2
    rw [hz3] at hm
    cases bb with
    | true =>
      rw [if_pos rfl] at hz4
      simp (disch := first | assumption | exact e_nk_i _ | exact e_nk_n | exact e_nk_r _ | exact e_bo_0 | exact e_bo_1 | exact e_bo_b _ | omega) only [Nat.reduceAdd, e_cl_v, e_cl_x, e_add_0, e_add_s, Option.toList_some, Option.toList_none, List.cons_append, List.nil_append, r331_1162, r331_1163, r331_1169, r331_1170, r331_1173, r331_1175, r331_1176, r331_1182, r331_1185, r331_1187, r331_1188, r331_1191, r331_1193, r331_1196, r331_1197, r331_1198, r331_1200, r331_1203, r331_1204, r331_1205, r331_1206, r331_1208, r331_1211, r331_1212, r331_1215, r331_1216, r331_1217, r331_1220, r331_1221, r331_1222, hw, hm, ht, eq_self, if_true, if_false, hz4, lg_self, bI_t0, bI_f0]
      refine (congrArg (e_add a b) (G_less ?_ hr)).trans rfl
      exact by repeat (first | exact e_ll.rf | refine e_ll_c ?_ | refine e_ll_x ?_)
    | false =>
      rw [if_neg (by decide)] at hz4
      simp (disch := first | assumption | exact e_nk_i _ | exact e_nk_n | exact e_nk_r _ | exact e_bo_0 | exact e_bo_1 | exact e_bo_b _ | omega) only [Nat.reduceAdd, e_cl_v, e_cl_x, e_add_0, e_add_s, Option.toList_some, Option.toList_none, List.cons_append, List.nil_append, r331_1162, r331_1163, r331_1169, r331_1170, r331_1173, r331_1175, r331_1176, r331_1182, r331_1185, r331_1187, r331_1188, r331_1191, r331_1193, r331_1196, r331_1197, r331_1198, r331_1200, r331_1203, r331_1204, r331_1205, r331_1206, r331_1208, r331_1211, r331_1212, r331_1215, r331_1216, r331_1217, r331_1220, r331_1221, r331_1222, hw, hm, ht, eq_self, if_true, if_false, hz4, lg_self, bI_t0, bI_f0]
      refine (congrArg (e_add a b) (G_less ?_ hr)).trans rfl
      exact by repeat (first | exact e_ll.rf | refine e_ll_c ?_ | refine e_ll_x ?_)
  · have hne : ¬(iI k = iI 0) := fun h => hq ((iI_eq (by omega) (by omega)).mp h)
    simp (disch := first | assumption | exact e_nk_i _ | exact e_nk_n | exact e_nk_r _ | exact e_bo_0 | exact e_bo_1 | exact e_bo_b _ | omega) only [Nat.reduceAdd, e_cl_v, e_cl_x, e_add_0, e_add_s, Option.toList_some, Option.toList_none, List.cons_append, List.nil_append, r331_1162, r331_1163, r331_1169, r331_1170, r331_1173, r331_1175, r331_1176, r331_1182, r331_1185, r331_1187, r331_1188, r331_1191, r331_1193, r331_1196, r331_1197, r331_1198, r331_1200, r331_1203, r331_1204, r331_1205, r331_1206, r331_1208, r331_1211, r331_1212, r331_1215, r331_1216, r331_1217, r331_1220, r331_1221, r331_1222, hw, hm, ht, eq_self, if_true, if_false, hne]
    refine (congrArg (e_add a b) (G_less ?_ hr)).trans rfl
    exact by repeat (first | exact e_ll.rf | refine e_ll_c ?_ | refine e_ll_x ?_)
theorem lc15 (h0 : 0 ≤ i) (h1 : i + 5 < (L : Int)) (hL : L ≤ 3072) (hw : e_lim L xs (d + 1) 301 0 [some (.ref 0), some (.int (xs (i + 1).toNat)), some (.ref 202), none] [] (e_hp M V W) = some (.inl (some (.int (iI k))), e_hp M2 V2 W2, a, b)) (hm : e_lim L xs (d + 1) 228 0 [some (.ref 184), some (.int (xs (i + 1).toNat))] [] (e_hp M2 V2 W2) = some (.inl (some (.int z)), e_hp M3 V2 W2, 0, 0)) (hk : M3 184 0 = iI k) (hk2 : 0 ≤ k ∧ k ≤ 9) (hz : k = 0 → V2 202 0 = z.toInt64) (hr : e_lim L xs (d + 2) 331 3141 [some (.ref e_SCR), some (.ref 0), some (.ref 184), some (.ref 202), some (.ref 203), some (.int (iI i)), none, none, none] [] (e_hp M3 V2 W2) = some (x, h3, a3, b3)) : e_lim L xs (d + 2) 331 1225 [some (.ref e_SCR), some (.ref 0), some (.ref 184), some (.ref 202), some (.ref 203), some (.int (iI i)), none, none, none] [] (e_hp M V W) = some (x, h3, a + a3, b + b3) := by
  have ht := m_thrown (L := L) (xs := xs) (d := d + 1) (M := M3) (V := V2) (W := W2)
  rw [hk] at ht
  by_cases hq : k = 0
  · have hz2 := hz hq
    subst hq
    simp (disch := first | assumption | exact e_nk_i _ | exact e_nk_n | exact e_nk_r _ | exact e_bo_0 | exact e_bo_1 | exact e_bo_b _ | omega) only [Nat.reduceAdd, e_cl_v, e_cl_x, e_add_0, e_add_s, Option.toList_some, Option.toList_none, List.cons_append, List.nil_append, r331_1225, r331_1226, r331_1232, r331_1233, r331_1236, r331_1238, r331_1239, r331_1245, r331_1248, r331_1250, r331_1251, r331_1254, r331_1256, r331_1259, r331_1260, r331_1261, r331_1263, r331_1266, r331_1267, r331_1268, r331_1269, r331_1271, r331_1272, r331_1273, r331_1276, r331_1277, r331_1278, hw, hm, ht, eq_self, if_true, if_false, hz2, lg_self]
    refine (congrArg (e_add a b) (G_less ?_ hr)).trans rfl
    exact by repeat (first | exact e_ll.rf | refine e_ll_c ?_ | refine e_ll_x ?_)
  · have hne : ¬(iI k = iI 0) := fun h => hq ((iI_eq (by omega) (by omega)).mp h)
    simp (disch := first | assumption | exact e_nk_i _ | exact e_nk_n | exact e_nk_r _ | exact e_bo_0 | exact e_bo_1 | exact e_bo_b _ | omega) only [Nat.reduceAdd, e_cl_v, e_cl_x, e_add_0, e_add_s, Option.toList_some, Option.toList_none, List.cons_append, List.nil_append, r331_1225, r331_1226, r331_1232, r331_1233, r331_1236, r331_1238, r331_1239, r331_1245, r331_1248, r331_1250, r331_1251, r331_1254, r331_1256, r331_1259, r331_1260, r331_1261, r331_1263, r331_1266, r331_1267, r331_1268, r331_1269, r331_1271, r331_1272, r331_1273, r331_1276, r331_1277, r331_1278, hw, hm, ht, eq_self, if_true, if_false, hne]
    refine (congrArg (e_add a b) (G_less ?_ hr)).trans rfl
    exact by repeat (first | exact e_ll.rf | refine e_ll_c ?_ | refine e_ll_x ?_)
theorem lc16 (hw : e_lim L xs (d + 1) 123 0 [some (.ref 0)] [] (e_hp M V W) = some (.inl (some (.int z)), e_hp M2 V2 W2, 0, 0)) (hm : e_lim L xs (d + 1) 229 0 [some (.ref 184)] [] (e_hp M2 V2 W2) = some (.inl (some (.int z)), e_hp M3 V2 W2, 0, 0)) (hr : e_lim L xs (d + 2) 331 3141 [some (.ref e_SCR), some (.ref 0), some (.ref 184), some (.ref 202), some (.ref 203), some (.int (iI i)), none, none, none] [] (e_hp M3 V2 W2) = some (x, h3, a3, b3)) : e_lim L xs (d + 2) 331 1281 [some (.ref e_SCR), some (.ref 0), some (.ref 184), some (.ref 202), some (.ref 203), some (.int (iI i)), none, none, none] [] (e_hp M V W) = some (x, h3, a3, b3) := by
  simp (disch := first | assumption | exact e_nk_i _ | exact e_nk_n | exact e_nk_r _ | exact e_bo_0 | exact e_bo_1 | exact e_bo_b _ | omega) only [Nat.reduceAdd, e_cl_v, e_cl_x, e_add_0, e_add_s, Option.toList_some, Option.toList_none, List.cons_append, List.nil_append, r331_1281, r331_1282, r331_1285, r331_1286, r331_1289, r331_1292, r331_1293, hw, hm, eq_self, if_true]
  exact hr
theorem lc17 (h0 : 0 ≤ i) (h1 : i + 5 < (L : Int)) (hL : L ≤ 3072) (hw : e_lim L xs (d + 1) 302 0 [some (.ref 0), some (.int (xs (i + 1).toNat)), some (.int (xs (i + 2).toNat)), some (.ref 202), none] [] (e_hp M V W) = some (.inl (some (.int (iI k))), e_hp M2 V2 W2, a, b)) (hm : e_lim L xs (d + 1) 230 0 [some (.ref 184), some (.int (xs (i + 1).toNat)), some (.int (xs (i + 2).toNat))] [] (e_hp M2 V2 W2) = some (.inl (some (.int z)), e_hp M3 V2 W2, 0, 0)) (hk : M3 184 0 = iI k) (hk2 : 0 ≤ k ∧ k ≤ 9) (hz : k = 0 → V2 202 0 = z.toInt64) (hr : e_lim L xs (d + 2) 331 3141 [some (.ref e_SCR), some (.ref 0), some (.ref 184), some (.ref 202), some (.ref 203), some (.int (iI i)), none, none, none] [] (e_hp M3 V2 W2) = some (x, h3, a3, b3)) : e_lim L xs (d + 2) 331 1294 [some (.ref e_SCR), some (.ref 0), some (.ref 184), some (.ref 202), some (.ref 203), some (.int (iI i)), none, none, none] [] (e_hp M V W) = some (x, h3, a + a3, b + b3) := by
  have ht := m_thrown (L := L) (xs := xs) (d := d + 1) (M := M3) (V := V2) (W := W2)
  rw [hk] at ht
  by_cases hq : k = 0
  · have hz2 := hz hq
    subst hq
    simp (disch := first | assumption | exact e_nk_i _ | exact e_nk_n | exact e_nk_r _ | exact e_bo_0 | exact e_bo_1 | exact e_bo_b _ | omega) only [Nat.reduceAdd, e_cl_v, e_cl_x, e_add_0, e_add_s, Option.toList_some, Option.toList_none, List.cons_append, List.nil_append, r331_1294, r331_1295, r331_1301, r331_1307, r331_1308, r331_1311, r331_1313, r331_1314, r331_1320, r331_1326, r331_1329, r331_1331, r331_1332, r331_1335, r331_1337, r331_1340, r331_1341, r331_1342, r331_1344, r331_1347, r331_1348, r331_1349, r331_1350, r331_1352, r331_1353, r331_1354, r331_1357, r331_1358, r331_1359, hw, hm, ht, eq_self, if_true, if_false, hz2, lg_self]
    refine (congrArg (e_add a b) (G_less ?_ hr)).trans rfl
    exact by repeat (first | exact e_ll.rf | refine e_ll_c ?_ | refine e_ll_x ?_)
  · have hne : ¬(iI k = iI 0) := fun h => hq ((iI_eq (by omega) (by omega)).mp h)
    simp (disch := first | assumption | exact e_nk_i _ | exact e_nk_n | exact e_nk_r _ | exact e_bo_0 | exact e_bo_1 | exact e_bo_b _ | omega) only [Nat.reduceAdd, e_cl_v, e_cl_x, e_add_0, e_add_s, Option.toList_some, Option.toList_none, List.cons_append, List.nil_append, r331_1294, r331_1295, r331_1301, r331_1307, r331_1308, r331_1311, r331_1313, r331_1314, r331_1320, r331_1326, r331_1329, r331_1331, r331_1332, r331_1335, r331_1337, r331_1340, r331_1341, r331_1342, r331_1344, r331_1347, r331_1348, r331_1349, r331_1350, r331_1352, r331_1353, r331_1354, r331_1357, r331_1358, r331_1359, hw, hm, ht, eq_self, if_true, if_false, hne]
    refine (congrArg (e_add a b) (G_less ?_ hr)).trans rfl
    exact by repeat (first | exact e_ll.rf | refine e_ll_c ?_ | refine e_ll_x ?_)
theorem lc18 (h0 : 0 ≤ i) (h1 : i + 5 < (L : Int)) (hL : L ≤ 3072) (hw : e_lim L xs (d + 1) 303 0 [some (.ref 0), some (.int (xs (i + 1).toNat)), some (.ref 202), none] [] (e_hp M V W) = some (.inl (some (.int (iI k))), e_hp M2 V2 W2, a, b)) (hm : e_lim L xs (d + 1) 232 0 [some (.ref 184), some (.int (xs (i + 1).toNat))] [] (e_hp M2 V2 W2) = some (.inl (some (.int z)), e_hp M3 V2 W2, 0, 0)) (hk : M3 184 0 = iI k) (hk2 : 0 ≤ k ∧ k ≤ 9) (hz : k = 0 → V2 202 0 = z.toInt64) (hr : e_lim L xs (d + 2) 331 3141 [some (.ref e_SCR), some (.ref 0), some (.ref 184), some (.ref 202), some (.ref 203), some (.int (iI i)), none, none, none] [] (e_hp M3 V2 W2) = some (x, h3, a3, b3)) : e_lim L xs (d + 2) 331 1362 [some (.ref e_SCR), some (.ref 0), some (.ref 184), some (.ref 202), some (.ref 203), some (.int (iI i)), none, none, none] [] (e_hp M V W) = some (x, h3, a + a3, b + b3) := by
  have ht := m_thrown (L := L) (xs := xs) (d := d + 1) (M := M3) (V := V2) (W := W2)
  rw [hk] at ht
  by_cases hq : k = 0
  · have hz2 := hz hq
    subst hq
    simp (disch := first | assumption | exact e_nk_i _ | exact e_nk_n | exact e_nk_r _ | exact e_bo_0 | exact e_bo_1 | exact e_bo_b _ | omega) only [Nat.reduceAdd, e_cl_v, e_cl_x, e_add_0, e_add_s, Option.toList_some, Option.toList_none, List.cons_append, List.nil_append, r331_1362, r331_1363, r331_1369, r331_1370, r331_1373, r331_1375, r331_1376, r331_1382, r331_1385, r331_1387, r331_1388, r331_1391, r331_1393, r331_1396, r331_1397, r331_1398, r331_1400, r331_1403, r331_1404, r331_1405, r331_1406, r331_1408, r331_1409, r331_1410, r331_1413, r331_1414, r331_1415, hw, hm, ht, eq_self, if_true, if_false, hz2, lg_self]
    refine (congrArg (e_add a b) (G_less ?_ hr)).trans rfl
    exact by repeat (first | exact e_ll.rf | refine e_ll_c ?_ | refine e_ll_x ?_)
  · have hne : ¬(iI k = iI 0) := fun h => hq ((iI_eq (by omega) (by omega)).mp h)
    simp (disch := first | assumption | exact e_nk_i _ | exact e_nk_n | exact e_nk_r _ | exact e_bo_0 | exact e_bo_1 | exact e_bo_b _ | omega) only [Nat.reduceAdd, e_cl_v, e_cl_x, e_add_0, e_add_s, Option.toList_some, Option.toList_none, List.cons_append, List.nil_append, r331_1362, r331_1363, r331_1369, r331_1370, r331_1373, r331_1375, r331_1376, r331_1382, r331_1385, r331_1387, r331_1388, r331_1391, r331_1393, r331_1396, r331_1397, r331_1398, r331_1400, r331_1403, r331_1404, r331_1405, r331_1406, r331_1408, r331_1409, r331_1410, r331_1413, r331_1414, r331_1415, hw, hm, ht, eq_self, if_true, if_false, hne]
    refine (congrArg (e_add a b) (G_less ?_ hr)).trans rfl
    exact by repeat (first | exact e_ll.rf | refine e_ll_c ?_ | refine e_ll_x ?_)
theorem lc19 (h0 : 0 ≤ i) (h1 : i + 5 < (L : Int)) (hL : L ≤ 3072) (hw : e_lim L xs (d + 1) 304 0 [some (.ref 0), some (.ref 202), none] [] (e_hp M V W) = some (.inl (some (.int (iI k))), e_hp M2 V2 W2, a, b)) (hm : e_lim L xs (d + 1) 233 0 [some (.ref 184)] [] (e_hp M2 V2 W2) = some (.inl (some (.int z)), e_hp M3 V2 W2, 0, 0)) (hk : M3 184 0 = iI k) (hk2 : 0 ≤ k ∧ k ≤ 9) (hz : k = 0 → V2 202 0 = z.toInt64) (hr : e_lim L xs (d + 2) 331 3141 [some (.ref e_SCR), some (.ref 0), some (.ref 184), some (.ref 202), some (.ref 203), some (.int (iI i)), none, none, none] [] (e_hp M3 V2 W2) = some (x, h3, a3, b3)) : e_lim L xs (d + 2) 331 1418 [some (.ref e_SCR), some (.ref 0), some (.ref 184), some (.ref 202), some (.ref 203), some (.int (iI i)), none, none, none] [] (e_hp M V W) = some (x, h3, a + a3, b + b3) := by
  have ht := m_thrown (L := L) (xs := xs) (d := d + 1) (M := M3) (V := V2) (W := W2)
  rw [hk] at ht
  by_cases hq : k = 0
  · have hz2 := hz hq
    subst hq
    simp (disch := first | assumption | exact e_nk_i _ | exact e_nk_n | exact e_nk_r _ | exact e_bo_0 | exact e_bo_1 | exact e_bo_b _ | omega) only [Nat.reduceAdd, e_cl_v, e_cl_x, e_add_0, e_add_s, Option.toList_some, Option.toList_none, List.cons_append, List.nil_append, r331_1418, r331_1419, r331_1420, r331_1423, r331_1425, r331_1426, r331_1429, r331_1431, r331_1432, r331_1435, r331_1437, r331_1440, r331_1441, r331_1442, r331_1444, r331_1447, r331_1448, r331_1449, r331_1450, r331_1452, r331_1453, r331_1454, r331_1457, r331_1458, r331_1459, hw, hm, ht, eq_self, if_true, if_false, hz2, lg_self]
    refine (congrArg (e_add a b) (G_less ?_ hr)).trans rfl
    exact by repeat (first | exact e_ll.rf | refine e_ll_c ?_ | refine e_ll_x ?_)
  · have hne : ¬(iI k = iI 0) := fun h => hq ((iI_eq (by omega) (by omega)).mp h)
    simp (disch := first | assumption | exact e_nk_i _ | exact e_nk_n | exact e_nk_r _ | exact e_bo_0 | exact e_bo_1 | exact e_bo_b _ | omega) only [Nat.reduceAdd, e_cl_v, e_cl_x, e_add_0, e_add_s, Option.toList_some, Option.toList_none, List.cons_append, List.nil_append, r331_1418, r331_1419, r331_1420, r331_1423, r331_1425, r331_1426, r331_1429, r331_1431, r331_1432, r331_1435, r331_1437, r331_1440, r331_1441, r331_1442, r331_1444, r331_1447, r331_1448, r331_1449, r331_1450, r331_1452, r331_1453, r331_1454, r331_1457, r331_1458, r331_1459, hw, hm, ht, eq_self, if_true, if_false, hne]
    refine (congrArg (e_add a b) (G_less ?_ hr)).trans rfl
    exact by repeat (first | exact e_ll.rf | refine e_ll_c ?_ | refine e_ll_x ?_)
theorem lc20 (h0 : 0 ≤ i) (h1 : i + 5 < (L : Int)) (hL : L ≤ 3072) (hw : e_lim L xs (d + 1) 305 0 [some (.ref 0), some (.int (xs (i + 1).toNat)), some (.ref 202), none] [] (e_hp M V W) = some (.inl (some (.int (iI k))), e_hp M2 V2 W2, a, b)) (hm : e_lim L xs (d + 1) 234 0 [some (.ref 184), some (.int (xs (i + 1).toNat)), none, none] [] (e_hp M2 V2 W2) = some (.inl (some (.int z)), e_hp M3 V2 W2, 0, 0)) (hk : M3 184 0 = iI k) (hk2 : 0 ≤ k ∧ k ≤ 9) (hz : k = 0 → V2 202 0 = z.toInt64) (hr : e_lim L xs (d + 2) 331 3141 [some (.ref e_SCR), some (.ref 0), some (.ref 184), some (.ref 202), some (.ref 203), some (.int (iI i)), none, none, none] [] (e_hp M3 V2 W2) = some (x, h3, a3, b3)) : e_lim L xs (d + 2) 331 1462 [some (.ref e_SCR), some (.ref 0), some (.ref 184), some (.ref 202), some (.ref 203), some (.int (iI i)), none, none, none] [] (e_hp M V W) = some (x, h3, a + a3, b + b3) := by
  have ht := m_thrown (L := L) (xs := xs) (d := d + 1) (M := M3) (V := V2) (W := W2)
  rw [hk] at ht
  by_cases hq : k = 0
  · have hz2 := hz hq
    subst hq
    simp (disch := first | assumption | exact e_nk_i _ | exact e_nk_n | exact e_nk_r _ | exact e_bo_0 | exact e_bo_1 | exact e_bo_b _ | omega) only [Nat.reduceAdd, e_cl_v, e_cl_x, e_add_0, e_add_s, Option.toList_some, Option.toList_none, List.cons_append, List.nil_append, r331_1462, r331_1463, r331_1469, r331_1470, r331_1473, r331_1475, r331_1476, r331_1482, r331_1485, r331_1487, r331_1488, r331_1491, r331_1493, r331_1496, r331_1497, r331_1498, r331_1500, r331_1503, r331_1504, r331_1505, r331_1506, r331_1508, r331_1509, r331_1510, r331_1513, r331_1514, r331_1515, hw, hm, ht, eq_self, if_true, if_false, hz2, lg_self]
    refine (congrArg (e_add a b) (G_less ?_ hr)).trans rfl
    exact by repeat (first | exact e_ll.rf | refine e_ll_c ?_ | refine e_ll_x ?_)
  · have hne : ¬(iI k = iI 0) := fun h => hq ((iI_eq (by omega) (by omega)).mp h)
    simp (disch := first | assumption | exact e_nk_i _ | exact e_nk_n | exact e_nk_r _ | exact e_bo_0 | exact e_bo_1 | exact e_bo_b _ | omega) only [Nat.reduceAdd, e_cl_v, e_cl_x, e_add_0, e_add_s, Option.toList_some, Option.toList_none, List.cons_append, List.nil_append, r331_1462, r331_1463, r331_1469, r331_1470, r331_1473, r331_1475, r331_1476, r331_1482, r331_1485, r331_1487, r331_1488, r331_1491, r331_1493, r331_1496, r331_1497, r331_1498, r331_1500, r331_1503, r331_1504, r331_1505, r331_1506, r331_1508, r331_1509, r331_1510, r331_1513, r331_1514, r331_1515, hw, hm, ht, eq_self, if_true, if_false, hne]
    refine (congrArg (e_add a b) (G_less ?_ hr)).trans rfl
    exact by repeat (first | exact e_ll.rf | refine e_ll_c ?_ | refine e_ll_x ?_)
theorem lc21 (h0 : 0 ≤ i) (h1 : i + 5 < (L : Int)) (hL : L ≤ 3072) (hw : e_lim L xs (d + 1) 306 0 [some (.ref 0), some (.int (xs (i + 1).toNat)), some (.int (xs (i + 2).toNat)), some (.ref 202), none] [] (e_hp M V W) = some (.inl (some (.int (iI k))), e_hp M2 V2 W2, a, b)) (hm : e_lim L xs (d + 1) 235 0 [some (.ref 184), some (.int (xs (i + 1).toNat)), some (.int (xs (i + 2).toNat)), none] [] (e_hp M2 V2 W2) = some (.inl (some (.int z)), e_hp M3 V2 W2, 0, 0)) (hk : M3 184 0 = iI k) (hk2 : 0 ≤ k ∧ k ≤ 9) (hz : k = 0 → V2 202 0 = z.toInt64) (hr : e_lim L xs (d + 2) 331 3141 [some (.ref e_SCR), some (.ref 0), some (.ref 184), some (.ref 202), some (.ref 203), some (.int (iI i)), none, none, none] [] (e_hp M3 V2 W2) = some (x, h3, a3, b3)) : e_lim L xs (d + 2) 331 1518 [some (.ref e_SCR), some (.ref 0), some (.ref 184), some (.ref 202), some (.ref 203), some (.int (iI i)), none, none, none] [] (e_hp M V W) = some (x, h3, a + a3, b + b3) := by
  have ht := m_thrown (L := L) (xs := xs) (d := d + 1) (M := M3) (V := V2) (W := W2)
  rw [hk] at ht
  by_cases hq : k = 0
  · have hz2 := hz hq
    subst hq
    simp (disch := first | assumption | exact e_nk_i _ | exact e_nk_n | exact e_nk_r _ | exact e_bo_0 | exact e_bo_1 | exact e_bo_b _ | omega) only [Nat.reduceAdd, e_cl_v, e_cl_x, e_add_0, e_add_s, Option.toList_some, Option.toList_none, List.cons_append, List.nil_append, r331_1518, r331_1519, r331_1525, r331_1531, r331_1532, r331_1535, r331_1537, r331_1538, r331_1544, r331_1550, r331_1553, r331_1555, r331_1556, r331_1559, r331_1561, r331_1564, r331_1565, r331_1566, r331_1568, r331_1571, r331_1572, r331_1573, r331_1574, r331_1576, r331_1577, r331_1578, r331_1581, r331_1582, r331_1583, hw, hm, ht, eq_self, if_true, if_false, hz2, lg_self]
    refine (congrArg (e_add a b) (G_less ?_ hr)).trans rfl
    exact by repeat (first | exact e_ll.rf | refine e_ll_c ?_ | refine e_ll_x ?_)
  · have hne : ¬(iI k = iI 0) := fun h => hq ((iI_eq (by omega) (by omega)).mp h)
    simp (disch := first | assumption | exact e_nk_i _ | exact e_nk_n | exact e_nk_r _ | exact e_bo_0 | exact e_bo_1 | exact e_bo_b _ | omega) only [Nat.reduceAdd, e_cl_v, e_cl_x, e_add_0, e_add_s, Option.toList_some, Option.toList_none, List.cons_append, List.nil_append, r331_1518, r331_1519, r331_1525, r331_1531, r331_1532, r331_1535, r331_1537, r331_1538, r331_1544, r331_1550, r331_1553, r331_1555, r331_1556, r331_1559, r331_1561, r331_1564, r331_1565, r331_1566, r331_1568, r331_1571, r331_1572, r331_1573, r331_1574, r331_1576, r331_1577, r331_1578, r331_1581, r331_1582, r331_1583, hw, hm, ht, eq_self, if_true, if_false, hne]
    refine (congrArg (e_add a b) (G_less ?_ hr)).trans rfl
    exact by repeat (first | exact e_ll.rf | refine e_ll_c ?_ | refine e_ll_x ?_)
theorem lc22 (h0 : 0 ≤ i) (h1 : i + 5 < (L : Int)) (hL : L ≤ 3072) (hw : e_lim L xs (d + 1) 307 0 [some (.ref 0), some (.int (xs (i + 1).toNat)), some (.ref 202), none] [] (e_hp M V W) = some (.inl (some (.int (iI k))), e_hp M2 V2 W2, a, b)) (hm : e_lim L xs (d + 1) 239 0 [some (.ref 184), some (.int (xs (i + 1).toNat))] [] (e_hp M2 V2 W2) = some (.inl (some (.int z)), e_hp M3 V2 W2, 0, 0)) (hk : M3 184 0 = iI k) (hk2 : 0 ≤ k ∧ k ≤ 9) (hz : k = 0 → V2 202 0 = z.toInt64) (hr : e_lim L xs (d + 2) 331 3141 [some (.ref e_SCR), some (.ref 0), some (.ref 184), some (.ref 202), some (.ref 203), some (.int (iI i)), none, none, none] [] (e_hp M3 V2 W2) = some (x, h3, a3, b3)) : e_lim L xs (d + 2) 331 1586 [some (.ref e_SCR), some (.ref 0), some (.ref 184), some (.ref 202), some (.ref 203), some (.int (iI i)), none, none, none] [] (e_hp M V W) = some (x, h3, a + a3, b + b3) := by
  have ht := m_thrown (L := L) (xs := xs) (d := d + 1) (M := M3) (V := V2) (W := W2)
  rw [hk] at ht
  by_cases hq : k = 0
  · have hz2 := hz hq
    subst hq
    simp (disch := first | assumption | exact e_nk_i _ | exact e_nk_n | exact e_nk_r _ | exact e_bo_0 | exact e_bo_1 | exact e_bo_b _ | omega) only [Nat.reduceAdd, e_cl_v, e_cl_x, e_add_0, e_add_s, Option.toList_some, Option.toList_none, List.cons_append, List.nil_append, r331_1586, r331_1587, r331_1593, r331_1594, r331_1597, r331_1599, r331_1600, r331_1606, r331_1609, r331_1611, r331_1612, r331_1615, r331_1617, r331_1620, r331_1621, r331_1622, r331_1624, r331_1627, r331_1628, r331_1629, r331_1630, r331_1632, r331_1633, r331_1634, r331_1637, r331_1638, r331_1639, hw, hm, ht, eq_self, if_true, if_false, hz2, lg_self]
    refine (congrArg (e_add a b) (G_less ?_ hr)).trans rfl
    exact by repeat (first | exact e_ll.rf | refine e_ll_c ?_ | refine e_ll_x ?_)
  · have hne : ¬(iI k = iI 0) := fun h => hq ((iI_eq (by omega) (by omega)).mp h)
    simp (disch := first | assumption | exact e_nk_i _ | exact e_nk_n | exact e_nk_r _ | exact e_bo_0 | exact e_bo_1 | exact e_bo_b _ | omega) only [Nat.reduceAdd, e_cl_v, e_cl_x, e_add_0, e_add_s, Option.toList_some, Option.toList_none, List.cons_append, List.nil_append, r331_1586, r331_1587, r331_1593, r331_1594, r331_1597, r331_1599, r331_1600, r331_1606, r331_1609, r331_1611, r331_1612, r331_1615, r331_1617, r331_1620, r331_1621, r331_1622, r331_1624, r331_1627, r331_1628, r331_1629, r331_1630, r331_1632, r331_1633, r331_1634, r331_1637, r331_1638, r331_1639, hw, hm, ht, eq_self, if_true, if_false, hne]
    refine (congrArg (e_add a b) (G_less ?_ hr)).trans rfl
    exact by repeat (first | exact e_ll.rf | refine e_ll_c ?_ | refine e_ll_x ?_)
theorem lc23 (hw : e_lim L xs (d + 1) 130 0 [some (.ref 0)] [] (e_hp M V W) = some (.inl (some (.int z)), e_hp M2 V2 W2, 0, 0)) (hm : e_lim L xs (d + 1) 241 0 [some (.ref 184), none, none] [] (e_hp M2 V2 W2) = some (.inl (some (.int z)), e_hp M3 V2 W2, 0, 0)) (hr : e_lim L xs (d + 2) 331 3141 [some (.ref e_SCR), some (.ref 0), some (.ref 184), some (.ref 202), some (.ref 203), some (.int (iI i)), none, none, none] [] (e_hp M3 V2 W2) = some (x, h3, a3, b3)) : e_lim L xs (d + 2) 331 1642 [some (.ref e_SCR), some (.ref 0), some (.ref 184), some (.ref 202), some (.ref 203), some (.int (iI i)), none, none, none] [] (e_hp M V W) = some (x, h3, a3, b3) := by
  simp (disch := first | assumption | exact e_nk_i _ | exact e_nk_n | exact e_nk_r _ | exact e_bo_0 | exact e_bo_1 | exact e_bo_b _ | omega) only [Nat.reduceAdd, e_cl_v, e_cl_x, e_add_0, e_add_s, Option.toList_some, Option.toList_none, List.cons_append, List.nil_append, r331_1642, r331_1643, r331_1646, r331_1647, r331_1650, r331_1653, r331_1654, hw, hm, eq_self, if_true]
  exact hr
theorem lc24 (h0 : 0 ≤ i) (h1 : i + 5 < (L : Int)) (hL : L ≤ 3072) (hw : e_lim L xs (d + 1) 308 0 [some (.ref 0), some (.ref 202), none] [] (e_hp M V W) = some (.inl (some (.int (iI k))), e_hp M2 V2 W2, a, b)) (hm : e_lim L xs (d + 1) 244 0 [some (.ref 184), none, none] [] (e_hp M2 V2 W2) = some (.inl (some (.int z)), e_hp M3 V2 W2, 0, 0)) (hk : M3 184 0 = iI k) (hk2 : 0 ≤ k ∧ k ≤ 9) (hz : k = 0 → V2 202 0 = z.toInt64) (hr : e_lim L xs (d + 2) 331 3141 [some (.ref e_SCR), some (.ref 0), some (.ref 184), some (.ref 202), some (.ref 203), some (.int (iI i)), none, none, none] [] (e_hp M3 V2 W2) = some (x, h3, a3, b3)) : e_lim L xs (d + 2) 331 1655 [some (.ref e_SCR), some (.ref 0), some (.ref 184), some (.ref 202), some (.ref 203), some (.int (iI i)), none, none, none] [] (e_hp M V W) = some (x, h3, a + a3, b + b3) := by
  have ht := m_thrown (L := L) (xs := xs) (d := d + 1) (M := M3) (V := V2) (W := W2)
  rw [hk] at ht
  by_cases hq : k = 0
  · have hz2 := hz hq
    subst hq
    simp (disch := first | assumption | exact e_nk_i _ | exact e_nk_n | exact e_nk_r _ | exact e_bo_0 | exact e_bo_1 | exact e_bo_b _ | omega) only [Nat.reduceAdd, e_cl_v, e_cl_x, e_add_0, e_add_s, Option.toList_some, Option.toList_none, List.cons_append, List.nil_append, r331_1655, r331_1656, r331_1657, r331_1660, r331_1662, r331_1663, r331_1666, r331_1668, r331_1669, r331_1672, r331_1674, r331_1677, r331_1678, r331_1679, r331_1681, r331_1684, r331_1685, r331_1686, r331_1687, r331_1689, r331_1690, r331_1691, r331_1694, r331_1695, r331_1696, hw, hm, ht, eq_self, if_true, if_false, hz2, lg_self]
    refine (congrArg (e_add a b) (G_less ?_ hr)).trans rfl
    exact by repeat (first | exact e_ll.rf | refine e_ll_c ?_ | refine e_ll_x ?_)
  · have hne : ¬(iI k = iI 0) := fun h => hq ((iI_eq (by omega) (by omega)).mp h)
    simp (disch := first | assumption | exact e_nk_i _ | exact e_nk_n | exact e_nk_r _ | exact e_bo_0 | exact e_bo_1 | exact e_bo_b _ | omega) only [Nat.reduceAdd, e_cl_v, e_cl_x, e_add_0, e_add_s, Option.toList_some, Option.toList_none, List.cons_append, List.nil_append, r331_1655, r331_1656, r331_1657, r331_1660, r331_1662, r331_1663, r331_1666, r331_1668, r331_1669, r331_1672, r331_1674, r331_1677, r331_1678, r331_1679, r331_1681, r331_1684, r331_1685, r331_1686, r331_1687, r331_1689, r331_1690, r331_1691, r331_1694, r331_1695, r331_1696, hw, hm, ht, eq_self, if_true, if_false, hne]
    refine (congrArg (e_add a b) (G_less ?_ hr)).trans rfl
    exact by repeat (first | exact e_ll.rf | refine e_ll_c ?_ | refine e_ll_x ?_)
theorem lc25 (h0 : 0 ≤ i) (h1 : i + 5 < (L : Int)) (hL : L ≤ 3072) (hw : e_lim L xs (d + 1) 309 0 [some (.ref 0), some (.ref 202), none] [] (e_hp M V W) = some (.inl (some (.int (iI k))), e_hp M2 V2 W2, a, b)) (hm : e_lim L xs (d + 1) 247 0 [some (.ref 184)] [] (e_hp M2 V2 W2) = some (.inl (some (.int z)), e_hp M3 V2 W2, 0, 0)) (hk : M3 184 0 = iI k) (hk2 : 0 ≤ k ∧ k ≤ 9) (hz : k = 0 → V2 202 0 = z.toInt64) (hr : e_lim L xs (d + 2) 331 3141 [some (.ref e_SCR), some (.ref 0), some (.ref 184), some (.ref 202), some (.ref 203), some (.int (iI i)), none, none, none] [] (e_hp M3 V2 W2) = some (x, h3, a3, b3)) : e_lim L xs (d + 2) 331 1699 [some (.ref e_SCR), some (.ref 0), some (.ref 184), some (.ref 202), some (.ref 203), some (.int (iI i)), none, none, none] [] (e_hp M V W) = some (x, h3, a + a3, b + b3) := by
  have ht := m_thrown (L := L) (xs := xs) (d := d + 1) (M := M3) (V := V2) (W := W2)
  rw [hk] at ht
  by_cases hq : k = 0
  · have hz2 := hz hq
    subst hq
    simp (disch := first | assumption | exact e_nk_i _ | exact e_nk_n | exact e_nk_r _ | exact e_bo_0 | exact e_bo_1 | exact e_bo_b _ | omega) only [Nat.reduceAdd, e_cl_v, e_cl_x, e_add_0, e_add_s, Option.toList_some, Option.toList_none, List.cons_append, List.nil_append, r331_1699, r331_1700, r331_1701, r331_1704, r331_1706, r331_1707, r331_1710, r331_1712, r331_1713, r331_1716, r331_1718, r331_1721, r331_1722, r331_1723, r331_1725, r331_1728, r331_1729, r331_1730, r331_1731, r331_1733, r331_1734, r331_1735, r331_1738, r331_1739, r331_1740, hw, hm, ht, eq_self, if_true, if_false, hz2, lg_self]
    refine (congrArg (e_add a b) (G_less ?_ hr)).trans rfl
    exact by repeat (first | exact e_ll.rf | refine e_ll_c ?_ | refine e_ll_x ?_)
  · have hne : ¬(iI k = iI 0) := fun h => hq ((iI_eq (by omega) (by omega)).mp h)
    simp (disch := first | assumption | exact e_nk_i _ | exact e_nk_n | exact e_nk_r _ | exact e_bo_0 | exact e_bo_1 | exact e_bo_b _ | omega) only [Nat.reduceAdd, e_cl_v, e_cl_x, e_add_0, e_add_s, Option.toList_some, Option.toList_none, List.cons_append, List.nil_append, r331_1699, r331_1700, r331_1701, r331_1704, r331_1706, r331_1707, r331_1710, r331_1712, r331_1713, r331_1716, r331_1718, r331_1721, r331_1722, r331_1723, r331_1725, r331_1728, r331_1729, r331_1730, r331_1731, r331_1733, r331_1734, r331_1735, r331_1738, r331_1739, r331_1740, hw, hm, ht, eq_self, if_true, if_false, hne]
    refine (congrArg (e_add a b) (G_less ?_ hr)).trans rfl
    exact by repeat (first | exact e_ll.rf | refine e_ll_c ?_ | refine e_ll_x ?_)
theorem lc26 (h0 : 0 ≤ i) (h1 : i + 5 < (L : Int)) (hL : L ≤ 3072) (hw : e_lim L xs (d + 1) 310 0 [some (.ref 0), some (.int (xs (i + 1).toNat)), some (.ref 202), none] [] (e_hp M V W) = some (.inl (some (.int (iI k))), e_hp M2 V2 W2, a, b)) (hm : e_lim L xs (d + 1) 248 0 [some (.ref 184), some (.int (xs (i + 1).toNat)), none] [] (e_hp M2 V2 W2) = some (.inl (some (.int z)), e_hp M3 V2 W2, 0, 0)) (hk : M3 184 0 = iI k) (hk2 : 0 ≤ k ∧ k ≤ 9) (hz : k = 0 → V2 202 0 = z.toInt64) (hr : e_lim L xs (d + 2) 331 3141 [some (.ref e_SCR), some (.ref 0), some (.ref 184), some (.ref 202), some (.ref 203), some (.int (iI i)), none, none, none] [] (e_hp M3 V2 W2) = some (x, h3, a3, b3)) : e_lim L xs (d + 2) 331 1743 [some (.ref e_SCR), some (.ref 0), some (.ref 184), some (.ref 202), some (.ref 203), some (.int (iI i)), none, none, none] [] (e_hp M V W) = some (x, h3, a + a3, b + b3) := by
  have ht := m_thrown (L := L) (xs := xs) (d := d + 1) (M := M3) (V := V2) (W := W2)
  rw [hk] at ht
  by_cases hq : k = 0
  · have hz2 := hz hq
    subst hq
    simp (disch := first | assumption | exact e_nk_i _ | exact e_nk_n | exact e_nk_r _ | exact e_bo_0 | exact e_bo_1 | exact e_bo_b _ | omega) only [Nat.reduceAdd, e_cl_v, e_cl_x, e_add_0, e_add_s, Option.toList_some, Option.toList_none, List.cons_append, List.nil_append, r331_1743, r331_1744, r331_1750, r331_1751, r331_1754, r331_1756, r331_1757, r331_1763, r331_1766, r331_1768, r331_1769, r331_1772, r331_1774, r331_1777, r331_1778, r331_1779, r331_1781, r331_1784, r331_1785, r331_1786, r331_1787, r331_1789, r331_1790, r331_1791, r331_1794, r331_1795, r331_1796, hw, hm, ht, eq_self, if_true, if_false, hz2, lg_self]
    refine (congrArg (e_add a b) (G_less ?_ hr)).trans rfl
    exact by repeat (first | exact e_ll.rf | refine e_ll_c ?_ | refine e_ll_x ?_)
  · have hne : ¬(iI k = iI 0) := fun h => hq ((iI_eq (by omega) (by omega)).mp h)
    simp (disch := first | assumption | exact e_nk_i _ | exact e_nk_n | exact e_nk_r _ | exact e_bo_0 | exact e_bo_1 | exact e_bo_b _ | omega) only [Nat.reduceAdd, e_cl_v, e_cl_x, e_add_0, e_add_s, Option.toList_some, Option.toList_none, List.cons_append, List.nil_append, r331_1743, r331_1744, r331_1750, r331_1751, r331_1754, r331_1756, r331_1757, r331_1763, r331_1766, r331_1768, r331_1769, r331_1772, r331_1774, r331_1777, r331_1778, r331_1779, r331_1781, r331_1784, r331_1785, r331_1786, r331_1787, r331_1789, r331_1790, r331_1791, r331_1794, r331_1795, r331_1796, hw, hm, ht, eq_self, if_true, if_false, hne]
    refine (congrArg (e_add a b) (G_less ?_ hr)).trans rfl
    exact by repeat (first | exact e_ll.rf | refine e_ll_c ?_ | refine e_ll_x ?_)
theorem lc27 (h0 : 0 ≤ i) (h1 : i + 5 < (L : Int)) (hL : L ≤ 3072) (hw : e_lim L xs (d + 1) 311 0 [some (.ref 0), some (.int (xs (i + 1).toNat)), some (.ref 202), none] [] (e_hp M V W) = some (.inl (some (.int (iI k))), e_hp M2 V2 W2, a, b)) (hm : e_lim L xs (d + 1) 252 0 [some (.ref 184), some (.int (xs (i + 1).toNat)), none, none, none] [] (e_hp M2 V2 W2) = some (.inl (some (.int z)), e_hp M3 V2 W2, 0, 0)) (hk : M3 184 0 = iI k) (hk2 : 0 ≤ k ∧ k ≤ 9) (hz : k = 0 → V2 202 0 = z.toInt64) (hr : e_lim L xs (d + 2) 331 3141 [some (.ref e_SCR), some (.ref 0), some (.ref 184), some (.ref 202), some (.ref 203), some (.int (iI i)), none, none, none] [] (e_hp M3 V2 W2) = some (x, h3, a3, b3)) : e_lim L xs (d + 2) 331 1799 [some (.ref e_SCR), some (.ref 0), some (.ref 184), some (.ref 202), some (.ref 203), some (.int (iI i)), none, none, none] [] (e_hp M V W) = some (x, h3, a + a3, b + b3) := by
  have ht := m_thrown (L := L) (xs := xs) (d := d + 1) (M := M3) (V := V2) (W := W2)
  rw [hk] at ht
  by_cases hq : k = 0
  · have hz2 := hz hq
    subst hq
    simp (disch := first | assumption | exact e_nk_i _ | exact e_nk_n | exact e_nk_r _ | exact e_bo_0 | exact e_bo_1 | exact e_bo_b _ | omega) only [Nat.reduceAdd, e_cl_v, e_cl_x, e_add_0, e_add_s, Option.toList_some, Option.toList_none, List.cons_append, List.nil_append, r331_1799, r331_1800, r331_1806, r331_1807, r331_1810, r331_1812, r331_1813, r331_1819, r331_1822, r331_1824, r331_1825, r331_1828, r331_1830, r331_1833, r331_1834, r331_1835, r331_1837, r331_1840, r331_1841, r331_1842, r331_1843, r331_1845, r331_1846, r331_1847, r331_1850, r331_1851, r331_1852, hw, hm, ht, eq_self, if_true, if_false, hz2, lg_self]
    refine (congrArg (e_add a b) (G_less ?_ hr)).trans rfl
    exact by repeat (first | exact e_ll.rf | refine e_ll_c ?_ | refine e_ll_x ?_)
  · have hne : ¬(iI k = iI 0) := fun h => hq ((iI_eq (by omega) (by omega)).mp h)
    simp (disch := first | assumption | exact e_nk_i _ | exact e_nk_n | exact e_nk_r _ | exact e_bo_0 | exact e_bo_1 | exact e_bo_b _ | omega) only [Nat.reduceAdd, e_cl_v, e_cl_x, e_add_0, e_add_s, Option.toList_some, Option.toList_none, List.cons_append, List.nil_append, r331_1799, r331_1800, r331_1806, r331_1807, r331_1810, r331_1812, r331_1813, r331_1819, r331_1822, r331_1824, r331_1825, r331_1828, r331_1830, r331_1833, r331_1834, r331_1835, r331_1837, r331_1840, r331_1841, r331_1842, r331_1843, r331_1845, r331_1846, r331_1847, r331_1850, r331_1851, r331_1852, hw, hm, ht, eq_self, if_true, if_false, hne]
    refine (congrArg (e_add a b) (G_less ?_ hr)).trans rfl
    exact by repeat (first | exact e_ll.rf | refine e_ll_c ?_ | refine e_ll_x ?_)
theorem lc28 (h0 : 0 ≤ i) (h1 : i + 5 < (L : Int)) (hL : L ≤ 3072) (hw : e_lim L xs (d + 1) 312 0 [some (.ref 0), some (.int (xs (i + 1).toNat)), some (.ref 202), none] [] (e_hp M V W) = some (.inl (some (.int (iI k))), e_hp M2 V2 W2, a, b)) (hm : e_lim L xs (d + 1) 253 0 [some (.ref 184), some (.int (xs (i + 1).toNat)), none, none, none] [] (e_hp M2 V2 W2) = some (.inl (some (.int z)), e_hp M3 V2 W2, 0, 0)) (hk : M3 184 0 = iI k) (hk2 : 0 ≤ k ∧ k ≤ 9) (hz : k = 0 → V2 202 0 = z.toInt64) (hr : e_lim L xs (d + 2) 331 3141 [some (.ref e_SCR), some (.ref 0), some (.ref 184), some (.ref 202), some (.ref 203), some (.int (iI i)), none, none, none] [] (e_hp M3 V2 W2) = some (x, h3, a3, b3)) : e_lim L xs (d + 2) 331 1855 [some (.ref e_SCR), some (.ref 0), some (.ref 184), some (.ref 202), some (.ref 203), some (.int (iI i)), none, none, none] [] (e_hp M V W) = some (x, h3, a + a3, b + b3) := by
  have ht := m_thrown (L := L) (xs := xs) (d := d + 1) (M := M3) (V := V2) (W := W2)
  rw [hk] at ht
  by_cases hq : k = 0
  · have hz2 := hz hq
    subst hq
    simp (disch := first | assumption | exact e_nk_i _ | exact e_nk_n | exact e_nk_r _ | exact e_bo_0 | exact e_bo_1 | exact e_bo_b _ | omega) only [Nat.reduceAdd, e_cl_v, e_cl_x, e_add_0, e_add_s, Option.toList_some, Option.toList_none, List.cons_append, List.nil_append, r331_1855, r331_1856, r331_1862, r331_1863, r331_1866, r331_1868, r331_1869, r331_1875, r331_1878, r331_1880, r331_1881, r331_1884, r331_1886, r331_1889, r331_1890, r331_1891, r331_1893, r331_1896, r331_1897, r331_1898, r331_1899, r331_1901, r331_1902, r331_1903, r331_1906, r331_1907, r331_1908, hw, hm, ht, eq_self, if_true, if_false, hz2, lg_self]
    refine (congrArg (e_add a b) (G_less ?_ hr)).trans rfl
    exact by repeat (first | exact e_ll.rf | refine e_ll_c ?_ | refine e_ll_x ?_)
  · have hne : ¬(iI k = iI 0) := fun h => hq ((iI_eq (by omega) (by omega)).mp h)
    simp (disch := first | assumption | exact e_nk_i _ | exact e_nk_n | exact e_nk_r _ | exact e_bo_0 | exact e_bo_1 | exact e_bo_b _ | omega) only [Nat.reduceAdd, e_cl_v, e_cl_x, e_add_0, e_add_s, Option.toList_some, Option.toList_none, List.cons_append, List.nil_append, r331_1855, r331_1856, r331_1862, r331_1863, r331_1866, r331_1868, r331_1869, r331_1875, r331_1878, r331_1880, r331_1881, r331_1884, r331_1886, r331_1889, r331_1890, r331_1891, r331_1893, r331_1896, r331_1897, r331_1898, r331_1899, r331_1901, r331_1902, r331_1903, r331_1906, r331_1907, r331_1908, hw, hm, ht, eq_self, if_true, if_false, hne]
    refine (congrArg (e_add a b) (G_less ?_ hr)).trans rfl
    exact by repeat (first | exact e_ll.rf | refine e_ll_c ?_ | refine e_ll_x ?_)
theorem lc29 (h0 : 0 ≤ i) (h1 : i + 5 < (L : Int)) (hL : L ≤ 3072) (hw : e_lim L xs (d + 1) 313 0 [some (.ref 0), some (.int (xs (i + 1).toNat)), some (.ref 202), none] [] (e_hp M V W) = some (.inl (some (.int (iI k))), e_hp M2 V2 W2, a, b)) (hm : e_lim L xs (d + 1) 254 0 [some (.ref 184), some (.int (xs (i + 1).toNat))] [] (e_hp M2 V2 W2) = some (.inl (some (.int z)), e_hp M3 V2 W2, 0, 0)) (hk : M3 184 0 = iI k) (hk2 : 0 ≤ k ∧ k ≤ 9) (hz : k = 0 → V2 202 0 = z.toInt64) (hr : e_lim L xs (d + 2) 331 3141 [some (.ref e_SCR), some (.ref 0), some (.ref 184), some (.ref 202), some (.ref 203), some (.int (iI i)), none, none, none] [] (e_hp M3 V2 W2) = some (x, h3, a3, b3)) : e_lim L xs (d + 2) 331 1911 [some (.ref e_SCR), some (.ref 0), some (.ref 184), some (.ref 202), some (.ref 203), some (.int (iI i)), none, none, none] [] (e_hp M V W) = some (x, h3, a + a3, b + b3) := by
  have ht := m_thrown (L := L) (xs := xs) (d := d + 1) (M := M3) (V := V2) (W := W2)
  rw [hk] at ht
  by_cases hq : k = 0
  · have hz2 := hz hq
    subst hq
    simp (disch := first | assumption | exact e_nk_i _ | exact e_nk_n | exact e_nk_r _ | exact e_bo_0 | exact e_bo_1 | exact e_bo_b _ | omega) only [Nat.reduceAdd, e_cl_v, e_cl_x, e_add_0, e_add_s, Option.toList_some, Option.toList_none, List.cons_append, List.nil_append, r331_1911, r331_1912, r331_1918, r331_1919, r331_1922, r331_1924, r331_1925, r331_1931, r331_1934, r331_1936, r331_1937, r331_1940, r331_1942, r331_1945, r331_1946, r331_1947, r331_1949, r331_1952, r331_1953, r331_1954, r331_1955, r331_1957, r331_1958, r331_1959, r331_1962, r331_1963, r331_1964, hw, hm, ht, eq_self, if_true, if_false, hz2, lg_self]
    refine (congrArg (e_add a b) (G_less ?_ hr)).trans rfl
    exact by repeat (first | exact e_ll.rf | refine e_ll_c ?_ | refine e_ll_x ?_)
  · have hne : ¬(iI k = iI 0) := fun h => hq ((iI_eq (by omega) (by omega)).mp h)
    simp (disch := first | assumption | exact e_nk_i _ | exact e_nk_n | exact e_nk_r _ | exact e_bo_0 | exact e_bo_1 | exact e_bo_b _ | omega) only [Nat.reduceAdd, e_cl_v, e_cl_x, e_add_0, e_add_s, Option.toList_some, Option.toList_none, List.cons_append, List.nil_append, r331_1911, r331_1912, r331_1918, r331_1919, r331_1922, r331_1924, r331_1925, r331_1931, r331_1934, r331_1936, r331_1937, r331_1940, r331_1942, r331_1945, r331_1946, r331_1947, r331_1949, r331_1952, r331_1953, r331_1954, r331_1955, r331_1957, r331_1958, r331_1959, r331_1962, r331_1963, r331_1964, hw, hm, ht, eq_self, if_true, if_false, hne]
    refine (congrArg (e_add a b) (G_less ?_ hr)).trans rfl
    exact by repeat (first | exact e_ll.rf | refine e_ll_c ?_ | refine e_ll_x ?_)
theorem lc30 (h0 : 0 ≤ i) (h1 : i + 5 < (L : Int)) (hL : L ≤ 3072) (hw : e_lim L xs (d + 1) 314 0 [some (.ref 0), some (.int (xs (i + 1).toNat)), some (.int (xs (i + 2).toNat)), some (.int (xs (i + 3).toNat)), some (.ref 202), none] [] (e_hp M V W) = some (.inl (some (.int (iI k))), e_hp M2 V2 W2, a, b)) (hm : e_lim L xs (d + 1) 255 0 [some (.ref 184), some (.int (xs (i + 1).toNat)), some (.int (xs (i + 2).toNat)), some (.int (xs (i + 3).toNat))] [] (e_hp M2 V2 W2) = some (.inl (some (.int z)), e_hp M3 V2 W2, 0, 0)) (hk : M3 184 0 = iI k) (hk2 : 0 ≤ k ∧ k ≤ 9) (hz : k = 0 → V2 202 0 = z.toInt64) (hr : e_lim L xs (d + 2) 331 3141 [some (.ref e_SCR), some (.ref 0), some (.ref 184), some (.ref 202), some (.ref 203), some (.int (iI i)), none, none, none] [] (e_hp M3 V2 W2) = some (x, h3, a3, b3)) : e_lim L xs (d + 2) 331 1967 [some (.ref e_SCR), some (.ref 0), some (.ref 184), some (.ref 202), some (.ref 203), some (.int (iI i)), none, none, none] [] (e_hp M V W) = some (x, h3, a + a3, b + b3) := by
  have ht := m_thrown (L := L) (xs := xs) (d := d + 1) (M := M3) (V := V2) (W := W2)
  rw [hk] at ht
  by_cases hq : k = 0
  · have hz2 := hz hq
    subst hq
    simp (disch := first | assumption | exact e_nk_i _ | exact e_nk_n | exact e_nk_r _ | exact e_bo_0 | exact e_bo_1 | exact e_bo_b _ | omega) only [Nat.reduceAdd, e_cl_v, e_cl_x, e_add_0, e_add_s, Option.toList_some, Option.toList_none, List.cons_append, List.nil_append, r331_1967, r331_1968, r331_1974, r331_1980, r331_1986, r331_1987, r331_1990, r331_1992, r331_1993, r331_1999, r331_2005, r331_2011, r331_2014, r331_2016, r331_2017, r331_2020, r331_2022, r331_2025, r331_2026, r331_2027, r331_2029, r331_2032, r331_2033, r331_2034, r331_2035, r331_2037, r331_2038, r331_2039, r331_2042, r331_2043, r331_2044, hw, hm, ht, eq_self, if_true, if_false, hz2, lg_self]
    refine (congrArg (e_add a b) (G_less ?_ hr)).trans rfl
    exact by repeat (first | exact e_ll.rf | refine e_ll_c ?_ | refine e_ll_x ?_)
  · have hne : ¬(iI k = iI 0) := fun h => hq ((iI_eq (by omega) (by omega)).mp h)
    simp (disch := first | assumption | exact e_nk_i _ | exact e_nk_n | exact e_nk_r _ | exact e_bo_0 | exact e_bo_1 | exact e_bo_b _ | omega) only [Nat.reduceAdd, e_cl_v, e_cl_x, e_add_0, e_add_s, Option.toList_some, Option.toList_none, List.cons_append, List.nil_append, r331_1967, r331_1968, r331_1974, r331_1980, r331_1986, r331_1987, r331_1990, r331_1992, r331_1993, r331_1999, r331_2005, r331_2011, r331_2014, r331_2016, r331_2017, r331_2020, r331_2022, r331_2025, r331_2026, r331_2027, r331_2029, r331_2032, r331_2033, r331_2034, r331_2035, r331_2037, r331_2038, r331_2039, r331_2042, r331_2043, r331_2044, hw, hm, ht, eq_self, if_true, if_false, hne]
    refine (congrArg (e_add a b) (G_less ?_ hr)).trans rfl
    exact by repeat (first | exact e_ll.rf | refine e_ll_c ?_ | refine e_ll_x ?_)
theorem lc31 (h0 : 0 ≤ i) (h1 : i + 5 < (L : Int)) (hL : L ≤ 3072) (hw : e_lim L xs (d + 1) 315 0 [some (.ref 0), some (.int (xs (i + 1).toNat)), some (.int (xs (i + 2).toNat)), some (.ref 202), none] [] (e_hp M V W) = some (.inl (some (.int (iI k))), e_hp M2 V2 W2, a, b)) (hm : e_lim L xs (d + 1) 259 0 [some (.ref 184), some (.int (xs (i + 1).toNat)), some (.int (xs (i + 2).toNat)), none, none, none] [] (e_hp M2 V2 W2) = some (.inl (some (.int z)), e_hp M3 V2 W2, 0, 0)) (hk : M3 184 0 = iI k) (hk2 : 0 ≤ k ∧ k ≤ 9) (hz : k = 0 → V2 202 0 = z.toInt64) (hr : e_lim L xs (d + 2) 331 3141 [some (.ref e_SCR), some (.ref 0), some (.ref 184), some (.ref 202), some (.ref 203), some (.int (iI i)), none, none, none] [] (e_hp M3 V2 W2) = some (x, h3, a3, b3)) : e_lim L xs (d + 2) 331 2047 [some (.ref e_SCR), some (.ref 0), some (.ref 184), some (.ref 202), some (.ref 203), some (.int (iI i)), none, none, none] [] (e_hp M V W) = some (x, h3, a + a3, b + b3) := by
  have ht := m_thrown (L := L) (xs := xs) (d := d + 1) (M := M3) (V := V2) (W := W2)
  rw [hk] at ht
  by_cases hq : k = 0
  · have hz2 := hz hq
    subst hq
    simp (disch := first | assumption | exact e_nk_i _ | exact e_nk_n | exact e_nk_r _ | exact e_bo_0 | exact e_bo_1 | exact e_bo_b _ | omega) only [Nat.reduceAdd, e_cl_v, e_cl_x, e_add_0, e_add_s, Option.toList_some, Option.toList_none, List.cons_append, List.nil_append, r331_2047, r331_2048, r331_2054, r331_2060, r331_2061, r331_2064, r331_2066, r331_2067, r331_2073, r331_2079, r331_2082, r331_2084, r331_2085, r331_2088, r331_2090, r331_2093, r331_2094, r331_2095, r331_2097, r331_2100, r331_2101, r331_2102, r331_2103, r331_2105, r331_2106, r331_2107, r331_2110, r331_2111, r331_2112, hw, hm, ht, eq_self, if_true, if_false, hz2, lg_self]
    refine (congrArg (e_add a b) (G_less ?_ hr)).trans rfl
    exact by repeat (first | exact e_ll.rf | refine e_ll_c ?_ | refine e_ll_x ?_)
  · have hne : ¬(iI k = iI 0) := fun h => hq ((iI_eq (by omega) (by omega)).mp h)
    simp (disch := first | assumption | exact e_nk_i _ | exact e_nk_n | exact e_nk_r _ | exact e_bo_0 | exact e_bo_1 | exact e_bo_b _ | omega) only [Nat.reduceAdd, e_cl_v, e_cl_x, e_add_0, e_add_s, Option.toList_some, Option.toList_none, List.cons_append, List.nil_append, r331_2047, r331_2048, r331_2054, r331_2060, r331_2061, r331_2064, r331_2066, r331_2067, r331_2073, r331_2079, r331_2082, r331_2084, r331_2085, r331_2088, r331_2090, r331_2093, r331_2094, r331_2095, r331_2097, r331_2100, r331_2101, r331_2102, r331_2103, r331_2105, r331_2106, r331_2107, r331_2110, r331_2111, r331_2112, hw, hm, ht, eq_self, if_true, if_false, hne]
    refine (congrArg (e_add a b) (G_less ?_ hr)).trans rfl
    exact by repeat (first | exact e_ll.rf | refine e_ll_c ?_ | refine e_ll_x ?_)
theorem lc32 (h0 : 0 ≤ i) (h1 : i + 5 < (L : Int)) (hL : L ≤ 3072) (hw : e_lim L xs (d + 1) 316 0 [some (.ref 0), some (.int (xs (i + 1).toNat)), some (.int (xs (i + 2).toNat)), some (.int (xs (i + 3).toNat)), some (.ref 202), none] [] (e_hp M V W) = some (.inl (some (.int (iI k))), e_hp M2 V2 W2, a, b)) (hm : e_lim L xs (d + 1) 260 0 [some (.ref 184), some (.int (xs (i + 1).toNat)), some (.int (xs (i + 2).toNat)), some (.int (xs (i + 3).toNat))] [] (e_hp M2 V2 W2) = some (.inl (some (.int z)), e_hp M3 V2 W2, 0, 0)) (hk : M3 184 0 = iI k) (hk2 : 0 ≤ k ∧ k ≤ 9) (hz : k = 0 → V2 202 0 = z.toInt64) (hr : e_lim L xs (d + 2) 331 3141 [some (.ref e_SCR), some (.ref 0), some (.ref 184), some (.ref 202), some (.ref 203), some (.int (iI i)), none, none, none] [] (e_hp M3 V2 W2) = some (x, h3, a3, b3)) : e_lim L xs (d + 2) 331 2115 [some (.ref e_SCR), some (.ref 0), some (.ref 184), some (.ref 202), some (.ref 203), some (.int (iI i)), none, none, none] [] (e_hp M V W) = some (x, h3, a + a3, b + b3) := by
  have ht := m_thrown (L := L) (xs := xs) (d := d + 1) (M := M3) (V := V2) (W := W2)
  rw [hk] at ht
  by_cases hq : k = 0
  · have hz2 := hz hq
    subst hq
    simp (disch := first | assumption | exact e_nk_i _ | exact e_nk_n | exact e_nk_r _ | exact e_bo_0 | exact e_bo_1 | exact e_bo_b _ | omega) only [Nat.reduceAdd, e_cl_v, e_cl_x, e_add_0, e_add_s, Option.toList_some, Option.toList_none, List.cons_append, List.nil_append, r331_2115, r331_2116, r331_2122, r331_2128, r331_2134, r331_2135, r331_2138, r331_2140, r331_2141, r331_2147, r331_2153, r331_2159, r331_2162, r331_2164, r331_2165, r331_2168, r331_2170, r331_2173, r331_2174, r331_2175, r331_2177, r331_2180, r331_2181, r331_2182, r331_2183, r331_2185, r331_2186, r331_2187, r331_2190, r331_2191, r331_2192, hw, hm, ht, eq_self, if_true, if_false, hz2, lg_self]
    refine (congrArg (e_add a b) (G_less ?_ hr)).trans rfl
    exact by repeat (first | exact e_ll.rf | refine e_ll_c ?_ | refine e_ll_x ?_)
  · have hne : ¬(iI k = iI 0) := fun h => hq ((iI_eq (by omega) (by omega)).mp h)
    simp (disch := first | assumption | exact e_nk_i _ | exact e_nk_n | exact e_nk_r _ | exact e_bo_0 | exact e_bo_1 | exact e_bo_b _ | omega) only [Nat.reduceAdd, e_cl_v, e_cl_x, e_add_0, e_add_s, Option.toList_some, Option.toList_none, List.cons_append, List.nil_append, r331_2115, r331_2116, r331_2122, r331_2128, r331_2134, r331_2135, r331_2138, r331_2140, r331_2141, r331_2147, r331_2153, r331_2159, r331_2162, r331_2164, r331_2165, r331_2168, r331_2170, r331_2173, r331_2174, r331_2175, r331_2177, r331_2180, r331_2181, r331_2182, r331_2183, r331_2185, r331_2186, r331_2187, r331_2190, r331_2191, r331_2192, hw, hm, ht, eq_self, if_true, if_false, hne]
    refine (congrArg (e_add a b) (G_less ?_ hr)).trans rfl
    exact by repeat (first | exact e_ll.rf | refine e_ll_c ?_ | refine e_ll_x ?_)
theorem lc33 (h0 : 0 ≤ i) (h1 : i + 5 < (L : Int)) (hL : L ≤ 3072) (hbb : if xs (i + 1).toNat = iI 0 then bb = false else bb = true) (hw : e_lim L xs (d + 1) 317 0 [some (.ref 0), some (.int (bI bb)), some (.int (xs (i + 2).toNat)), some (.ref 202), none] [] (e_hp M V W) = some (.inl (some (.int (iI k))), e_hp M2 V2 W2, a, b)) (hm : e_lim L xs (d + 1) 261 0 [some (.ref 184), some (.int (bI bb)), some (.int (xs (i + 2).toNat)), none, none] [] (e_hp M2 V2 W2) = some (.inl (some (.int z)), e_hp M3 V2 W2, 0, 0)) (hk : M3 184 0 = iI k) (hk2 : 0 ≤ k ∧ k ≤ 9) (hz : k = 0 → V2 202 0 = z.toInt64) (hr : e_lim L xs (d + 2) 331 3141 [some (.ref e_SCR), some (.ref 0), some (.ref 184), some (.ref 202), some (.ref 203), some (.int (iI i)), none, none, none] [] (e_hp M3 V2 W2) = some (x, h3, a3, b3)) : e_lim L xs (d + 2) 331 2195 [some (.ref e_SCR), some (.ref 0), some (.ref 184), some (.ref 202), some (.ref 203), some (.int (iI i)), none, none, none] [] (e_hp M V W) = some (x, h3, a + a3, b + b3) := by
  have ht := m_thrown (L := L) (xs := xs) (d := d + 1) (M := M3) (V := V2) (W := W2)
  rw [hk] at ht
  by_cases hx : xs (i + 1).toNat = iI 0
  · rw [if_pos hx] at hbb
    subst hbb
    rw [show bI false = iI 0 from rfl] at hw hm
    by_cases hq : k = 0
    · have hz2 := hz hq
      subst hq
      simp (disch := first | assumption | exact e_nk_i _ | exact e_nk_n | exact e_nk_r _ | exact e_bo_0 | exact e_bo_1 | exact e_bo_b _ | omega) only [Nat.reduceAdd, e_cl_v, e_cl_x, e_add_0, e_add_s, Option.toList_some, Option.toList_none, List.cons_append, List.nil_append, r331_2195, r331_2196, r331_2202, r331_2205, r331_2206, r331_2209, r331_2210, r331_2216, r331_2217, r331_2220, r331_2222, r331_2223, r331_2229, r331_2232, r331_2233, r331_2236, r331_2237, r331_2243, r331_2246, r331_2248, r331_2249, r331_2252, r331_2254, r331_2257, r331_2258, r331_2259, r331_2261, r331_2264, r331_2265, r331_2266, r331_2267, r331_2269, r331_2270, r331_2271, r331_2274, r331_2275, r331_2276, hw, hm, ht, eq_self, if_true, if_false, hz2, lg_self, hx]
      refine (congrArg (e_add a b) (G_less ?_ hr)).trans rfl
      exact by repeat (first | exact e_ll.rf | refine e_ll_c ?_ | refine e_ll_x ?_)
    · have hne : ¬(iI k = iI 0) := fun h => hq ((iI_eq (by omega) (by omega)).mp h)
      simp (disch := first | assumption | exact e_nk_i _ | exact e_nk_n | exact e_nk_r _ | exact e_bo_0 | exact e_bo_1 | exact e_bo_b _ | omega) only [Nat.reduceAdd, e_cl_v, e_cl_x, e_add_0, e_add_s, Option.toList_some, Option.toList_none, List.cons_append, List.nil_append, r331_2195, r331_2196, r331_2202, r331_2205, r331_2206, r331_2209, r331_2210, r331_2216, r331_2217, r331_2220, r331_2222, r331_2223, r331_2229, r331_2232, r331_2233, r331_2236, r331_2237, r331_2243, r331_2246, r331_2248, r331_2249, r331_2252, r331_2254, r331_2257, r331_2258, r331_2259, r331_2261, r331_2264, r331_2265, r331_2266, r331_2267, r331_2269, r331_2270, r331_2271, r331_2274, r331_2275, r331_2276, hw, hm, ht, eq_self, if_true, if_false, hne, hx]
      refine (congrArg (e_add a b) (G_less ?_ hr)).trans rfl
      exact by repeat (first | exact e_ll.rf | refine e_ll_c ?_ | refine e_ll_x ?_)
  · rw [if_neg hx] at hbb
    subst hbb
    rw [show bI true = iI 1 from rfl] at hw hm
    by_cases hq : k = 0
    · have hz2 := hz hq
      subst hq
      simp (disch := first | assumption | exact e_nk_i _ | exact e_nk_n | exact e_nk_r _ | exact e_bo_0 | exact e_bo_1 | exact e_bo_b _ | omega) only [Nat.reduceAdd, e_cl_v, e_cl_x, e_add_0, e_add_s, Option.toList_some, Option.toList_none, List.cons_append, List.nil_append, r331_2195, r331_2196, r331_2202, r331_2205, r331_2206, r331_2209, r331_2210, r331_2216, r331_2217, r331_2220, r331_2222, r331_2223, r331_2229, r331_2232, r331_2233, r331_2236, r331_2237, r331_2243, r331_2246, r331_2248, r331_2249, r331_2252, r331_2254, r331_2257, r331_2258, r331_2259, r331_2261, r331_2264, r331_2265, r331_2266, r331_2267, r331_2269, r331_2270, r331_2271, r331_2274, r331_2275, r331_2276, hw, hm, ht, eq_self, if_true, if_false, hz2, lg_self, hx]
      refine (congrArg (e_add a b) (G_less ?_ hr)).trans rfl
      exact by repeat (first | exact e_ll.rf | refine e_ll_c ?_ | refine e_ll_x ?_)
    · have hne : ¬(iI k = iI 0) := fun h => hq ((iI_eq (by omega) (by omega)).mp h)
      simp (disch := first | assumption | exact e_nk_i _ | exact e_nk_n | exact e_nk_r _ | exact e_bo_0 | exact e_bo_1 | exact e_bo_b _ | omega) only [Nat.reduceAdd, e_cl_v, e_cl_x, e_add_0, e_add_s, Option.toList_some, Option.toList_none, List.cons_append, List.nil_append, r331_2195, r331_2196, r331_2202, r331_2205, r331_2206, r331_2209, r331_2210, r331_2216, r331_2217, r331_2220, r331_2222, r331_2223, r331_2229, r331_2232, r331_2233, r331_2236, r331_2237, r331_2243, r331_2246, r331_2248, r331_2249, r331_2252, r331_2254, r331_2257, r331_2258, r331_2259, r331_2261, r331_2264, r331_2265, r331_2266, r331_2267, r331_2269, r331_2270, r331_2271, r331_2274, r331_2275, r331_2276, hw, hm, ht, eq_self, if_true, if_false, hne, hx]
      refine (congrArg (e_add a b) (G_less ?_ hr)).trans rfl
      exact by repeat (first | exact e_ll.rf | refine e_ll_c ?_ | refine e_ll_x ?_)
theorem lc34 (h0 : 0 ≤ i) (h1 : i + 5 < (L : Int)) (hL : L ≤ 3072) (hw : e_lim L xs (d + 1) 318 0 [some (.ref 0), some (.ref 202), none] [] (e_hp M V W) = some (.inl (some (.int (iI k))), e_hp M2 V2 W2, a, b)) (hm : e_lim L xs (d + 1) 263 0 [some (.ref 184)] [] (e_hp M2 V2 W2) = some (.inl (some (.long z8)), e_hp M3 V2 W2, 0, 0)) (hk : M3 184 0 = iI k) (hk2 : 0 ≤ k ∧ k ≤ 9) (hz : k = 0 → V2 202 0 = z8) (hr : e_lim L xs (d + 2) 331 3141 [some (.ref e_SCR), some (.ref 0), some (.ref 184), some (.ref 202), some (.ref 203), some (.int (iI i)), none, none, none] [] (e_hp M3 V2 W2) = some (x, h3, a3, b3)) : e_lim L xs (d + 2) 331 2279 [some (.ref e_SCR), some (.ref 0), some (.ref 184), some (.ref 202), some (.ref 203), some (.int (iI i)), none, none, none] [] (e_hp M V W) = some (x, h3, a + a3, b + b3) := by
  have ht := m_thrown (L := L) (xs := xs) (d := d + 1) (M := M3) (V := V2) (W := W2)
  rw [hk] at ht
  by_cases hq : k = 0
  · have hz2 := hz hq
    subst hq
    simp (disch := first | assumption | exact e_nk_i _ | exact e_nk_n | exact e_nk_r _ | exact e_bo_0 | exact e_bo_1 | exact e_bo_b _ | omega) only [Nat.reduceAdd, e_cl_v, e_cl_x, e_add_0, e_add_s, Option.toList_some, Option.toList_none, List.cons_append, List.nil_append, r331_2279, r331_2280, r331_2281, r331_2284, r331_2286, r331_2287, r331_2290, r331_2292, r331_2293, r331_2296, r331_2298, r331_2301, r331_2302, r331_2303, r331_2305, r331_2308, r331_2309, r331_2310, r331_2311, r331_2313, r331_2314, r331_2317, r331_2318, r331_2319, hw, hm, ht, eq_self, if_true, if_false, hz2, lg_self]
    refine (congrArg (e_add a b) (G_less ?_ hr)).trans rfl
    exact by repeat (first | exact e_ll.rf | refine e_ll_c ?_ | refine e_ll_x ?_)
  · have hne : ¬(iI k = iI 0) := fun h => hq ((iI_eq (by omega) (by omega)).mp h)
    simp (disch := first | assumption | exact e_nk_i _ | exact e_nk_n | exact e_nk_r _ | exact e_bo_0 | exact e_bo_1 | exact e_bo_b _ | omega) only [Nat.reduceAdd, e_cl_v, e_cl_x, e_add_0, e_add_s, Option.toList_some, Option.toList_none, List.cons_append, List.nil_append, r331_2279, r331_2280, r331_2281, r331_2284, r331_2286, r331_2287, r331_2290, r331_2292, r331_2293, r331_2296, r331_2298, r331_2301, r331_2302, r331_2303, r331_2305, r331_2308, r331_2309, r331_2310, r331_2311, r331_2313, r331_2314, r331_2317, r331_2318, r331_2319, hw, hm, ht, eq_self, if_true, if_false, hne]
    refine (congrArg (e_add a b) (G_less ?_ hr)).trans rfl
    exact by repeat (first | exact e_ll.rf | refine e_ll_c ?_ | refine e_ll_x ?_)
theorem lc35 (h0 : 0 ≤ i) (h1 : i + 5 < (L : Int)) (hL : L ≤ 3072) (hw : e_lim L xs (d + 1) 319 0 [some (.ref 0), some (.ref 202), none] [] (e_hp M V W) = some (.inl (some (.int (iI k))), e_hp M2 V2 W2, a, b)) (hm : e_lim L xs (d + 1) 264 0 [some (.ref 184), none, none] [] (e_hp M2 V2 W2) = some (.inl (some (.int z)), e_hp M3 V2 W2, 0, 0)) (hk : M3 184 0 = iI k) (hk2 : 0 ≤ k ∧ k ≤ 9) (hz : k = 0 → V2 202 0 = z.toInt64) (hr : e_lim L xs (d + 2) 331 3141 [some (.ref e_SCR), some (.ref 0), some (.ref 184), some (.ref 202), some (.ref 203), some (.int (iI i)), none, none, none] [] (e_hp M3 V2 W2) = some (x, h3, a3, b3)) : e_lim L xs (d + 2) 331 2322 [some (.ref e_SCR), some (.ref 0), some (.ref 184), some (.ref 202), some (.ref 203), some (.int (iI i)), none, none, none] [] (e_hp M V W) = some (x, h3, a + a3, b + b3) := by
  have ht := m_thrown (L := L) (xs := xs) (d := d + 1) (M := M3) (V := V2) (W := W2)
  rw [hk] at ht
  by_cases hq : k = 0
  · have hz2 := hz hq
    subst hq
    simp (disch := first | assumption | exact e_nk_i _ | exact e_nk_n | exact e_nk_r _ | exact e_bo_0 | exact e_bo_1 | exact e_bo_b _ | omega) only [Nat.reduceAdd, e_cl_v, e_cl_x, e_add_0, e_add_s, Option.toList_some, Option.toList_none, List.cons_append, List.nil_append, r331_2322, r331_2323, r331_2324, r331_2327, r331_2329, r331_2330, r331_2333, r331_2335, r331_2336, r331_2339, r331_2341, r331_2344, r331_2345, r331_2346, r331_2348, r331_2351, r331_2352, r331_2353, r331_2354, r331_2356, r331_2357, r331_2358, r331_2361, r331_2362, r331_2363, hw, hm, ht, eq_self, if_true, if_false, hz2, lg_self]
    refine (congrArg (e_add a b) (G_less ?_ hr)).trans rfl
    exact by repeat (first | exact e_ll.rf | refine e_ll_c ?_ | refine e_ll_x ?_)
  · have hne : ¬(iI k = iI 0) := fun h => hq ((iI_eq (by omega) (by omega)).mp h)
    simp (disch := first | assumption | exact e_nk_i _ | exact e_nk_n | exact e_nk_r _ | exact e_bo_0 | exact e_bo_1 | exact e_bo_b _ | omega) only [Nat.reduceAdd, e_cl_v, e_cl_x, e_add_0, e_add_s, Option.toList_some, Option.toList_none, List.cons_append, List.nil_append, r331_2322, r331_2323, r331_2324, r331_2327, r331_2329, r331_2330, r331_2333, r331_2335, r331_2336, r331_2339, r331_2341, r331_2344, r331_2345, r331_2346, r331_2348, r331_2351, r331_2352, r331_2353, r331_2354, r331_2356, r331_2357, r331_2358, r331_2361, r331_2362, r331_2363, hw, hm, ht, eq_self, if_true, if_false, hne]
    refine (congrArg (e_add a b) (G_less ?_ hr)).trans rfl
    exact by repeat (first | exact e_ll.rf | refine e_ll_c ?_ | refine e_ll_x ?_)
theorem lc36 (h0 : 0 ≤ i) (h1 : i + 5 < (L : Int)) (hL : L ≤ 3072) (hw : e_lim L xs (d + 1) 320 0 [some (.ref 0), some (.int (xs (i + 1).toNat)), some (.int (xs (i + 2).toNat)), some (.ref 202), none] [] (e_hp M V W) = some (.inl (some (.int (iI k))), e_hp M2 V2 W2, a, b)) (hm : e_lim L xs (d + 1) 268 0 [some (.ref 184), some (.int (xs (i + 1).toNat)), some (.int (xs (i + 2).toNat))] [] (e_hp M2 V2 W2) = some (.inl (some (.int z)), e_hp M3 V2 W2, 0, 0)) (hk : M3 184 0 = iI k) (hk2 : 0 ≤ k ∧ k ≤ 9) (hz : k = 0 → z = bI bb ∧ V2 202 0 = if bb = true then 1 else 0) (hr : e_lim L xs (d + 2) 331 3141 [some (.ref e_SCR), some (.ref 0), some (.ref 184), some (.ref 202), some (.ref 203), some (.int (iI i)), none, none, none] [] (e_hp M3 V2 W2) = some (x, h3, a3, b3)) : e_lim L xs (d + 2) 331 2366 [some (.ref e_SCR), some (.ref 0), some (.ref 184), some (.ref 202), some (.ref 203), some (.int (iI i)), none, none, none] [] (e_hp M V W) = some (x, h3, a + a3, b + b3) := by
  have ht := m_thrown (L := L) (xs := xs) (d := d + 1) (M := M3) (V := V2) (W := W2)
  rw [hk] at ht
  by_cases hq : k = 0
  · have hz2 := hz hq
    subst hq
    obtain ⟨hz3, hz4⟩ := hz2
    rw [hz3] at hm
    cases bb with
    | true =>
      rw [if_pos rfl] at hz4
      simp (disch := first | assumption | exact e_nk_i _ | exact e_nk_n | exact e_nk_r _ | exact e_bo_0 | exact e_bo_1 | exact e_bo_b _ | omega) only [Nat.reduceAdd, e_cl_v, e_cl_x, e_add_0, e_add_s, Option.toList_some, Option.toList_none, List.cons_append, List.nil_append, r331_2366, r331_2367, r331_2373, r331_2379, r331_2380, r331_2383, r331_2385, r331_2386, r331_2392, r331_2398, r331_2401, r331_2403, r331_2404, r331_2407, r331_2409, r331_2412, r331_2413, r331_2414, r331_2416, r331_2419, r331_2420, r331_2421, r331_2422, r331_2424, r331_2427, r331_2428, r331_2431, r331_2432, r331_2433, r331_2436, r331_2437, r331_2438, hw, hm, ht, eq_self, if_true, if_false, hz4, lg_self, bI_t0, bI_f0]
      refine (congrArg (e_add a b) (G_less ?_ hr)).trans rfl
      exact by repeat (first | exact e_ll.rf | refine e_ll_c ?_ | refine e_ll_x ?_)
    | false =>
      rw [if_neg (by decide)] at hz4
      simp (disch := first | assumption | exact e_nk_i _ | exact e_nk_n | exact e_nk_r _ | exact e_bo_0 | exact e_bo_1 | exact e_bo_b _ | omega) only [Nat.reduceAdd, e_cl_v, e_cl_x, e_add_0, e_add_s, Option.toList_some, Option.toList_none, List.cons_append, List.nil_append, r331_2366, r331_2367, r331_2373, r331_2379, r331_2380, r331_2383, r331_2385, r331_2386, r331_2392, r331_2398, r331_2401, r331_2403, r331_2404, r331_2407, r331_2409, r331_2412, r331_2413, r331_2414, r331_2416, r331_2419, r331_2420, r331_2421, r331_2422, r331_2424, r331_2427, r331_2428, r331_2431, r331_2432, r331_2433, r331_2436, r331_2437, r331_2438, hw, hm, ht, eq_self, if_true, if_false, hz4, lg_self, bI_t0, bI_f0]
      refine (congrArg (e_add a b) (G_less ?_ hr)).trans rfl
      exact by repeat (first | exact e_ll.rf | refine e_ll_c ?_ | refine e_ll_x ?_)
  · have hne : ¬(iI k = iI 0) := fun h => hq ((iI_eq (by omega) (by omega)).mp h)
    simp (disch := first | assumption | exact e_nk_i _ | exact e_nk_n | exact e_nk_r _ | exact e_bo_0 | exact e_bo_1 | exact e_bo_b _ | omega) only [Nat.reduceAdd, e_cl_v, e_cl_x, e_add_0, e_add_s, Option.toList_some, Option.toList_none, List.cons_append, List.nil_append, r331_2366, r331_2367, r331_2373, r331_2379, r331_2380, r331_2383, r331_2385, r331_2386, r331_2392, r331_2398, r331_2401, r331_2403, r331_2404, r331_2407, r331_2409, r331_2412, r331_2413, r331_2414, r331_2416, r331_2419, r331_2420, r331_2421, r331_2422, r331_2424, r331_2427, r331_2428, r331_2431, r331_2432, r331_2433, r331_2436, r331_2437, r331_2438, hw, hm, ht, eq_self, if_true, if_false, hne]
    refine (congrArg (e_add a b) (G_less ?_ hr)).trans rfl
    exact by repeat (first | exact e_ll.rf | refine e_ll_c ?_ | refine e_ll_x ?_)
theorem lc37 (h0 : 0 ≤ i) (h1 : i + 5 < (L : Int)) (hL : L ≤ 3072) (hw : e_lim L xs (d + 1) 321 0 [some (.ref 0), some (.ref 202), none] [] (e_hp M V W) = some (.inl (some (.int (iI k))), e_hp M2 V2 W2, a, b)) (hm : e_lim L xs (d + 1) 269 0 [some (.ref 184), none, none, none, none, none, none, none, none, none] [] (e_hp M2 V2 W2) = some (.inl (some (.int z)), e_hp M3 V2 W2, 0, 0)) (hk : M3 184 0 = iI k) (hk2 : 0 ≤ k ∧ k ≤ 9) (hz : k = 0 → V2 202 0 = z.toInt64) (hr : e_lim L xs (d + 2) 331 3141 [some (.ref e_SCR), some (.ref 0), some (.ref 184), some (.ref 202), some (.ref 203), some (.int (iI i)), none, none, none] [] (e_hp M3 V2 W2) = some (x, h3, a3, b3)) : e_lim L xs (d + 2) 331 2441 [some (.ref e_SCR), some (.ref 0), some (.ref 184), some (.ref 202), some (.ref 203), some (.int (iI i)), none, none, none] [] (e_hp M V W) = some (x, h3, a + a3, b + b3) := by
  have ht := m_thrown (L := L) (xs := xs) (d := d + 1) (M := M3) (V := V2) (W := W2)
  rw [hk] at ht
  by_cases hq : k = 0
  · have hz2 := hz hq
    subst hq
    simp (disch := first | assumption | exact e_nk_i _ | exact e_nk_n | exact e_nk_r _ | exact e_bo_0 | exact e_bo_1 | exact e_bo_b _ | omega) only [Nat.reduceAdd, e_cl_v, e_cl_x, e_add_0, e_add_s, Option.toList_some, Option.toList_none, List.cons_append, List.nil_append, r331_2441, r331_2442, r331_2443, r331_2446, r331_2448, r331_2449, r331_2452, r331_2454, r331_2455, r331_2458, r331_2460, r331_2463, r331_2464, r331_2465, r331_2467, r331_2470, r331_2471, r331_2472, r331_2473, r331_2475, r331_2476, r331_2477, r331_2480, r331_2481, r331_2482, hw, hm, ht, eq_self, if_true, if_false, hz2, lg_self]
    refine (congrArg (e_add a b) (G_less ?_ hr)).trans rfl
    exact by repeat (first | exact e_ll.rf | refine e_ll_c ?_ | refine e_ll_x ?_)
  · have hne : ¬(iI k = iI 0) := fun h => hq ((iI_eq (by omega) (by omega)).mp h)
    simp (disch := first | assumption | exact e_nk_i _ | exact e_nk_n | exact e_nk_r _ | exact e_bo_0 | exact e_bo_1 | exact e_bo_b _ | omega) only [Nat.reduceAdd, e_cl_v, e_cl_x, e_add_0, e_add_s, Option.toList_some, Option.toList_none, List.cons_append, List.nil_append, r331_2441, r331_2442, r331_2443, r331_2446, r331_2448, r331_2449, r331_2452, r331_2454, r331_2455, r331_2458, r331_2460, r331_2463, r331_2464, r331_2465, r331_2467, r331_2470, r331_2471, r331_2472, r331_2473, r331_2475, r331_2476, r331_2477, r331_2480, r331_2481, r331_2482, hw, hm, ht, eq_self, if_true, if_false, hne]
    refine (congrArg (e_add a b) (G_less ?_ hr)).trans rfl
    exact by repeat (first | exact e_ll.rf | refine e_ll_c ?_ | refine e_ll_x ?_)
theorem lc38 (h0 : 0 ≤ i) (h1 : i + 5 < (L : Int)) (hL : L ≤ 3072) (hw : e_lim L xs (d + 1) 322 0 [some (.ref 0), some (.int (xs (i + 1).toNat)), some (.ref 202), none] [] (e_hp M V W) = some (.inl (some (.int (iI k))), e_hp M2 V2 W2, a, b)) (hm : e_lim L xs (d + 1) 270 0 [some (.ref 184), some (.int (xs (i + 1).toNat)), none, none] [] (e_hp M2 V2 W2) = some (.inl (some (.int z)), e_hp M3 V2 W2, 0, 0)) (hk : M3 184 0 = iI k) (hk2 : 0 ≤ k ∧ k ≤ 9) (hz : k = 0 → V2 202 0 = z.toInt64) (hr : e_lim L xs (d + 2) 331 3141 [some (.ref e_SCR), some (.ref 0), some (.ref 184), some (.ref 202), some (.ref 203), some (.int (iI i)), none, none, none] [] (e_hp M3 V2 W2) = some (x, h3, a3, b3)) : e_lim L xs (d + 2) 331 2485 [some (.ref e_SCR), some (.ref 0), some (.ref 184), some (.ref 202), some (.ref 203), some (.int (iI i)), none, none, none] [] (e_hp M V W) = some (x, h3, a + a3, b + b3) := by
  have ht := m_thrown (L := L) (xs := xs) (d := d + 1) (M := M3) (V := V2) (W := W2)
  rw [hk] at ht
  by_cases hq : k = 0
  · have hz2 := hz hq
    subst hq
    simp (disch := first | assumption | exact e_nk_i _ | exact e_nk_n | exact e_nk_r _ | exact e_bo_0 | exact e_bo_1 | exact e_bo_b _ | omega) only [Nat.reduceAdd, e_cl_v, e_cl_x, e_add_0, e_add_s, Option.toList_some, Option.toList_none, List.cons_append, List.nil_append, r331_2485, r331_2486, r331_2492, r331_2493, r331_2496, r331_2498, r331_2499, r331_2505, r331_2508, r331_2510, r331_2511, r331_2514, r331_2516, r331_2519, r331_2520, r331_2521, r331_2523, r331_2526, r331_2527, r331_2528, r331_2529, r331_2531, r331_2532, r331_2533, r331_2536, r331_2537, r331_2538, hw, hm, ht, eq_self, if_true, if_false, hz2, lg_self]
    refine (congrArg (e_add a b) (G_less ?_ hr)).trans rfl
    exact by repeat (first | exact e_ll.rf | refine e_ll_c ?_ | refine e_ll_x ?_)
  · have hne : ¬(iI k = iI 0) := fun h => hq ((iI_eq (by omega) (by omega)).mp h)
    simp (disch := first | assumption | exact e_nk_i _ | exact e_nk_n | exact e_nk_r _ | exact e_bo_0 | exact e_bo_1 | exact e_bo_b _ | omega) only [Nat.reduceAdd, e_cl_v, e_cl_x, e_add_0, e_add_s, Option.toList_some, Option.toList_none, List.cons_append, List.nil_append, r331_2485, r331_2486, r331_2492, r331_2493, r331_2496, r331_2498, r331_2499, r331_2505, r331_2508, r331_2510, r331_2511, r331_2514, r331_2516, r331_2519, r331_2520, r331_2521, r331_2523, r331_2526, r331_2527, r331_2528, r331_2529, r331_2531, r331_2532, r331_2533, r331_2536, r331_2537, r331_2538, hw, hm, ht, eq_self, if_true, if_false, hne]
    refine (congrArg (e_add a b) (G_less ?_ hr)).trans rfl
    exact by repeat (first | exact e_ll.rf | refine e_ll_c ?_ | refine e_ll_x ?_)
theorem lc39 (h0 : 0 ≤ i) (h1 : i + 5 < (L : Int)) (hL : L ≤ 3072) (hw : e_lim L xs (d + 1) 323 0 [some (.ref 0), some (.int (xs (i + 1).toNat)), some (.ref 202), none] [] (e_hp M V W) = some (.inl (some (.int (iI k))), e_hp M2 V2 W2, a, b)) (hm : e_lim L xs (d + 1) 272 0 [some (.ref 184), some (.int (xs (i + 1).toNat)), none] [] (e_hp M2 V2 W2) = some (.inl (some (.int z)), e_hp M3 V2 W2, 0, 0)) (hk : M3 184 0 = iI k) (hk2 : 0 ≤ k ∧ k ≤ 9) (hz : k = 0 → V2 202 0 = z.toInt64) (hr : e_lim L xs (d + 2) 331 3141 [some (.ref e_SCR), some (.ref 0), some (.ref 184), some (.ref 202), some (.ref 203), some (.int (iI i)), none, none, none] [] (e_hp M3 V2 W2) = some (x, h3, a3, b3)) : e_lim L xs (d + 2) 331 2541 [some (.ref e_SCR), some (.ref 0), some (.ref 184), some (.ref 202), some (.ref 203), some (.int (iI i)), none, none, none] [] (e_hp M V W) = some (x, h3, a + a3, b + b3) := by
  have ht := m_thrown (L := L) (xs := xs) (d := d + 1) (M := M3) (V := V2) (W := W2)
  rw [hk] at ht
  by_cases hq : k = 0
  · have hz2 := hz hq
    subst hq
    simp (disch := first | assumption | exact e_nk_i _ | exact e_nk_n | exact e_nk_r _ | exact e_bo_0 | exact e_bo_1 | exact e_bo_b _ | omega) only [Nat.reduceAdd, e_cl_v, e_cl_x, e_add_0, e_add_s, Option.toList_some, Option.toList_none, List.cons_append, List.nil_append, r331_2541, r331_2542, r331_2548, r331_2549, r331_2552, r331_2554, r331_2555, r331_2561, r331_2564, r331_2566, r331_2567, r331_2570, r331_2572, r331_2575, r331_2576, r331_2577, r331_2579, r331_2582, r331_2583, r331_2584, r331_2585, r331_2587, r331_2588, r331_2589, r331_2592, r331_2593, r331_2594, hw, hm, ht, eq_self, if_true, if_false, hz2, lg_self]
    refine (congrArg (e_add a b) (G_less ?_ hr)).trans rfl
    exact by repeat (first | exact e_ll.rf | refine e_ll_c ?_ | refine e_ll_x ?_)
  · have hne : ¬(iI k = iI 0) := fun h => hq ((iI_eq (by omega) (by omega)).mp h)
    simp (disch := first | assumption | exact e_nk_i _ | exact e_nk_n | exact e_nk_r _ | exact e_bo_0 | exact e_bo_1 | exact e_bo_b _ | omega) only [Nat.reduceAdd, e_cl_v, e_cl_x, e_add_0, e_add_s, Option.toList_some, Option.toList_none, List.cons_append, List.nil_append, r331_2541, r331_2542, r331_2548, r331_2549, r331_2552, r331_2554, r331_2555, r331_2561, r331_2564, r331_2566, r331_2567, r331_2570, r331_2572, r331_2575, r331_2576, r331_2577, r331_2579, r331_2582, r331_2583, r331_2584, r331_2585, r331_2587, r331_2588, r331_2589, r331_2592, r331_2593, r331_2594, hw, hm, ht, eq_self, if_true, if_false, hne]
    refine (congrArg (e_add a b) (G_less ?_ hr)).trans rfl
    exact by repeat (first | exact e_ll.rf | refine e_ll_c ?_ | refine e_ll_x ?_)
theorem lc40 (h0 : 0 ≤ i) (h1 : i + 5 < (L : Int)) (hL : L ≤ 3072) (hw : e_lim L xs (d + 1) 324 0 [some (.ref 0), some (.int (xs (i + 1).toNat)), some (.ref 202), none] [] (e_hp M V W) = some (.inl (some (.int (iI k))), e_hp M2 V2 W2, a, b)) (hm : e_lim L xs (d + 1) 274 0 [some (.ref 184), some (.int (xs (i + 1).toNat)), none] [] (e_hp M2 V2 W2) = some (.inl (some (.int z)), e_hp M3 V2 W2, 0, 0)) (hk : M3 184 0 = iI k) (hk2 : 0 ≤ k ∧ k ≤ 9) (hz : k = 0 → V2 202 0 = z.toInt64) (hr : e_lim L xs (d + 2) 331 3141 [some (.ref e_SCR), some (.ref 0), some (.ref 184), some (.ref 202), some (.ref 203), some (.int (iI i)), none, none, none] [] (e_hp M3 V2 W2) = some (x, h3, a3, b3)) : e_lim L xs (d + 2) 331 2597 [some (.ref e_SCR), some (.ref 0), some (.ref 184), some (.ref 202), some (.ref 203), some (.int (iI i)), none, none, none] [] (e_hp M V W) = some (x, h3, a + a3, b + b3) := by
  have ht := m_thrown (L := L) (xs := xs) (d := d + 1) (M := M3) (V := V2) (W := W2)
  rw [hk] at ht
  by_cases hq : k = 0
  · have hz2 := hz hq
    subst hq
    simp (disch := first | assumption | exact e_nk_i _ | exact e_nk_n | exact e_nk_r _ | exact e_bo_0 | exact e_bo_1 | exact e_bo_b _ | omega) only [Nat.reduceAdd, e_cl_v, e_cl_x, e_add_0, e_add_s, Option.toList_some, Option.toList_none, List.cons_append, List.nil_append, r331_2597, r331_2598, r331_2604, r331_2605, r331_2608, r331_2610, r331_2611, r331_2617, r331_2620, r331_2622, r331_2623, r331_2626, r331_2628, r331_2631, r331_2632, r331_2633, r331_2635, r331_2638, r331_2639, r331_2640, r331_2641, r331_2643, r331_2644, r331_2645, r331_2648, r331_2649, r331_2650, hw, hm, ht, eq_self, if_true, if_false, hz2, lg_self]
    refine (congrArg (e_add a b) (G_less ?_ hr)).trans rfl
    exact by repeat (first | exact e_ll.rf | refine e_ll_c ?_ | refine e_ll_x ?_)
  · have hne : ¬(iI k = iI 0) := fun h => hq ((iI_eq (by omega) (by omega)).mp h)
    simp (disch := first | assumption | exact e_nk_i _ | exact e_nk_n | exact e_nk_r _ | exact e_bo_0 | exact e_bo_1 | exact e_bo_b _ | omega) only [Nat.reduceAdd, e_cl_v, e_cl_x, e_add_0, e_add_s, Option.toList_some, Option.toList_none, List.cons_append, List.nil_append, r331_2597, r331_2598, r331_2604, r331_2605, r331_2608, r331_2610, r331_2611, r331_2617, r331_2620, r331_2622, r331_2623, r331_2626, r331_2628, r331_2631, r331_2632, r331_2633, r331_2635, r331_2638, r331_2639, r331_2640, r331_2641, r331_2643, r331_2644, r331_2645, r331_2648, r331_2649, r331_2650, hw, hm, ht, eq_self, if_true, if_false, hne]
    refine (congrArg (e_add a b) (G_less ?_ hr)).trans rfl
    exact by repeat (first | exact e_ll.rf | refine e_ll_c ?_ | refine e_ll_x ?_)
theorem lc41 (h0 : 0 ≤ i) (h1 : i + 5 < (L : Int)) (hL : L ≤ 3072) (hw : e_lim L xs (d + 1) 325 0 [some (.ref 0), some (.int (xs (i + 1).toNat)), some (.ref 202), none] [] (e_hp M V W) = some (.inl (some (.int (iI k))), e_hp M2 V2 W2, a, b)) (hm : e_lim L xs (d + 1) 275 0 [some (.ref 184), some (.int (xs (i + 1).toNat)), none, none] [] (e_hp M2 V2 W2) = some (.inl (some (.int z)), e_hp M3 V2 W2, 0, 0)) (hk : M3 184 0 = iI k) (hk2 : 0 ≤ k ∧ k ≤ 9) (hz : k = 0 → V2 202 0 = z.toInt64) (hr : e_lim L xs (d + 2) 331 3141 [some (.ref e_SCR), some (.ref 0), some (.ref 184), some (.ref 202), some (.ref 203), some (.int (iI i)), none, none, none] [] (e_hp M3 V2 W2) = some (x, h3, a3, b3)) : e_lim L xs (d + 2) 331 2653 [some (.ref e_SCR), some (.ref 0), some (.ref 184), some (.ref 202), some (.ref 203), some (.int (iI i)), none, none, none] [] (e_hp M V W) = some (x, h3, a + a3, b + b3) := by
  have ht := m_thrown (L := L) (xs := xs) (d := d + 1) (M := M3) (V := V2) (W := W2)
  rw [hk] at ht
  by_cases hq : k = 0
  · have hz2 := hz hq
    subst hq
    simp (disch := first | assumption | exact e_nk_i _ | exact e_nk_n | exact e_nk_r _ | exact e_bo_0 | exact e_bo_1 | exact e_bo_b _ | omega) only [Nat.reduceAdd, e_cl_v, e_cl_x, e_add_0, e_add_s, Option.toList_some, Option.toList_none, List.cons_append, List.nil_append, r331_2653, r331_2654, r331_2660, r331_2661, r331_2664, r331_2666, r331_2667, r331_2673, r331_2676, r331_2678, r331_2679, r331_2682, r331_2684, r331_2687, r331_2688, r331_2689, r331_2691, r331_2694, r331_2695, r331_2696, r331_2697, r331_2699, r331_2700, r331_2701, r331_2704, r331_2705, r331_2706, hw, hm, ht, eq_self, if_true, if_false, hz2, lg_self]
    refine (congrArg (e_add a b) (G_less ?_ hr)).trans rfl
    exact by repeat (first | exact e_ll.rf | refine e_ll_c ?_ | refine e_ll_x ?_)
  · have hne : ¬(iI k = iI 0) := fun h => hq ((iI_eq (by omega) (by omega)).mp h)
    simp (disch := first | assumption | exact e_nk_i _ | exact e_nk_n | exact e_nk_r _ | exact e_bo_0 | exact e_bo_1 | exact e_bo_b _ | omega) only [Nat.reduceAdd, e_cl_v, e_cl_x, e_add_0, e_add_s, Option.toList_some, Option.toList_none, List.cons_append, List.nil_append, r331_2653, r331_2654, r331_2660, r331_2661, r331_2664, r331_2666, r331_2667, r331_2673, r331_2676, r331_2678, r331_2679, r331_2682, r331_2684, r331_2687, r331_2688, r331_2689, r331_2691, r331_2694, r331_2695, r331_2696, r331_2697, r331_2699, r331_2700, r331_2701, r331_2704, r331_2705, r331_2706, hw, hm, ht, eq_self, if_true, if_false, hne]
    refine (congrArg (e_add a b) (G_less ?_ hr)).trans rfl
    exact by repeat (first | exact e_ll.rf | refine e_ll_c ?_ | refine e_ll_x ?_)
theorem lc42 (h0 : 0 ≤ i) (h1 : i + 5 < (L : Int)) (hL : L ≤ 3072) (hw : e_lim L xs (d + 1) 326 0 [some (.ref 0), some (.int (xs (i + 1).toNat)), some (.int (xs (i + 2).toNat)), some (.int (xs (i + 3).toNat)), some (.int (xs (i + 4).toNat)), some (.int (xs (i + 5).toNat)), some (.ref 202), none] [] (e_hp M V W) = some (.inl (some (.int (iI k))), e_hp M2 V2 W2, a, b)) (hm : e_lim L xs (d + 1) 278 0 [some (.ref 184), some (.int (xs (i + 1).toNat)), some (.int (xs (i + 2).toNat)), some (.int (xs (i + 3).toNat)), some (.int (xs (i + 4).toNat)), some (.int (xs (i + 5).toNat)), none] [] (e_hp M2 V2 W2) = some (.inl (some (.int z)), e_hp M3 V2 W2, 0, 0)) (hk : M3 184 0 = iI k) (hk2 : 0 ≤ k ∧ k ≤ 9) (hz : k = 0 → V2 202 0 = z.toInt64) (hr : e_lim L xs (d + 2) 331 3141 [some (.ref e_SCR), some (.ref 0), some (.ref 184), some (.ref 202), some (.ref 203), some (.int (iI i)), none, none, none] [] (e_hp M3 V2 W2) = some (x, h3, a3, b3)) : e_lim L xs (d + 2) 331 2709 [some (.ref e_SCR), some (.ref 0), some (.ref 184), some (.ref 202), some (.ref 203), some (.int (iI i)), none, none, none] [] (e_hp M V W) = some (x, h3, a + a3, b + b3) := by
  have ht := m_thrown (L := L) (xs := xs) (d := d + 1) (M := M3) (V := V2) (W := W2)
  rw [hk] at ht
  by_cases hq : k = 0
  · have hz2 := hz hq
    subst hq
    simp (disch := first | assumption | exact e_nk_i _ | exact e_nk_n | exact e_nk_r _ | exact e_bo_0 | exact e_bo_1 | exact e_bo_b _ | omega) only [Nat.reduceAdd, e_cl_v, e_cl_x, e_add_0, e_add_s, Option.toList_some, Option.toList_none, List.cons_append, List.nil_append, r331_2709, r331_2710, r331_2716, r331_2722, r331_2728, r331_2734, r331_2740, r331_2741, r331_2744, r331_2746, r331_2747, r331_2753, r331_2759, r331_2765, r331_2771, r331_2777, r331_2780, r331_2782, r331_2783, r331_2786, r331_2788, r331_2791, r331_2792, r331_2793, r331_2795, r331_2798, r331_2799, r331_2800, r331_2801, r331_2803, r331_2804, r331_2805, r331_2808, r331_2809, r331_2810, hw, hm, ht, eq_self, if_true, if_false, hz2, lg_self]
    refine (congrArg (e_add a b) (G_less ?_ hr)).trans rfl
    exact by repeat (first | exact e_ll.rf | refine e_ll_c ?_ | refine e_ll_x ?_)
  · have hne : ¬(iI k = iI 0) := fun h => hq ((iI_eq (by omega) (by omega)).mp h)
    simp (disch := first | assumption | exact e_nk_i _ | exact e_nk_n | exact e_nk_r _ | exact e_bo_0 | exact e_bo_1 | exact e_bo_b _ | omega) only [Nat.reduceAdd, e_cl_v, e_cl_x, e_add_0, e_add_s, Option.toList_some, Option.toList_none, List.cons_append, List.nil_append, r331_2709, r331_2710, r331_2716, r331_2722, r331_2728, r331_2734, r331_2740, r331_2741, r331_2744, r331_2746, r331_2747, r331_2753, r331_2759, r331_2765, r331_2771, r331_2777, r331_2780, r331_2782, r331_2783, r331_2786, r331_2788, r331_2791, r331_2792, r331_2793, r331_2795, r331_2798, r331_2799, r331_2800, r331_2801, r331_2803, r331_2804, r331_2805, r331_2808, r331_2809, r331_2810, hw, hm, ht, eq_self, if_true, if_false, hne]
    refine (congrArg (e_add a b) (G_less ?_ hr)).trans rfl
    exact by repeat (first | exact e_ll.rf | refine e_ll_c ?_ | refine e_ll_x ?_)
theorem lc43 (hw : e_lim L xs (d + 1) 150 0 [some (.ref 0), none] [] (e_hp M V W) = some (.inl (some (.int z)), e_hp M2 V2 W2, 0, 0)) (hm : e_lim L xs (d + 1) 279 0 [some (.ref 184), none] [] (e_hp M2 V2 W2) = some (.inl (some (.int z)), e_hp M3 V2 W2, 0, 0)) (hr : e_lim L xs (d + 2) 331 3141 [some (.ref e_SCR), some (.ref 0), some (.ref 184), some (.ref 202), some (.ref 203), some (.int (iI i)), none, none, none] [] (e_hp M3 V2 W2) = some (x, h3, a3, b3)) : e_lim L xs (d + 2) 331 2813 [some (.ref e_SCR), some (.ref 0), some (.ref 184), some (.ref 202), some (.ref 203), some (.int (iI i)), none, none, none] [] (e_hp M V W) = some (x, h3, a3, b3) := by
  simp (disch := first | assumption | exact e_nk_i _ | exact e_nk_n | exact e_nk_r _ | exact e_bo_0 | exact e_bo_1 | exact e_bo_b _ | omega) only [Nat.reduceAdd, e_cl_v, e_cl_x, e_add_0, e_add_s, Option.toList_some, Option.toList_none, List.cons_append, List.nil_append, r331_2813, r331_2814, r331_2817, r331_2818, r331_2821, r331_2824, r331_2825, hw, hm, eq_self, if_true]
  exact hr
theorem lc44 (h0 : 0 ≤ i) (h1 : i + 5 < (L : Int)) (hL : L ≤ 3072) (hw : e_lim L xs (d + 1) 327 0 [some (.ref 0), some (.ref 202), none] [] (e_hp M V W) = some (.inl (some (.int (iI k))), e_hp M2 V2 W2, a, b)) (hm : e_lim L xs (d + 1) 281 0 [some (.ref 184)] [] (e_hp M2 V2 W2) = some (.inl (some (.int z)), e_hp M3 V2 W2, 0, 0)) (hk : M3 184 0 = iI k) (hk2 : 0 ≤ k ∧ k ≤ 9) (hz : k = 0 → z = bI bb ∧ V2 202 0 = if bb = true then 1 else 0) (hr : e_lim L xs (d + 2) 331 3141 [some (.ref e_SCR), some (.ref 0), some (.ref 184), some (.ref 202), some (.ref 203), some (.int (iI i)), none, none, none] [] (e_hp M3 V2 W2) = some (x, h3, a3, b3)) : e_lim L xs (d + 2) 331 2826 [some (.ref e_SCR), some (.ref 0), some (.ref 184), some (.ref 202), some (.ref 203), some (.int (iI i)), none, none, none] [] (e_hp M V W) = some (x, h3, a + a3, b + b3) := by
  have ht := m_thrown (L := L) (xs := xs) (d := d + 1) (M := M3) (V := V2) (W := W2)
  rw [hk] at ht
  by_cases hq : k = 0
  · have hz2 := hz hq
    subst hq
    obtain ⟨hz3, hz4⟩ := hz2
    rw [hz3] at hm
    cases bb with
    | true =>
      rw [if_pos rfl] at hz4
      simp (disch := first | assumption | exact e_nk_i _ | exact e_nk_n | exact e_nk_r _ | exact e_bo_0 | exact e_bo_1 | exact e_bo_b _ | omega) only [Nat.reduceAdd, e_cl_v, e_cl_x, e_add_0, e_add_s, Option.toList_some, Option.toList_none, List.cons_append, List.nil_append, r331_2826, r331_2827, r331_2828, r331_2831, r331_2833, r331_2834, r331_2837, r331_2839, r331_2840, r331_2843, r331_2845, r331_2848, r331_2849, r331_2850, r331_2852, r331_2855, r331_2856, r331_2857, r331_2858, r331_2860, r331_2863, r331_2864, r331_2867, r331_2868, r331_2869, r331_2872, r331_2873, r331_2874, hw, hm, ht, eq_self, if_true, if_false, hz4, lg_self, bI_t0, bI_f0]
      refine (congrArg (e_add a b) (G_less ?_ hr)).trans rfl
      exact by repeat (first | exact e_ll.rf | refine e_ll_c ?_ | refine e_ll_x ?_)
    | false =>
      rw [if_neg (by decide)] at hz4
      simp (disch := first | assumption | exact e_nk_i _ | exact e_nk_n | exact e_nk_r _ | exact e_bo_0 | exact e_bo_1 | exact e_bo_b _ | omega) only [Nat.reduceAdd, e_cl_v, e_cl_x, e_add_0, e_add_s, Option.toList_some, Option.toList_none, List.cons_append, List.nil_append, r331_2826, r331_2827, r331_2828, r331_2831, r331_2833, r331_2834, r331_2837, r331_2839, r331_2840, r331_2843, r331_2845, r331_2848, r331_2849, r331_2850, r331_2852, r331_2855, r331_2856, r331_2857, r331_2858, r331_2860, r331_2863, r331_2864, r331_2867, r331_2868, r331_2869, r331_2872, r331_2873, r331_2874, hw, hm, ht, eq_self, if_true, if_false, hz4, lg_self, bI_t0, bI_f0]
      refine (congrArg (e_add a b) (G_less ?_ hr)).trans rfl
      exact by repeat (first | exact e_ll.rf | refine e_ll_c ?_ | refine e_ll_x ?_)
  · have hne : ¬(iI k = iI 0) := fun h => hq ((iI_eq (by omega) (by omega)).mp h)
    simp (disch := first | assumption | exact e_nk_i _ | exact e_nk_n | exact e_nk_r _ | exact e_bo_0 | exact e_bo_1 | exact e_bo_b _ | omega) only [Nat.reduceAdd, e_cl_v, e_cl_x, e_add_0, e_add_s, Option.toList_some, Option.toList_none, List.cons_append, List.nil_append, r331_2826, r331_2827, r331_2828, r331_2831, r331_2833, r331_2834, r331_2837, r331_2839, r331_2840, r331_2843, r331_2845, r331_2848, r331_2849, r331_2850, r331_2852, r331_2855, r331_2856, r331_2857, r331_2858, r331_2860, r331_2863, r331_2864, r331_2867, r331_2868, r331_2869, r331_2872, r331_2873, r331_2874, hw, hm, ht, eq_self, if_true, if_false, hne]
    refine (congrArg (e_add a b) (G_less ?_ hr)).trans rfl
    exact by repeat (first | exact e_ll.rf | refine e_ll_c ?_ | refine e_ll_x ?_)
theorem lc45 (hw : e_lim L xs (d + 1) 152 0 [some (.ref 0)] [] (e_hp M V W) = some (.inl (some (.int z)), e_hp M2 V2 W2, 0, 0)) (hm : e_lim L xs (d + 1) 282 0 [some (.ref 184)] [] (e_hp M2 V2 W2) = some (.inl (some (.int z)), e_hp M3 V2 W2, 0, 0)) (hr : e_lim L xs (d + 2) 331 3141 [some (.ref e_SCR), some (.ref 0), some (.ref 184), some (.ref 202), some (.ref 203), some (.int (iI i)), none, none, none] [] (e_hp M3 V2 W2) = some (x, h3, a3, b3)) : e_lim L xs (d + 2) 331 2877 [some (.ref e_SCR), some (.ref 0), some (.ref 184), some (.ref 202), some (.ref 203), some (.int (iI i)), none, none, none] [] (e_hp M V W) = some (x, h3, a3, b3) := by
  simp (disch := first | assumption | exact e_nk_i _ | exact e_nk_n | exact e_nk_r _ | exact e_bo_0 | exact e_bo_1 | exact e_bo_b _ | omega) only [Nat.reduceAdd, e_cl_v, e_cl_x, e_add_0, e_add_s, Option.toList_some, Option.toList_none, List.cons_append, List.nil_append, r331_2877, r331_2878, r331_2881, r331_2882, r331_2885, r331_2888, r331_2889, hw, hm, eq_self, if_true]
  exact hr
theorem lc46 (hw : e_lim L xs (d + 1) 153 0 [some (.ref 0)] [] (e_hp M V W) = some (.inl (some (.int z)), e_hp M2 V2 W2, 0, 0)) (hm : e_lim L xs (d + 1) 283 0 [some (.ref 184), none] [] (e_hp M2 V2 W2) = some (.inl (some (.int z)), e_hp M3 V2 W2, 0, 0)) (hr : e_lim L xs (d + 2) 331 3141 [some (.ref e_SCR), some (.ref 0), some (.ref 184), some (.ref 202), some (.ref 203), some (.int (iI i)), none, none, none] [] (e_hp M3 V2 W2) = some (x, h3, a3, b3)) : e_lim L xs (d + 2) 331 2890 [some (.ref e_SCR), some (.ref 0), some (.ref 184), some (.ref 202), some (.ref 203), some (.int (iI i)), none, none, none] [] (e_hp M V W) = some (x, h3, a3, b3) := by
  simp (disch := first | assumption | exact e_nk_i _ | exact e_nk_n | exact e_nk_r _ | exact e_bo_0 | exact e_bo_1 | exact e_bo_b _ | omega) only [Nat.reduceAdd, e_cl_v, e_cl_x, e_add_0, e_add_s, Option.toList_some, Option.toList_none, List.cons_append, List.nil_append, r331_2890, r331_2891, r331_2894, r331_2895, r331_2898, r331_2901, r331_2902, hw, hm, eq_self, if_true]
  exact hr
theorem lc47 (h0 : 0 ≤ i) (h1 : i + 5 < (L : Int)) (hL : L ≤ 3072) (hw : e_lim L xs (d + 1) 328 0 [some (.ref 0), some (.int (xs (i + 1).toNat)), some (.ref 202), none] [] (e_hp M V W) = some (.inl (some (.int (iI k))), e_hp M2 V2 W2, a, b)) (hm : e_lim L xs (d + 1) 284 0 [some (.ref 184), some (.int (xs (i + 1).toNat))] [] (e_hp M2 V2 W2) = some (.inl (some (.int z)), e_hp M3 V2 W2, 0, 0)) (hk : M3 184 0 = iI k) (hk2 : 0 ≤ k ∧ k ≤ 9) (hz : k = 0 → V2 202 0 = z.toInt64) (hr : e_lim L xs (d + 2) 331 3141 [some (.ref e_SCR), some (.ref 0), some (.ref 184), some (.ref 202), some (.ref 203), some (.int (iI i)), none, none, none] [] (e_hp M3 V2 W2) = some (x, h3, a3, b3)) : e_lim L xs (d + 2) 331 2903 [some (.ref e_SCR), some (.ref 0), some (.ref 184), some (.ref 202), some (.ref 203), some (.int (iI i)), none, none, none] [] (e_hp M V W) = some (x, h3, a + a3, b + b3) := by
  have ht := m_thrown (L := L) (xs := xs) (d := d + 1) (M := M3) (V := V2) (W := W2)
  rw [hk] at ht
  by_cases hq : k = 0
  · have hz2 := hz hq
    subst hq
    simp (disch := first | assumption | exact e_nk_i _ | exact e_nk_n | exact e_nk_r _ | exact e_bo_0 | exact e_bo_1 | exact e_bo_b _ | omega) only [Nat.reduceAdd, e_cl_v, e_cl_x, e_add_0, e_add_s, Option.toList_some, Option.toList_none, List.cons_append, List.nil_append, r331_2903, r331_2904, r331_2910, r331_2911, r331_2914, r331_2916, r331_2917, r331_2923, r331_2926, r331_2928, r331_2929, r331_2932, r331_2934, r331_2937, r331_2938, r331_2939, r331_2941, r331_2944, r331_2945, r331_2946, r331_2947, r331_2949, r331_2950, r331_2951, r331_2954, r331_2955, r331_2956, hw, hm, ht, eq_self, if_true, if_false, hz2, lg_self]
    refine (congrArg (e_add a b) (G_less ?_ hr)).trans rfl
    exact by repeat (first | exact e_ll.rf | refine e_ll_c ?_ | refine e_ll_x ?_)
  · have hne : ¬(iI k = iI 0) := fun h => hq ((iI_eq (by omega) (by omega)).mp h)
    simp (disch := first | assumption | exact e_nk_i _ | exact e_nk_n | exact e_nk_r _ | exact e_bo_0 | exact e_bo_1 | exact e_bo_b _ | omega) only [Nat.reduceAdd, e_cl_v, e_cl_x, e_add_0, e_add_s, Option.toList_some, Option.toList_none, List.cons_append, List.nil_append, r331_2903, r331_2904, r331_2910, r331_2911, r331_2914, r331_2916, r331_2917, r331_2923, r331_2926, r331_2928, r331_2929, r331_2932, r331_2934, r331_2937, r331_2938, r331_2939, r331_2941, r331_2944, r331_2945, r331_2946, r331_2947, r331_2949, r331_2950, r331_2951, r331_2954, r331_2955, r331_2956, hw, hm, ht, eq_self, if_true, if_false, hne]
    refine (congrArg (e_add a b) (G_less ?_ hr)).trans rfl
    exact by repeat (first | exact e_ll.rf | refine e_ll_c ?_ | refine e_ll_x ?_)
theorem lc48 (hw : e_lim L xs (d + 1) 155 0 [some (.ref 0), none] [] (e_hp M V W) = some (.inl (some (.int z)), e_hp M2 V2 W2, 0, 0)) (hm : e_lim L xs (d + 1) 182 0 [some (.ref 184), none] [] (e_hp M2 V2 W2) = some (.inl (some (.int z)), e_hp M3 V2 W2, 0, 0)) (hr : e_lim L xs (d + 2) 331 3141 [some (.ref e_SCR), some (.ref 0), some (.ref 184), some (.ref 202), some (.ref 203), some (.int (iI i)), none, none, none] [] (e_hp M3 V2 W2) = some (x, h3, a3, b3)) : e_lim L xs (d + 2) 331 2959 [some (.ref e_SCR), some (.ref 0), some (.ref 184), some (.ref 202), some (.ref 203), some (.int (iI i)), none, none, none] [] (e_hp M V W) = some (x, h3, a3, b3) := by
  simp (disch := first | assumption | exact e_nk_i _ | exact e_nk_n | exact e_nk_r _ | exact e_bo_0 | exact e_bo_1 | exact e_bo_b _ | omega) only [Nat.reduceAdd, e_cl_v, e_cl_x, e_add_0, e_add_s, Option.toList_some, Option.toList_none, List.cons_append, List.nil_append, r331_2959, r331_2960, r331_2963, r331_2964, r331_2967, r331_2970, r331_2971, hw, hm, eq_self, if_true]
  exact hr
theorem lc49 (hw : e_lim L xs (d + 1) 156 0 [some (.ref 0), none, none] [] (e_hp M V W) = some (.inl (some (.int z)), e_hp M2 V2 W2, 0, 0)) (hm : e_lim L xs (d + 1) 285 0 [some (.ref 184), none, none, none] [] (e_hp M2 V2 W2) = some (.inl (some (.int z)), e_hp M3 V2 W2, 0, 0)) (hr : e_lim L xs (d + 2) 331 3141 [some (.ref e_SCR), some (.ref 0), some (.ref 184), some (.ref 202), some (.ref 203), some (.int (iI i)), none, none, none] [] (e_hp M3 V2 W2) = some (x, h3, a3, b3)) : e_lim L xs (d + 2) 331 2972 [some (.ref e_SCR), some (.ref 0), some (.ref 184), some (.ref 202), some (.ref 203), some (.int (iI i)), none, none, none] [] (e_hp M V W) = some (x, h3, a3, b3) := by
  simp (disch := first | assumption | exact e_nk_i _ | exact e_nk_n | exact e_nk_r _ | exact e_bo_0 | exact e_bo_1 | exact e_bo_b _ | omega) only [Nat.reduceAdd, e_cl_v, e_cl_x, e_add_0, e_add_s, Option.toList_some, Option.toList_none, List.cons_append, List.nil_append, r331_2972, r331_2973, r331_2976, r331_2977, r331_2980, r331_2983, r331_2984, hw, hm, eq_self, if_true]
  exact hr
theorem lc50 (h0 : 0 ≤ i) (h1 : i + 5 < (L : Int)) (hL : L ≤ 3072) (hw : e_lim L xs (d + 1) 329 0 [some (.ref 0), some (.ref 203), none] [] (e_hp M V W) = some (.inl (some (.int (iI k))), e_hp M2 V2 W2, a, b)) (hm : e_lim L xs (d + 1) 286 0 [some (.ref 184), none, none] [] (e_hp M2 V2 W2) = some (.inl (some (.double u8)), e_hp M3 V2 W2, 0, 0)) (hk : M3 184 0 = iI k) (hk2 : 0 ≤ k ∧ k ≤ 9) (hz : k = 0 → W2 203 0 = u8) (hr : e_lim L xs (d + 2) 331 3141 [some (.ref e_SCR), some (.ref 0), some (.ref 184), some (.ref 202), some (.ref 203), some (.int (iI i)), none, none, none] [] (e_hp M3 V2 W2) = some (x, h3, a3, b3)) : e_lim L xs (d + 2) 331 2985 [some (.ref e_SCR), some (.ref 0), some (.ref 184), some (.ref 202), some (.ref 203), some (.int (iI i)), none, none, none] [] (e_hp M V W) = some (x, h3, a + a3, b + b3) := by
  have ht := m_thrown (L := L) (xs := xs) (d := d + 1) (M := M3) (V := V2) (W := W2)
  rw [hk] at ht
  by_cases hq : k = 0
  · have hz2 := hz hq
    subst hq
    by_cases hc : Op.cmpValue (FP.dcmp u8 u8) .l = iI 0
    · skip
      simp (disch := first | assumption | exact e_nk_i _ | exact e_nk_n | exact e_nk_r _ | exact e_bo_0 | exact e_bo_1 | exact e_bo_b _ | omega) only [Nat.reduceAdd, e_cl_v, e_cl_x, e_add_0, e_add_s, Option.toList_some, Option.toList_none, List.cons_append, List.nil_append, r331_2985, r331_2986, r331_2988, r331_2991, r331_2993, r331_2994, r331_2997, r331_2999, r331_3000, r331_3003, r331_3005, r331_3008, r331_3009, r331_3010, r331_3012, r331_3015, r331_3017, r331_3018, r331_3019, r331_3021, r331_3022, r331_3025, r331_3027, r331_3028, r331_3029, r331_3031, r331_3032, r331_3033, r331_3034, r331_3037, r331_3039, r331_3041, r331_3042, r331_3045, r331_3046, r331_3047, hw, hm, ht, eq_self, if_true, if_false, hz2, hc]
      refine (congrArg (e_add a b) (G_less ?_ hr)).trans rfl
      exact by repeat (first | exact e_ll.rf | refine e_ll_c ?_ | refine e_ll_x ?_)
    · skip
      simp (disch := first | assumption | exact e_nk_i _ | exact e_nk_n | exact e_nk_r _ | exact e_bo_0 | exact e_bo_1 | exact e_bo_b _ | omega) only [Nat.reduceAdd, e_cl_v, e_cl_x, e_add_0, e_add_s, Option.toList_some, Option.toList_none, List.cons_append, List.nil_append, r331_2985, r331_2986, r331_2988, r331_2991, r331_2993, r331_2994, r331_2997, r331_2999, r331_3000, r331_3003, r331_3005, r331_3008, r331_3009, r331_3010, r331_3012, r331_3015, r331_3017, r331_3018, r331_3019, r331_3021, r331_3022, r331_3025, r331_3027, r331_3028, r331_3029, r331_3031, r331_3032, r331_3033, r331_3034, r331_3037, r331_3039, r331_3041, r331_3042, r331_3045, r331_3046, r331_3047, hw, hm, ht, eq_self, if_true, if_false, hz2, hc]
      refine (congrArg (e_add a b) (G_less ?_ hr)).trans rfl
      exact by repeat (first | exact e_ll.rf | refine e_ll_c ?_ | refine e_ll_x ?_)
  · have hne : ¬(iI k = iI 0) := fun h => hq ((iI_eq (by omega) (by omega)).mp h)
    simp (disch := first | assumption | exact e_nk_i _ | exact e_nk_n | exact e_nk_r _ | exact e_bo_0 | exact e_bo_1 | exact e_bo_b _ | omega) only [Nat.reduceAdd, e_cl_v, e_cl_x, e_add_0, e_add_s, Option.toList_some, Option.toList_none, List.cons_append, List.nil_append, r331_2985, r331_2986, r331_2988, r331_2991, r331_2993, r331_2994, r331_2997, r331_2999, r331_3000, r331_3003, r331_3005, r331_3008, r331_3009, r331_3010, r331_3012, r331_3015, r331_3017, r331_3018, r331_3019, r331_3021, r331_3022, r331_3025, r331_3027, r331_3028, r331_3029, r331_3031, r331_3032, r331_3033, r331_3034, r331_3037, r331_3039, r331_3041, r331_3042, r331_3045, r331_3046, r331_3047, hw, hm, ht, eq_self, if_true, if_false, hne]
    refine (congrArg (e_add a b) (G_less ?_ hr)).trans rfl
    exact by repeat (first | exact e_ll.rf | refine e_ll_c ?_ | refine e_ll_x ?_)
theorem lc51 (h0 : 0 ≤ i) (h1 : i + 5 < (L : Int)) (hL : L ≤ 3072) (hw : e_lim L xs (d + 1) 330 0 [some (.ref 0), some (.int (xs (i + 1).toNat)), some (.ref 203), none] [] (e_hp M V W) = some (.inl (some (.int (iI k))), e_hp M2 V2 W2, a, b)) (hm : e_lim L xs (d + 1) 287 0 [some (.ref 184), some (.int (xs (i + 1).toNat))] [] (e_hp M2 V2 W2) = some (.inl (some (.float u4)), e_hp M3 V2 W2, 0, 0)) (hk : M3 184 0 = iI k) (hk2 : 0 ≤ k ∧ k ≤ 9) (hz : k = 0 → W2 203 0 = FP.f2d u4 ∧ FP.f2d u4 &&& 0x7fffffffffffffff ≤ 0x7ff0000000000000) (hr : e_lim L xs (d + 2) 331 3141 [some (.ref e_SCR), some (.ref 0), some (.ref 184), some (.ref 202), some (.ref 203), some (.int (iI i)), none, none, none] [] (e_hp M3 V2 W2) = some (x, h3, a3, b3)) : e_lim L xs (d + 2) 331 3050 [some (.ref e_SCR), some (.ref 0), some (.ref 184), some (.ref 202), some (.ref 203), some (.int (iI i)), none, none, none] [] (e_hp M V W) = some (x, h3, a + a3, b + b3) := by
  have ht := m_thrown (L := L) (xs := xs) (d := d + 1) (M := M3) (V := V2) (W := W2)
  rw [hk] at ht
  by_cases hq : k = 0
  · have hz2 := hz hq
    subst hq
    have hc := dcmp_self hz2.2
    have hn := hz2.2
    have hz4 := hz2.1
    simp (disch := first | assumption | exact e_nk_i _ | exact e_nk_n | exact e_nk_r _ | exact e_bo_0 | exact e_bo_1 | exact e_bo_b _ | omega) only [Nat.reduceAdd, e_cl_v, e_cl_x, e_add_0, e_add_s, Option.toList_some, Option.toList_none, List.cons_append, List.nil_append, r331_3050, r331_3051, r331_3057, r331_3059, r331_3062, r331_3064, r331_3065, r331_3071, r331_3074, r331_3076, r331_3077, r331_3080, r331_3082, r331_3085, r331_3086, r331_3087, r331_3089, r331_3092, r331_3094, r331_3095, r331_3096, r331_3098, r331_3099, r331_3100, r331_3103, r331_3105, r331_3106, r331_3107, r331_3109, r331_3110, r331_3111, r331_3112, r331_3115, r331_3117, r331_3119, r331_3120, r331_3123, r331_3124, r331_3125, hw, hm, ht, eq_self, if_true, if_false, hz4, hc]
    refine (congrArg (e_add a b) (G_less ?_ hr)).trans rfl
    exact by repeat (first | exact e_ll.rf | refine e_ll_c ?_ | refine e_ll_x ?_)
  · have hne : ¬(iI k = iI 0) := fun h => hq ((iI_eq (by omega) (by omega)).mp h)
    simp (disch := first | assumption | exact e_nk_i _ | exact e_nk_n | exact e_nk_r _ | exact e_bo_0 | exact e_bo_1 | exact e_bo_b _ | omega) only [Nat.reduceAdd, e_cl_v, e_cl_x, e_add_0, e_add_s, Option.toList_some, Option.toList_none, List.cons_append, List.nil_append, r331_3050, r331_3051, r331_3057, r331_3059, r331_3062, r331_3064, r331_3065, r331_3071, r331_3074, r331_3076, r331_3077, r331_3080, r331_3082, r331_3085, r331_3086, r331_3087, r331_3089, r331_3092, r331_3094, r331_3095, r331_3096, r331_3098, r331_3099, r331_3100, r331_3103, r331_3105, r331_3106, r331_3107, r331_3109, r331_3110, r331_3111, r331_3112, r331_3115, r331_3117, r331_3119, r331_3120, r331_3123, r331_3124, r331_3125, hw, hm, ht, eq_self, if_true, if_false, hne]
    refine (congrArg (e_add a b) (G_less ?_ hr)).trans rfl
    exact by repeat (first | exact e_ll.rf | refine e_ll_c ?_ | refine e_ll_x ?_)
theorem lc52 (hw : e_lim L xs (d + 1) 159 0 [some (.ref 0), none] [] (e_hp M V W) = some (.inl (some (.int z)), e_hp M2 V2 W2, 0, 0)) (hm : e_lim L xs (d + 1) 288 0 [some (.ref 184)] [] (e_hp M2 V2 W2) = some (.inl (some (.int z)), e_hp M3 V2 W2, 0, 0)) (hr : e_lim L xs (d + 2) 331 3141 [some (.ref e_SCR), some (.ref 0), some (.ref 184), some (.ref 202), some (.ref 203), some (.int (iI i)), none, none, none] [] (e_hp M3 V2 W2) = some (x, h3, a3, b3)) : e_lim L xs (d + 2) 331 3128 [some (.ref e_SCR), some (.ref 0), some (.ref 184), some (.ref 202), some (.ref 203), some (.int (iI i)), none, none, none] [] (e_hp M V W) = some (x, h3, a3, b3) := by
  simp (disch := first | assumption | exact e_nk_i _ | exact e_nk_n | exact e_nk_r _ | exact e_bo_0 | exact e_bo_1 | exact e_bo_b _ | omega) only [Nat.reduceAdd, e_cl_v, e_cl_x, e_add_0, e_add_s, Option.toList_some, Option.toList_none, List.cons_append, List.nil_append, r331_3128, r331_3129, r331_3132, r331_3133, r331_3136, r331_3139, r331_3140, hw, hm, eq_self, if_true]
  exact hr
end El7
