section E73
variable {L : Nat} {xs : Nat → Int32} {d : Nat} {M M2 M3 : e_MI} {V : e_ML} {W : e_MD} {K : e_St} {h : e_H} {S : Int → e_St} {c : Int} {ρ ω β ε τ T U : Int → Int}
/-! the tape, the text -/
theorem and255 (x : Int32) : 0 ≤ (x &&& iI 255).toInt ∧ (x &&& iI 255).toInt ≤ 255 := by
  have hn : (x.toBitVec &&& 255#32).toNat ≤ 255 := by
    rw [BitVec.toNat_and]
    exact Nat.and_le_right
  have h1 : (x &&& iI 255).toInt = ((x.toBitVec &&& 255#32).toNat : Int) := by
    show (x.toBitVec &&& 255#32).toInt = _
    rw [BitVec.toInt_eq_toNat_of_lt (by omega)]
  omega
/-- a byte as a whole number -/
def bV (x : Int32) (s : Int) : Int := (bB x s).toInt
theorem bV_rg (x : Int32) (s : Int) : 0 ≤ bV x s ∧ bV x s ≤ 255 := and255 _
theorem bV_i (x : Int32) (s : Int) : iI (bV x s) = bB x s := by
  unfold bV iI
  exact Int32.ofInt_toInt _
theorem bC_rg (x : Int32) (s : Int) : 0 ≤ bC x s ∧ bC x s ≤ 1 := by
  unfold bC
  split <;> omega
theorem nB_rg (x : Int32) : 0 ≤ nB x ∧ nB x ≤ 4 := by
  have h1 := bC_rg x 0
  have h2 := bC_rg x 8
  have h3 := bC_rg x 16
  have h4 := bC_rg x 24
  unfold nB
  omega
/-- a byte comes onto the tape -/
def tb1 (x : Int32) (s : Int × (Int → Int)) (sh : Int) : Int × (Int → Int) := if bC x sh = 0 then s else (s.1 + 1, uI s.2 s.1 (bV x sh))
def tbX (x : Int32) (s : Int × (Int → Int)) : Int × (Int → Int) := tb1 x (tb1 x (tb1 x (tb1 x s 24) 16) 8) 0
theorem tb1_n (x : Int32) (s : Int × (Int → Int)) (sh : Int) : (tb1 x s sh).1 = s.1 + bC x sh := by
  unfold tb1
  by_cases h : bC x sh = 0
  · rw [if_pos h]
    omega
  · rw [if_neg h]
    have := bC_rg x sh
    show s.1 + 1 = _
    omega
theorem tbX_n (x : Int32) (s : Int × (Int → Int)) : (tbX x s).1 = s.1 + nB x := by
  unfold tbX nB
  rw [tb1_n, tb1_n, tb1_n, tb1_n]
  omega
/-- what a tape holds -/
def tpO (s : Int × (Int → Int)) : Prop := 0 ≤ s.1 ∧ ∀ j, 0 ≤ j → j < s.1 → 1 ≤ s.2 j ∧ s.2 j ≤ 255
theorem tb1_o {x : Int32} {s : Int × (Int → Int)} (hs : tpO s) (sh : Int) : tpO (tb1 x s sh) := by
  have hb := bC_rg x sh
  refine ⟨by rw [tb1_n]; have := hs.1; omega, fun j a b => ?_⟩
  rw [tb1_n] at b
  unfold tb1
  by_cases h : bC x sh = 0
  · rw [if_pos h]
    exact hs.2 j a (by omega)
  · rw [if_neg h]
    show 1 ≤ uI s.2 s.1 (bV x sh) j ∧ uI s.2 s.1 (bV x sh) j ≤ 255
    unfold uI
    split
    · have hv := bV_rg x sh
      refine ⟨?_, hv.2⟩
      by_cases hz : bV x sh = 0
      · exact absurd (by
          unfold bC
          rw [← bV_i, hz]
          exact if_pos rfl) h
      · omega
    · exact hs.2 j a (by omega)
theorem tbX_o {x : Int32} {s : Int × (Int → Int)} (hs : tpO s) : tpO (tbX x s) := tb1_o (tb1_o (tb1_o (tb1_o hs 24) 16) 8) 0
/-- only the tape changes -/
def frX (M M2 : e_MI) : Prop := (∀ a, a ≠ 184 → a ≠ 199 → M2 a = M a) ∧ ∀ j, j ≠ 22 → M2 184 j = M 184 j
theorem frX.rf (M : e_MI) : frX M M := ⟨fun _ _ _ => rfl, fun _ _ => rfl⟩
theorem frX.t (h : frX M M2) (h2 : frX M2 M3) : frX M M3 := ⟨fun a x y => by rw [h2.1 a x y, h.1 a x y], fun j x => by rw [h2.2 j x, h.2 j x]⟩
theorem mm_tbSeg {x : Int32} {sh : Int} (hs : 0 ≤ sh ∧ sh < 32) {s : Int × (Int → Int)} {l3 : Option Value} (hz : M 184 22 = iI s.1) (h0 : 0 ≤ s.1) (hT : e_ar (M 199) s.1 s.2) (hl : s.1 + bC x sh ≤ 60) : ∃ M2 : e_MI, e_lim L xs d 277 3 [some (.ref 184), some (.int x), some (.int (iI sh)), l3] [] (e_hp M V W) = e_lim L xs d 277 3 [some (.ref 184), some (.int x), some (.int (iI (sh - 8))), some (.int (bB x sh))] [] (e_hp M2 V W) ∧ M2 184 22 = iI (tb1 x s sh).1 ∧ e_ar (M2 199) (tb1 x s sh).1 (tb1 x s sh).2 ∧ frX M M2 := by
  have hb : bC x sh = if bB x sh = iI 0 then 0 else 1 := rfl
  by_cases hq : bB x sh = iI 0
  · rw [if_pos hq] at hb
    refine ⟨M, ?_, ?_, ?_, frX.rf M⟩
    · rw [r277_3]
      simp (disch := first | assumption | exact e_nk_i _ | exact e_nk_n | exact e_nk_r _ | exact e_bo_0 | exact e_bo_1 | exact e_bo_b _ | omega) only [e_cl_v, e_cl_x, e_add_0, e_add_s, Option.toList_some, Option.toList_none, List.cons_append, List.nil_append, iI_add, iI_sub, iI_mul, iI_lt, iI_eq, iI_le, r277_4, r277_7, r277_8, r277_9, r277_10, r277_13, r277_14, r277_15, r277_16, r277_19, r277_22, r277_23, r277_26, r277_27, r277_30, r277_31, r277_32, r277_33, r277_34, r277_37, r277_38, r277_39, r277_42, r277_45]
      rw [if_neg (by omega)]
      show (if bB x sh = iI 0 then _ else _) = _
      rw [if_pos hq]
      unfold bB
      rfl
    · unfold tb1
      rw [if_pos hb]
      exact hz
    · unfold tb1
      rw [if_pos hb]
      exact hT
  · rw [if_neg hq] at hb
    refine ⟨e_u (e_u M 199 (upd (M 199) s.1.toNat (bB x sh))) 184 (upd (M 184) 22 (iI (s.1 + 1))), ?_, ?_, ?_, ⟨fun a x y => by rw [e_u_n _ _ x, e_u_n _ _ y], fun j x => by rw [e_u_s, upd_n _ _ x]⟩⟩
    · rw [r277_3]
      simp (disch := first | assumption | exact e_nk_i _ | exact e_nk_n | exact e_nk_r _ | exact e_bo_0 | exact e_bo_1 | exact e_bo_b _ | omega) only [e_cl_v, e_cl_x, e_add_0, e_add_s, Option.toList_some, Option.toList_none, List.cons_append, List.nil_append, iI_add, iI_sub, iI_mul, iI_lt, iI_eq, iI_le, r277_4, r277_7, r277_8, r277_9, r277_10, r277_13, r277_14, r277_15, r277_16, r277_19, r277_22, r277_23, r277_26, r277_27, r277_30, r277_31, r277_32, r277_33, r277_34, r277_37, r277_38, r277_39, r277_42, r277_45, iI_vin, iI_nat, if_true, hz, e_u_n]
      rw [if_neg (by omega)]
      show (if bB x sh = iI 0 then _ else _) = _
      rw [if_neg hq]
      unfold bB
      rfl
    · rw [e_u_s, upd_s, tb1_n, hb]
    · rw [e_u_n _ _ (by decide), e_u_s]
      unfold tb1
      rw [if_neg (by omega), ← bV_i]
      exact hT.more h0
theorem mm_takesBytes {x : Int32} {s : Int × (Int → Int)} (hz : M 184 22 = iI s.1) (hs : tpO s) (hT : e_ar (M 199) s.1 s.2) (hl : s.1 + nB x ≤ 60) : ∃ M2 : e_MI, e_lim L xs d 277 0 [some (.ref 184), some (.int x), none, none] [] (e_hp M V W) = some (.inl none, e_hp M2 V W, 0, 0) ∧ M2 184 22 = iI (tbX x s).1 ∧ e_ar (M2 199) (tbX x s).1 (tbX x s).2 ∧ frX M M2 := by
  have b0 := bC_rg x 0
  have b1 := bC_rg x 8
  have b2 := bC_rg x 16
  have b3 := bC_rg x 24
  unfold nB at hl
  have n1 := tb1_n x s 24
  have n2 := tb1_n x (tb1 x s 24) 16
  have n3 := tb1_n x (tb1 x (tb1 x s 24) 16) 8
  have o1 := tb1_o (x := x) hs 24
  have o2 := tb1_o (x := x) o1 16
  have o3 := tb1_o (x := x) o2 8
  obtain ⟨M2, e2, z2, T2, F2⟩ := mm_tbSeg (L := L) (xs := xs) (d := d) (V := V) (W := W) (x := x) (sh := 24) (by omega) (l3 := none) hz hs.1 hT (by omega)
  obtain ⟨M3, e3, z3, T3, F3⟩ := mm_tbSeg (L := L) (xs := xs) (d := d) (V := V) (W := W) (x := x) (sh := 24 - 8) (by omega) (l3 := some (.int (bB x 24))) z2 o1.1 T2 (by show _ + bC x 16 ≤ 60; omega)
  obtain ⟨M4, e4, z4, T4, F4⟩ := mm_tbSeg (L := L) (xs := xs) (d := d) (V := V) (W := W) (x := x) (sh := 24 - 8 - 8) (by omega) (l3 := some (.int (bB x (24 - 8)))) z3 o2.1 T3 (by show (tb1 x (tb1 x s 24) 16).1 + bC x 8 ≤ 60; omega)
  obtain ⟨M5, e5, z5, T5, F5⟩ := mm_tbSeg (L := L) (xs := xs) (d := d) (V := V) (W := W) (x := x) (sh := 24 - 8 - 8 - 8) (by omega) (l3 := some (.int (bB x (24 - 8 - 8)))) z4 o3.1 T4 (by show (tb1 x (tb1 x (tb1 x s 24) 16) 8).1 + bC x 0 ≤ 60; omega)
  refine ⟨M5, ?_, z5, T5, ((F2.t F3).t F4).t F5⟩
  simp (disch := first | assumption | exact e_nk_i _ | exact e_nk_n | exact e_nk_r _ | exact e_bo_0 | exact e_bo_1 | exact e_bo_b _ | omega) only [e_cl_v, e_cl_x, e_add_0, e_add_s, Option.toList_some, Option.toList_none, List.cons_append, List.nil_append, iI_add, iI_sub, iI_mul, iI_lt, iI_eq, iI_le, r277_0, r277_2]
  rw [e2, e3, e4, e5, r277_3]
  simp (disch := first | assumption | exact e_nk_i _ | exact e_nk_n | exact e_nk_r _ | exact e_bo_0 | exact e_bo_1 | exact e_bo_b _ | omega) only [e_cl_v, e_cl_x, e_add_0, e_add_s, Option.toList_some, Option.toList_none, List.cons_append, List.nil_append, iI_add, iI_sub, iI_mul, iI_lt, iI_eq, iI_le, r277_4, r277_48]
  rw [if_pos (by omega)]
end E73
