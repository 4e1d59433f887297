section Ec02
variable {L : Nat} {xs : Nat → Int32} {d : Nat} {M M2 M3 : e_MI} {V : e_ML} {W : e_MD} {K : e_St} {h : e_H} {s a n : Nat} {o j w z m k q p i f t : Int}
theorem zAN_s (p : Int → Bool) {n : Int} (hn : 0 ≤ n) : zAN p (n + 1) = (zAN p n || p n) := by
  apply bool_eq
  rw [Bool.or_eq_true, zAN_iff (by omega), zAN_iff hn]
  constructor
  · rintro ⟨j, a, b, c⟩
    by_cases hj : j = n
    · rw [hj] at c; exact Or.inr c
    · exact Or.inl ⟨j, a, by omega, c⟩
  · rintro (⟨j, a, b, c⟩ | c)
    · exact ⟨j, a, by omega, c⟩
    · exact ⟨n, hn, by omega, c⟩
/-- whether a shift has fewer workers than there are machines -/
def scK (K : e_St) : Bool := zAN (fun i => decide (K (238 + i) < 4)) 3
theorem s_isShort (H : SH M 1 K) (hr : kR K) : e_lim L xs d 41 0 [some (.ref 1), none, none] [] (e_hp M V W) = some (.inl (some (.int (bI (scK K)))), e_hp M V W, 0, 0) := by
  simp (disch := first | assumption | exact e_nk_i _ | exact e_nk_n | exact e_nk_r _ | exact e_bo_0 | exact e_bo_1 | exact e_bo_b _ | omega) only [e_cl_v, e_cl_x, e_add_0, e_add_s, Option.toList_some, Option.toList_none, List.cons_append, List.nil_append, iI_add, iI_sub, iI_mul, iI_lt, iI_eq, iI_le, r41_0, r41_1, r41_2, r41_3]
  rw [show (iI 0 : Int32) = bI (zAN (fun i => decide (K (238 + i) < 4)) 0) from rfl]
  have main : e_lim L xs d 41 4 [some (.ref 1), some (.int (bI (zAN (fun i => decide (K (238 + i) < 4)) 0))), some (.int (iI 0))] [] (e_hp M V W) = some (.inl (some (.int (bI (scK K)))), e_hp M V W, 0, 0) := by
    refine G_loopI (C := fun i => e_lim L xs d 41 4 [some (.ref 1), some (.int (bI (zAN (fun i => decide (K (238 + i) < 4)) i))), some (.int (iI i))] [] (e_hp M V W)) (i := 0) (n := 3) (by omega) (fun j a b hc => ?_) ?_
    · have e1 := H.sf a b
      have r1 := hr.wo (i := j) a b
      rw [zAN_s _ a] at hc
      generalize zAN (fun i => decide (K (238 + i) < 4)) j = bb at *
      rw [r41_4]
      simp (disch := first | assumption | exact e_nk_i _ | exact e_nk_n | exact e_nk_r _ | exact e_bo_0 | exact e_bo_1 | exact e_bo_b _ | omega) only [e_cl_v, e_cl_x, e_add_0, e_add_s, Option.toList_some, Option.toList_none, List.cons_append, List.nil_append, iI_add, iI_sub, iI_mul, iI_lt, iI_eq, iI_le, r41_5, r41_6, r41_9, r41_10, r41_13, r41_14, r41_17, r41_18, r41_19, r41_20, r41_23, r41_24, r41_27, r41_28, r41_29, r41_32, iI_vin, iI_nat, if_true, e1, bI_0]
      rw [if_pos b]
      cases bb with
      | true =>
        simp only [Bool.true_or] at hc
        simp
        exact hc
      | false =>
        simp only [Bool.false_or] at hc
        by_cases z : K (238 + j) < 4
        · rw [decide_eq_true z] at hc
          simp [z]
          exact hc
        · rw [decide_eq_false z] at hc
          simp [z]
          exact hc
    · rw [r41_4]
      simp (disch := first | assumption | exact e_nk_i _ | exact e_nk_n | exact e_nk_r _ | exact e_bo_0 | exact e_bo_1 | exact e_bo_b _ | omega) only [e_cl_v, e_cl_x, e_add_0, e_add_s, Option.toList_some, Option.toList_none, List.cons_append, List.nil_append, iI_add, iI_sub, iI_mul, iI_lt, iI_eq, iI_le, r41_5, r41_6, r41_35, r41_36]
      rw [if_neg (by omega)]
      rfl
  exact main
/-- a time behind a rest that the times from f to t meet, or f -/
def rsQ (K : e_St) (m f t : Int) : Int → Bool := fun k => decide (K (208 + k) = m ∧ K (218 + k) < t ∧ f < K (228 + k))
def tbR (K : e_St) (m f t : Int) : Int := if fsN (rsQ K m f t) (K 311) = -1 then f else K (228 + fsN (rsQ K m f t) (K 311))
theorem fsN_hit {p : Int → Bool} {j n : Int} (h0 : 0 ≤ j) (h1 : j < n) (hp : p j = true) (hf : ∀ q, 0 ≤ q → q < j → p q = false) : fsN p n = j := by
  unfold fsN
  rw [fsP_hit h0 hp hf n.toNat (by omega), if_pos h1]
theorem fsN_none {p : Int → Bool} {n : Int} (hn : 0 ≤ n) (hf : ∀ q, 0 ≤ q → q < n → p q = false) : fsN p n = -1 := by
  unfold fsN
  rw [fsP_none n.toNat (fun q a b => hf q a (by omega)), if_neg (by omega)]
theorem s_timeBehindRest (H : SH M 1 K) (hr : kR K) (hm : 0 ≤ m ∧ m ≤ 3) (hf : 0 ≤ f ∧ f ≤ 3000) (ht : 0 ≤ t ∧ t ≤ 3000) : e_lim L xs (d + 1) 40 0 [some (.ref 1), some (.int (iI m)), some (.int (iI f)), some (.int (iI t)), none, none, none] [] (e_hp M V W) = some (.inl (some (.int (iI (tbR K m f t)))), e_hp M V W, 0, 0) := by
  have hn := hr.rm
  have e0 := H.cr
  have main : e_lim L xs (d + 1) 40 3 [some (.ref 1), some (.int (iI m)), some (.int (iI f)), some (.int (iI t)), some (.int (iI 0)), none, none] [] (e_hp M V W) = some (.inl (some (.int (iI (tbR K m f t)))), e_hp M V W, 0, 0) := by
    refine G_find (C := fun i => e_lim L xs (d + 1) 40 3 [some (.ref 1), some (.int (iI m)), some (.int (iI f)), some (.int (iI t)), some (.int (iI i)), none, none] [] (e_hp M V W)) (p := rsQ K m f t) (i := 0) hn.1 (fun j a b hp hc => ?_) (fun j a b hp hff => ?_) (fun hff => ?_)
    · have e1 := m_atI (L := L) (xs := xs) (d := d) (M := M) (V := V) (W := W) (a := 5) (n := 30) si_5 (z := j * 3 + 2) (by omega) (by omega) (H.re a b (j := 2) (by omega) (by omega))
      have e2 := m_atI (L := L) (xs := xs) (d := d) (M := M) (V := V) (W := W) (a := 5) (n := 30) si_5 (z := j * 3 + 1) (by omega) (by omega) (H.re a b (j := 1) (by omega) (by omega))
      have e3 := m_atI (L := L) (xs := xs) (d := d) (M := M) (V := V) (W := W) (a := 5) (n := 30) si_5 (z := j * 3) (by omega) (by omega) (v := iI (K (208 + j))) (by have := H.re a b (j := 0) (by omega) (by omega); simpa using this)
      have r1 := hr.a (i := 228 + j) (by omega) (by omega)
      have r2 := hr.a (i := 218 + j) (by omega) (by omega)
      have r3 := hr.a (i := 208 + j) (by omega) (by omega)
      rw [show 208 + 10 * 2 + j = 228 + j by omega] at e1
      rw [show 208 + 10 * 1 + j = 218 + j by omega] at e2
      unfold rsQ at hp
      rw [decide_eq_false_iff_not] at hp
      rw [r40_3]
      simp (disch := first | assumption | exact e_nk_i _ | exact e_nk_n | exact e_nk_r _ | exact e_bo_0 | exact e_bo_1 | exact e_bo_b _ | omega) only [e_cl_v, e_cl_x, e_add_0, e_add_s, Option.toList_some, Option.toList_none, List.cons_append, List.nil_append, iI_add, iI_sub, iI_mul, iI_lt, iI_eq, iI_le, r40_5, r40_6, r40_9, r40_12, r40_14, r40_15, r40_16, r40_18, r40_19, r40_22, r40_24, r40_25, r40_26, r40_29, r40_31, r40_32, r40_35, r40_37, r40_40, r40_41, r40_44, r40_45, r40_48, r40_50, r40_51, r40_52, r40_55, r40_56, r40_59, r40_61, r40_62, r40_65, r40_67, r40_68, r40_71, e0, e1, e2, e3]
      rw [if_pos b]
      by_cases z1 : K (208 + j) = m
      · rw [if_pos z1]
        by_cases z2 : K (218 + j) < t
        · rw [if_pos z2, if_neg (by omega)]
          exact G_less (by repeat (first | exact e_ll.rf | refine e_ll_c ?_ | refine e_ll_x ?_)) hc
        · rw [if_neg z2]
          exact G_less (by repeat (first | exact e_ll.rf | refine e_ll_c ?_ | refine e_ll_x ?_)) hc
      · rw [if_neg z1]
        exact G_less (by repeat (first | exact e_ll.rf | refine e_ll_c ?_ | refine e_ll_x ?_)) hc
    · have e1 := m_atI (L := L) (xs := xs) (d := d) (M := M) (V := V) (W := W) (a := 5) (n := 30) si_5 (z := j * 3 + 2) (by omega) (by omega) (H.re a b (j := 2) (by omega) (by omega))
      have e2 := m_atI (L := L) (xs := xs) (d := d) (M := M) (V := V) (W := W) (a := 5) (n := 30) si_5 (z := j * 3 + 1) (by omega) (by omega) (H.re a b (j := 1) (by omega) (by omega))
      have e3 := m_atI (L := L) (xs := xs) (d := d) (M := M) (V := V) (W := W) (a := 5) (n := 30) si_5 (z := j * 3) (by omega) (by omega) (v := iI (K (208 + j))) (by have := H.re a b (j := 0) (by omega) (by omega); simpa using this)
      have r1 := hr.a (i := 228 + j) (by omega) (by omega)
      have r2 := hr.a (i := 218 + j) (by omega) (by omega)
      have r3 := hr.a (i := 208 + j) (by omega) (by omega)
      rw [show 208 + 10 * 2 + j = 228 + j by omega] at e1
      rw [show 208 + 10 * 1 + j = 218 + j by omega] at e2
      have hfs : fsN (rsQ K m f t) (K 311) = j := fsN_hit a b hp hff
      unfold rsQ at hp
      rw [decide_eq_true_eq] at hp
      unfold tbR
      rw [hfs, if_neg (by omega), r40_3]
      simp (disch := first | assumption | exact e_nk_i _ | exact e_nk_n | exact e_nk_r _ | exact e_bo_0 | exact e_bo_1 | exact e_bo_b _ | omega) only [e_cl_v, e_cl_x, e_add_0, e_add_s, Option.toList_some, Option.toList_none, List.cons_append, List.nil_append, iI_add, iI_sub, iI_mul, iI_lt, iI_eq, iI_le, r40_5, r40_6, r40_9, r40_12, r40_14, r40_15, r40_16, r40_18, r40_19, r40_22, r40_24, r40_25, r40_26, r40_29, r40_31, r40_32, r40_35, r40_37, r40_40, r40_41, r40_44, r40_45, r40_48, r40_50, r40_51, r40_52, r40_55, r40_56, r40_59, r40_61, r40_62, r40_65, r40_67, r40_68, r40_71, e0, e1, e2, e3]
      rw [if_pos b, if_pos hp.1, if_pos hp.2.1, if_pos hp.2.2]
    · have hfs : fsN (rsQ K m f t) (K 311) = -1 := fsN_none hn.1 hff
      unfold tbR
      rw [hfs, if_pos rfl, r40_3]
      simp (disch := first | assumption | exact e_nk_i _ | exact e_nk_n | exact e_nk_r _ | exact e_bo_0 | exact e_bo_1 | exact e_bo_b _ | omega) only [e_cl_v, e_cl_x, e_add_0, e_add_s, Option.toList_some, Option.toList_none, List.cons_append, List.nil_append, iI_add, iI_sub, iI_mul, iI_lt, iI_eq, iI_le, r40_5, r40_6, r40_9, r40_74, r40_75, e0]
      rw [if_neg (by omega)]
  simp (disch := first | assumption | exact e_nk_i _ | exact e_nk_n | exact e_nk_r _ | exact e_bo_0 | exact e_bo_1 | exact e_bo_b _ | omega) only [e_cl_v, e_cl_x, e_add_0, e_add_s, Option.toList_some, Option.toList_none, List.cons_append, List.nil_append, iI_add, iI_sub, iI_mul, iI_lt, iI_eq, iI_le, r40_0, r40_1]
  exact main
end Ec02
