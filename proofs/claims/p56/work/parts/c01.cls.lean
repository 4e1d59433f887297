section Ec01
variable {L : Nat} {xs : Nat → Int32} {d : Nat} {M M2 M3 : e_MI} {V : e_ML} {W : e_MD} {K : e_St} {h : e_H} {s a n : Nat} {o j w z m k q p i f : Int}
/-! the class's shop -/
theorem m_atI {v : Int32} (ha : e_isI a n) (h0 : 0 ≤ z) (h1 : z < n) (hv : M a z.toNat = v) : e_lim L xs d 160 0 [some (.ref a), some (.int (iI z))] [] (e_hp M V W) = some (.inl (some (.int v)), e_hp M V W, 0, 0) := by
  have hn := e_nI_lt a
  rw [ha.n] at hn
  rw [m_at ha.A (by omega), ha.n, if_pos ⟨h0, h1⟩, hv]
theorem m_atN (ha : e_isI a n) (h0 : ¬(0 ≤ z ∧ z < n)) (h1 : -2147483648 ≤ z ∧ z < 2147483648) : e_lim L xs d 160 0 [some (.ref a), some (.int (iI z))] [] (e_hp M V W) = some (.inl (some (.int (iI 0))), e_hp M V W, 0, 0) := by
  rw [m_at ha.A h1, ha.n, if_neg h0]
theorem m_putI {v : Int32} (ha : e_isI a n) (h0 : 0 ≤ z) (h1 : z < n) : e_lim L xs d 161 0 [some (.ref a), some (.int (iI z)), some (.int v)] [] (e_hp M V W) = some (.inl none, e_hp (e_u M a (upd (M a) z.toNat v)) V W, 0, 0) := by
  have hn := e_nI_lt a
  rw [ha.n] at hn
  rw [m_put ha.A (by omega), ha.n, if_pos ⟨h0, h1⟩]
theorem m_putN {v : Int32} (ha : e_isI a n) (h0 : ¬(0 ≤ z ∧ z < n)) (h1 : -2147483648 ≤ z ∧ z < 2147483648) : e_lim L xs d 161 0 [some (.ref a), some (.int (iI z)), some (.int v)] [] (e_hp M V W) = some (.inl none, e_hp M V W, 0, 0) := by
  rw [m_put ha.A h1, ha.n, if_neg h0]
/-- the shop at s holds the state K -/
def SH (M : e_MI) (s : Nat) (K : e_St) : Prop :=
  (M s 0 = iI (K 310) ∧ M s 1 = iI (aW K) ∧ M s 2 = iI (K 311)) ∧
  (∀ o j, 0 ≤ o → o < K 310 → 0 ≤ j → j < 6 → M (s + 1) (o * 6 + j).toNat = iI (K (8 * j + o))) ∧
  (∀ o w j, 0 ≤ o → o < K 310 → 0 ≤ w → w < K (40 + o) → 0 ≤ j → j < 3 → M (s + 2) ((o * 4 + w) * 3 + j).toNat = iI (K (48 + 32 * j + 4 * o + w))) ∧
  (∀ i, 0 ≤ i → i < 64 → M (s + 3) i.toNat = iI (K (144 + i))) ∧
  (∀ k j, 0 ≤ k → k < K 311 → 0 ≤ j → j < 3 → M (s + 4) (k * 3 + j).toNat = iI (K (208 + 10 * j + k))) ∧
  (∀ i, 0 ≤ i → i < 3 → M (s + 5) i.toNat = iI (K (238 + i))) ∧
  (∀ i, 0 ≤ i → i < 2 → M (s + 6) i.toNat = iI (K (308 + i))) ∧
  (∀ p, 0 ≤ p → p < aW K → M (s + 7) p.toNat = iI (K (241 + p))) ∧
  (∀ i, 0 ≤ i → i < 3 → M (s + 8) i.toNat = iI (K (305 + i))) ∧
  (∀ q p, 0 ≤ q → q < 3 → K (305 + q) = 1 → 0 ≤ p → p < aW K → M (s + 9) (q * 16 + p).toNat = iI (K (257 + 16 * q + p)))
theorem SH.cn (H : SH M s K) : M s 0 = iI (K 310) := H.1.1
theorem SH.cw (H : SH M s K) : M s 1 = iI (aW K) := H.1.2.1
theorem SH.cr (H : SH M s K) : M s 2 = iI (K 311) := H.1.2.2
theorem SH.oc (H : SH M s K) (h0 : 0 ≤ o) (h1 : o < K 310) (h2 : 0 ≤ j) (h3 : j < 6) : M (s + 1) (o * 6 + j).toNat = iI (K (8 * j + o)) := H.2.1 o j h0 h1 h2 h3
theorem SH.wc (H : SH M s K) (h0 : 0 ≤ o) (h1 : o < K 310) (h2 : 0 ≤ w) (h3 : w < K (40 + o)) (h4 : 0 ≤ j) (h5 : j < 3) : M (s + 2) ((o * 4 + w) * 3 + j).toNat = iI (K (48 + 32 * j + 4 * o + w)) := H.2.2.1 o w j h0 h1 h2 h3 h4 h5
theorem SH.se (H : SH M s K) (h0 : 0 ≤ i) (h1 : i < 64) : M (s + 3) i.toNat = iI (K (144 + i)) := H.2.2.2.1 i h0 h1
theorem SH.re (H : SH M s K) (h0 : 0 ≤ k) (h1 : k < K 311) (h2 : 0 ≤ j) (h3 : j < 3) : M (s + 4) (k * 3 + j).toNat = iI (K (208 + 10 * j + k)) := H.2.2.2.2.1 k j h0 h1 h2 h3
theorem SH.sf (H : SH M s K) (h0 : 0 ≤ i) (h1 : i < 3) : M (s + 5) i.toNat = iI (K (238 + i)) := H.2.2.2.2.2.1 i h0 h1
theorem SH.ra (H : SH M s K) (h0 : 0 ≤ i) (h1 : i < 2) : M (s + 6) i.toNat = iI (K (308 + i)) := H.2.2.2.2.2.2.1 i h0 h1
theorem SH.ro (H : SH M s K) (h0 : 0 ≤ p) (h1 : p < aW K) : M (s + 7) p.toNat = iI (K (241 + p)) := H.2.2.2.2.2.2.2.1 p h0 h1
theorem SH.kp (H : SH M s K) (h0 : 0 ≤ i) (h1 : i < 3) : M (s + 8) i.toNat = iI (K (305 + i)) := H.2.2.2.2.2.2.2.2.1 i h0 h1
theorem SH.kr (H : SH M s K) (h0 : 0 ≤ q) (h1 : q < 3) (h2 : K (305 + q) = 1) (h3 : 0 ≤ p) (h4 : p < aW K) : M (s + 9) (q * 16 + p).toNat = iI (K (257 + 16 * q + p)) := H.2.2.2.2.2.2.2.2.2 q p h0 h1 h2 h3 h4
/-- the same cells, the same shop -/
theorem SH.of (H : SH M s K) (h : ∀ a, s ≤ a → a ≤ s + 9 → M2 a = M a) : SH M2 s K := by
  unfold SH
  rw [h s (by omega) (by omega), h (s + 1) (by omega) (by omega), h (s + 2) (by omega) (by omega), h (s + 3) (by omega) (by omega), h (s + 4) (by omega) (by omega), h (s + 5) (by omega) (by omega), h (s + 6) (by omega) (by omega), h (s + 7) (by omega) (by omega), h (s + 8) (by omega) (by omega), h (s + 9) (by omega) (by omega)]
  exact H
theorem s_orderCell (H : SH M 1 K) (hn : K 310 ≤ 8) (h0 : 0 ≤ o) (h1 : o < K 310) (h2 : 0 ≤ j) (h3 : j < 6) : e_lim L xs (d + 1) 27 0 [some (.ref 1), some (.int (iI o)), some (.int (iI j))] [] (e_hp M V W) = some (.inl (some (.int (iI (K (8 * j + o))))), e_hp M V W, 0, 0) := by
  have e1 := m_atI (L := L) (xs := xs) (d := d) (M := M) (V := V) (W := W) (a := 2) (n := 48) si_2 (z := o * 6 + j) (by omega) (by omega) (H.oc h0 h1 h2 h3)
  simp (disch := first | assumption | exact e_nk_i _ | exact e_nk_n | exact e_nk_r _ | exact e_bo_0 | exact e_bo_1 | exact e_bo_b _ | omega) only [e_cl_v, e_cl_x, e_add_0, e_add_s, Option.toList_some, Option.toList_none, List.cons_append, List.nil_append, iI_add, iI_sub, iI_mul, iI_lt, iI_eq, iI_le, r27_0, r27_1, r27_4, r27_5, r27_7, r27_8, r27_9, r27_10, r27_13, e1]
theorem s_worksIn (H : SH M 1 K) (hn : K 310 ≤ 8) (h0 : 0 ≤ o) (h1 : o < K 310) : e_lim L xs (d + 1) 29 0 [some (.ref 1), some (.int (iI o))] [] (e_hp M V W) = some (.inl (some (.int (iI (K (40 + o))))), e_hp M V W, 0, 0) := by
  have e1 := m_atI (L := L) (xs := xs) (d := d) (M := M) (V := V) (W := W) (a := 2) (n := 48) si_2 (z := o * 6 + 5) (by omega) (by omega) (H.oc h0 h1 (by omega) (by omega))
  simp (disch := first | assumption | exact e_nk_i _ | exact e_nk_n | exact e_nk_r _ | exact e_bo_0 | exact e_bo_1 | exact e_bo_b _ | omega) only [e_cl_v, e_cl_x, e_add_0, e_add_s, Option.toList_some, Option.toList_none, List.cons_append, List.nil_append, iI_add, iI_sub, iI_mul, iI_lt, iI_eq, iI_le, r29_0, r29_1, r29_4, r29_5, r29_7, r29_8, r29_9, r29_10, r29_13, e1]
  rfl
theorem s_workCell (H : SH M 1 K) (hr : kR K) (h0 : 0 ≤ o) (h1 : o < K 310) (h2 : 0 ≤ w) (h3 : w < K (40 + o)) (h4 : 0 ≤ j) (h5 : j < 3) : e_lim L xs (d + 1) 30 0 [some (.ref 1), some (.int (iI o)), some (.int (iI w)), some (.int (iI j))] [] (e_hp M V W) = some (.inl (some (.int (iI (K (48 + 32 * j + 4 * o + w))))), e_hp M V W, 0, 0) := by
  have hn := hr.n
  have hw := hr.wk (o := o) h0 (by omega)
  have e1 := m_atI (L := L) (xs := xs) (d := d) (M := M) (V := V) (W := W) (a := 3) (n := 96) si_3 (z := (o * 4 + w) * 3 + j) (by omega) (by omega) (H.wc h0 h1 h2 h3 h4 h5)
  simp (disch := first | assumption | exact e_nk_i _ | exact e_nk_n | exact e_nk_r _ | exact e_bo_0 | exact e_bo_1 | exact e_bo_b _ | omega) only [e_cl_v, e_cl_x, e_add_0, e_add_s, Option.toList_some, Option.toList_none, List.cons_append, List.nil_append, iI_add, iI_sub, iI_mul, iI_lt, iI_eq, iI_le, r30_0, r30_1, r30_4, r30_5, r30_6, r30_7, r30_8, r30_9, r30_10, r30_11, r30_12, r30_13, r30_16, e1]
theorem s_timeOf (H : SH M 1 K) (hr : kR K) (h0 : 0 ≤ o) (h1 : o < K 310) (h2 : 0 ≤ w) (h3 : w < K (40 + o)) : e_lim L xs (d + 2) 31 0 [some (.ref 1), some (.int (iI o)), some (.int (iI w))] [] (e_hp M V W) = some (.inl (some (.int (iI (tk K o w)))), e_hp M V W, 0, 0) := by
  have e1 := s_orderCell (L := L) (xs := xs) (d := d) (V := V) (W := W) H hr.n.2 h0 h1 (j := 1) (by omega) (by omega)
  have e2 := s_workCell (L := L) (xs := xs) (d := d) (V := V) (W := W) H hr h0 h1 h2 h3 (j := 1) (by omega) (by omega)
  simp (disch := first | assumption | exact e_nk_i _ | exact e_nk_n | exact e_nk_r _ | exact e_bo_0 | exact e_bo_1 | exact e_bo_b _ | omega) only [e_cl_v, e_cl_x, e_add_0, e_add_s, Option.toList_some, Option.toList_none, List.cons_append, List.nil_append, iI_add, iI_sub, iI_mul, iI_lt, iI_eq, iI_le, r31_0, r31_1, r31_2, r31_3, r31_6, r31_7, r31_8, r31_9, r31_10, r31_13, r31_14, e1, e2]
  rfl
theorem SU_mul (g : Int → Int) (x : Int) {n : Int} (hn : 0 ≤ n) : SU (fun i => x * g i) n = SU g n * x := by
  refine SU_ind (P := fun n => SU (fun i => x * g i) n = SU g n * x) (by show (0 : Int) = 0 * x; omega) (fun i hi ih => ?_) n hn
  rw [SU_s _ hi, SU_s _ hi, ih, Int.add_mul, Int.mul_comm x]
theorem s_timeFrom (H : SH M 1 K) (hr : kR K) (h0 : 0 ≤ o) (h1 : o < K 310) (h2 : 0 ≤ f ∧ f ≤ 4) : e_lim L xs (d + 2) 32 0 [some (.ref 1), some (.int (iI o)), some (.int (iI f)), none, none, none] [] (e_hp M V W) = some (.inl (some (.int (iI (tF K o f)))), e_hp M V W, 0, 0) := by
  have hn := hr.n
  have hw := hr.wk (o := o) h0 (by omega)
  have e1 := s_worksIn (L := L) (xs := xs) (d := d) (V := V) (W := W) H hr.n.2 h0 h1
  have e2 := s_orderCell (L := L) (xs := xs) (d := d) (V := V) (W := W) H hr.n.2 h0 h1 (j := 1) (by omega) (by omega)
  have hm : tF K o f = SU (fun w => if f ≤ w then K (80 + 4 * o + w) else 0) (K (40 + o)) * K (8 + o) := by
    unfold tF tk
    rw [← SU_mul _ _ hw.1]
    exact SU_cong (fun i a b => by split <;> simp)
  have hz : ∀ j, 0 ≤ j → j ≤ f → SU (fun w => if f ≤ w then K (80 + 4 * o + w) else 0) j = 0 := by
    intro j a
    refine SU_ind (P := fun j => j ≤ f → SU (fun w => if f ≤ w then K (80 + 4 * o + w) else 0) j = 0) (fun _ => rfl) (fun i hi ih h => ?_) j a
    rw [SU_s _ hi, ih (by omega), if_neg (by omega)]
    rfl
  rw [hm]
  simp (disch := first | assumption | exact e_nk_i _ | exact e_nk_n | exact e_nk_r _ | exact e_bo_0 | exact e_bo_1 | exact e_bo_b _ | omega) only [e_cl_v, e_cl_x, e_add_0, e_add_s, Option.toList_some, Option.toList_none, List.cons_append, List.nil_append, iI_add, iI_sub, iI_mul, iI_lt, iI_eq, iI_le, r32_0, r32_1, r32_2, r32_5, r32_6, r32_7, r32_9, r32_10, e1]
  have e2' : e_lim L xs (d + 1) 27 0 [some (.ref 1), some (.int (iI o)), some (.int (iI 1))] [] (e_hp M V W) = some (.inl (some (.int (iI (K (8 + o))))), e_hp M V W, 0, 0) := e2
  by_cases hc : f ≤ K (40 + o)
  · have main : e_lim L xs (d + 2) 32 12 [some (.ref 1), some (.int (iI o)), some (.int (iI f)), some (.int (iI (K (40 + o)))), some (.int (iI (SU (fun w => if f ≤ w then K (80 + 4 * o + w) else 0) f))), some (.int (iI f))] [] (e_hp M V W) = some (.inl (some (.int (iI (SU (fun w => if f ≤ w then K (80 + 4 * o + w) else 0) (K (40 + o)) * K (8 + o))))), e_hp M V W, 0, 0) := by
      refine G_loopI (C := fun i => e_lim L xs (d + 2) 32 12 [some (.ref 1), some (.int (iI o)), some (.int (iI f)), some (.int (iI (K (40 + o)))), some (.int (iI (SU (fun w => if f ≤ w then K (80 + 4 * o + w) else 0) i))), some (.int (iI i))] [] (e_hp M V W)) (i := f) hc (fun j a b hc => ?_) ?_
      · have e3 := s_workCell (L := L) (xs := xs) (d := d) (V := V) (W := W) H hr h0 h1 (w := j) (j := 1) (by omega) b (by omega) (by omega)
        have e3' : e_lim L xs (d + 1) 30 0 [some (.ref 1), some (.int (iI o)), some (.int (iI j)), some (.int (iI 1))] [] (e_hp M V W) = some (.inl (some (.int (iI (K (80 + 4 * o + j))))), e_hp M V W, 0, 0) := e3
        rw [SU_s _ (show 0 ≤ j by omega), if_pos a] at hc
        rw [r32_12]
        simp (disch := first | assumption | exact e_nk_i _ | exact e_nk_n | exact e_nk_r _ | exact e_bo_0 | exact e_bo_1 | exact e_bo_b _ | omega) only [e_cl_v, e_cl_x, e_add_0, e_add_s, Option.toList_some, Option.toList_none, List.cons_append, List.nil_append, iI_add, iI_sub, iI_mul, iI_lt, iI_eq, iI_le, r32_14, r32_15, r32_18, r32_20, r32_21, r32_22, r32_24, r32_25, r32_28, r32_29, r32_31, r32_34, e3']
        rw [if_pos b]
        exact hc
      · rw [r32_12]
        simp (disch := first | assumption | exact e_nk_i _ | exact e_nk_n | exact e_nk_r _ | exact e_bo_0 | exact e_bo_1 | exact e_bo_b _ | omega) only [e_cl_v, e_cl_x, e_add_0, e_add_s, Option.toList_some, Option.toList_none, List.cons_append, List.nil_append, iI_add, iI_sub, iI_mul, iI_lt, iI_eq, iI_le, r32_14, r32_15, r32_37, r32_39, r32_40, r32_41, r32_42, r32_45, r32_46, e2']
        rw [if_neg (by omega)]
    rw [hz f h2.1 (Int.le_refl _)] at main
    exact main
  · rw [r32_12]
    simp (disch := first | assumption | exact e_nk_i _ | exact e_nk_n | exact e_nk_r _ | exact e_bo_0 | exact e_bo_1 | exact e_bo_b _ | omega) only [e_cl_v, e_cl_x, e_add_0, e_add_s, Option.toList_some, Option.toList_none, List.cons_append, List.nil_append, iI_add, iI_sub, iI_mul, iI_lt, iI_eq, iI_le, r32_14, r32_15, r32_37, r32_39, r32_40, r32_41, r32_42, r32_45, r32_46, e2']
    rw [if_neg (by omega), hz _ hw.1 (by omega)]
theorem s_timeOn (H : SH M 1 K) (hr : kR K) (h0 : 0 ≤ o) (h1 : o < K 310) (h2 : 0 ≤ m ∧ m ≤ 3) : e_lim L xs (d + 2) 33 0 [some (.ref 1), some (.int (iI o)), some (.int (iI m)), none, none, none] [] (e_hp M V W) = some (.inl (some (.int (iI (tO K o m)))), e_hp M V W, 0, 0) := by
  have hn := hr.n
  have hw := hr.wk (o := o) h0 (by omega)
  have e1 := s_worksIn (L := L) (xs := xs) (d := d) (V := V) (W := W) H hr.n.2 h0 h1
  have e2 := s_orderCell (L := L) (xs := xs) (d := d) (V := V) (W := W) H hr.n.2 h0 h1 (j := 1) (by omega) (by omega)
  have e2' : e_lim L xs (d + 1) 27 0 [some (.ref 1), some (.int (iI o)), some (.int (iI 1))] [] (e_hp M V W) = some (.inl (some (.int (iI (K (8 + o))))), e_hp M V W, 0, 0) := e2
  have hm : tO K o m = SU (fun w => if K (48 + 4 * o + w) = m then K (80 + 4 * o + w) else 0) (K (40 + o)) * K (8 + o) := by
    unfold tO tk
    rw [← SU_mul _ _ hw.1]
    exact SU_cong (fun i a b => by split <;> simp)
  rw [hm]
  simp (disch := first | assumption | exact e_nk_i _ | exact e_nk_n | exact e_nk_r _ | exact e_bo_0 | exact e_bo_1 | exact e_bo_b _ | omega) only [e_cl_v, e_cl_x, e_add_0, e_add_s, Option.toList_some, Option.toList_none, List.cons_append, List.nil_append, iI_add, iI_sub, iI_mul, iI_lt, iI_eq, iI_le, r33_0, r33_1, r33_2, r33_5, r33_6, r33_7, r33_9, r33_10, e1]
  refine G_loopI (C := fun i => e_lim L xs (d + 2) 33 12 [some (.ref 1), some (.int (iI o)), some (.int (iI m)), some (.int (iI (K (40 + o)))), some (.int (iI (SU (fun w => if K (48 + 4 * o + w) = m then K (80 + 4 * o + w) else 0) i))), some (.int (iI i))] [] (e_hp M V W)) (i := 0) hw.1 (fun j a b hc => ?_) ?_
  · have e3 := s_workCell (L := L) (xs := xs) (d := d) (V := V) (W := W) H hr h0 h1 (w := j) (j := 1) a b (by omega) (by omega)
    have e3' : e_lim L xs (d + 1) 30 0 [some (.ref 1), some (.int (iI o)), some (.int (iI j)), some (.int (iI 1))] [] (e_hp M V W) = some (.inl (some (.int (iI (K (80 + 4 * o + j))))), e_hp M V W, 0, 0) := e3
    have e4 := s_workCell (L := L) (xs := xs) (d := d) (V := V) (W := W) H hr h0 h1 (w := j) (j := 0) a b (by omega) (by omega)
    have e4' : e_lim L xs (d + 1) 30 0 [some (.ref 1), some (.int (iI o)), some (.int (iI j)), some (.int (iI 0))] [] (e_hp M V W) = some (.inl (some (.int (iI (K (48 + 4 * o + j))))), e_hp M V W, 0, 0) := e4
    have r4 := hr.mc (i := 4 * o + j) (by omega) (by omega)
    rw [show 48 + (4 * o + j) = 48 + 4 * o + j by omega] at r4
    rw [SU_s _ a] at hc
    rw [r33_12]
    simp (disch := first | assumption | exact e_nk_i _ | exact e_nk_n | exact e_nk_r _ | exact e_bo_0 | exact e_bo_1 | exact e_bo_b _ | omega) only [e_cl_v, e_cl_x, e_add_0, e_add_s, Option.toList_some, Option.toList_none, List.cons_append, List.nil_append, iI_add, iI_sub, iI_mul, iI_lt, iI_eq, iI_le, r33_14, r33_15, r33_18, r33_19, r33_20, r33_22, r33_23, r33_26, r33_27, r33_30, r33_32, r33_33, r33_34, r33_36, r33_37, r33_40, r33_41, r33_43, r33_46, e3', e4']
    rw [if_pos b]
    by_cases q : K (48 + 4 * o + j) = m
    · rw [if_pos q] at hc ⊢
      exact hc
    · rw [if_neg q] at hc ⊢
      rw [Int.add_zero] at hc
      exact hc
  · rw [r33_12]
    simp (disch := first | assumption | exact e_nk_i _ | exact e_nk_n | exact e_nk_r _ | exact e_bo_0 | exact e_bo_1 | exact e_bo_b _ | omega) only [e_cl_v, e_cl_x, e_add_0, e_add_s, Option.toList_some, Option.toList_none, List.cons_append, List.nil_append, iI_add, iI_sub, iI_mul, iI_lt, iI_eq, iI_le, r33_14, r33_15, r33_49, r33_51, r33_52, r33_53, r33_54, r33_57, r33_58, e2']
    rw [if_neg (by omega)]
theorem s_timeOnMachine (H : SH M 1 K) (hr : kR K) (h2 : 0 ≤ m ∧ m ≤ 3) : e_lim L xs (d + 3) 34 0 [some (.ref 1), some (.int (iI m)), none, none] [] (e_hp M V W) = some (.inl (some (.int (iI (lO K m)))), e_hp M V W, 0, 0) := by
  have hn := hr.n
  have e0 := H.cn
  simp (disch := first | assumption | exact e_nk_i _ | exact e_nk_n | exact e_nk_r _ | exact e_bo_0 | exact e_bo_1 | exact e_bo_b _ | omega) only [e_cl_v, e_cl_x, e_add_0, e_add_s, Option.toList_some, Option.toList_none, List.cons_append, List.nil_append, iI_add, iI_sub, iI_mul, iI_lt, iI_eq, iI_le, r34_0, r34_1, r34_2, r34_3]
  unfold lO
  refine G_loopI (C := fun i => e_lim L xs (d + 3) 34 4 [some (.ref 1), some (.int (iI m)), some (.int (iI (SU (fun o => tO K o m) i))), some (.int (iI i))] [] (e_hp M V W)) (i := 0) hn.1 (fun j a b hc => ?_) ?_
  · have e1 := s_timeOn (L := L) (xs := xs) (d := d) (V := V) (W := W) H hr a b h2
    rw [SU_s _ a] at hc
    rw [r34_4]
    simp (disch := first | assumption | exact e_nk_i _ | exact e_nk_n | exact e_nk_r _ | exact e_bo_0 | exact e_bo_1 | exact e_bo_b _ | omega) only [e_cl_v, e_cl_x, e_add_0, e_add_s, Option.toList_some, Option.toList_none, List.cons_append, List.nil_append, iI_add, iI_sub, iI_mul, iI_lt, iI_eq, iI_le, r34_5, r34_6, r34_9, r34_12, r34_13, r34_14, r34_15, r34_16, r34_19, r34_20, r34_21, r34_24, e0, e1]
    rw [if_pos b]
    exact hc
  · rw [r34_4]
    simp (disch := first | assumption | exact e_nk_i _ | exact e_nk_n | exact e_nk_r _ | exact e_bo_0 | exact e_bo_1 | exact e_bo_b _ | omega) only [e_cl_v, e_cl_x, e_add_0, e_add_s, Option.toList_some, Option.toList_none, List.cons_append, List.nil_append, iI_add, iI_sub, iI_mul, iI_lt, iI_eq, iI_le, r34_5, r34_6, r34_9, r34_27, r34_28, e0]
    rw [if_neg (by omega)]
theorem s_settingOf (H : SH M 1 K) (hd : kD K) (h0 : 0 ≤ m ∧ m < 4) (h1 : 0 ≤ f ∧ f < 4) (h2 : 0 ≤ q ∧ q < 4) : e_lim L xs (d + 1) 37 0 [some (.ref 1), some (.int (iI m)), some (.int (iI f)), some (.int (iI q))] [] (e_hp M V W) = some (.inl (some (.int (iI (sT K m f q)))), e_hp M V W, 0, 0) := by
  have e1 := m_atI (L := L) (xs := xs) (d := d) (M := M) (V := V) (W := W) (a := 4) (n := 64) si_4 (z := (m * 4 + f) * 4 + q) (by omega) (by omega) (H.se (by omega) (by omega))
  have e2 : K (144 + ((m * 4 + f) * 4 + q)) = sT K m f q := by
    unfold sT
    split
    · next u =>
      subst u
      rw [show 144 + ((m * 4 + f) * 4 + f) = 144 + 16 * m + 4 * f + f by omega]
      exact hd.2 m f h0.1 h0.2 h1.1 h1.2
    · congr 1
      omega
  rw [e2] at e1
  simp (disch := first | assumption | exact e_nk_i _ | exact e_nk_n | exact e_nk_r _ | exact e_bo_0 | exact e_bo_1 | exact e_bo_b _ | omega) only [e_cl_v, e_cl_x, e_add_0, e_add_s, Option.toList_some, Option.toList_none, List.cons_append, List.nil_append, iI_add, iI_sub, iI_mul, iI_lt, iI_eq, iI_le, r37_0, r37_1, r37_4, r37_5, r37_6, r37_7, r37_8, r37_9, r37_10, r37_11, r37_12, r37_13, r37_16, e1]
end Ec01
