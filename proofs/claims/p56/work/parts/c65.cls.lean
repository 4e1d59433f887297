section Ec65
variable {L : Nat} {xs : Nat → Int32} {d : Nat} {M M2 M3 : e_MI} {V V2 : e_ML} {W : e_MD} {K K1 K2 : e_St} {S : Int → e_St} {h : e_H} {c o w z m k q p i f e j x y v N b : Int} {χ : Int → Bool} {n s : Nat} {g t : Int → Int} {G : (Int → Bool) → Int → Prop}
/-! the theorem's cells, in the class -/
def sB (s : Nat) (i : Int) : Bool := decide (0 ≤ i ∧ i < 6) && s.testBit i.toNat
theorem sB_eq (hi : 0 ≤ i ∧ i < 6) : sB s i = s.testBit i.toNat := by
  unfold sB
  rw [decide_eq_true hi, Bool.true_and]
theorem sb_and : ∀ s : Nat, s < 64 → ∀ i : Nat, i < 6 → decide (iI (s : Int) >>> (iI (i : Int) &&& 31) &&& iI 1 = iI 0) = !s.testBit i := by decide +kernel
theorem sb_shl : ∀ j : Nat, j < 7 → iI 1 <<< (iI (j : Int) &&& 31) = iI ((2 ^ j : Nat) : Int) := by decide +kernel
theorem sb_sub : ∀ s : Nat, s < 64 → ∀ j : Nat, j < 6 → s.testBit j = true → (2 ^ j ≤ s ∧ 0 < 2 ^ j) ∧ ∀ i : Nat, i < 6 → (s - 2 ^ j).testBit i = (s.testBit i && !decide (i = j)) := by decide +kernel
theorem sb_nz : ∀ n : Nat, n ≤ 6 → ∀ s : Nat, s < 2 ^ n → s ≠ 0 → ∃ j, j < n ∧ s.testBit j = true := by decide +kernel
theorem sb_full : ∀ n : Nat, n ≤ 6 → ∀ i : Nat, i < n → (2 ^ n - 1).testBit i = true := by decide +kernel
theorem sb_le : ∀ n : Nat, n ≤ 6 → 0 < 2 ^ n ∧ 2 ^ n ≤ 64 := by decide +kernel
theorem sB_0 (i : Int) : sB 0 i = false := by
  unfold sB
  rw [Nat.zero_testBit, Bool.and_false]
theorem sB_dl (hs : s < 64) (hj : 0 ≤ j ∧ j < 6) (h : sB s j = true) : (2 ^ j.toNat ≤ s ∧ 0 < 2 ^ j.toNat) ∧ sB (s - 2 ^ j.toNat) = dl (sB s) j := by
  rw [sB_eq hj] at h
  obtain ⟨a, b⟩ := sb_sub s hs j.toNat (by omega) h
  refine ⟨a, funext fun i => ?_⟩
  by_cases hi : 0 ≤ i ∧ i < 6
  · unfold dl
    rw [sB_eq hi, sB_eq hi, b i.toNat (by omega)]
    congr 2
    exact decide_eq_decide.mpr (by omega)
  · unfold dl sB
    rw [decide_eq_false hi]
    rfl
theorem q_isIn (hs : s < 64) (hi : 0 ≤ i ∧ i < 6) : e_lim L xs d 60 0 [some (.int (iI (s : Int))), some (.int (iI i))] [] h = some (.inl (some (.int (bI (sB s i)))), h, 0, 0) := by
  have e := sb_and s hs i.toNat (by omega)
  rw [Int.toNat_of_nonneg hi.1] at e
  rw [sB_eq hi]
  simp (disch := first | assumption | exact e_nk_i _ | exact e_nk_n | exact e_nk_r _ | exact e_bo_0 | exact e_bo_1 | exact e_bo_b _ | omega) only [e_cl_v, e_cl_x, e_add_0, e_add_s, Option.toList_some, Option.toList_none, List.cons_append, List.nil_append, iI_add, iI_sub, iI_mul, iI_lt, iI_eq, iI_le, r60_0, r60_1, r60_2, r60_3, r60_4, r60_5, r60_8, r60_9, r60_12, r60_13]
  cases hb : s.testBit i.toNat with
  | true =>
    rw [hb] at e
    rw [if_neg (of_decide_eq_false e)]
    rfl
  | false =>
    rw [hb] at e
    rw [if_pos (of_decide_eq_true e)]
    rfl
/-- the cells of all sets below one -/
def TB (M : e_MI) (G : (Int → Bool) → Int → Prop) (n : Int) (s : Nat) : Prop := ∀ s2 : Nat, s2 < s → ∃ b, M 178 s2 = iI b ∧ (-1000000 ≤ b ∧ b ≤ 17496 * TSx (fun _ => 1) (sB s2) n) ∧ G (sB s2) b
theorem TB.up (h : TB M G (n : Int) s) (hb : -1000000 ≤ b ∧ b ≤ 17496 * TSx (fun _ => 1) (sB s) n) (hG : G (sB s) b) : TB (e_u M 178 (upd (M 178) s (iI b))) G n (s + 1) := fun s2 h2 => by
  rw [e_u_s]
  by_cases hs : s2 = s
  · rw [hs, upd_s]
    exact ⟨b, rfl, hb, hG⟩
  · rw [upd_n _ _ hs]
    exact h s2 (by omega)
theorem ts_up (hg : ∀ i, 0 ≤ i → i < (n : Int) → 0 ≤ g i ∧ g i ≤ c) (hc : 0 ≤ c) : 0 ≤ TSx g χ n ∧ TSx g χ n ≤ n * c := SU_le (fun i a b => by
  have := hg i a b
  split <;> omega) (by omega)
theorem lv_rg (hr : kR K) (ho : 0 ≤ o ∧ o < 8) (hb : -1000000 ≤ b ∧ b ≤ 17496 * c) (he : 0 ≤ e ∧ e ≤ 1944) (hc : 0 ≤ c) : -1000000 ≤ lvW K w o b e ∧ lvW K w o b e ≤ 17496 * (c + 1) := by
  have r1 := hr.we (o := o) ho.1 ho.2
  have r2 := hr.du (o := o) ho.1 ho.2
  have m1 : 0 ≤ K (32 + o) * e ∧ K (32 + o) * e ≤ 9 * 1944 := ⟨Int.mul_nonneg r1.1 he.1, Int.mul_le_mul r1.2 he.2 he.1 (by omega)⟩
  unfold lvW
  split
  · omega
  · split
    · omega
    · split <;> omega
theorem q_withLast (H : SH M 1 K) (hr : kR K) (ho : 0 ≤ o ∧ o < K 310) (hw : 0 ≤ w ∧ w ≤ 2) (hb : -1000000 ≤ b ∧ b ≤ 1000000) (he : 0 ≤ e ∧ e ≤ 1944) : e_lim L xs (d + 2) 56 0 [some (.ref 1), some (.int (iI o)), some (.int (iI w)), some (.int (iI b)), some (.int (iI e)), none] [] (e_hp M V W) = some (.inl (some (.int (iI (lvW K w o b e)))), e_hp M V W, 0, 0) := by
  have hn := hr.n
  have e1 := s_orderCell (L := L) (xs := xs) (d := d) (V := V) (W := W) H hn.2 ho.1 ho.2 (j := 3) (by omega) (by omega)
  have e2 := s_orderCell (L := L) (xs := xs) (d := d) (V := V) (W := W) H hn.2 ho.1 ho.2 (j := 4) (by omega) (by omega)
  rw [show 8 * 3 + o = 24 + o by omega] at e1
  rw [show 8 * 4 + o = 32 + o by omega] at e2
  have r1 := hr.we (o := o) ho.1 (by omega)
  have r2 := hr.du (o := o) ho.1 (by omega)
  have m1 : 0 ≤ K (32 + o) * e ∧ K (32 + o) * e ≤ 9 * 1944 := ⟨Int.mul_nonneg r1.1 he.1, Int.mul_le_mul r1.2 he.2 he.1 (by omega)⟩
  unfold lvW
  by_cases w0 : w = 0
  · subst w0
    simp (disch := first | assumption | exact e_nk_i _ | exact e_nk_n | exact e_nk_r _ | exact e_bo_0 | exact e_bo_1 | exact e_bo_b _ | omega) only [e_cl_v, e_cl_x, e_add_0, e_add_s, Option.toList_some, Option.toList_none, List.cons_append, List.nil_append, iI_add, iI_sub, iI_mul, iI_lt, iI_eq, iI_le, r56_0, r56_1, r56_2, r56_3, r56_6, r56_8, r56_9, r56_12, r56_13, r56_14, r56_15, r56_16, r56_19, r56_21, r56_22, r56_23, r56_24, r56_25, r56_26, r56_29, r56_30, r56_32, r56_34, r56_35, r56_38, r56_39, r56_40, r56_42, r56_44, r56_47, r56_48, r56_51, r56_52, r56_53, e1, e2]
    simp
  · by_cases w1 : w = 1
    · subst w1
      simp (disch := first | assumption | exact e_nk_i _ | exact e_nk_n | exact e_nk_r _ | exact e_bo_0 | exact e_bo_1 | exact e_bo_b _ | omega) only [e_cl_v, e_cl_x, e_add_0, e_add_s, Option.toList_some, Option.toList_none, List.cons_append, List.nil_append, iI_add, iI_sub, iI_mul, iI_lt, iI_eq, iI_le, r56_0, r56_1, r56_2, r56_3, r56_6, r56_8, r56_9, r56_12, r56_13, r56_14, r56_15, r56_16, r56_19, r56_21, r56_22, r56_23, r56_24, r56_25, r56_26, r56_29, r56_30, r56_32, r56_34, r56_35, r56_38, r56_39, r56_40, r56_42, r56_44, r56_47, r56_48, r56_51, r56_52, r56_53, e1, iI_mx]
      simp
    · simp (disch := first | assumption | exact e_nk_i _ | exact e_nk_n | exact e_nk_r _ | exact e_bo_0 | exact e_bo_1 | exact e_bo_b _ | omega) only [e_cl_v, e_cl_x, e_add_0, e_add_s, Option.toList_some, Option.toList_none, List.cons_append, List.nil_append, iI_add, iI_sub, iI_mul, iI_lt, iI_eq, iI_le, r56_0, r56_1, r56_2, r56_3, r56_6, r56_8, r56_9, r56_12, r56_13, r56_14, r56_15, r56_16, r56_19, r56_21, r56_22, r56_23, r56_24, r56_25, r56_26, r56_29, r56_30, r56_32, r56_34, r56_35, r56_38, r56_39, r56_40, r56_42, r56_44, r56_47, r56_48, r56_51, r56_52, r56_53, e1]
      rw [if_neg w0, if_neg w1, if_neg w0, if_neg w1]
      by_cases hq : K (24 + o) < e
      · first | rw [if_pos hq] | rw [if_neg (show ¬ e ≤ K (24 + o) by omega)]
        rw [if_pos hq]
      · first | rw [if_neg hq] | rw [if_pos (show e ≤ K (24 + o) by omega)]
        rw [if_neg hq]
end Ec65
