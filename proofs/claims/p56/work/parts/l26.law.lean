section El26
variable {L : Nat} {xs : Nat → Int32} {d : Nat} {M M1 M2 M3 : e_MI} {V V2 : e_ML} {W : e_MD} {K K2 : e_St} {S : Int → e_St} {h : e_H} {c o j w z m k q p i n a b t x its u v : Int} {l : List Int}
/-! all lines are tried -/
theorem l_timeOn (HA : LA M K) (hr : kR K) (ho : 0 ≤ o ∧ o < K 310) (hm : i32 m) : e_lim L xs (d + 1) 181 0 [some (.ref 184), some (.int (iI o)), some (.int (iI m)), none, none] [] (e_hp M V W) = some (.inl (some (.int (iI (tO K o m)))), e_hp M V W, 0, 0) := by
  have hn := hr.n
  have e1 := HA.mn ho.1 ho.2
  have r1 := hr.wk (o := o) ho.1 (by omega)
  simp (disch := first | assumption | exact e_nk_i _ | exact e_nk_n | exact e_nk_r _ | exact e_bo_0 | exact e_bo_1 | exact e_bo_b _ | omega) only [e_cl_v, e_cl_x, e_add_0, e_add_s, Option.toList_some, Option.toList_none, List.cons_append, List.nil_append, iI_add, iI_sub, iI_mul, iI_lt, iI_eq, iI_le, r181_0, r181_1, r181_2, r181_3]
  rw [show iI 0 = iI (SU (fun w => if K (48 + 4 * o + w) = m then tk K o w else 0) 0) from rfl]
  refine G_loopI (C := fun j => e_lim L xs (d + 1) 181 5 [some (.ref 184), some (.int (iI o)), some (.int (iI m)), some (.int (iI (SU (fun w => if K (48 + 4 * o + w) = m then tk K o w else 0) j))), some (.int (iI j))] [] (e_hp M V W)) (i := 0) (n := K (40 + o)) r1.1 (fun j x y hc => ?_) ?_
  · have e2 := HA.mc ho.1 ho.2 x y
    have r2 := hr.mc (i := 4 * o + j) (by omega) (by omega)
    rw [show 48 + (4 * o + j) = 48 + 4 * o + j by omega] at r2
    have e3 := l_takes (L := L) (xs := xs) (d := d) (V := V) (W := W) HA hr ho (w := j) ⟨x, y⟩
    rw [SU_s _ x] at hc
    unfold i32 at hm
    rw [r181_5]
    by_cases c1 : K (48 + 4 * o + j) = m
    · simp only [if_pos c1] at hc
      simp (disch := first | assumption | exact e_nk_i _ | exact e_nk_n | exact e_nk_r _ | exact e_bo_0 | exact e_bo_1 | exact e_bo_b _ | omega) only [e_cl_v, e_cl_x, e_add_0, e_add_s, Option.toList_some, Option.toList_none, List.cons_append, List.nil_append, iI_add, iI_sub, iI_mul, iI_lt, iI_eq, iI_le, r181_7, r181_8, r181_11, r181_12, r181_13, r181_16, r181_17, r181_18, r181_21, r181_22, r181_23, r181_24, r181_26, r181_27, r181_28, r181_29, r181_32, r181_33, r181_34, r181_36, r181_39, r181_42, r181_43, r181_44, r181_45, r181_48, iI_vin, iI_nat, if_true, e1, e2, e3, if_pos y, if_pos c1]
      exact hc
    · simp only [if_neg c1] at hc
      simp (disch := first | assumption | exact e_nk_i _ | exact e_nk_n | exact e_nk_r _ | exact e_bo_0 | exact e_bo_1 | exact e_bo_b _ | omega) only [e_cl_v, e_cl_x, e_add_0, e_add_s, Option.toList_some, Option.toList_none, List.cons_append, List.nil_append, iI_add, iI_sub, iI_mul, iI_lt, iI_eq, iI_le, r181_7, r181_8, r181_11, r181_12, r181_13, r181_16, r181_17, r181_18, r181_21, r181_22, r181_23, r181_24, r181_26, r181_27, r181_28, r181_29, r181_32, r181_33, r181_34, r181_36, r181_39, r181_42, r181_43, r181_44, r181_45, r181_48, iI_vin, iI_nat, if_true, e1, e2, if_pos y, if_neg c1]
      exact hc
  · rw [r181_5]
    simp (disch := first | assumption | exact e_nk_i _ | exact e_nk_n | exact e_nk_r _ | exact e_bo_0 | exact e_bo_1 | exact e_bo_b _ | omega) only [e_cl_v, e_cl_x, e_add_0, e_add_s, Option.toList_some, Option.toList_none, List.cons_append, List.nil_append, iI_add, iI_sub, iI_mul, iI_lt, iI_eq, iI_le, r181_7, r181_8, r181_11, r181_12, r181_13, r181_51, r181_52, iI_vin, iI_nat, if_true, e1]
    rw [if_neg (by omega)]
    rfl
/-- the orders that are used, as bits -/
theorem bt_in : ∀ s : Nat, s < 256 → ∀ i : Nat, i < 8 → decide (iI (s : Int) >>> (iI (i : Int) &&& 31) &&& iI 1 = iI 1) = s.testBit i := by decide +kernel
theorem bt_or : ∀ s : Nat, s < 256 → ∀ i : Nat, i < 8 → iI (s : Int) ||| (iI 1 <<< (iI (i : Int) &&& 31)) = iI ((s ||| 2 ^ i : Nat) : Int) ∧ s ||| 2 ^ i < 256 := by decide +kernel
theorem bt_tb : ∀ s : Nat, s < 256 → ∀ i : Nat, i < 8 → ∀ j : Nat, j < 8 → (s ||| 2 ^ i).testBit j = (s.testBit j || decide (j = i)) := by decide +kernel
def MK (K : e_St) (l : List Int) (s : Nat) : Prop := s < 256 ∧ ∀ o, 0 ≤ o → o < K 310 → (s.testBit o.toNat = true ↔ o ∈ l)
theorem MK.up (hr : kR K) {s : Nat} (H : MK K l s) (ho : 0 ≤ o ∧ o < K 310) : MK K (l ++ [o]) (s ||| 2 ^ o.toNat) := by
  have hn := hr.n
  obtain ⟨h1, h2⟩ := H
  refine ⟨(bt_or s h1 o.toNat (by omega)).2, fun x a b => ?_⟩
  rw [bt_tb s h1 o.toNat (by omega) x.toNat (by omega), Bool.or_eq_true, h2 x a b, List.mem_append, List.mem_singleton, decide_eq_true_eq]
  constructor
  · rintro (y | y)
    · exact Or.inl y
    · exact Or.inr (by omega)
  · rintro (y | y)
    · exact Or.inl y
    · exact Or.inr (by omega)
/-- the line so far -/
def LN (M : e_MI) (l : List Int) : Prop := ∀ i : Nat, i < l.length → M 205 i = iI (l.getD i 0)
theorem LN.up (H : LN M l) (o : Int) : LN (e_u M 205 (upd (M 205) l.length (iI o))) (l ++ [o]) := by
  intro i hi
  rw [e_u_s]
  by_cases hq : i = l.length
  · subst hq
    rw [upd_s, List.getD_eq_getElem?_getD, List.getElem?_append_right (Nat.le_refl _)]
    simp
  · rw [upd_n _ _ hq]
    have h2 : i < l.length := by simp at hi; omega
    rw [H i h2, List.getD_eq_getElem?_getD, List.getD_eq_getElem?_getD, List.getElem?_append_left h2]
/-- what a try leaves as it was -/
def fN (M M2 : e_MI) : Prop := (∀ a, a ≠ 184 → a ≠ 205 → M2 a = M a) ∧ ∀ j, j < 29 ∨ 33 < j → M2 184 j = M 184 j
theorem fN.ll (h : fN M M2) : fL M M2 := ⟨fun a x => h.1 a (by omega) (by omega), fun a x y => h.1 a (by omega) (by omega), fun j x => h.2 j (by omega)⟩
theorem fN.tr (h : fN M M2) (h2 : fN M2 M3) : fN M M3 := ⟨fun a x y => by rw [h2.1 a x y, h.1 a x y], fun j x => by rw [h2.2 j x, h.2 j x]⟩
theorem fN.rf (M : e_MI) : fN M M := ⟨fun _ _ _ => rfl, fun _ _ => rfl⟩
/-- the four best ones -/
def b4 (s : rvT) (i : Nat) : Int := if i = 0 then s.2.2.1 else if i = 1 then s.2.2.2.1 else if i = 2 then s.2.2.2.2 else s.2.1
def BS (M : e_MI) (B : Nat → Int) : Prop := (M 184 30 = iI (B 0) ∧ M 184 31 = iI (B 1) ∧ M 184 32 = iI (B 2) ∧ M 184 33 = iI (B 3)) ∧ ∀ i, i < 4 → -2147483648 ≤ B i ∧ B i ≤ 2147483647
/-- where a line's running numbers lie -/
def rgV (n : Nat) (s : rvT) : Prop := (0 ≤ s.1 ∧ s.1 ≤ 324 * n) ∧ (0 ≤ s.2.1 ∧ s.2.1 ≤ 648 * n) ∧ (0 ≤ s.2.2.1 ∧ s.2.2.1 ≤ 30000 * n) ∧ (-2147483648 ≤ s.2.2.2.1 ∧ s.2.2.2.1 ≤ 324 * n) ∧ 0 ≤ s.2.2.2.2 ∧ s.2.2.2.2 ≤ n
theorem rgV_up (hr : kR K) {s : rvT} {n : Nat} (hn : n ≤ 7) (hs : rgV n s) (ho : 0 ≤ o ∧ o < K 310) : rgV (n + 1) (rvS K m q s o) := by
  have t1 := tO_0 (m := m) hr ho
  have t2 := tO_0 (m := q) hr ho
  have h8 := hr.n
  have w1 := hr.we (o := o) ho.1 (by omega)
  have d1 := hr.du (o := o) ho.1 (by omega)
  obtain ⟨a1, a2, a3, a4, a5⟩ := hs
  have mm := mul_rg (a := K (32 + o)) (b := s.1 + tO K o m) (A := 9) (C := 324 * 8) w1 (by omega)
  unfold rvS rgV
  refine ⟨⟨by simp only; omega, by simp only; omega⟩, ⟨?_, ?_⟩, ⟨by simp only; omega, by simp only; omega⟩, ⟨by simp only; omega, by simp only; omega⟩, ?_, ?_⟩
  · simp only; split <;> omega
  · simp only; split <;> omega
  · simp only; split <;> omega
  · simp only; split <;> omega
theorem rgV_all (hr : kR K) : ∀ k : Nat, k ≤ l.length → l.length ≤ 8 → (∀ x ∈ l, 0 ≤ x ∧ x < K 310) → rgV k (rvL K m q (l.take k))
  | 0, _, _, _ => ⟨by simp [rvL], by simp [rvL], by simp [rvL], by simp [rvL], by simp [rvL]⟩
  | k + 1, h, h8, hl => by
    have ih := rgV_all hr k (by omega) h8 hl
    rw [take_s (by omega), rvL_a]
    exact rgV_up hr (by omega) ih (hl _ (getD_mem (by omega)))
end El26
