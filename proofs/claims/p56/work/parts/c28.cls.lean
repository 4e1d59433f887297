section Ec28
variable {L : Nat} {xs : Nat → Int32} {d : Nat} {M M2 M3 : e_MI} {V : e_ML} {W : e_MD} {K K2 : e_St} {S : Int → e_St} {h : e_H} {s s0 s1 t t2 a b2 n : Nat} {c o j z m k q p i f l b e mc tl T x y N : Int} {sc : Bool} {ρ ν μ χ β ε τ u : Int → Int}
/-! a lot is cut in the class's shop -/
theorem cuS_lot (hr : kR K) (hp : kP K) (hd : kD K) (ho : 0 ≤ o ∧ o < K 310) (hn : K 310 < 8) (ha : 1 ≤ x ∧ x ≤ K (8 + o) - 1) : ∀ w : Nat, (w : Int) ≤ K (40 + o) → (∀ j, 0 ≤ j → j < 5 → cuS K o x w (8 * j + K 310) = if j = 1 then x else K (8 * j + o)) ∧ cuS K o x w (8 + o) = K (8 + o) - x ∧ ∀ w2 j, 0 ≤ w2 → w2 < (w : Int) → 0 ≤ j → j < 3 → cuS K o x w (48 + 32 * j + 4 * K 310 + w2) = K (48 + 32 * j + 4 * o + w2)
  | 0, _ => by
    obtain ⟨s1, s2, s3, s4, s5, s6⟩ := cu0_sp (a := x) hr hp hd ho ha
    refine ⟨fun j a b => ?_, ?_, fun w2 j a b => by omega⟩
    · unfold cuS coK
      rw [s5]
      rcases (show j = 0 ∨ j = 1 ∨ j = 2 ∨ j = 3 ∨ j = 4 by omega) with r | r | r | r | r <;> subst r <;> unfold uI
      · rw [if_neg (by omega), if_neg (by omega), if_neg (by omega), if_neg (by omega), if_neg (by omega), if_neg (by omega), if_pos (by omega), if_neg (by omega), show (8 : Int) * 0 + o = o by omega]
      · rw [if_neg (by omega), if_neg (by omega), if_neg (by omega), if_neg (by omega), if_neg (by omega), if_pos (by omega), if_pos rfl]
      · rw [if_neg (by omega), if_neg (by omega), if_neg (by omega), if_neg (by omega), if_pos (by omega), if_neg (by omega), show (8 : Int) * 2 + o = 16 + o by omega]
      · rw [if_neg (by omega), if_neg (by omega), if_neg (by omega), if_pos (by omega), if_neg (by omega), show (8 : Int) * 3 + o = 24 + o by omega]
      · rw [if_neg (by omega), if_neg (by omega), if_pos (by omega), if_neg (by omega), show (8 : Int) * 4 + o = 32 + o by omega]
    · unfold cuS
      rw [coK_n (by rw [s5]; omega) (by rw [s5]; omega)]
      exact uI_s _ _ _
  | w + 1, hw => by
    obtain ⟨t1, t2, t3⟩ := cuS_lot hr hp hd ho hn ha w (by omega)
    obtain ⟨s1, s2, s3, s4, s5, s6, s7⟩ := cuS_sp (a := x) hr hp hd ho hn ha w (by omega)
    have hn8 := hr.n
    have hwk := hr.wk (o := o) ho.1 (by omega)
    refine ⟨fun j a b => ?_, ?_, fun w2 j a b c e => ?_⟩
    · show adK _ _ _ _ _ _ = _
      rw [adK_n (by omega) (by rw [s6]; omega) (by rw [s6]; omega)]
      exact t1 j a b
    · show adK _ _ _ _ _ _ = _
      rw [adK_n (by omega) (by rw [s6]; omega) (by rw [s6]; omega)]
      exact t2
    · show adK _ _ _ _ _ _ = _
      by_cases hq : w2 = (w : Int)
      · subst hq
        unfold adK
        rw [s6]
        rcases (show j = 0 ∨ j = 1 ∨ j = 2 by omega) with r | r | r <;> subst r <;> unfold uI
        · rw [if_neg (by omega), if_neg (by omega), if_neg (by omega), if_pos (by omega), show (48 : Int) + 32 * 0 + 4 * o + w = 48 + 4 * o + w by omega]
        · rw [if_neg (by omega), if_neg (by omega), if_pos (by omega), show (48 : Int) + 32 * 1 + 4 * o + w = 80 + 4 * o + w by omega]
        · rw [if_neg (by omega), if_pos (by omega), show (48 : Int) + 32 * 2 + 4 * o + w = 112 + 4 * o + w by omega]
      · rw [adK_n (by omega) (by rw [s6]; omega) (by rw [s6]; omega)]
        exact t3 w2 j a (by omega) c e
theorem s_worksInR {v : Int32} (h0 : 0 ≤ o) (h1 : o < 8) (hv : M 2 (o * 6 + 5).toNat = v) : e_lim L xs (d + 1) 29 0 [some (.ref 1), some (.int (iI o))] [] (e_hp M V W) = some (.inl (some (.int v)), e_hp M V W, 0, 0) := by
  have e1 := m_atI (L := L) (xs := xs) (d := d) (M := M) (V := V) (W := W) (a := 2) (n := 48) si_2 (z := o * 6 + 5) (by omega) (by omega) hv
  simp (disch := first | assumption | exact e_nk_i _ | exact e_nk_n | exact e_nk_r _ | exact e_bo_0 | exact e_bo_1 | exact e_bo_b _ | omega) only [e_cl_v, e_cl_x, e_add_0, e_add_s, Option.toList_some, Option.toList_none, List.cons_append, List.nil_append, iI_add, iI_sub, iI_mul, iI_lt, iI_eq, iI_le, r29_0, r29_1, r29_4, r29_5, r29_7, r29_8, r29_9, r29_10, r29_13, e1]
end Ec28
