section Ec36
variable {L : Nat} {xs : Nat → Int32} {d : Nat} {M M2 M3 : e_MI} {V : e_ML} {W : e_MD} {K K1 K2 : e_St} {S : Int → e_St} {h : e_H} {s s0 s1 t t2 a b2 n : Nat} {c o w z m k q p i f l b e mc tl T x y v N : Int} {sc : Bool} {ρ ν μ χ β ε τ u : Int → Int}
/-! the class's public changes, on -/
theorem x_undo (H : CK M K c S) (hg : kG K) (hgS : ∀ j, 0 ≤ j → j < c → kG (S j)) : ∃ M2 : e_MI, e_lim L xs (d + 7) 144 0 [some (.ref 0), none] [] (e_hp M V W) = some (.inl (some (.int (iI (c - 1)))), e_hp M2 V W, 0, 0) ∧ CK M2 (if c = 0 then K else S (c - 1)) (if c = 0 then 0 else c - 1) S ∧ ∀ a, 148 < a → M2 a = M a := by
  by_cases hc : c = 0
  · subst hc
    have e1 := h_goBack0 (L := L) (xs := xs) (d := d + 3) (V := V) (W := W) H.hs
    obtain ⟨M2, e2, hC, hf⟩ := x_then (L := L) (xs := xs) (d := d) (V := V) (W := W) H.sh hg H.hs H.pr.g H.tg
    refine ⟨M2, ?_, ?_, fun a y => hf a (by omega)⟩
    · simp (disch := first | assumption | exact e_nk_i _ | exact e_nk_n | exact e_nk_r _ | exact e_bo_0 | exact e_bo_1 | exact e_bo_b _ | omega) only [e_cl_v, e_cl_x, e_add_0, e_add_s, Option.toList_some, Option.toList_none, List.cons_append, List.nil_append, iI_add, iI_sub, iI_mul, iI_lt, iI_eq, iI_le, r144_0, r144_1, r144_4, r144_5, r144_8, r144_11, r144_12, r144_13, r144_16, r144_17, e1, e2]
      rfl
    · rw [if_pos rfl, if_pos rfl]
      exact hC
  · have c0 : 0 ≤ c := by
      obtain ⟨nx, -, h2, -⟩ := H.hs
      exact h2.1
    have hs := hgS (c - 1) (by omega) (by omega)
    obtain ⟨M1, e1, h1, h2, hf1⟩ := h_goBack (L := L) (xs := xs) (d := d + 3) (V := V) (W := W) H.hs hc hs.1 hs.2.1.1
    obtain ⟨M2, e2, hC, hf⟩ := x_then (L := L) (xs := xs) (d := d) (V := V) (W := W) h2 hs h1 (H.pr.g.of fun a x y => hf1 a (by omega)) (H.tg.of fun a x y => hf1 a (by omega))
    refine ⟨M2, ?_, ?_, fun a y => ?_⟩
    · simp (disch := first | assumption | exact e_nk_i _ | exact e_nk_n | exact e_nk_r _ | exact e_bo_0 | exact e_bo_1 | exact e_bo_b _ | omega) only [e_cl_v, e_cl_x, e_add_0, e_add_s, Option.toList_some, Option.toList_none, List.cons_append, List.nil_append, iI_add, iI_sub, iI_mul, iI_lt, iI_eq, iI_le, r144_0, r144_1, r144_4, r144_5, r144_8, r144_11, r144_12, r144_13, r144_16, r144_17, e1, e2]
    · rw [if_neg hc, if_neg hc]
      exact hC
    · rw [hf a (by omega), hf1 a (by omega)]
end Ec36
