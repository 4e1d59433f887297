section Ec20
variable {L : Nat} {xs : Nat → Int32} {d : Nat} {M M2 M3 : e_MI} {V : e_ML} {W : e_MD} {K K2 : e_St} {S : Int → e_St} {h : e_H} {s s0 s1 t t2 a b2 n : Nat} {c o j w z m k q p i f l b e mc tl v T x N : Int} {sc : Bool} {ρ ν μ χ β ε τ u : Int → Int}
/-! the class's history -/
/-- the history holds the last c states -/
def HS (M : e_MI) (c : Int) (S : Int → e_St) : Prop := ∃ nx : Int, (0 ≤ nx ∧ nx < 12) ∧ (0 ≤ c ∧ c ≤ 12) ∧ M 11 1 = iI nx ∧ M 11 2 = iI c ∧ ∀ j, 0 ≤ j → j < c → SH M (13 + 10 * ((nx + 12 - c + j) % 12).toNat) (S j)
theorem HS.of (H : HS M c S) (h : ∀ a, 11 ≤ a → a ≤ 132 → M2 a = M a) : HS M2 c S := by
  obtain ⟨nx, h1, h2, h3, h4, h5⟩ := H
  exact ⟨nx, h1, h2, by rw [h 11 (by omega) (by omega)]; exact h3, by rw [h 11 (by omega) (by omega)]; exact h4, fun j a b => (h5 j a b).of fun q x y => h q (by omega) (by omega)⟩
theorem h_shopAt (h0 : 0 ≤ z) (h1 : z < 12) : e_lim L xs d 3 0 [some (.ref 11), some (.int (iI z))] [] (e_hp M V W) = some (.inl (some (.ref (13 + 10 * z.toNat))), e_hp M V W, 0, 0) := by
  simp (disch := first | assumption | exact e_nk_i _ | exact e_nk_n | exact e_nk_r _ | exact e_bo_0 | exact e_bo_1 | exact e_bo_b _ | omega) only [e_cl_v, e_cl_x, e_add_0, e_add_s, Option.toList_some, Option.toList_none, List.cons_append, List.nil_append, iI_add, iI_sub, iI_mul, iI_lt, iI_eq, iI_le, r3_0, r3_1, r3_4, r3_5, r3_6, r3_9, r3_10, r3_13, r3_14, r3_17, r3_18, r3_19, r3_22, r3_23]
  rw [if_neg (by omega), if_pos (by omega)]
theorem h_remember (H : SH M 1 K) (HH : HS M c S) (hr : kR K) (ha : 0 ≤ aW K ∧ aW K ≤ 16) : ∃ M2 : e_MI, e_lim L xs (d + 3) 1 0 [some (.ref 11), some (.ref 1), none] [] (e_hp M V W) = some (.inl none, e_hp M2 V W, 0, 0) ∧ HS M2 (svC c) (svS c S K) ∧ ∀ a, a < 11 ∨ 132 < a → M2 a = M a := by
  obtain ⟨nx, h1, h2, h3, h4, h5⟩ := HH
  have e1 := h_shopAt (L := L) (xs := xs) (d := d + 2) (M := M) (V := V) (W := W) h1.1 h1.2
  have hS := e_isS_k nx.toNat (by omega)
  obtain ⟨M1, e2, H1, hf⟩ := s_copyFrom (L := L) (xs := xs) (d := d) (V := V) (W := W) hS e_isS_0 (by omega) H hr ha
  have e3 : iI (nx + 1) - iI (nx + 1) / iI 12 * iI 12 = iI ((nx + 1) % 12) := iI_rem (by omega) (by omega) (by omega) (by omega)
  have n12 : iI 12 ≠ 0 := iI_ne (by omega) (by omega)
  have q1 : M1 11 1 = iI nx := by rw [hf 11 (by omega)]; exact h3
  have q2 : M1 11 2 = iI c := by rw [hf 11 (by omega)]; exact h4
  have q3 : upd (M1 11) 1 (iI ((nx + 1) % 12)) 2 = iI c := q2
  refine ⟨e_u (e_u M1 11 (upd (M1 11) 1 (iI ((nx + 1) % 12)))) 11 (upd (upd (M1 11) 1 (iI ((nx + 1) % 12))) 2 (iI (svC c))), ?_, ⟨(nx + 1) % 12, by omega, by unfold svC; split <;> omega, by rw [e_u_s]; rfl, by rw [e_u_s]; rfl, fun j a b => ?_⟩, fun a hz => ?_⟩
  · simp (disch := first | assumption | exact e_nk_i _ | exact e_nk_n | exact e_nk_r _ | exact e_bo_0 | exact e_bo_1 | exact e_bo_b _ | omega) only [e_cl_v, e_cl_x, e_add_0, e_add_s, Option.toList_some, Option.toList_none, List.cons_append, List.nil_append, iI_add, iI_sub, iI_mul, iI_lt, iI_eq, iI_le, r1_0, r1_1, r1_2, r1_5, r1_8, r1_9, r1_13, r1_15, r1_10, r1_14, r1_18, r1_19, r1_20, r1_23, r1_24, r1_25, r1_27, r1_28, r1_31, r1_32, r1_33, r1_36, r1_37, r1_38, r1_40, r1_43, r1_46, h3, e1, e2, q1, e3, e_u_s, q3]
    unfold svC
    by_cases hc : c = 12
    · rw [if_pos hc, if_pos (by omega)]
    · rw [if_neg hc]
      by_cases hc2 : 12 < c + 1
      · omega
      · rw [if_neg hc2]
  · have hfr : ∀ (v : Int32) (q2 : Nat), q2 ≠ 11 → e_u (e_u M1 11 (upd (M1 11) 1 (iI ((nx + 1) % 12)))) 11 (upd (upd (M1 11) 1 (iI ((nx + 1) % 12))) 2 v) q2 = M1 q2 := fun v q2 y => by rw [e_u_n _ _ y, e_u_n _ _ y]
    by_cases hc : c = 12
    · have hC : svC c = 12 := by unfold svC; rw [if_pos hc]
      rw [hC] at b ⊢
      unfold svS
      rw [if_pos hc]
      by_cases hj : j = 11
      · rw [if_pos hj, show ((nx + 1) % 12 + 12 - 12 + j) % 12 = nx by omega]
        exact H1.of fun q x y => hfr _ q (by omega)
      · rw [if_neg hj]
        have g := h5 (j + 1) (by omega) (by omega)
        rw [show (nx + 12 - c + (j + 1)) % 12 = ((nx + 1) % 12 + 12 - 12 + j) % 12 by omega] at g
        have : ((nx + 1) % 12 + 12 - 12 + j) % 12 ≠ nx := by omega
        exact g.of fun q x y => by rw [hfr _ q (by omega), hf q (by omega)]
    · have hC : svC c = c + 1 := by unfold svC; rw [if_neg hc]
      rw [hC] at b ⊢
      unfold svS
      rw [if_neg hc]
      by_cases hj : j = c
      · rw [if_pos hj, show ((nx + 1) % 12 + 12 - (c + 1) + j) % 12 = nx by omega]
        exact H1.of fun q x y => hfr _ q (by omega)
      · rw [if_neg hj]
        have g := h5 j (by omega) (by omega)
        rw [show (nx + 12 - c + j) % 12 = ((nx + 1) % 12 + 12 - (c + 1) + j) % 12 by omega] at g
        have : ((nx + 1) % 12 + 12 - (c + 1) + j) % 12 ≠ nx := by omega
        exact g.of fun q x y => by rw [hfr _ q (by omega), hf q (by omega)]
  · rw [e_u_n _ _ (by omega), e_u_n _ _ (by omega), hf a (by omega)]
theorem h_goBack0 (HH : HS M 0 S) : e_lim L xs (d + 3) 2 0 [some (.ref 11), some (.ref 1), none] [] (e_hp M V W) = some (.inl (some (.int (iI (-1)))), e_hp M V W, 0, 0) := by
  obtain ⟨nx, h1, h2, h3, h4, h5⟩ := HH
  simp (disch := first | assumption | exact e_nk_i _ | exact e_nk_n | exact e_nk_r _ | exact e_bo_0 | exact e_bo_1 | exact e_bo_b _ | omega) only [e_cl_v, e_cl_x, e_add_0, e_add_s, Option.toList_some, Option.toList_none, List.cons_append, List.nil_append, iI_add, iI_sub, iI_mul, iI_lt, iI_eq, iI_le, r2_0, r2_1, r2_4, r2_7, r2_8, h4]
  simp
theorem h_goBack (HH : HS M c S) (hc : c ≠ 0) (hr : kR (S (c - 1))) (ha : 0 ≤ aW (S (c - 1)) ∧ aW (S (c - 1)) ≤ 16) : ∃ M2 : e_MI, e_lim L xs (d + 3) 2 0 [some (.ref 11), some (.ref 1), none] [] (e_hp M V W) = some (.inl (some (.int (iI (c - 1)))), e_hp M2 V W, 0, 0) ∧ HS M2 (c - 1) S ∧ SH M2 1 (S (c - 1)) ∧ ∀ a, 132 < a → M2 a = M a := by
  obtain ⟨nx, h1, h2, h3, h4, h5⟩ := HH
  have e3 : iI (nx + 12 - 1) - iI (nx + 12 - 1) / iI 12 * iI 12 = iI ((nx + 12 - 1) % 12) := iI_rem (by omega) (by omega) (by omega) (by omega)
  have n12 : iI 12 ≠ 0 := iI_ne (by omega) (by omega)
  generalize hnx : (nx + 12 - 1) % 12 = n2 at e3
  have hn2 : 0 ≤ n2 ∧ n2 < 12 := by omega
  have hS := e_isS_k n2.toNat (by omega)
  generalize hM1 : e_u (e_u M 11 (upd (M 11) 1 (iI n2))) 11 (upd (upd (M 11) 1 (iI n2)) 2 (iI (c - 1))) = M1
  have hf1 : ∀ a : Nat, a ≠ 11 → M1 a = M a := fun a y => by rw [← hM1, e_u_n _ _ y, e_u_n _ _ y]
  have m1 : M1 11 1 = iI n2 := by rw [← hM1, e_u_s]; rfl
  have m2 : M1 11 2 = iI (c - 1) := by rw [← hM1, e_u_s]; rfl
  have e1 := h_shopAt (L := L) (xs := xs) (d := d + 2) (M := M1) (V := V) (W := W) hn2.1 hn2.2
  have H0 : SH M1 (13 + 10 * n2.toNat) (S (c - 1)) := by
    have g := h5 (c - 1) (by omega) (by omega)
    rw [show (nx + 12 - c + (c - 1)) % 12 = n2 by omega] at g
    exact g.of fun q x y => hf1 q (by omega)
  obtain ⟨M2, e2, H1, hf⟩ := s_copyFrom (L := L) (xs := xs) (d := d) (V := V) (W := W) e_isS_0 hS (by omega) H0 hr ha
  have q1 : M2 11 1 = iI n2 := by rw [hf 11 (by omega)]; exact m1
  have q2 : M2 11 2 = iI (c - 1) := by rw [hf 11 (by omega)]; exact m2
  have u1 : upd (M 11) 1 (iI n2) 2 = iI c := h4
  have hS1 : e_isS 1 := e_isS_0
  have hne : ¬ iI c = iI 0 := fun y => hc ((iI_eq (by omega) (by omega)).mp y)
  refine ⟨M2, ?_, ⟨n2, hn2, by omega, q1, q2, fun j a b => ?_⟩, H1, fun a hz => by rw [hf a (by omega), hf1 a (by omega)]⟩
  · simp (disch := first | assumption | exact e_nk_i _ | exact e_nk_n | exact e_nk_r _ | exact e_bo_0 | exact e_bo_1 | exact e_bo_b _ | omega) only [e_cl_v, e_cl_x, e_add_0, e_add_s, Option.toList_some, Option.toList_none, List.cons_append, List.nil_append, iI_add, iI_sub, iI_mul, iI_lt, iI_eq, iI_le, r2_0, r2_1, r2_4, r2_7, r2_8, r2_9, r2_10, r2_11, r2_14, r2_16, r2_17, r2_18, r2_19, r2_21, r2_22, r2_25, r2_26, r2_27, r2_30, r2_31, r2_32, r2_35, r2_36, r2_37, r2_40, r2_43, r2_44, r2_49, r2_50, r2_45, r2_48, r2_53, r2_54, r2_57, h3, h4, e3, e_u_s, u1, hM1, m1, e1, e2, q2]
    rw [if_neg hc]
  · have g := h5 j a (by omega)
    rw [show (nx + 12 - c + j) % 12 = (n2 + 12 - (c - 1) + j) % 12 by omega] at g
    exact g.of fun q x y => by rw [hf q (by omega), hf1 q (by omega)]
end Ec20
