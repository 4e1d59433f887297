section El21
variable {L : Nat} {xs : Nat → Int32} {d : Nat} {M M1 M2 M3 : e_MI} {V V2 : e_ML} {W : e_MD} {K K2 : e_St} {S : Int → e_St} {h : e_H} {c o j w z k q p i f n a b t x B its u v : Int} {τ β ε : Int → Int} {s : exT}
/-! all rows are tried -/
/-- the least end so far, and its row -/
def TS (M : e_MI) (K : e_St) (s : exT) : Prop := M 184 27 = iI s.1 ∧ (-1 ≤ s.1 ∧ s.1 ≤ 2001) ∧ (s.1 ≠ -1 → ∀ p, 0 ≤ p → p < aW K → M 204 p.toNat = iI (s.2 p))
def fQ (M M2 : e_MI) : Prop := (∀ a, a ≠ 184 → a ≠ 199 → a ≠ 200 → a ≠ 201 → a ≠ 202 → a ≠ 204 → M2 a = M a) ∧ ∀ j, j ≠ 27 → M2 184 j = M 184 j
theorem fQ.l (h : fQ M M2) : fL M M2 := ⟨fun a x => h.1 a (by omega) (by omega) (by omega) (by omega) (by omega) (by omega), fun a x y => h.1 a (by omega) (by omega) (by omega) (by omega) (by omega) (by omega), fun j x => h.2 j (by omega)⟩
theorem fQ.tr (h : fQ M M2) (h2 : fQ M2 M3) : fQ M M3 := ⟨fun a x y z u v w => by rw [h2.1 a x y z u v w, h.1 a x y z u v w], fun j x => by rw [h2.2 j x, h.2 j x]⟩
theorem fQ.rf (M : e_MI) : fQ M M := ⟨fun _ _ _ _ _ _ _ => rfl, fun _ _ => rfl⟩
theorem fT.q9 (h : fT M M2) : fQ M M2 := ⟨fun a _ _ x y z _ => h a x y z, fun j _ => by rw [h 184 (by decide) (by decide) (by decide)]⟩
theorem TS.of (H : TS M K s) (h1 : M2 184 27 = M 184 27) (h2 : M2 204 = M 204) : TS M2 K s := by
  obtain ⟨a, b, e⟩ := H
  exact ⟨by rw [h1]; exact a, b, fun x p y z => by rw [h2]; exact e x p y z⟩
/-- a whole row -/
theorem l_leaf (HA : LA M K) (HB : LB M K) (hr : kR K) (hp : kP K) (ha : 0 ≤ aW K ∧ aW K ≤ 16) (hv : pfx K τ (aW K)) (hτ : ∀ p, 0 ≤ p → p < aW K → M 199 p.toNat = iI (τ p)) (HS : TS M K s) :
    ∃ M2 : e_MI, e_lim L xs (d + 2) 179 0 [some (.ref 184), some (.int (iI (aW K))), none, none, none] [] (e_hp M V W) = some (.inl none, e_hp M2 V W, 0, 0) ∧ fQ M M2 ∧ (∀ p, 0 ≤ p → p < aW K → M2 199 p.toNat = iI (τ p)) ∧ TS M2 K (if fiR K τ (aW K) = true then (if s.1 ≠ -1 ∧ s.1 ≤ mX (scE K τ) (aW K) then s else (mX (scE K τ) (aW K), τ)) else s) := by
  have hvp := hv.vp
  obtain ⟨M1, e1, f1, g1⟩ := l_isTimed (L := L) (xs := xs) (d := d) (V := V) (W := W) HA HB hr hp hvp ha hτ
  have e0 := HA.ws
  have HA1 := HA.of f1.l
  have h199 : ∀ p, 0 ≤ p → p < aW K → M1 199 p.toNat = iI (τ p) := fun p x y => by rw [f1 199 (by decide) (by decide) (by decide)]; exact hτ p x y
  have HS1 : TS M1 K s := HS.of (by rw [f1 184 (by decide) (by decide) (by decide)]) (f1 204 (by decide) (by decide) (by decide))
  obtain ⟨s1, s2, s3⟩ := id HS1
  by_cases hf : fiR K τ (aW K) = true
  · obtain ⟨hR, hE⟩ := g1 hf
    rw [hf, bI_t] at e1
    rw [if_pos hf]
    have e2 := l_endNow (L := L) (xs := xs) (d := d) (V := V) (W := W) HA1 ha hE
    have rx := mX_rg (f := scE K τ) (n := aW K) (c := 2001) ha.1 (by omega) (fun p x y => (hE p x y).2.2.2)
    have ew := HA1.ws
    -- the row is the best so far
    have best : ∃ M2 : e_MI, e_lim L xs (d + 2) 179 39 [some (.ref 184), some (.int (iI (aW K))), none, none, none] [] (e_hp M1 V W) = some (.inl none, e_hp M2 V W, 0, 0) ∧ fQ M M2 ∧ (∀ p, 0 ≤ p → p < aW K → M2 199 p.toNat = iI (τ p)) ∧ TS M2 K (mX (scE K τ) (aW K), τ) := by
      have key := G_lp (i := 0) (n := aW K) (I := fun j M3 => fQ M M3 ∧ (∀ p, 0 ≤ p → p < aW K → M3 199 p.toNat = iI (τ p)) ∧ M3 184 27 = iI (mX (scE K τ) (aW K)) ∧ ∀ p, 0 ≤ p → p < j → M3 204 p.toNat = iI (τ p)) (P := fun j M3 => ∃ M2 : e_MI, e_lim L xs (d + 2) 179 49 [some (.ref 184), some (.int (iI (aW K))), some (.int (iI j)), none, none] [] (e_hp M3 V W) = some (.inl none, e_hp M2 V W, 0, 0) ∧ fQ M M2 ∧ (∀ p, 0 ≤ p → p < aW K → M2 199 p.toNat = iI (τ p)) ∧ TS M2 K (mX (scE K τ) (aW K), τ)) (fun j M3 x y hI hc => ?_) (fun M3 hI => ?_) ha.1 (e_u M1 184 (upd (M1 184) 27 (iI (mX (scE K τ) (aW K))))) ⟨⟨fun a x y z u v w => by rw [e_u_n _ _ x]; exact f1.q9.1 a x y z u v w, fun j x => by rw [e_u_s, upd_n _ _ x]; exact f1.q9.2 j x⟩, fun p x y => by rw [e_u_n _ _ (by decide)]; exact h199 p x y, by rw [e_u_s, upd_s], fun p x y => by omega⟩
      · obtain ⟨M2, e, r⟩ := key
        refine ⟨M2, ?_, r⟩
        rw [← e]
        simp (disch := first | assumption | exact e_nk_i _ | exact e_nk_n | exact e_nk_r _ | exact e_bo_0 | exact e_bo_1 | exact e_bo_b _ | omega) only [e_cl_v, e_cl_x, e_add_0, e_add_s, Option.toList_some, Option.toList_none, List.cons_append, List.nil_append, iI_add, iI_sub, iI_mul, iI_lt, iI_eq, iI_le, r179_39, r179_40, r179_41, r179_44, r179_47, r179_48, e2]
      · obtain ⟨i1, i2, i3, i4⟩ := hI
        have ew3 := (HA.of i1.l).ws
        have e5 := i2 j x y
        obtain ⟨M2, e, r⟩ := hc (e_u M3 204 (upd (M3 204) j.toNat (iI (τ j)))) ⟨i1.tr ⟨fun a _ _ _ _ _ w => e_u_n _ _ w, fun j _ => by rw [e_u_n _ _ (by decide)]⟩, fun p u v => by rw [e_u_n _ _ (by decide)]; exact i2 p u v, by rw [e_u_n _ _ (by decide)]; exact i3, fun p u v => by
          rw [e_u_s]
          by_cases hq : p = j
          · rw [hq, upd_s]
          · rw [upd_n _ _ (by omega)]
            exact i4 p u (by omega)⟩
        refine ⟨M2, ?_, r⟩
        rw [r179_49]
        simp (disch := first | assumption | exact e_nk_i _ | exact e_nk_n | exact e_nk_r _ | exact e_bo_0 | exact e_bo_1 | exact e_bo_b _ | omega) only [e_cl_v, e_cl_x, e_add_0, e_add_s, Option.toList_some, Option.toList_none, List.cons_append, List.nil_append, iI_add, iI_sub, iI_mul, iI_lt, iI_eq, iI_le, r179_50, r179_51, r179_54, r179_57, r179_58, r179_61, r179_62, r179_63, r179_66, r179_67, r179_68, r179_69, r179_72, iI_vin, iI_nat, if_true, ew3, e5, if_pos y]
        exact e
      · obtain ⟨i1, i2, i3, i4⟩ := hI
        have ew3 := (HA.of i1.l).ws
        refine ⟨M3, ?_, i1, i2, i3, by simp only; omega, fun _ => i4⟩
        rw [r179_49]
        simp (disch := first | assumption | exact e_nk_i _ | exact e_nk_n | exact e_nk_r _ | exact e_bo_0 | exact e_bo_1 | exact e_bo_b _ | omega) only [e_cl_v, e_cl_x, e_add_0, e_add_s, Option.toList_some, Option.toList_none, List.cons_append, List.nil_append, iI_add, iI_sub, iI_mul, iI_lt, iI_eq, iI_le, r179_50, r179_51, r179_54, r179_75, ew3]
        rw [if_neg (by omega)]
    by_cases c1 : s.1 = -1
    · rw [if_neg (by omega)]
      obtain ⟨M2, e, r⟩ := best
      refine ⟨M2, ?_, r⟩
      rw [← e]
      simp (disch := first | assumption | exact e_nk_i _ | exact e_nk_n | exact e_nk_r _ | exact e_bo_0 | exact e_bo_1 | exact e_bo_b _ | omega) only [e_cl_v, e_cl_x, e_add_0, e_add_s, Option.toList_some, Option.toList_none, List.cons_append, List.nil_append, iI_add, iI_sub, iI_mul, iI_lt, iI_eq, iI_le, r179_0, r179_1, r179_2, r179_5, r179_8, r179_9, r179_10, r179_13, r179_16, r179_19, r179_20, r179_23, r179_24, r179_27, r179_28, r179_31, r179_32, r179_35, e0, e1, s1, if_true, if_pos c1]
      rw [if_neg (by omega)]
    · by_cases c2 : s.1 ≤ mX (scE K τ) (aW K)
      · rw [if_pos ⟨c1, c2⟩]
        refine ⟨M1, ?_, f1.q9, h199, HS1⟩
        simp (disch := first | assumption | exact e_nk_i _ | exact e_nk_n | exact e_nk_r _ | exact e_bo_0 | exact e_bo_1 | exact e_bo_b _ | omega) only [e_cl_v, e_cl_x, e_add_0, e_add_s, Option.toList_some, Option.toList_none, List.cons_append, List.nil_append, iI_add, iI_sub, iI_mul, iI_lt, iI_eq, iI_le, r179_0, r179_1, r179_2, r179_5, r179_8, r179_9, r179_10, r179_13, r179_16, r179_19, r179_20, r179_23, r179_24, r179_27, r179_28, r179_31, r179_32, r179_35, r179_38, e0, e1, e2, s1, if_true, if_neg c1]
        rw [if_neg (by omega), if_neg (by omega)]
      · rw [if_neg (by omega)]
        obtain ⟨M2, e, r⟩ := best
        refine ⟨M2, ?_, r⟩
        rw [← e]
        simp (disch := first | assumption | exact e_nk_i _ | exact e_nk_n | exact e_nk_r _ | exact e_bo_0 | exact e_bo_1 | exact e_bo_b _ | omega) only [e_cl_v, e_cl_x, e_add_0, e_add_s, Option.toList_some, Option.toList_none, List.cons_append, List.nil_append, iI_add, iI_sub, iI_mul, iI_lt, iI_eq, iI_le, r179_0, r179_1, r179_2, r179_5, r179_8, r179_9, r179_10, r179_13, r179_16, r179_19, r179_20, r179_23, r179_24, r179_27, r179_28, r179_31, r179_32, r179_35, e0, e1, e2, s1, if_true, if_neg c1]
        rw [if_neg (by omega), if_pos (by omega)]
  · have hff : fiR K τ (aW K) = false := by simpa using hf
    rw [hff, bI_f] at e1
    rw [if_neg hf]
    refine ⟨M1, ?_, f1.q9, h199, HS1⟩
    simp (disch := first | assumption | exact e_nk_i _ | exact e_nk_n | exact e_nk_r _ | exact e_bo_0 | exact e_bo_1 | exact e_bo_b _ | omega) only [e_cl_v, e_cl_x, e_add_0, e_add_s, Option.toList_some, Option.toList_none, List.cons_append, List.nil_append, iI_add, iI_sub, iI_mul, iI_lt, iI_eq, iI_le, r179_0, r179_1, r179_2, r179_5, r179_8, r179_9, r179_10, r179_13, r179_16, r179_19, r179_20, r179_23, r179_24, r179_27, r179_28, r179_31, r179_32, r179_35, r179_38, e0, e1, if_true]
end El21
