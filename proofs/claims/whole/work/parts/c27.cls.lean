section Ec27
variable {L : Nat} {xs : Nat → Int32} {d : Nat} {M M2 M3 : e_MI} {V : e_ML} {W : e_MD} {K K2 : e_St} {S : Int → e_St} {h : e_H} {s s0 s1 t t2 a b2 n : Nat} {c o j w z m k q p i f l b e mc tl T x y N : Int} {sc : Bool} {ρ ν μ χ β ε τ u : Int → Int}
/-! an order goes out of the class's shop -/
theorem s_removeOrder (H : SB M 1 K) (hr : kR K) (ho : 0 ≤ o ∧ o < K 310) (hA : aW (dpK K o) + K (40 + o) = aW K) : ∃ M2 : e_MI, e_lim L xs (d + 3) 37 0 [some (.ref 1), some (.int (iI o)), none] [] (e_hp M V W) = some (.inl none, e_hp M2 V W, 0, 0) ∧ SB M2 1 (dpK K o) ∧ ∀ a, a ≠ 1 → a ≠ 2 → a ≠ 3 → M2 a = M a := by
  have hn := hr.n
  have hmm := hr.rm
  have c0 : M 1 0 = iI (K 310) := H.1.1
  have c1 : M 1 1 = iI (aW K) := H.1.2.1
  have e0 := sb_worksIn (L := L) (xs := xs) (d := d + 1) (V := V) (W := W) H hn.2 ho.1 ho.2
  generalize hM0 : e_u (e_u M 1 (upd (M 1) 1 (iI (aW K - K (40 + o))))) 1 (upd (upd (M 1) 1 (iI (aW K - K (40 + o)))) 0 (iI (K 310 - 1))) = M0
  have f0 : ∀ a : Nat, a ≠ 1 → M0 a = M a := fun a y => by rw [← hM0, e_u_n _ _ y, e_u_n _ _ y]
  have d0 : M0 1 0 = iI (K 310 - 1) := by rw [← hM0, e_u_s]; rfl
  have d1 : M0 1 1 = iI (aW K - K (40 + o)) := by rw [← hM0, e_u_s]; rfl
  have d2 : M0 1 2 = iI (K 311) := by rw [← hM0, e_u_s]; exact H.1.2.2
  have u0 : upd (M 1) 1 (iI (aW K - K (40 + o))) 0 = iI (K 310) := c0
  have key := G_lp (i := o) (n := K 310 - 1) (I := fun j M1 => (∀ a, a ≠ 2 → a ≠ 3 → M1 a = M0 a) ∧ (∀ z, 0 ≤ z → z < 48 → M1 2 z.toNat = if o * 6 ≤ z ∧ z < j * 6 then M 2 (z + 6).toNat else M 2 z.toNat) ∧ ∀ z, 0 ≤ z → z < 96 → M1 3 z.toNat = if o * 12 ≤ z ∧ z < j * 12 then M 3 (z + 12).toNat else M 3 z.toNat) (P := fun j M1 => ∃ M2 : e_MI, e_lim L xs (d + 3) 37 26 [some (.ref 1), some (.int (iI o)), some (.int (iI j))] [] (e_hp M1 V W) = some (.inl none, e_hp M2 V W, 0, 0) ∧ (∀ a, a ≠ 2 → a ≠ 3 → M2 a = M0 a) ∧ (∀ z, 0 ≤ z → z < 48 → M2 2 z.toNat = if o * 6 ≤ z ∧ z < (K 310 - 1) * 6 then M 2 (z + 6).toNat else M 2 z.toNat) ∧ ∀ z, 0 ≤ z → z < 96 → M2 3 z.toNat = if o * 12 ≤ z ∧ z < (K 310 - 1) * 12 then M 3 (z + 12).toNat else M 3 z.toNat) (fun j M1 x y hI hc => ?_) (fun M1 hI => ?_) (by omega) M0 ⟨fun _ _ _ => rfl, fun z x y => by rw [if_neg (by omega), f0 2 (by omega)], fun z x y => by rw [if_neg (by omega), f0 3 (by omega)]⟩
  · obtain ⟨M2, e, r1, r2, r3⟩ := key
    refine ⟨M2, ?_, ⟨?_, fun o2 j a b c e => ?_, fun o2 w j a b c e f g => ?_, fun i2 a b => ?_, fun k j a b c e => ?_, fun i2 a b => ?_, fun i2 a b => ?_⟩, fun a x y z => by rw [r1 a y z, f0 a x]⟩
    · rw [← e]
      simp (disch := first | assumption | exact e_nk_i _ | exact e_nk_n | exact e_nk_r _ | exact e_bo_0 | exact e_bo_1 | exact e_bo_b _ | omega) only [e_cl_v, e_cl_x, e_add_0, e_add_s, Option.toList_some, Option.toList_none, List.cons_append, List.nil_append, iI_add, iI_sub, iI_mul, iI_lt, iI_eq, iI_le, r37_0, r37_1, r37_2, r37_5, r37_6, r37_7, r37_10, r37_11, r37_14, r37_15, r37_16, r37_19, r37_20, r37_21, r37_24, r37_25, e0, c0, c1, e_u_s, u0, hM0]
    · rw [r1 1 (by omega) (by omega), dpK_310, show aW (dpK K o) = aW K - K (40 + o) by omega, dpK_n (z := 311) (by omega) (by omega)]
      exact ⟨d0, d1, d2⟩
    · rw [dpK_310] at b
      rw [show 1 + 1 = 2 from rfl, r2 _ (by omega) (by omega), dpK_o (q := 8 * j) (i := o2) (by omega) ⟨a, b⟩ hn.2 ho.1]
      by_cases hq : o2 < o
      · rw [if_pos hq, if_neg (by omega)]
        exact H.2.1 o2 j a (by omega) c e
      · rw [if_neg hq, if_pos (by omega), show o2 * 6 + j + 6 = (o2 + 1) * 6 + j by omega]
        exact H.2.1 (o2 + 1) j (by omega) (by omega) c e
    · rw [dpK_310] at b
      have h40 := dpK_o (K := K) (o := o) (q := 40) (i := o2) (by omega) ⟨a, b⟩ hn.2 ho.1
      rw [h40] at e
      have w1 := hr.wk (o := o2) a (by omega)
      have w2 := hr.wk (o := o2 + 1) (by omega) (by omega)
      have hw3 : w ≤ 3 := by
        split at e <;> omega
      rw [show 1 + 2 = 3 from rfl, r3 _ (by omega) (by omega), dpK_w (q := 48 + 32 * j) (i := o2) (by omega) ⟨a, b⟩ hn.2 ho.1 ⟨c, by omega⟩]
      by_cases hq : o2 < o
      · rw [if_pos hq] at e
        rw [if_pos hq, if_neg (by omega)]
        exact H.2.2.1 o2 w j a (by omega) c e f g
      · rw [if_neg hq] at e
        rw [if_neg hq, if_pos (by omega), show (o2 * 4 + w) * 3 + j + 12 = ((o2 + 1) * 4 + w) * 3 + j by omega]
        exact H.2.2.1 (o2 + 1) w j (by omega) (by omega) c e f g
    · rw [r1 _ (by omega) (by omega), f0 _ (by omega), dpK_n (by omega) (by omega)]
      exact H.2.2.2.1 i2 a b
    · rw [dpK_n (z := 311) (by omega) (by omega)] at b
      rw [r1 _ (by omega) (by omega), f0 _ (by omega), dpK_n (by omega) (by omega)]
      exact H.2.2.2.2.1 k j a b c e
    · rw [r1 _ (by omega) (by omega), f0 _ (by omega), dpK_n (by omega) (by omega)]
      exact H.2.2.2.2.2.1 i2 a b
    · rw [r1 _ (by omega) (by omega), f0 _ (by omega), dpK_n (by omega) (by omega)]
      exact H.2.2.2.2.2.2 i2 a b
  · have q0 : M1 1 0 = iI (K 310 - 1) := by rw [hI.1 1 (by omega) (by omega)]; exact d0
    obtain ⟨M2, e1, g2, g3, gf⟩ := s_copyOrder (L := L) (xs := xs) (d := d) (M := M1) (V := V) (W := W) (i := j + 1) (p := j) (by omega) (by omega) (by omega)
    obtain ⟨M3, e, r⟩ := hc M2 ⟨fun a x y => by rw [gf a x y, hI.1 a x y], fun z a b => by
      rw [g2 z a b]
      by_cases hq : j * 6 ≤ z ∧ z < j * 6 + 6
      · rw [if_pos hq, if_pos (by omega), hI.2.1 _ (by omega) (by omega), if_neg (by omega), show z - j * 6 + (j + 1) * 6 = z + 6 by omega]
      · rw [if_neg hq, hI.2.1 z a b]
        by_cases hq2 : o * 6 ≤ z ∧ z < j * 6
        · rw [if_pos hq2, if_pos (by omega)]
        · rw [if_neg hq2, if_neg (by omega)], fun z a b => by
      rw [g3 z a b]
      by_cases hq : j * 12 ≤ z ∧ z < j * 12 + 12
      · rw [if_pos hq, if_pos (by omega), hI.2.2 _ (by omega) (by omega), if_neg (by omega), show z - j * 12 + (j + 1) * 12 = z + 12 by omega]
      · rw [if_neg hq, hI.2.2 z a b]
        by_cases hq2 : o * 12 ≤ z ∧ z < j * 12
        · rw [if_pos hq2, if_pos (by omega)]
        · rw [if_neg hq2, if_neg (by omega)]⟩
    refine ⟨M3, ?_, r⟩
    rw [← e, r37_26]
    simp (disch := first | assumption | exact e_nk_i _ | exact e_nk_n | exact e_nk_r _ | exact e_bo_0 | exact e_bo_1 | exact e_bo_b _ | omega) only [e_cl_v, e_cl_x, e_add_0, e_add_s, Option.toList_some, Option.toList_none, List.cons_append, List.nil_append, iI_add, iI_sub, iI_mul, iI_lt, iI_eq, iI_le, r37_27, r37_28, r37_31, r37_34, r37_35, r37_36, r37_37, r37_38, r37_39, r37_42, r37_45, q0, e1]
    rw [if_pos y]
  · have q0 : M1 1 0 = iI (K 310 - 1) := by rw [hI.1 1 (by omega) (by omega)]; exact d0
    refine ⟨M1, ?_, hI.1, hI.2.1, hI.2.2⟩
    rw [r37_26]
    simp (disch := first | assumption | exact e_nk_i _ | exact e_nk_n | exact e_nk_r _ | exact e_bo_0 | exact e_bo_1 | exact e_bo_b _ | omega) only [e_cl_v, e_cl_x, e_add_0, e_add_s, Option.toList_some, Option.toList_none, List.cons_append, List.nil_append, iI_add, iI_sub, iI_mul, iI_lt, iI_eq, iI_le, r37_27, r37_28, r37_31, r37_48, q0]
    rw [if_neg (by omega)]
end Ec27
