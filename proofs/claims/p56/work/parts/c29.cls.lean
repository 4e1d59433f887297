section Ec29
variable {L : Nat} {xs : Nat → Int32} {d : Nat} {M M2 M3 : e_MI} {V : e_ML} {W : e_MD} {K K2 : e_St} {S : Int → e_St} {h : e_H} {s s0 s1 t t2 a b2 n : Nat} {c o j w z m k q p i f l b e mc tl T x y N : Int} {sc : Bool} {ρ ν μ χ β ε τ u : Int → Int}
/-! rows that are kept in the class's shop -/
theorem s_keepRow (H : SH M 1 K) (hr : kR K) (ha : aW K ≤ 16) (hq : 0 ≤ q ∧ q ≤ 2) : ∃ M2 : e_MI, e_lim L xs (d + 1) 44 0 [some (.ref 1), some (.int (iI q)), none] [] (e_hp M V W) = some (.inl none, e_hp M2 V W, 0, 0) ∧ SH M2 1 (kpK K q) ∧ ∀ a, a ≠ 9 → a ≠ 10 → M2 a = M a := by
  have e1 := m_putI (L := L) (xs := xs) (d := d) (M := M) (V := V) (W := W) (v := iI 1) si_9 (z := q) hq.1 (by omega)
  generalize hM1 : e_u M 9 (upd (M 9) q.toNat (iI 1)) = M1 at e1
  have f1 : ∀ a, a ≠ 9 → M1 a = M a := fun a y => by rw [← hM1, e_u_n _ _ y]
  have g1 : ∀ i, 0 ≤ i → i < 3 → M1 9 i.toNat = if i = q then iI 1 else M 9 i.toNat := fun i a b => by
    rw [← hM1, e_u_s]
    unfold upd
    by_cases hi : i = q
    · rw [if_pos hi, if_pos (by omega)]
    · rw [if_neg hi, if_neg (by omega)]
  have key := G_lp (i := 0) (n := 16) (I := fun j M2 => (∀ a, a ≠ 10 → M2 a = M1 a) ∧ ∀ z, 0 ≤ z → z < 48 → M2 10 z.toNat = if q * 16 ≤ z ∧ z < q * 16 + j then M 8 (z - q * 16).toNat else M 10 z.toNat) (P := fun j M3 => ∃ M2 : e_MI, e_lim L xs (d + 1) 44 11 [some (.ref 1), some (.int (iI q)), some (.int (iI j))] [] (e_hp M3 V W) = some (.inl none, e_hp M2 V W, 0, 0) ∧ (∀ a, a ≠ 10 → M2 a = M1 a) ∧ ∀ z, 0 ≤ z → z < 48 → M2 10 z.toNat = if q * 16 ≤ z ∧ z < q * 16 + 16 then M 8 (z - q * 16).toNat else M 10 z.toNat) (fun j M3 x y hI hc => ?_) (fun M3 hI => ?_) (by omega) M1 ⟨fun _ _ => rfl, fun z x y => by rw [if_neg (by omega), f1 10 (by omega)]⟩
  · obtain ⟨M2, e, r1, r2⟩ := key
    obtain ⟨hB, hA⟩ := H.sb.kk hr (K2 := kpK K q) (fun z hz => by
      unfold kpK
      rw [if_neg (by omega), if_neg (by omega)])
    have f2 : ∀ a, a ≠ 9 → a ≠ 10 → M2 a = M a := fun a y z => by rw [r1 a z, f1 a y]
    refine ⟨M2, ?_, SH_mk (hB.of fun b x y => f2 b (by omega) (by omega)) (fun p a b => ?_) (fun i a b => ?_) (fun q2 p a b c e f => ?_), f2⟩
    · rw [← e]
      simp (disch := first | assumption | exact e_nk_i _ | exact e_nk_n | exact e_nk_r _ | exact e_bo_0 | exact e_bo_1 | exact e_bo_b _ | omega) only [e_cl_v, e_cl_x, e_add_0, e_add_s, Option.toList_some, Option.toList_none, List.cons_append, List.nil_append, iI_add, iI_sub, iI_mul, iI_lt, iI_eq, iI_le, r44_0, r44_1, r44_4, r44_5, r44_6, r44_9, r44_10, e1]
    · rw [hA] at b
      have hz : kpK K q (241 + p) = K (241 + p) := by
        unfold kpK
        rw [if_neg (by omega), if_neg (by omega)]
      rw [hz, f2 _ (by omega) (by omega)]
      exact H.ro a b
    · rw [r1 9 (by omega), g1 i a b]
      unfold kpK
      by_cases hi : i = q
      · rw [if_pos hi, if_neg (by omega), if_pos (by omega)]
      · rw [if_neg hi, if_neg (by omega), if_neg (by omega)]
        exact H.kp a b
    · rw [hA] at f
      rw [show 1 + 9 = 10 from rfl, r2 _ (by omega) (by omega)]
      by_cases hi : q2 = q
      · rw [if_pos (by omega)]
        unfold kpK
        rw [if_pos (by omega), show q2 * 16 + p - q * 16 = p by omega, show 257 + 16 * q2 + p - (257 + 16 * q) = p by omega]
        exact H.ro e f
      · have hz : ∀ z, (z < 257 + 16 * q ∨ 257 + 16 * q + 16 ≤ z) → z ≠ 305 + q → kpK K q z = K z := fun z h1 h2 => by
          unfold kpK
          rw [if_neg (by omega), if_neg h2]
        rw [hz _ (by omega) (by omega)] at c
        rw [if_neg (by omega), hz _ (by omega) (by omega)]
        exact H.kr a b c e f
  · have g : M3 8 = M 8 := by rw [hI.1 8 (by omega), f1 8 (by omega)]
    have e2 := m_putI (L := L) (xs := xs) (d := d) (M := M3) (V := V) (W := W) (v := M 8 j.toNat) si_10 (z := q * 16 + j) (by omega) (by omega)
    obtain ⟨M2, e, r⟩ := hc (e_u M3 10 (upd (M3 10) (q * 16 + j).toNat (M 8 j.toNat))) ⟨fun a z => by rw [e_u_n _ _ z]; exact hI.1 a z, fun z a b => by
      rw [e_u_s]
      unfold upd
      by_cases hz : z = q * 16 + j
      · rw [if_pos (by omega), if_pos (by omega), show z - q * 16 = j by omega]
      · rw [if_neg (by omega), hI.2 z a b]
        by_cases hz2 : q * 16 ≤ z ∧ z < q * 16 + j
        · rw [if_pos hz2, if_pos (by omega)]
        · rw [if_neg hz2, if_neg (by omega)]⟩
    refine ⟨M2, ?_, r⟩
    rw [← e, r44_11]
    simp (disch := first | assumption | exact e_nk_i _ | exact e_nk_n | exact e_nk_r _ | exact e_bo_0 | exact e_bo_1 | exact e_bo_b _ | omega) only [e_cl_v, e_cl_x, e_add_0, e_add_s, Option.toList_some, Option.toList_none, List.cons_append, List.nil_append, iI_add, iI_sub, iI_mul, iI_lt, iI_eq, iI_le, r44_12, r44_14, r44_17, r44_18, r44_21, r44_22, r44_24, r44_25, r44_26, r44_27, r44_28, r44_31, r44_32, r44_33, r44_36, r44_39, iI_vin, iI_nat, if_true, g, e2]
    rw [if_pos y]
  · refine ⟨M3, ?_, hI.1, hI.2⟩
    rw [r44_11]
    simp (disch := first | assumption | exact e_nk_i _ | exact e_nk_n | exact e_nk_r _ | exact e_bo_0 | exact e_bo_1 | exact e_bo_b _ | omega) only [e_cl_v, e_cl_x, e_add_0, e_add_s, Option.toList_some, Option.toList_none, List.cons_append, List.nil_append, iI_add, iI_sub, iI_mul, iI_lt, iI_eq, iI_le, r44_12, r44_14, r44_42]
    rw [if_neg (by omega)]
theorem s_copyKept (hb : e_isI a 16) (hne : a ≠ 10) (hq : 0 ≤ q ∧ q ≤ 2) : ∃ M2 : e_MI, e_lim L xs (d + 1) 45 0 [some (.ref 1), some (.int (iI q)), some (.ref a), none] [] (e_hp M V W) = some (.inl none, e_hp M2 V W, 0, 0) ∧ (∀ p, 0 ≤ p → p < 16 → M2 a p.toNat = M 10 (q * 16 + p).toNat) ∧ ∀ b, b ≠ a → M2 b = M b := by
  have key := G_lp (i := 0) (n := 16) (I := fun j M2 => (∀ b, b ≠ a → M2 b = M b) ∧ ∀ p, 0 ≤ p → p < j → M2 a p.toNat = M 10 (q * 16 + p).toNat) (P := fun j M3 => ∃ M2 : e_MI, e_lim L xs (d + 1) 45 2 [some (.ref 1), some (.int (iI q)), some (.ref a), some (.int (iI j))] [] (e_hp M3 V W) = some (.inl none, e_hp M2 V W, 0, 0) ∧ (∀ p, 0 ≤ p → p < 16 → M2 a p.toNat = M 10 (q * 16 + p).toNat) ∧ ∀ b, b ≠ a → M2 b = M b) (fun j M3 x y hI hc => ?_) (fun M3 hI => ?_) (by omega) M ⟨fun _ _ => rfl, fun z x y => by omega⟩
  · obtain ⟨M2, e, r⟩ := key
    refine ⟨M2, ?_, r⟩
    rw [← e]
    simp (disch := first | assumption | exact e_nk_i _ | exact e_nk_n | exact e_nk_r _ | exact e_bo_0 | exact e_bo_1 | exact e_bo_b _ | omega) only [e_cl_v, e_cl_x, e_add_0, e_add_s, Option.toList_some, Option.toList_none, List.cons_append, List.nil_append, iI_add, iI_sub, iI_mul, iI_lt, iI_eq, iI_le, r45_0, r45_1]
  · have g : M3 10 (q * 16 + j).toNat = M 10 (q * 16 + j).toNat := by rw [hI.1 10 (Ne.symm hne)]
    have e1 := m_atI (L := L) (xs := xs) (d := d) (M := M3) (V := V) (W := W) si_10 (z := q * 16 + j) (by omega) (by omega) g
    have e2 := m_putI (L := L) (xs := xs) (d := d) (M := M3) (V := V) (W := W) (v := M 10 (q * 16 + j).toNat) hb (z := j) x (by omega)
    obtain ⟨M2, e, r⟩ := hc (e_u M3 a (upd (M3 a) j.toNat (M 10 (q * 16 + j).toNat))) ⟨fun b z => by rw [e_u_n _ _ z]; exact hI.1 b z, fun p b c => by
      rw [e_u_s]
      unfold upd
      by_cases hz : p = j
      · rw [if_pos (by omega), hz]
      · rw [if_neg (by omega)]
        exact hI.2 p b (by omega)⟩
    refine ⟨M2, ?_, r⟩
    rw [← e, r45_2]
    simp (disch := first | assumption | exact e_nk_i _ | exact e_nk_n | exact e_nk_r _ | exact e_bo_0 | exact e_bo_1 | exact e_bo_b _ | omega) only [e_cl_v, e_cl_x, e_add_0, e_add_s, Option.toList_some, Option.toList_none, List.cons_append, List.nil_append, iI_add, iI_sub, iI_mul, iI_lt, iI_eq, iI_le, r45_3, r45_5, r45_8, r45_9, r45_10, r45_11, r45_14, r45_15, r45_17, r45_18, r45_19, r45_20, r45_23, r45_26, r45_29, e1, e2]
    rw [if_pos y]
  · refine ⟨M3, ?_, hI.2, hI.1⟩
    rw [r45_2]
    simp (disch := first | assumption | exact e_nk_i _ | exact e_nk_n | exact e_nk_r _ | exact e_bo_0 | exact e_bo_1 | exact e_bo_b _ | omega) only [e_cl_v, e_cl_x, e_add_0, e_add_s, Option.toList_some, Option.toList_none, List.cons_append, List.nil_append, iI_add, iI_sub, iI_mul, iI_lt, iI_eq, iI_le, r45_3, r45_5, r45_32]
    rw [if_neg (by omega)]
end Ec29
