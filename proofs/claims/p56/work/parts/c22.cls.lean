section Ec22
variable {L : Nat} {xs : Nat → Int32} {d : Nat} {M M2 M3 : e_MI} {V : e_ML} {W : e_MD} {K K2 : e_St} {S : Int → e_St} {h : e_H} {s s0 s1 t t2 a b2 n : Nat} {c o j w z m k q p i f l b e mc tl v T x N : Int} {sc : Bool} {ρ ν μ χ β ε τ u : Int → Int}
/-! the class's changes of a shop -/
/-- the row order by order, all else stays -/
theorem s_layRowS (H : SH M 1 K) (hr : kR K) (ha : aW K ≤ 16) : ∃ M2 : e_MI, e_lim L xs (d + 2) 42 0 [some (.ref 1), none, none, none, none] [] (e_hp M V W) = some (.inl none, e_hp M2 V W, 0, 0) ∧ SH M2 1 (raK K) ∧ ∀ a, a ≠ 8 → M2 a = M a := by
  obtain ⟨M2, e, h8, hf⟩ := s_layRow (L := L) (xs := xs) (d := d) (V := V) (W := W) H.sb hr ha
  obtain ⟨hB, hA⟩ := H.sb.kk hr (K2 := raK K) (fun z hz => raK_n (by omega))
  refine ⟨M2, e, SH_mk (hB.of fun q x y => hf q (by omega)) (fun p x y => ?_) (fun i x y => ?_) (fun q p x y c e f => ?_), hf⟩
  · rw [hA] at y
    unfold raK
    rw [rwS_r x (by omega)]
    exact h8 p x y
  · rw [hf 9 (by omega), raK_n (by omega)]
    exact H.kp x y
  · rw [hA] at f
    rw [raK_n (by omega)] at c
    rw [hf 10 (by omega), raK_n (by omega)]
    exact H.kr x y c e f
theorem s_startAfresh (H : SB M 1 K) (hr : kR K) (ha : aW K ≤ 16) : ∃ M2 : e_MI, e_lim L xs (d + 3) 43 0 [some (.ref 1)] [] (e_hp M V W) = some (.inl none, e_hp M2 V W, 0, 0) ∧ SH M2 1 (nwK K) ∧ ∀ a, a ≠ 8 → a ≠ 9 → M2 a = M a := by
  obtain ⟨M1, e1, f1, g1⟩ := m_fillN (L := L) (xs := xs) (d := d + 2) (M := M) (V := V) (W := W) (a := 9) (n := 3) (v := iI 0) si_9
  have hgk : ∀ z, z < 241 ∨ 308 ≤ z → gkK K z = K z := fun z hz => by
    unfold gkK
    rw [if_neg (by omega)]
  obtain ⟨hB0, hA0⟩ := H.kk hr hgk
  have hB1 : SB M1 1 (gkK K) := hB0.of fun q x y => g1 q (by omega)
  obtain ⟨M2, e2, h8, hf⟩ := s_layRow (L := L) (xs := xs) (d := d) (V := V) (W := W) hB1 hr.gk (by omega)
  obtain ⟨hB, hA⟩ := hB1.kk hr.gk (K2 := nwK K) (fun z hz => raK_n (by omega))
  refine ⟨M2, ?_, SH_mk (hB.of fun q x y => hf q (by omega)) (fun p x y => ?_) (fun i x y => ?_) (fun q p x y c e f => ?_), fun a x y => by rw [hf a x, g1 a y]⟩
  · simp (disch := first | assumption | exact e_nk_i _ | exact e_nk_n | exact e_nk_r _ | exact e_bo_0 | exact e_bo_1 | exact e_bo_b _ | omega) only [e_cl_v, e_cl_x, e_add_0, e_add_s, Option.toList_some, Option.toList_none, List.cons_append, List.nil_append, iI_add, iI_sub, iI_mul, iI_lt, iI_eq, iI_le, r43_0, r43_1, r43_4, r43_5, r43_8, r43_9, r43_12, e1, e2]
  · rw [hA] at y
    unfold nwK raK
    rw [rwS_r x (by omega)]
    exact h8 p x y
  · have hz : nwK K (305 + i) = 0 := by
      show raK (gkK K) (305 + i) = 0
      rw [raK_n (by omega)]
      unfold gkK
      rw [if_pos (by omega)]
    rw [hf 9 (by omega), f1 _ (by omega), hz]
  · have hz : nwK K (305 + q) = 0 := by
      show raK (gkK K) (305 + q) = 0
      rw [raK_n (by omega)]
      unfold gkK
      rw [if_pos (by omega)]
    omega
theorem s_setOrderCell {v : Int32} (h0 : 0 ≤ o) (h1 : o < 8) (h2 : 0 ≤ j) (h3 : j < 6) : e_lim L xs (d + 1) 28 0 [some (.ref 1), some (.int (iI o)), some (.int (iI j)), some (.int v)] [] (e_hp M V W) = some (.inl none, e_hp (e_u M 2 (upd (M 2) (o * 6 + j).toNat v)) V W, 0, 0) := by
  have e1 := m_putI (L := L) (xs := xs) (d := d) (M := M) (V := V) (W := W) (v := v) si_2 (z := o * 6 + j) (by omega) (by omega)
  simp (disch := first | assumption | exact e_nk_i _ | exact e_nk_n | exact e_nk_r _ | exact e_bo_0 | exact e_bo_1 | exact e_bo_b _ | omega) only [e_cl_v, e_cl_x, e_add_0, e_add_s, Option.toList_some, Option.toList_none, List.cons_append, List.nil_append, iI_add, iI_sub, iI_mul, iI_lt, iI_eq, iI_le, r28_0, r28_1, r28_4, r28_5, r28_7, r28_8, r28_9, r28_10, r28_11, r28_14, e1]
theorem s_tellSetting (H : SH M 1 K) (hr : kR K) (hm : 0 ≤ m ∧ m ≤ 3) (hf : 0 ≤ f ∧ f ≤ 3) (ht : 0 ≤ x ∧ x ≤ 3) : ∃ M2 : e_MI, e_lim L xs (d + 1) 38 0 [some (.ref 1), some (.int (iI m)), some (.int (iI f)), some (.int (iI x)), some (.int (iI v))] [] (e_hp M V W) = some (.inl none, e_hp M2 V W, 0, 0) ∧ SH M2 1 (uI K (144 + 16 * m + 4 * f + x) v) ∧ ∀ a, a ≠ 4 → M2 a = M a := by
  have e1 := m_putI (L := L) (xs := xs) (d := d) (M := M) (V := V) (W := W) (v := iI v) si_4 (z := (m * 4 + f) * 4 + x) (by omega) (by omega)
  have hn := hr.n
  have hmm := hr.rm
  have hu : ∀ z, z ≠ 144 + 16 * m + 4 * f + x → uI K (144 + 16 * m + 4 * f + x) v z = K z := fun z hz => uI_n _ _ hz
  have hA : aW (uI K (144 + 16 * m + 4 * f + x) v) = aW K := aW_cong (hu _ (by omega)) (fun o a b => hu _ (by omega))
  refine ⟨e_u M 4 (upd (M 4) ((m * 4 + f) * 4 + x).toNat (iI v)), by
    simp (disch := first | assumption | exact e_nk_i _ | exact e_nk_n | exact e_nk_r _ | exact e_bo_0 | exact e_bo_1 | exact e_bo_b _ | omega) only [e_cl_v, e_cl_x, e_add_0, e_add_s, Option.toList_some, Option.toList_none, List.cons_append, List.nil_append, iI_add, iI_sub, iI_mul, iI_lt, iI_eq, iI_le, r38_0, r38_1, r38_4, r38_5, r38_6, r38_7, r38_8, r38_9, r38_10, r38_11, r38_12, r38_13, r38_15, r38_18, e1], ?_, fun a y => e_u_n _ _ y⟩
  refine SH_mk ⟨?_, fun o j a b c e => ?_, fun o w j a b c e f g => ?_, fun i a b => ?_, fun k j a b c e => ?_, fun i a b => ?_, fun i a b => ?_⟩ (fun p a b => ?_) (fun i a b => ?_) (fun q p a b c e f => ?_)
  · rw [hu _ (by omega), hu _ (by omega), hA]
    exact H.1
  · rw [hu _ (by omega)] at b
    rw [hu _ (by omega), e_u_n _ _ (by omega)]
    exact H.oc a b c e
  · rw [hu _ (by omega)] at b e
    have := hr.wk (o := o) a (by omega)
    rw [hu _ (by omega), e_u_n _ _ (by omega)]
    exact H.wc a b c e f g
  · rw [e_u_s]
    unfold upd uI
    by_cases hq : i = 16 * m + 4 * f + x
    · rw [if_pos (by omega), if_pos (by omega)]
    · rw [if_neg (by omega), if_neg (by omega)]
      exact H.se a b
  · rw [hu _ (by omega)] at b
    rw [hu _ (by omega), e_u_n _ _ (by omega)]
    exact H.re a b c e
  · rw [hu _ (by omega), e_u_n _ _ (by omega)]
    exact H.sf a b
  · rw [hu _ (by omega), e_u_n _ _ (by omega)]
    exact H.ra a b
  · rw [hA] at b
    rw [hu _ (by omega), e_u_n _ _ (by omega)]
    exact H.ro a b
  · rw [hu _ (by omega), e_u_n _ _ (by omega)]
    exact H.kp a b
  · rw [hA] at f
    rw [hu _ (by omega)] at c
    rw [hu _ (by omega), e_u_n _ _ (by omega)]
    exact H.kr a b c e f
end Ec22
