section Ec16
variable {L : Nat} {xs : Nat → Int32} {d : Nat} {M M2 M3 : e_MI} {V : e_ML} {W : e_MD} {K K2 : e_St} {h : e_H} {s t t2 a n : Nat} {o j w z m k q p i f l b e mc tl v T x N : Int} {sc : Bool} {ρ ν μ χ β ε τ u : Int → Int}
/-! the class finds no error in its times -/
/-- a tool is on one work at a time -/
theorem sc_tool (hr : kR K) (hp : kP K) (hv : vP K τ k) : ∀ b q : Nat, (q : Int) ≤ b → (q : Int) < k → ∀ p, 0 ≤ p → p < (q : Int) → tlA K τ (scW τ) p = tlA K τ (scW τ) q → tlA K τ (scW τ) q ≠ -1 → scE K τ p ≤ loW K τ (scW τ) (scE K τ) q
  | b, q, hb, hk, p, h0, h1, he, hne => by
    have l := lo_spI hr hp hv (p := q) (by omega) hk
    have hc := zLP_cases (fun r => decide (tlA K τ (scW τ) r = tlA K τ (scW τ) q)) q (by omega)
    have e : zLP (fun r => decide (tlA K τ (scW τ) r = tlA K τ (scW τ) q)) q = tAh K τ (scW τ) q := by
      unfold tAh
      rw [if_neg hne]
    rw [e] at hc
    rcases hc with ⟨a, c⟩ | ⟨a, c, g, f⟩
    · have := c p h0 h1
      rw [decide_eq_false_iff_not] at this
      exact absurd he this
    · have m1 := l.2.2.2.2 (by omega)
      by_cases hpq : p = tAh K τ (scW τ) q
      · rw [hpq]
        omega
      · by_cases hlt : tAh K τ (scW τ) q < p
        · have := f p hlt h1
          rw [decide_eq_false_iff_not] at this
          exact absurd he this
        · match b, hb with
          | 0, hb => omega
          | b + 1, hb =>
            rw [decide_eq_true_eq] at g
            have ih := sc_tool hr hp hv b (tAh K τ (scW τ) q).toNat (by omega) (by omega) p h0 (by omega) (by
              rw [Int.toNat_of_nonneg a]
              rw [g]
              exact he) (by
              rw [Int.toNat_of_nonneg a, g]
              exact hne)
            rw [Int.toNat_of_nonneg a] at ih
            have s1 := sc_spI hr hp hv a (show tAh K τ (scW τ) q < k by omega)
            have s2 := sc_spI hr hp hv h0 (show p < k by omega)
            have v := hv (tAh K τ (scW τ) q) a (by omega)
            have hw := hv.rg hr (p := tAh K τ (scW τ) q) a (by omega)
            have hsw : scW τ (tAh K τ (scW τ) q) = cnt τ (τ (tAh K τ (scW τ) q)) (tAh K τ (scW τ) q) := rfl
            have t := tk_pos hr hp (o := τ (tAh K τ (scW τ) q)) (w := scW τ (tAh K τ (scW τ) q)) v.1 (by omega)
            rcases s1.2.2 with z | z
            · have := s1.2.1
              rw [if_pos z] at this
              omega
            · have := s1.2.1
              rw [if_neg (by omega)] at this
              omega
theorem sc_toolI (hr : kR K) (hp : kP K) (hv : vP K τ k) (h0 : 0 ≤ p) (h1 : p < q) (h2 : q < k) (he : tlA K τ (scW τ) p = tlA K τ (scW τ) q) (hne : tlA K τ (scW τ) q ≠ -1) : scE K τ p ≤ loW K τ (scW τ) (scE K τ) q := by
  have := sc_tool hr hp hv q.toNat q.toNat (by omega) (by omega) p h0 (by omega) (by rw [Int.toNat_of_nonneg (by omega)]; exact he) (by rw [Int.toNat_of_nonneg (by omega)]; exact hne)
  rw [Int.toNat_of_nonneg (by omega)] at this
  exact this
/-- nothing stands in the way of a work that has its times -/
theorem sc_free (hr : kR K) (hp : kP K) (hv : vP K τ k) (h0 : 0 ≤ p) (h1 : p < k) (hf : scB K τ p ≠ 2001) (hx : scB K τ p ≤ x) (hx2 : x < scE K τ p) : rsB K (mcA K τ (scW τ) p) x = false ∧ bz (scB K τ) (scE K τ) p x < K (238 + x % 24 / 8) := by
  have v := hv p h0 h1
  have hw := hv.rg hr h0 h1
  have hsw : scW τ p = cnt τ (τ p) p := rfl
  have t := tk_pos hr hp (o := τ p) (w := scW τ p) v.1 (by omega)
  have l := lo_spI hr hp hv h0 h1
  have s := sc_spI hr hp hv h0 h1
  have hE := s.2.1
  rw [if_neg hf] at hE
  have hB := scB_eq K τ h0
  unfold bgW at hB
  have hs := zFF_spec (p := blB K (scB K τ) (scE K τ) p (mcA K τ (scW τ) p)) (time := tk K (τ p) (scW τ p)) (by omega) (2001 - loW K τ (scW τ) (scE K τ) p).toNat (loW K τ (scW τ) (scE K τ) p) l.1.1 (Nat.le_refl _)
  rw [← hB] at hs
  rcases hs with ⟨a, -⟩ | ⟨a, b, c, -⟩
  · exact absurd a hf
  · rcases lB_cases (blB K (scB K τ) (scE K τ) p (mcA K τ (scW τ) p)) (scB K τ p) (tk K (τ p) (scW τ p)) (by omega) (by omega) with ⟨-, g⟩ | ⟨g, -⟩
    · have := g x hx (by omega)
      unfold blB hwB at this
      rw [Bool.or_eq_false_iff, Bool.not_eq_false', decide_eq_true_eq] at this
      exact this
    · omega
theorem sc_room (hr : kR K) (hp : kP K) (hv : vP K τ k) (hf : ∀ p, 0 ≤ p → p < k → scB K τ p ≠ 2001) (hw : ∀ i, 0 ≤ i → i < 3 → 0 ≤ K (238 + i)) (hx : 0 ≤ x) : ∀ n : Nat, (n : Int) ≤ k → bz (scB K τ) (scE K τ) n x ≤ K (238 + x % 24 / 8)
  | 0, _ => by
    have := hw (x % 24 / 8) (by omega) (by omega)
    show (0 : Int) ≤ _
    exact this
  | n + 1, hn => by
    have ih := sc_room hr hp hv hf hw hx n (by omega)
    rw [show ((n + 1 : Nat) : Int) = (n : Int) + 1 by omega, bz_s _ _ _ (by omega)]
    split
    · rename_i hc
      have := (sc_free hr hp hv (p := n) (by omega) (by omega) (hf n (by omega) (by omega)) hc.1 (by omega)).2
      omega
    · omega
theorem tt_sharesWith (ht : e_isT t) (hT : TT M t K τ k) (hr : kR K) (hv : vP K τ k) (h0 : 0 ≤ p ∧ p < k) (h1 : 0 ≤ q ∧ q < k) : e_lim L xs (d + 1) 92 0 [some (.ref t), some (.int (iI p)), some (.int (iI q)), none] [] (e_hp M V W) = some (.inl (some (.int (bI (decide (mcA K τ (scW τ) p = mcA K τ (scW τ) q ∨ (tlA K τ (scW τ) p ≠ -1 ∧ tlA K τ (scW τ) p = tlA K τ (scW τ) q)))))), e_hp M V W, 0, 0) := by
  obtain ⟨⟨t2, k0, k16⟩, a1, a2, a3, a4, a5, a6⟩ := hT.a1
  have w1 := hv.rg hr h0.1 h0.2
  have w2 := hv.rg hr h1.1 h1.2
  have e1 := m_atI (L := L) (xs := xs) (d := d) (M := M) (V := V) (W := W) ht.i3 (z := p) h0.1 (by omega) (a3 p h0.1 h0.2)
  have e2 := m_atI (L := L) (xs := xs) (d := d) (M := M) (V := V) (W := W) ht.i3 (z := q) h1.1 (by omega) (a3 q h1.1 h1.2)
  have e3 := m_atI (L := L) (xs := xs) (d := d) (M := M) (V := V) (W := W) ht.i4 (z := p) h0.1 (by omega) (a4 p h0.1 h0.2)
  have e4 := m_atI (L := L) (xs := xs) (d := d) (M := M) (V := V) (W := W) ht.i4 (z := q) h1.1 (by omega) (a4 q h1.1 h1.2)
  simp (disch := first | assumption | exact e_nk_i _ | exact e_nk_n | exact e_nk_r _ | exact e_bo_0 | exact e_bo_1 | exact e_bo_b _ | omega) only [e_cl_v, e_cl_x, e_add_0, e_add_s, Option.toList_some, Option.toList_none, List.cons_append, List.nil_append, iI_add, iI_sub, iI_mul, iI_lt, iI_eq, iI_le, r92_0, r92_1, r92_4, r92_5, r92_8, r92_9, r92_10, r92_13, r92_14, r92_17, r92_18, r92_21, r92_22, r92_25, r92_28, r92_29, r92_30, r92_33, r92_34, r92_35, r92_38, r92_39, r92_42, r92_45, r92_46, r92_49, r92_50, e1, e2, e3, e4]
  by_cases c1 : mcA K τ (scW τ) p = mcA K τ (scW τ) q
  · rw [if_pos c1, decide_eq_true (Or.inl c1), bI_t]
  · rw [if_neg c1]
    by_cases c2 : tlA K τ (scW τ) p = -1
    · rw [if_pos c2, decide_eq_false (fun y => y.elim c1 (fun g => g.1 c2)), bI_f]
    · rw [if_neg c2]
      by_cases c3 : tlA K τ (scW τ) p = tlA K τ (scW τ) q
      · rw [if_pos c3, decide_eq_true (Or.inr ⟨c2, c3⟩), bI_t]
      · rw [if_neg c3, decide_eq_false (fun y => y.elim c1 (fun g => c3 g.2)), bI_f]
theorem tt_isWrong (ht : e_isT t) (hT : TT M t K τ k) (H : SH M 1 K) (hr : kR K) (hp : kP K) (hd : kD K) (hv : vP K τ k) (hf : ∀ p, 0 ≤ p → p < k → scB K τ p ≠ 2001) (h0 : 0 ≤ p ∧ p < k) : e_lim L xs (d + 3) 91 0 [some (.ref t), some (.ref 1), some (.int (iI p)), none, none, none] [] (e_hp M V W) = some (.inl (some (.int (iI 0))), e_hp M V W, 0, 0) := by
  obtain ⟨⟨t2, k0, k16⟩, a1, a2, a3, a4, a5, a6⟩ := hT.a1
  obtain ⟨b1, -, -, -, -, -⟩ := hT.a2
  have w0 := hv.rg hr h0.1 h0.2
  have v := hv p h0.1 h0.2
  have hsw : scW τ p = cnt τ (τ p) p := rfl
  have tk := tk_pos hr hp (o := τ p) (w := scW τ p) v.1 (by omega)
  have r0 := sc_spI hr hp hv h0.1 h0.2
  have l0 := lo_spI hr hp hv h0.1 h0.2
  have f0 := hf p h0.1 h0.2
  have hE := r0.2.1
  rw [if_neg f0] at hE
  have c1 := oAh_rg τ h0.1
  have e1 := m_atI (L := L) (xs := xs) (d := d + 2) (M := M) (V := V) (W := W) ht.i5 (z := p) h0.1 (by omega) (a5 p h0.1 h0.2)
  have e2 := m_atI (L := L) (xs := xs) (d := d + 2) (M := M) (V := V) (W := W) ht.i7 (z := p) h0.1 (by omega) (b1 p h0.1 h0.2)
  have e3 := m_atI (L := L) (xs := xs) (d := d + 2) (M := M) (V := V) (W := W) ht.i3 (z := p) h0.1 (by omega) (a3 p h0.1 h0.2)
  have e4 := tg_finishAt (L := L) (xs := xs) (d := d + 1) (V := V) (W := W) ht a6 h0.1 h0.2 k16
  have e5 := s_timeBehindRest (L := L) (xs := xs) (d := d + 1) (V := V) (W := W) H hr (m := mcA K τ (scW τ) p) (f := scB K τ p) (t := scE K τ p) (by omega) (by omega) (by omega)
  have hrm := hr.rm
  have e5b : tbR K (mcA K τ (scW τ) p) (scB K τ p) (scE K τ p) = scB K τ p := by
    rcases tbR_cases hd (by omega) (m := mcA K τ (scW τ) p) (scB K τ p) (scE K τ p) with ⟨y, -⟩ | ⟨gg, -, i, i0, i1, g1, g2, g3, g4, g5⟩
    · exact y
    · exfalso
      by_cases hc : K (218 + i) ≤ scB K τ p
      · have := (sc_free hr hp hv h0.1 h0.2 f0 (x := scB K τ p) (Int.le_refl _) (by omega)).1
        have h2 := (rsB_iff (K := K) (m := mcA K τ (scW τ) p) (by omega) (scB K τ p)).mpr ⟨i, i0, i1, g1, hc, by omega⟩
        rw [this] at h2
        exact absurd h2 (by decide)
      · have := (sc_free hr hp hv h0.1 h0.2 f0 (x := K (218 + i)) (by omega) g2).1
        have h2 := (rsB_iff (K := K) (m := mcA K τ (scW τ) p) (by omega) (K (218 + i))).mpr ⟨i, i0, i1, g1, Int.le_refl _, g4⟩
        rw [this] at h2
        exact absurd h2 (by decide)
  rw [e5b] at e5
  have lp : ∀ l4 : Option Value, e_nk l4 = true → e_lim L xs (d + 3) 91 64 [some (.ref t), some (.ref 1), some (.int (iI p)), some (.int (iI (scB K τ p))), l4, some (.int (iI 0))] [] (e_hp M V W) = some (.inl (some (.int (iI 0))), e_hp M V W, 0, 0) := by
    intro l4 n4
    refine G_loopI (C := fun i => e_lim L xs (d + 3) 91 64 [some (.ref t), some (.ref 1), some (.int (iI p)), some (.int (iI (scB K τ p))), l4, some (.int (iI i))] [] (e_hp M V W)) (i := 0) k0 (fun j a b hc => ?_) ?_
    · by_cases hq : j = p
      · subst hq
        rw [r91_64]
        simp (disch := first | assumption | exact e_nk_i _ | exact e_nk_n | exact e_nk_r _ | exact e_bo_0 | exact e_bo_1 | exact e_bo_b _ | omega) only [e_cl_v, e_cl_x, e_add_0, e_add_s, Option.toList_some, Option.toList_none, List.cons_append, List.nil_append, iI_add, iI_sub, iI_mul, iI_lt, iI_eq, iI_le, r91_66, r91_67, r91_70, r91_73, r91_75, r91_76, r91_118, r91_121, t2]
        rw [if_pos b, if_pos trivial]
        exact hc
      · have s1 := tt_sharesWith (L := L) (xs := xs) (d := d + 1) (V := V) (W := W) ht hT hr hv h0 (q := j) ⟨a, b⟩
        have s2 := tg_finishAt (L := L) (xs := xs) (d := d + 1) (V := V) (W := W) ht a6 a b k16
        have s3 := m_atI (L := L) (xs := xs) (d := d + 2) (M := M) (V := V) (W := W) ht.i5 (z := j) a (by omega) (a5 j a b)
        have rj := sc_spI hr hp hv a b
        have hEj := rj.2.1
        rw [if_neg (hf j a b)] at hEj
        have fj := hf j a b
        rw [r91_64]
        simp (disch := first | assumption | exact e_nk_i _ | exact e_nk_n | exact e_nk_r _ | exact e_bo_0 | exact e_bo_1 | exact e_bo_b _ | omega) only [e_cl_v, e_cl_x, e_add_0, e_add_s, Option.toList_some, Option.toList_none, List.cons_append, List.nil_append, iI_add, iI_sub, iI_mul, iI_lt, iI_eq, iI_le, r91_66, r91_67, r91_70, r91_73, r91_75, r91_76, r91_79, r91_80, r91_81, r91_83, r91_86, r91_89, r91_90, r91_91, r91_93, r91_96, r91_99, r91_100, r91_103, r91_105, r91_108, r91_109, r91_110, r91_113, r91_116, r91_117, r91_118, r91_121, t2, s1, s2, s3, e4, bI_0]
        rw [if_pos b, if_neg hq]
        by_cases hs : mcA K τ (scW τ) p = mcA K τ (scW τ) j ∨ (tlA K τ (scW τ) p ≠ -1 ∧ tlA K τ (scW τ) p = tlA K τ (scW τ) j)
        · have hdis : scE K τ j ≤ scB K τ p ∨ scE K τ p ≤ scB K τ j := by
            by_cases hlt : j < p
            · left
              have : scE K τ j ≤ loW K τ (scW τ) (scE K τ) p := by
                rcases hs with g | ⟨g1, g2⟩
                · exact sc_machI hr hp hv a hlt h0.2 g.symm
                · exact sc_toolI hr hp hv a hlt h0.2 g2.symm g1
              omega
            · right
              have : scE K τ p ≤ loW K τ (scW τ) (scE K τ) j := by
                rcases hs with g | ⟨g1, g2⟩
                · exact sc_machI hr hp hv h0.1 (by omega) b g
                · exact sc_toolI hr hp hv h0.1 (by omega) b g2 (by rw [← g2]; exact g1)
              omega
          rw [if_neg (by rw [decide_eq_false_iff_not]; exact fun y => y hs)]
          rcases hdis with g | g
          · first | rw [if_neg (by omega)] | rw [if_pos (by omega)]
            exact hc
          · by_cases g2 : scE K τ j ≤ scB K τ p
            · first | rw [if_neg (by omega)] | rw [if_pos (by omega)]
              exact hc
            · first | rw [if_pos (by omega)] | rw [if_neg (by omega)]
              first | rw [if_neg (by omega)] | rw [if_pos (by omega)]
              exact hc
        · rw [if_pos (by rw [decide_eq_false_iff_not]; exact hs)]
          exact hc
    · rw [r91_64]
      simp (disch := first | assumption | exact e_nk_i _ | exact e_nk_n | exact e_nk_r _ | exact e_bo_0 | exact e_bo_1 | exact e_bo_b _ | omega) only [e_cl_v, e_cl_x, e_add_0, e_add_s, Option.toList_some, Option.toList_none, List.cons_append, List.nil_append, iI_add, iI_sub, iI_mul, iI_lt, iI_eq, iI_le, r91_66, r91_67, r91_70, r91_124, r91_125, t2]
      rw [if_neg (by omega)]
  rcases c1 with c | c
  · rw [c] at e2
    simp (disch := first | assumption | exact e_nk_i _ | exact e_nk_n | exact e_nk_r _ | exact e_bo_0 | exact e_bo_1 | exact e_bo_b _ | omega) only [e_cl_v, e_cl_x, e_add_0, e_add_s, Option.toList_some, Option.toList_none, List.cons_append, List.nil_append, iI_add, iI_sub, iI_mul, iI_lt, iI_eq, iI_le, r91_0, r91_1, r91_4, r91_5, r91_8, r91_9, r91_10, r91_13, r91_14, r91_17, r91_19, r91_21, r91_22, r91_25, r91_26, r91_27, r91_29, r91_32, r91_35, r91_36, r91_37, r91_38, r91_39, r91_42, r91_43, r91_46, r91_47, r91_48, r91_49, r91_52, r91_55, r91_56, r91_59, r91_60, r91_61, r91_62, e1, e2, e3, e4, e5]
    simp only [if_true]
    exact lp _ (e_nk_i _)
  · have e6 := tg_finishAt (L := L) (xs := xs) (d := d + 1) (V := V) (W := W) ht a6 (p := oAh τ p) (by omega) (by omega) k16
    have r6 := sc_spI hr hp hv (p := oAh τ p) (by omega) (by omega)
    have l6 := l0.2.2.1 (by omega)
    simp (disch := first | assumption | exact e_nk_i _ | exact e_nk_n | exact e_nk_r _ | exact e_bo_0 | exact e_bo_1 | exact e_bo_b _ | omega) only [e_cl_v, e_cl_x, e_add_0, e_add_s, Option.toList_some, Option.toList_none, List.cons_append, List.nil_append, iI_add, iI_sub, iI_mul, iI_lt, iI_eq, iI_le, r91_0, r91_1, r91_4, r91_5, r91_8, r91_9, r91_10, r91_13, r91_14, r91_17, r91_19, r91_21, r91_22, r91_25, r91_26, r91_27, r91_29, r91_32, r91_35, r91_36, r91_37, r91_38, r91_39, r91_42, r91_43, r91_46, r91_47, r91_48, r91_49, r91_52, r91_55, r91_56, r91_59, r91_60, r91_61, r91_62, e1, e2, e3, e4, e5, e6]
    rw [if_neg (by omega)]
    first | rw [if_pos (by omega)] | rw [if_neg (by omega)]
    simp only [if_true]
    exact lp _ (e_nk_i _)
end Ec16
