section El32
variable {L : Nat} {xs : Nat → Int32} {d : Nat} {M M1 M2 M3 : e_MI} {V V2 : e_ML} {W : e_MD} {K K2 : e_St} {S : Int → e_St} {h : e_H} {c o j w z m k q p i f a b t x its u v : Int}
/-! a rest is told -/
theorem LA.cgA (H : LA M K) (hr : kR K) (he : ∀ z, z < 208 ∨ z = 310 → K2 z = K z) : LA M K2 := by
  obtain ⟨⟨a1, a2⟩, a3, a4, a5⟩ := H
  have hn := hr.n
  have h310 := he 310 (by omega)
  have haw : aW K2 = aW K := aW_cong h310 (fun o x y => he _ (by omega))
  refine ⟨⟨by rw [h310]; exact a1, by rw [haw]; exact a2⟩, fun o x y => ?_, fun o w x y z t => ?_, fun i x y => ?_⟩
  · rw [h310] at y
    rw [he o (by omega), he (8 + o) (by omega), he (16 + o) (by omega), he (24 + o) (by omega), he (32 + o) (by omega), he (40 + o) (by omega)]
    exact a3 o x y
  · rw [h310] at y
    rw [he (40 + o) (by omega)] at t
    have := hr.wk (o := o) x (by omega)
    rw [he (48 + 4 * o + w) (by omega), he (80 + 4 * o + w) (by omega), he (112 + 4 * o + w) (by omega)]
    exact a4 o w x y z t
  · rw [he (144 + i) (by omega)]
    exact a5 i x y
theorem reK_at {m f t : Int} (hm : 0 ≤ K 311 ∧ K 311 < 10) : reK K m f t (208 + K 311) = m ∧ reK K m f t (218 + K 311) = f ∧ reK K m f t (228 + K 311) = t ∧ reK K m f t 311 = K 311 + 1 := by
  unfold reK
  refine ⟨?_, ?_, ?_, ?_⟩
  · rw [uI_n _ _ (by omega), uI_n _ _ (by omega), uI_n _ _ (by omega), uI_s]
  · rw [uI_n _ _ (by omega), uI_n _ _ (by omega), uI_s]
  · rw [uI_n _ _ (by omega), uI_s]
  · rw [uI_s]
theorem reK_el {m f t : Int} (hm : 0 ≤ K 311 ∧ K 311 < 10) (hk : 0 ≤ k ∧ k < K 311) : reK K m f t (208 + k) = K (208 + k) ∧ reK K m f t (218 + k) = K (218 + k) ∧ reK K m f t (228 + k) = K (228 + k) := by
  unfold reK
  refine ⟨?_, ?_, ?_⟩
  all_goals rw [uI_n _ _ (by omega), uI_n _ _ (by omega), uI_n _ _ (by omega), uI_n _ _ (by omega)]
theorem l_isRested (H : CL M K c S) (h9 : K 311 < 10) : ∃ (M2 : e_MI) (K2 : e_St) (c2 : Int) (S2 : Int → e_St), e_lim L xs (d + 8) 178 0 [some (.ref 184), none, none, none, none] [] (e_hp M V W) = some (.inl (some (.int (bI true))), e_hp M2 V W, 0, 0) ∧ CL M2 K2 c2 S2 ∧ (K2 311 = K 311 + 1 ∧ K2 310 = K 310) ∧ fTp M M2 := by
  have hr := H.g.1
  have hn := hr.n
  have hrm := hr.rm
  have hp := H.g.2.2.1
  obtain ⟨ha, hv0⟩ := H.g.2.1
  have hv : vR K (rwK K) := hv0
  have hvp : vP K (rwK K) (aW K) := vR.vp hr hv
  obtain ⟨M1, e1, f1, g1⟩ := l_reads (L := L) (xs := xs) (d := d + 4) (V := V) (W := W) H.la H.ck.sh hr H.g.2.1
  have H1 := H.of f1.l
  obtain ⟨M2, e2, f2, g2⟩ := l_isTimed (L := L) (xs := xs) (d := d + 6) (V := V) (W := W) H1.la H1.lb hr hp hvp ha g1
  have hft : fiR K (rwK K) (aW K) = ft K := rfl
  rw [hft] at e2 g2
  have H2 := H1.of f2.l
  have e0 := H1.la.ws
  have h199 : ∀ p, 0 ≤ p → p < aW K → M2 199 p.toNat = iI (rwK K p) := fun p x y => by rw [f2 199 (by decide) (by decide) (by decide)]; exact g1 p x y
  have h10 : ¬ (iI 1 = iI 0) := by decide
  -- the begins are kept
  have keep : ∃ M3 : e_MI, (∀ a, a ≠ 203 → M3 a = M2 a) ∧ (ft K = true → ∀ p, 0 ≤ p → p < aW K → M3 203 p.toNat = iI (bT K p)) ∧ ∀ r : e_R, e_lim L xs (d + 8) 178 56 [some (.ref 184), some (.int (bI (ft K))), none, none, none] [] (e_hp M3 V W) = some r → e_lim L xs (d + 8) 178 0 [some (.ref 184), none, none, none, none] [] (e_hp M V W) = some r := by
    cases hf : ft K with
    | true =>
      obtain ⟨hR, hE⟩ := g2 hf
      rw [hf, bI_t] at e2
      have key := G_lp (i := 0) (n := aW K) (I := fun j M3 => (∀ a, a ≠ 203 → M3 a = M2 a) ∧ ∀ p, 0 ≤ p → p < j → M3 203 p.toNat = iI (bT K p)) (P := fun j M3 => ∃ M4 : e_MI, ((∀ a, a ≠ 203 → M4 a = M2 a) ∧ ∀ p, 0 ≤ p → p < aW K → M4 203 p.toNat = iI (bT K p)) ∧ ∀ r : e_R, e_lim L xs (d + 8) 178 56 [some (.ref 184), some (.int (iI 1)), none, none, none] [] (e_hp M4 V W) = some r → e_lim L xs (d + 8) 178 26 [some (.ref 184), some (.int (iI 1)), some (.int (iI j)), none, none] [] (e_hp M3 V W) = some r) (fun j M3 x y hI hc => ?_) (fun M3 hI => ?_) ha.1 M2 ⟨fun _ _ => rfl, fun p x y => by omega⟩
      · obtain ⟨M4, ⟨a1, a2⟩, a3⟩ := key
        refine ⟨M4, a1, fun _ => a2, fun r h => ?_⟩
        simp (disch := first | assumption | exact e_nk_i _ | exact e_nk_n | exact e_nk_r _ | exact e_bo_0 | exact e_bo_1 | exact e_bo_b _ | omega) only [e_cl_v, e_cl_x, e_add_0, e_add_s, Option.toList_some, Option.toList_none, List.cons_append, List.nil_append, iI_add, iI_sub, iI_mul, iI_lt, iI_eq, iI_le, r178_0, r178_1, r178_4, r178_7, r178_8, r178_9, r178_12, r178_15, r178_18, r178_19, r178_22, r178_23, r178_24, r178_25, e0, e1, e2, if_neg h10]
        exact a3 r h
      · obtain ⟨i1, i2⟩ := hI
        have ew : M3 184 17 = iI (aW K) := by rw [i1 184 (by decide)]; exact H2.la.ws
        have eb : M3 201 j.toNat = iI (bT K j) := by rw [i1 201 (by decide)]; exact (hE j x y).1.1
        obtain ⟨M4, a1, a3⟩ := hc (e_u M3 203 (upd (M3 203) j.toNat (iI (bT K j)))) ⟨fun a z => by rw [e_u_n _ _ z]; exact i1 a z, fun p u v => by
          rw [e_u_s]
          by_cases hq : p = j
          · rw [hq, upd_s]
          · rw [upd_n _ _ (by omega)]
            exact i2 p u (by omega)⟩
        refine ⟨M4, a1, fun r h => ?_⟩
        rw [r178_26]
        simp (disch := first | assumption | exact e_nk_i _ | exact e_nk_n | exact e_nk_r _ | exact e_bo_0 | exact e_bo_1 | exact e_bo_b _ | omega) only [e_cl_v, e_cl_x, e_add_0, e_add_s, Option.toList_some, Option.toList_none, List.cons_append, List.nil_append, iI_add, iI_sub, iI_mul, iI_lt, iI_eq, iI_le, r178_27, r178_28, r178_31, r178_34, r178_35, r178_38, r178_39, r178_42, r178_43, r178_44, r178_47, r178_48, r178_49, r178_50, r178_53, iI_vin, iI_nat, if_true, ew, eb, if_pos y, if_neg h10]
        exact a3 r h
      · obtain ⟨i1, i2⟩ := hI
        have ew : M3 184 17 = iI (aW K) := by rw [i1 184 (by decide)]; exact H2.la.ws
        refine ⟨M3, ⟨i1, i2⟩, fun r h => ?_⟩
        rw [r178_26]
        simp (disch := first | assumption | exact e_nk_i _ | exact e_nk_n | exact e_nk_r _ | exact e_bo_0 | exact e_bo_1 | exact e_bo_b _ | omega) only [e_cl_v, e_cl_x, e_add_0, e_add_s, Option.toList_some, Option.toList_none, List.cons_append, List.nil_append, iI_add, iI_sub, iI_mul, iI_lt, iI_eq, iI_le, r178_27, r178_28, r178_31, ew]
        rw [if_neg (by omega)]
        exact G_less (by repeat (first | exact e_ll.rf | refine e_ll_c ?_ | refine e_ll_x ?_)) h
    | false =>
      rw [hf, bI_f] at e2
      have ew : M2 184 17 = iI (aW K) := H2.la.ws
      refine ⟨M2, fun _ _ => rfl, fun h => (by cases h), fun r h => ?_⟩
      have h1z : ¬ ((1 : Int) = 0) := by omega
      simp (disch := first | assumption | exact e_nk_i _ | exact e_nk_n | exact e_nk_r _ | exact e_bo_0 | exact e_bo_1 | exact e_bo_b _ | omega) only [e_cl_v, e_cl_x, e_add_0, e_add_s, Option.toList_some, Option.toList_none, List.cons_append, List.nil_append, iI_add, iI_sub, iI_mul, iI_lt, iI_eq, iI_le, r178_0, r178_1, r178_4, r178_7, r178_8, r178_9, r178_12, r178_15, r178_18, r178_19, r178_22, r178_23, r178_24, r178_25, e0, e1, e2, bI_t, if_neg h10, if_neg h1z, if_true]
      rw [r178_26]
      by_cases hz : 0 < aW K
      · simp (disch := first | assumption | exact e_nk_i _ | exact e_nk_n | exact e_nk_r _ | exact e_bo_0 | exact e_bo_1 | exact e_bo_b _ | omega) only [e_cl_v, e_cl_x, e_add_0, e_add_s, Option.toList_some, Option.toList_none, List.cons_append, List.nil_append, iI_add, iI_sub, iI_mul, iI_lt, iI_eq, iI_le, r178_27, r178_28, r178_31, r178_34, r178_35, ew, if_pos hz, if_true]
        exact G_less (by repeat (first | exact e_ll.rf | refine e_ll_c ?_ | refine e_ll_x ?_)) h
      · simp (disch := first | assumption | exact e_nk_i _ | exact e_nk_n | exact e_nk_r _ | exact e_bo_0 | exact e_bo_1 | exact e_bo_b _ | omega) only [e_cl_v, e_cl_x, e_add_0, e_add_s, Option.toList_some, Option.toList_none, List.cons_append, List.nil_append, iI_add, iI_sub, iI_mul, iI_lt, iI_eq, iI_le, r178_27, r178_28, r178_31, r178_34, r178_35, ew, if_neg hz]
        exact G_less (by repeat (first | exact e_ll.rf | refine e_ll_c ?_ | refine e_ll_x ?_)) h
  obtain ⟨M3, k1, k2, k3⟩ := keep
  have fL3 : fL M2 M3 := ⟨fun a x => k1 a (by omega), fun a x y => k1 a (by omega), fun j x => by rw [k1 184 (by decide)]⟩
  have H3 := H2.of fL3
  -- machine, from, to
  obtain ⟨M4, m, e4, r4, f4⟩ := l_next (L := L) (xs := xs) (d := d + 7) (V := V) (W := W) (M := M3) (n := 3) (by omega)
  have l4 := (H3.of f4.l).lb
  generalize hM5 : e_u M4 196 (upd (M4 196) (K 311).toNat (iI m)) = M5
  have a5 : ∀ a, a ≠ 196 → M5 a = M4 a := fun a x => by rw [← hM5, e_u_n _ _ x]
  have b5 : ∀ i : Nat, M5 196 i = if i = (K 311).toNat then iI m else M4 196 i := fun i => by rw [← hM5, e_u_s]; rfl
  obtain ⟨M6, f, e6, r6, f6⟩ := l_next (L := L) (xs := xs) (d := d + 7) (V := V) (W := W) (M := M5) (n := 60) (by omega)
  generalize hM7 : e_u M6 197 (upd (M6 197) (K 311).toNat (iI f)) = M7
  have a7 : ∀ a, a ≠ 197 → M7 a = M6 a := fun a x => by rw [← hM7, e_u_n _ _ x]
  have b7 : ∀ i : Nat, M7 197 i = if i = (K 311).toNat then iI f else M6 197 i := fun i => by rw [← hM7, e_u_s]; rfl
  obtain ⟨M8, t, e8, r8, f8⟩ := l_next (L := L) (xs := xs) (d := d + 7) (V := V) (W := W) (M := M7) (n := 30) (by omega)
  generalize hM9 : e_u (e_u M8 198 (upd (M8 198) (K 311).toNat (iI (f + 1 + t)))) 184 (upd (M8 184) 18 (iI (K 311 + 1))) = M9
  have a9 : ∀ a, a ≠ 198 → a ≠ 184 → M9 a = M8 a := fun a x y => by rw [← hM9, e_u_n _ _ y, e_u_n _ _ x]
  have c9 : ∀ j, j ≠ 18 → M9 184 j = M8 184 j := fun j x => by rw [← hM9, e_u_s, upd_n _ _ x]
  have d9 : M9 184 18 = iI (K 311 + 1) := by rw [← hM9, e_u_s, upd_s]
  have b9 : ∀ i : Nat, M9 198 i = if i = (K 311).toNat then iI (f + 1 + t) else M8 198 i := fun i => by rw [← hM9, e_u_n _ _ (by decide), e_u_s]; rfl
  have al : ∀ a, a ≠ 184 → a ≠ 196 → a ≠ 197 → a ≠ 198 → M9 a = M3 a := fun a x y z w => by rw [a9 a w x, f8.1 a x, a7 a z, f6.1 a x, a5 a y, f4.1 a x]
  have al4 : ∀ j, j ≠ 0 → j ≠ 18 → M9 184 j = M3 184 j := fun j x y => by rw [c9 j y, f8.2 j x, a7 184 (by decide), f6.2 j x, a5 184 (by decide), f4.2 j x]
  generalize hT : f + 1 + t = T at *
  have hkG : kG (reK K m f T) := kG_re H.g h9 (by omega) (by omega) (by omega)
  obtain ⟨z1, z2, z3, z4⟩ := reK_at (K := K) (m := m) (f := f) (t := T) ⟨hrm.1, h9⟩
  have zn : ∀ z, z < 208 ∨ 238 ≤ z → z ≠ 311 → reK K m f T z = K z := fun z x y => reK_n ⟨hrm.1, h9⟩ x y
  have hn2 : reK K m f T 310 = K 310 := zn 310 (by omega) (by omega)
  have haw : aW (reK K m f T) = aW K := aW_cong hn2 (fun o x y => zn _ (by omega) (by omega))
  have hrw : ∀ p, 0 ≤ p → p < aW K → rwK (reK K m f T) p = rwK K p := fun p x y => zn _ (by omega) (by omega)
  have LA9 : LA M9 (reK K m f T) := by
    refine LA.cgA (K := K) ?_ hr (fun z x => zn z (by omega) (by omega))
    obtain ⟨⟨q1, q2⟩, q3, q4, q5⟩ := H3.la
    refine ⟨⟨by rw [al4 16 (by decide) (by decide)]; exact q1, by rw [al4 17 (by decide) (by decide)]; exact q2⟩, fun o x y => ?_, fun o w x y z t => ?_, fun i x y => ?_⟩
    · rw [al 185 (by decide) (by decide) (by decide) (by decide), al 186 (by decide) (by decide) (by decide) (by decide), al 187 (by decide) (by decide) (by decide) (by decide), al 188 (by decide) (by decide) (by decide) (by decide), al 189 (by decide) (by decide) (by decide) (by decide), al 190 (by decide) (by decide) (by decide) (by decide)]
      exact q3 o x y
    · rw [al 191 (by decide) (by decide) (by decide) (by decide), al 192 (by decide) (by decide) (by decide) (by decide), al 193 (by decide) (by decide) (by decide) (by decide)]
      exact q4 o w x y z t
    · rw [al 194 (by decide) (by decide) (by decide) (by decide)]
      exact q5 i x y
  have LB9 : LB M9 (reK K m f T) := by
    obtain ⟨q1, q2, q3⟩ := H3.lb
    refine ⟨by rw [z4]; exact d9, fun i x y => ?_, fun k x y => ?_⟩
    · rw [zn (238 + i) (by omega) (by omega), al 195 (by decide) (by decide) (by decide) (by decide)]
      exact q2 i x y
    · rw [z4] at y
      have c196 : M9 196 k.toNat = if k.toNat = (K 311).toNat then iI m else M3 196 k.toNat := by rw [a9 196 (by decide) (by decide), f8.1 196 (by decide), a7 196 (by decide), f6.1 196 (by decide), b5, f4.1 196 (by decide)]
      have c197 : M9 197 k.toNat = if k.toNat = (K 311).toNat then iI f else M3 197 k.toNat := by rw [a9 197 (by decide) (by decide), f8.1 197 (by decide), b7, f6.1 197 (by decide), a5 197 (by decide), f4.1 197 (by decide)]
      have c198 : M9 198 k.toNat = if k.toNat = (K 311).toNat then iI T else M3 198 k.toNat := by rw [b9, f8.1 198 (by decide), a7 198 (by decide), f6.1 198 (by decide), a5 198 (by decide), f4.1 198 (by decide)]
      rw [c196, c197, c198]
      by_cases hq : k = K 311
      · rw [hq, if_pos rfl, if_pos rfl, if_pos rfl, z1, z2, z3]
        exact ⟨rfl, rfl, rfl⟩
      · obtain ⟨w1, w2, w3⟩ := reK_el (K := K) (m := m) (f := f) (t := T) ⟨hrm.1, h9⟩ (k := k) ⟨x, by omega⟩
        rw [if_neg (by omega), if_neg (by omega), if_neg (by omega), w1, w2, w3]
        exact q3 k x (by omega)
  have LC9 : LC M9 (reK K m f T) := ⟨by rw [zn 309 (by omega) (by omega), al4 19 (by decide) (by decide)]; exact H3.lc.1, by rw [zn 308 (by omega) (by omega), al4 20 (by decide) (by decide)]; exact H3.lc.2⟩
  have hvp2 : vP (reK K m f T) (rwK K) (aW K) := fun p x y => by
    have := hvp p x y
    rw [hn2, zn (40 + rwK K p) (by omega) (by omega)]
    exact this
  have h199b : ∀ p, 0 ≤ p → p < aW K → M9 199 p.toNat = iI (rwK K p) := fun p x y => by rw [al 199 (by decide) (by decide) (by decide) (by decide), k1 199 (by decide)]; exact h199 p x y
  obtain ⟨M10, e10, f10, g10⟩ := l_isTimed (L := L) (xs := xs) (d := d + 6) (V := V) (W := W) LA9 LB9 hkG.1 hkG.2.2.1 hvp2 ha h199b
  have hft2 : fiR (reK K m f T) (rwK K) (aW K) = ft (reK K m f T) := by
    unfold ft
    rw [haw]
    exact fiR_tau ha.1 (fun p x y => (hrw p x y).symm)
  rw [hft2] at e10 g10
  have LA10 := LA9.of f10.l
  have LB10 := LB9.of f10.l
  have LC10 := LC9.of f10.l
  have ck10 : CK M10 K c S := H3.ck.of (fun a x y => by rw [f10 a (by omega) (by omega) (by omega), al a (by omega) (by omega) (by omega) (by omega)])
  obtain ⟨M11, e11, q11, -, g11⟩ := x_rest (L := L) (xs := xs) (d := d) (V := V) (W := W) ck10 H.g (m := m) (f := f) (x := T) (by unfold i32; omega) (by unfold i32; omega) (by unfold i32; omega)
  rw [if_pos (by omega), if_pos h9] at e11
  have ck11 := q11 ⟨by omega, h9⟩
  have hf11 : ∀ a, 183 < a → M11 a = M10 a := fun a x => g11 a (by omega)
  have hf11' : ∀ a, 178 < a → M11 a = M10 a := fun a x => g11 a (by omega)
  have e12 := x_rests (L := L) (xs := xs) (d := d + 4) (V := V) (W := W) ck11.sh hkG (m := m) (x := f) (by unfold i32; omega) (by unfold i32; omega)
  have hrs : rsB (reK K m f T) m f = true := zAN_t (j := K 311) hrm.1 (by rw [z4]; omega) (decide_eq_true ⟨z1, by rw [z2]; omega, by rw [z3]; omega⟩)
  rw [if_pos (by omega), hrs] at e12
  have CL11 : CL M11 (reK K m f T) (svC c) (svS c S K) := by
    refine ⟨ck11, hkG, ⟨by rw [haw]; exact H.lk.1, fun k x y => ?_⟩, ⟨LA10.up hf11, LB10.up hf11, LC10.up hf11⟩, sv_g H.ck.hs.cc H.g H.us⟩
    rw [z4] at y
    by_cases hq : k = K 311
    · rw [hq, z3]; omega
    · rw [(reK_el (K := K) (m := m) (f := f) (t := T) ⟨hrm.1, h9⟩ (k := k) ⟨x, by omega⟩).2.2]
      exact H.lk.2 k x (by omega)
  refine ⟨M11, reK K m f T, svC c, svS c S K, ?_, CL11, ⟨z4, hn2⟩, fun a x y => by rw [hf11' a (by omega), f10 a (by omega) (by omega) (by omega), al a (by omega) (by omega) (by omega) (by omega), k1 a (by omega), f2 a (by omega) (by omega) (by omega), f1 a (by omega)]⟩
  refine k3 _ ?_
  have l3 := H3.lb.rs
  have l5 : M5 184 18 = iI (K 311) := by rw [a5 184 (by decide)]; exact l4.rs
  have l4b : M4 184 18 = iI (K 311) := l4.rs
  have l6 : M6 184 18 = iI (K 311) := by rw [f6.2 18 (by decide)]; exact l5
  have l7 : M7 184 18 = iI (K 311) := by rw [a7 184 (by decide)]; exact l6
  have l8 : M8 184 18 = iI (K 311) := by rw [f8.2 18 (by decide)]; exact l7
  have m7 : M7 197 (K 311).toNat = iI f := by rw [b7, if_pos rfl]
  have l10 : M10 184 18 = iI (K 311 + 1) := by rw [f10 184 (by decide) (by decide) (by decide)]; exact d9
  have w9 : M9 184 17 = iI (aW K) := by have := LA9.ws; rw [haw] at this; exact this
  have w10 : M10 184 17 = iI (aW K) := by rw [f10 184 (by decide) (by decide) (by decide)]; exact w9
  have n196 : M10 196 (K 311).toNat = iI m := by have := LB10.rm (k := K 311) hrm.1 (by rw [z4]; omega); rw [z1] at this; exact this
  have n197 : M10 197 (K 311).toNat = iI f := by have := LB10.rf (k := K 311) hrm.1 (by rw [z4]; omega); rw [z2] at this; exact this
  have n198 : M10 198 (K 311).toNat = iI T := by have := LB10.rt (k := K 311) hrm.1 (by rw [z4]; omega); rw [z3] at this; exact this
  have p18 : M11 184 18 = iI (K 311 + 1) := by rw [hf11 184 (by decide)]; exact l10
  have p196 : M11 196 (K 311).toNat = iI m := by rw [hf11 196 (by decide)]; exact n196
  have p197 : M11 197 (K 311).toNat = iI f := by rw [hf11 197 (by decide)]; exact n197
  have hkk : K 311 + 1 - 1 = K 311 := by omega
  -- up to the second timing
  have up : ∀ r : e_R, e_lim L xs (d + 8) 178 136 [some (.ref 184), some (.int (bI (ft K))), some (.int (iI 0)), some (.int (bI (ft (reK K m f T)))), some (.int (iI 0))] [] (e_hp M10 V W) = some r → e_lim L xs (d + 8) 178 56 [some (.ref 184), some (.int (bI (ft K))), none, none, none] [] (e_hp M3 V W) = some r := by
    intro r h
    simp (disch := first | assumption | exact e_nk_i _ | exact e_nk_n | exact e_nk_r _ | exact e_bo_0 | exact e_bo_1 | exact e_bo_b _ | omega) only [e_cl_v, e_cl_x, e_add_0, e_add_s, Option.toList_some, Option.toList_none, List.cons_append, List.nil_append, iI_add, iI_sub, iI_mul, iI_lt, iI_eq, iI_le, r178_56, r178_57, r178_60, r178_61, r178_64, r178_65, r178_66, r178_69, iI_vin, iI_nat, if_true, l3, e4, hM5]
    simp (disch := first | assumption | exact e_nk_i _ | exact e_nk_n | exact e_nk_r _ | exact e_bo_0 | exact e_bo_1 | exact e_bo_b _ | omega) only [e_cl_v, e_cl_x, e_add_0, e_add_s, Option.toList_some, Option.toList_none, List.cons_append, List.nil_append, iI_add, iI_sub, iI_mul, iI_lt, iI_eq, iI_le, r178_70, r178_71, r178_74, r178_75, r178_78, r178_79, r178_81, r178_84, iI_vin, iI_nat, if_true, l5, e6, hM7]
    simp (disch := first | assumption | exact e_nk_i _ | exact e_nk_n | exact e_nk_r _ | exact e_bo_0 | exact e_bo_1 | exact e_bo_b _ | omega) only [e_cl_v, e_cl_x, e_add_0, e_add_s, Option.toList_some, Option.toList_none, List.cons_append, List.nil_append, iI_add, iI_sub, iI_mul, iI_lt, iI_eq, iI_le, r178_85, r178_86, r178_89, r178_90, r178_93, r178_94, r178_97, r178_98, r178_101, r178_102, r178_103, r178_104, r178_105, r178_107, r178_110, r178_111, iI_vin, iI_nat, if_true, l7, m7, e8]
    rw [hT]
    simp (disch := first | assumption | exact e_nk_i _ | exact e_nk_n | exact e_nk_r _ | exact e_bo_0 | exact e_bo_1 | exact e_bo_b _ | omega) only [e_cl_v, e_cl_x, e_add_0, e_add_s, Option.toList_some, Option.toList_none, List.cons_append, List.nil_append, iI_add, iI_sub, iI_mul, iI_lt, iI_eq, iI_le, r178_112, r178_113, r178_114, r178_117, r178_118, r178_119, e_u_n, l8]
    have hM9b : e_u (e_u M8 198 (upd (M8 198) (K 311).toNat (iI T))) 184 (upd (e_u M8 198 (upd (M8 198) (K 311).toNat (iI T)) 184) 18 (iI (K 311 + 1))) = M9 := by
      rw [e_u_n _ _ (show (184 : Nat) ≠ 198 by decide)]
      exact hM9
    first | rw [hM9b] | rw [hM9] | skip
    simp (disch := first | assumption | exact e_nk_i _ | exact e_nk_n | exact e_nk_r _ | exact e_bo_0 | exact e_bo_1 | exact e_bo_b _ | omega) only [e_cl_v, e_cl_x, e_add_0, e_add_s, Option.toList_some, Option.toList_none, List.cons_append, List.nil_append, iI_add, iI_sub, iI_mul, iI_lt, iI_eq, iI_le, r178_122, r178_123, r178_124, r178_125, r178_126, r178_129, r178_132, r178_133, r178_134, w9, e10]
    exact h
  refine up _ ?_
  -- the answer
  have hot : otW K (reK K m f T) (rwK K) = SU (fun p => if bT K p = scB (reK K m f T) (rwK K) p then 0 else 1) (aW K) := by
    unfold otW
    refine SU_cong fun p x y => ?_
    rw [pl_at hr hv ha.1 x y]
  have fin : ∀ (y4 : Option Value) (n : Int), (ft (reK K m f T) = true ∧ ft K = true → n = otW K (reK K m f T) (rwK K)) → (0 ≤ n ∧ n ≤ 16) → e_lim L xs (d + 8) 178 184 [some (.ref 184), some (.int (bI (ft K))), some (.int (iI n)), some (.int (bI (ft (reK K m f T)))), y4] [] (e_hp M10 V W) = some (.inl (some (.int (bI true))), e_hp M11 V W, 0, 0) := by
    intro y4 n hh hrg
    have han : anRe K m f T = if ft K = true ∧ ft (reK K m f T) = true then n else -1 := by
      unfold anRe
      by_cases c1 : ft (reK K m f T) = true ∧ ft K = true
      · rw [if_pos c1, if_pos ⟨c1.2, c1.1⟩, hh c1]
      · rw [if_neg c1, if_neg (fun x => c1 ⟨x.2, x.1⟩)]
    rw [han] at e11
    cases h1 : ft K with
    | true =>
      cases h2 : ft (reK K m f T) with
      | true =>
        rw [h1, h2, if_pos ⟨rfl, rfl⟩] at e11
        simp (disch := first | assumption | exact e_nk_i _ | exact e_nk_n | exact e_nk_r _ | exact e_bo_0 | exact e_bo_1 | exact e_bo_b _ | omega) only [e_cl_v, e_cl_x, e_add_0, e_add_s, Option.toList_some, Option.toList_none, List.cons_append, List.nil_append, iI_add, iI_sub, iI_mul, iI_lt, iI_eq, iI_le, r178_184, r178_185, r178_188, r178_189, r178_192, r178_193, r178_196, r178_197, r178_198, r178_199, r178_200, r178_203, r178_204, r178_207, r178_208, r178_209, r178_210, r178_211, r178_214, r178_215, r178_218, r178_219, r178_220, r178_221, r178_224, r178_225, r178_228, r178_229, r178_232, r178_233, r178_236, r178_237, r178_240, r178_241, r178_244, r178_245, r178_248, r178_249, r178_252, r178_253, r178_254, r178_255, r178_256, r178_259, r178_260, r178_263, r178_264, r178_265, r178_266, r178_269, r178_272, r178_273, r178_276, r178_277, iI_vin, iI_nat, if_true, l10, hkk, n196, n197, n198, e11, p18, p196, p197, e12, bI_t, if_neg h10]
        rfl
      | false =>
        rw [h1, h2, if_neg (by decide)] at e11
        simp (disch := first | assumption | exact e_nk_i _ | exact e_nk_n | exact e_nk_r _ | exact e_bo_0 | exact e_bo_1 | exact e_bo_b _ | omega) only [e_cl_v, e_cl_x, e_add_0, e_add_s, Option.toList_some, Option.toList_none, List.cons_append, List.nil_append, iI_add, iI_sub, iI_mul, iI_lt, iI_eq, iI_le, r178_184, r178_185, r178_188, r178_189, r178_192, r178_193, r178_196, r178_197, r178_198, r178_199, r178_200, r178_203, r178_204, r178_207, r178_208, r178_209, r178_210, r178_211, r178_214, r178_215, r178_218, r178_219, r178_220, r178_221, r178_224, r178_225, r178_228, r178_229, r178_232, r178_233, r178_236, r178_237, r178_240, r178_241, r178_244, r178_245, r178_248, r178_249, r178_252, r178_253, r178_254, r178_255, r178_256, r178_259, r178_260, r178_263, r178_264, r178_265, r178_266, r178_269, r178_272, r178_273, r178_276, r178_277, iI_vin, iI_nat, if_true, l10, hkk, n196, n197, n198, e11, p18, p196, p197, e12, bI_t, bI_f, if_neg h10]
        rfl
    | false =>
      rw [h1, if_neg (by simp)] at e11
      simp (disch := first | assumption | exact e_nk_i _ | exact e_nk_n | exact e_nk_r _ | exact e_bo_0 | exact e_bo_1 | exact e_bo_b _ | omega) only [e_cl_v, e_cl_x, e_add_0, e_add_s, Option.toList_some, Option.toList_none, List.cons_append, List.nil_append, iI_add, iI_sub, iI_mul, iI_lt, iI_eq, iI_le, r178_184, r178_185, r178_188, r178_189, r178_192, r178_193, r178_196, r178_197, r178_198, r178_199, r178_200, r178_203, r178_204, r178_207, r178_208, r178_209, r178_210, r178_211, r178_214, r178_215, r178_218, r178_219, r178_220, r178_221, r178_224, r178_225, r178_228, r178_229, r178_232, r178_233, r178_236, r178_237, r178_240, r178_241, r178_244, r178_245, r178_248, r178_249, r178_252, r178_253, r178_254, r178_255, r178_256, r178_259, r178_260, r178_263, r178_264, r178_265, r178_266, r178_269, r178_272, r178_273, r178_276, r178_277, iI_vin, iI_nat, if_true, l10, hkk, n196, n197, n198, e11, p18, p196, p197, e12, bI_t, bI_f, if_neg h10]
      rfl
  by_cases hb : ft (reK K m f T) = true ∧ ft K = true
  · obtain ⟨hR2, hE2⟩ := g10 hb.1
    have k203 : ∀ p, 0 ≤ p → p < aW K → M10 203 p.toNat = iI (bT K p) := fun p x y => by rw [f10 203 (by decide) (by decide) (by decide), al 203 (by decide) (by decide) (by decide) (by decide)]; exact k2 hb.2 p x y
    have bTr : ∀ p, 0 ≤ p → p < aW K → 0 ≤ bT K p ∧ bT K p ≤ 2001 := fun p x y => (sc_spI hr hp hvp x y).1.1
    rw [show e_lim L xs (d + 8) 178 136 [some (.ref 184), some (.int (bI (ft K))), some (.int (iI 0)), some (.int (bI (ft (reK K m f T)))), some (.int (iI 0))] [] (e_hp M10 V W) = e_lim L xs (d + 8) 178 136 [some (.ref 184), some (.int (bI (ft K))), some (.int (iI (SU (fun p => if bT K p = scB (reK K m f T) (rwK K) p then 0 else 1) 0))), some (.int (bI (ft (reK K m f T)))), some (.int (iI 0))] [] (e_hp M10 V W) from rfl]
    have hsu : ∀ j, 0 ≤ j → 0 ≤ SU (fun p => if bT K p = scB (reK K m f T) (rwK K) p then 0 else 1) j ∧ SU (fun p => if bT K p = scB (reK K m f T) (rwK K) p then 0 else 1) j ≤ j := fun j x => by
      have := SU_le (f := fun p => if bT K p = scB (reK K m f T) (rwK K) p then 0 else 1) (n := j) (c := 1) (fun i _ _ => by split <;> omega) x
      omega
    refine G_loopI (C := fun j => e_lim L xs (d + 8) 178 136 [some (.ref 184), some (.int (bI (ft K))), some (.int (iI (SU (fun p => if bT K p = scB (reK K m f T) (rwK K) p then 0 else 1) j))), some (.int (bI (ft (reK K m f T)))), some (.int (iI j))] [] (e_hp M10 V W)) (i := 0) (n := aW K) ha.1 (fun j x y hc => ?_) ?_
    · have s1 := k203 j x y
      obtain ⟨⟨s2, _⟩, s3, _⟩ := hE2 j x y
      have s4 := bTr j x y
      have s5 := hsu j x
      rw [SU_s _ x] at hc
      rw [hb.1, hb.2, bI_t] at hc ⊢
      rw [r178_136]
      by_cases c1 : bT K j = scB (reK K m f T) (rwK K) j
      · simp only [if_pos c1] at hc
        simp (disch := first | assumption | exact e_nk_i _ | exact e_nk_n | exact e_nk_r _ | exact e_bo_0 | exact e_bo_1 | exact e_bo_b _ | omega) only [e_cl_v, e_cl_x, e_add_0, e_add_s, Option.toList_some, Option.toList_none, List.cons_append, List.nil_append, iI_add, iI_sub, iI_mul, iI_lt, iI_eq, iI_le, r178_138, r178_139, r178_142, r178_145, r178_146, r178_149, r178_150, r178_153, r178_154, r178_155, r178_158, r178_160, r178_161, r178_162, r178_165, r178_167, r178_168, r178_171, r178_172, r178_175, r178_176, r178_177, r178_178, r178_181, iI_vin, iI_nat, if_true, w10, s1, s2, if_pos y, if_pos c1, if_neg h10]
        exact hc
      · simp only [if_neg c1] at hc
        simp (disch := first | assumption | exact e_nk_i _ | exact e_nk_n | exact e_nk_r _ | exact e_bo_0 | exact e_bo_1 | exact e_bo_b _ | omega) only [e_cl_v, e_cl_x, e_add_0, e_add_s, Option.toList_some, Option.toList_none, List.cons_append, List.nil_append, iI_add, iI_sub, iI_mul, iI_lt, iI_eq, iI_le, r178_138, r178_139, r178_142, r178_145, r178_146, r178_149, r178_150, r178_153, r178_154, r178_155, r178_158, r178_160, r178_161, r178_162, r178_165, r178_167, r178_168, r178_171, r178_172, r178_175, r178_176, r178_177, r178_178, r178_181, iI_vin, iI_nat, if_true, w10, s1, s2, if_pos y, if_neg c1, if_neg h10]
        exact hc
    · have s5 := hsu (aW K) ha.1
      have hfin := fin (some (.int (iI (aW K)))) _ (fun _ => hot.symm) ⟨s5.1, by omega⟩
      rw [r178_136]
      simp (disch := first | assumption | exact e_nk_i _ | exact e_nk_n | exact e_nk_r _ | exact e_bo_0 | exact e_bo_1 | exact e_bo_b _ | omega) only [e_cl_v, e_cl_x, e_add_0, e_add_s, Option.toList_some, Option.toList_none, List.cons_append, List.nil_append, iI_add, iI_sub, iI_mul, iI_lt, iI_eq, iI_le, r178_138, r178_139, r178_142, w10]
      rw [if_neg (by omega)]
      exact hfin
  · have hfin := fin (some (.int (iI 0))) 0 (fun h => absurd h hb) (by omega)
    rw [r178_136]
    by_cases hz : 0 < aW K
    · cases h1 : ft K with
      | true =>
        have h2 : ft (reK K m f T) = false := by
          cases h2 : ft (reK K m f T) with
          | true => exact absurd ⟨h2, h1⟩ hb
          | false => rfl
        rw [h1, h2] at hfin
        rw [h2]
        simp (disch := first | assumption | exact e_nk_i _ | exact e_nk_n | exact e_nk_r _ | exact e_bo_0 | exact e_bo_1 | exact e_bo_b _ | omega) only [e_cl_v, e_cl_x, e_add_0, e_add_s, Option.toList_some, Option.toList_none, List.cons_append, List.nil_append, iI_add, iI_sub, iI_mul, iI_lt, iI_eq, iI_le, r178_138, r178_139, r178_142, r178_145, r178_146, r178_149, r178_150, w10, if_pos hz, bI_t, bI_f, if_neg h10, if_true]
        exact hfin
      | false =>
        rw [h1] at hfin
        simp (disch := first | assumption | exact e_nk_i _ | exact e_nk_n | exact e_nk_r _ | exact e_bo_0 | exact e_bo_1 | exact e_bo_b _ | omega) only [e_cl_v, e_cl_x, e_add_0, e_add_s, Option.toList_some, Option.toList_none, List.cons_append, List.nil_append, iI_add, iI_sub, iI_mul, iI_lt, iI_eq, iI_le, r178_138, r178_139, r178_142, r178_145, r178_146, r178_149, r178_150, w10, if_pos hz, bI_f, if_true]
        exact hfin
    · simp (disch := first | assumption | exact e_nk_i _ | exact e_nk_n | exact e_nk_r _ | exact e_bo_0 | exact e_bo_1 | exact e_bo_b _ | omega) only [e_cl_v, e_cl_x, e_add_0, e_add_s, Option.toList_some, Option.toList_none, List.cons_append, List.nil_append, iI_add, iI_sub, iI_mul, iI_lt, iI_eq, iI_le, r178_138, r178_139, r178_142, r178_145, r178_146, r178_149, r178_150, w10, if_neg hz]
      exact hfin
end El32
