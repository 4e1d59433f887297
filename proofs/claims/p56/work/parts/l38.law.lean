section El38
variable {L : Nat} {xs : Nat → Int32} {d : Nat} {M M1 M2 M3 : e_MI} {V V1 V2 : e_ML} {W : e_MD} {K K2 : e_St} {S : Int → e_St} {h : e_H} {c o j w z m k q p i f b t n x its er u v : Int} {U : Int → Int} {s : Int × (Int → Int)} {a : Nat}
/-! a work is drawn -/
theorem l_e1 (hi : 0 ≤ i ∧ i < 32) : ∃ (M2 : e_MI) (v : Int), (0 ≤ v ∧ v ≤ 2) ∧ fS 191 i v M M2 ∧ ∀ r : e_R, e_lim L xs (d + 9) 166 245 [some (.ref 184), none, some (.int (iI k)), some (.int (iI o)), some (.int (iI i)), none, none] [] (e_hp M2 V W) = some r → e_lim L xs (d + 9) 166 233 [some (.ref 184), none, some (.int (iI k)), some (.int (iI o)), some (.int (iI i)), none, none] [] (e_hp M V W) = some r := by
  obtain ⟨M1, v, e1, r1, f1⟩ := l_next (L := L) (xs := xs) (d := d + 8) (V := V) (W := W) (M := M) (n := 3) (by omega)
  refine ⟨_, v, by omega, fS.mk f1 (by decide), fun r hr => ?_⟩
  simp (disch := first | assumption | exact e_nk_i _ | exact e_nk_n | exact e_nk_r _ | exact e_bo_0 | exact e_bo_1 | exact e_bo_b _ | omega) only [e_cl_v, e_cl_x, e_add_0, e_add_s, Option.toList_some, Option.toList_none, List.cons_append, List.nil_append, iI_add, iI_sub, iI_mul, iI_lt, iI_eq, iI_le, r166_233, r166_234, r166_237, r166_239, r166_240, r166_241, r166_244, iI_vin, iI_nat, if_true, e1]
  exact hr
theorem l_e2 (hi : 0 ≤ i ∧ i < 32) : ∃ (M2 : e_MI) (v : Int), (1 ≤ v ∧ v ≤ 9) ∧ fS 192 i v M M2 ∧ ∀ r : e_R, e_lim L xs (d + 9) 166 260 [some (.ref 184), none, some (.int (iI k)), some (.int (iI o)), some (.int (iI i)), none, none] [] (e_hp M2 V W) = some r → e_lim L xs (d + 9) 166 245 [some (.ref 184), none, some (.int (iI k)), some (.int (iI o)), some (.int (iI i)), none, none] [] (e_hp M V W) = some r := by
  obtain ⟨M1, v, e1, r1, f1⟩ := l_next (L := L) (xs := xs) (d := d + 8) (V := V) (W := W) (M := M) (n := 9) (by omega)
  refine ⟨_, 1 + v, by omega, fS.mk f1 (by decide), fun r hr => ?_⟩
  simp (disch := first | assumption | exact e_nk_i _ | exact e_nk_n | exact e_nk_r _ | exact e_bo_0 | exact e_bo_1 | exact e_bo_b _ | omega) only [e_cl_v, e_cl_x, e_add_0, e_add_s, Option.toList_some, Option.toList_none, List.cons_append, List.nil_append, iI_add, iI_sub, iI_mul, iI_lt, iI_eq, iI_le, r166_245, r166_246, r166_249, r166_251, r166_252, r166_253, r166_255, r166_258, r166_259, iI_vin, iI_nat, if_true, e1]
  exact hr
theorem l_e3 (hi : 0 ≤ i ∧ i < 32) : ∃ (M2 : e_MI) (v : Int), (-1 ≤ v ∧ v ≤ 1) ∧ fS 193 i v M M2 ∧ ∀ r : e_R, e_lim L xs (d + 9) 166 284 [some (.ref 184), none, some (.int (iI k)), some (.int (iI o)), some (.int (iI i)), none, none] [] (e_hp M2 V W) = some r → e_lim L xs (d + 9) 166 260 [some (.ref 184), none, some (.int (iI k)), some (.int (iI o)), some (.int (iI i)), none, none] [] (e_hp M V W) = some r := by
  obtain ⟨M1, z, e1, r1, f1⟩ := l_next (L := L) (xs := xs) (d := d + 8) (V := V) (W := W) (M := M) (n := 3) (by omega)
  by_cases hz : z = 0
  · obtain ⟨M2, v, e2, r2, f2⟩ := l_next (L := L) (xs := xs) (d := d + 8) (V := V) (W := W) (M := M1) (n := 2) (by omega)
    refine ⟨_, v, by omega, fS.mk (f1.t f2) (by decide), fun r hr => ?_⟩
    simp (disch := first | assumption | exact e_nk_i _ | exact e_nk_n | exact e_nk_r _ | exact e_bo_0 | exact e_bo_1 | exact e_bo_b _ | omega) only [e_cl_v, e_cl_x, e_add_0, e_add_s, Option.toList_some, Option.toList_none, List.cons_append, List.nil_append, iI_add, iI_sub, iI_mul, iI_lt, iI_eq, iI_le, r166_260, r166_261, r166_264, r166_266, r166_267, r166_268, r166_271, r166_274, r166_275, r166_276, r166_279, r166_282, r166_283, iI_vin, iI_nat, if_true, e1, e2, if_pos hz]
    exact hr
  · refine ⟨_, -1, by omega, fS.mk f1 (by decide), fun r hr => ?_⟩
    simp (disch := first | assumption | exact e_nk_i _ | exact e_nk_n | exact e_nk_r _ | exact e_bo_0 | exact e_bo_1 | exact e_bo_b _ | omega) only [e_cl_v, e_cl_x, e_add_0, e_add_s, Option.toList_some, Option.toList_none, List.cons_append, List.nil_append, iI_add, iI_sub, iI_mul, iI_lt, iI_eq, iI_le, r166_260, r166_261, r166_264, r166_266, r166_267, r166_268, r166_271, r166_274, r166_275, r166_276, r166_279, r166_282, r166_283, iI_vin, iI_nat, if_true, e1, if_neg hz]
    exact hr
/-- a work's cells -/
theorem adK_w {m t l : Int} (ho : 0 ≤ o ∧ o ≤ 7) (hw : 0 ≤ K (40 + o) ∧ K (40 + o) ≤ 3) : adK K o m t l (48 + (4 * o + K (40 + o))) = m ∧ adK K o m t l (80 + (4 * o + K (40 + o))) = t ∧ adK K o m t l (112 + (4 * o + K (40 + o))) = l := by
  unfold adK
  refine ⟨?_, ?_, ?_⟩
  · rw [uI_n _ _ (by omega), uI_n _ _ (by omega), uI_n _ _ (by omega), uI_s]
  · rw [uI_n _ _ (by omega), uI_n _ _ (by omega), uI_s]
  · rw [uI_n _ _ (by omega), uI_s]
theorem DD.of (H : DD M K c S) (h : fL M M2) : DD M2 K c S := ⟨⟨H.1.1.of fun a x y => h.1 a (by omega), H.1.2⟩, H.2.1, H.2.2.1, by rw [h.2.2 18 (by omega)]; exact H.2.2.2⟩
theorem l_worked1 {l1 : Int} (hn : 1 ≤ n ∧ n ≤ 5) (H : DD M K c S) (HA : LA M K) (ha : aW K < 16) (hk : K 310 = n) (hk0 : 1 ≤ k ∧ k ≤ 10) : ∃ (M2 : e_MI) (K2 : e_St) (c2 : Int) (S2 : Int → e_St), (DD M2 K2 c2 S2 ∧ LA M2 K2 ∧ aW K2 ≤ aW K + 1 ∧ K2 310 = n) ∧ fTp M M2 ∧ ∀ r : e_R, e_lim L xs (d + 9) 166 195 [some (.ref 184), none, some (.int (iI (k - 1))), none, none, none, none] [] (e_hp M2 V W) = some r → e_lim L xs (d + 9) 166 195 [some (.ref 184), none, some (.int (iI k)), none, none, none, none] [] (e_hp M V W) = some r := by
  have e0 := HA.nn
  obtain ⟨M1, o, e1, r1, f1⟩ := l_next (L := L) (xs := xs) (d := d + 8) (V := V) (W := W) (M := M) (n := K 310) (by omega)
  have H1 := H.of f1.l
  have HA1 := HA.of f1.l
  obtain ⟨⟨ck, hg, hus⟩, ⟨⟨r308, r309⟩, rw4⟩, rs0, rs1⟩ := H1
  have hr := hg.1
  have emn := HA1.mn r1.1 r1.2
  have hwk := hr.wk (o := o) r1.1 (by omega)
  by_cases h4 : K (40 + o) = 4
  · refine ⟨M1, K, c, S, ⟨H.of f1.l, HA1, by omega, hk⟩, f1.pp.fp, fun r hr9 => ?_⟩
    rw [show k - 1 = k + -1 by omega] at hr9
    rw [r166_195]
    simp (disch := first | assumption | exact e_nk_i _ | exact e_nk_n | exact e_nk_r _ | exact e_bo_0 | exact e_bo_1 | exact e_bo_b _ | omega) only [e_cl_v, e_cl_x, e_add_0, e_add_s, Option.toList_some, Option.toList_none, List.cons_append, List.nil_append, iI_add, iI_sub, iI_mul, iI_lt, iI_eq, iI_le, r166_196, r166_199, r166_200, r166_201, r166_204, r166_207, r166_208, r166_209, r166_212, r166_213, r166_214, r166_215, r166_218, r166_344, r166_347, iI_vin, iI_nat, if_true, e0, e1, emn, if_pos h4]
    first | rw [if_pos (by omega)] | rw [if_neg (by omega)] | skip
    exact G_less (by repeat (first | exact e_ll.rf | refine e_ll_c ?_ | refine e_ll_x ?_)) hr9
  · generalize hi : 4 * o + K (40 + o) = i at *
    have hi32 : 0 ≤ i ∧ i < 32 := by omega
    obtain ⟨N1, m, b1, g1, k1⟩ := l_e1 (L := L) (xs := xs) (d := d) (V := V) (W := W) (M := M1) (k := k) (o := o) hi32
    obtain ⟨N2, t, b2, g2, k2⟩ := l_e2 (L := L) (xs := xs) (d := d) (V := V) (W := W) (M := N1) (k := k) (o := o) hi32
    obtain ⟨N3, l, b3, g3, k3⟩ := l_e3 (L := L) (xs := xs) (d := d) (V := V) (W := W) (M := N2) (k := k) (o := o) hi32
    have al : ∀ b, b ≠ 184 → b ≠ 191 → b ≠ 192 → b ≠ 193 → N3 b = M1 b := fun b w1 w2 w3 w4 => by rw [g3.1 b w1 w4, g2.1 b w1 w3, g1.1 b w1 w2]
    have al4 : ∀ k, k ≠ 0 → N3 184 k = M1 184 k := fun k w => by rw [g3.2.1 k w, g2.2.1 k w, g1.2.1 k w]
    generalize hN4 : e_u N3 190 (upd (N3 190) o.toNat (iI (K (40 + o) + 1))) = N4
    generalize hN5 : e_u N4 184 (upd (N4 184) 17 (iI (aW K + 1))) = N5
    have a4 : ∀ b, b ≠ 190 → N4 b = N3 b := fun b x => by rw [← hN4, e_u_n _ _ x]
    have b4 : ∀ q : Nat, N4 190 q = if q = o.toNat then iI (K (40 + o) + 1) else N3 190 q := fun q => by rw [← hN4, e_u_s]; rfl
    have a5 : ∀ b, b ≠ 184 → N5 b = N4 b := fun b x => by rw [← hN5, e_u_n _ _ x]
    have b5 : ∀ q : Nat, N5 184 q = if q = 17 then iI (aW K + 1) else N4 184 q := fun q => by rw [← hN5, e_u_s]; rfl
    have ck5 : CK N5 K c S := ck.of (fun a x y => by rw [a5 a (by omega), a4 a (by omega)]; exact al a (by omega) (by omega) (by omega) (by omega))
    have ho7 : 0 ≤ o ∧ o ≤ 7 := by omega
    have hw3 : 0 ≤ K (40 + o) ∧ K (40 + o) ≤ 3 := by omega
    obtain ⟨s1, s2, s3, s4, s5⟩ := adK_sp (m := m) (t := t) (l := l) hr hg.2.2.1 hg.2.2.2.2 r1 hw3.2 (by omega)
    have ha0 := hg.2.1.1
    have hgN : kG (nwK (adK K o m t l)) := kG_nw s1 (by rw [s2]; omega) s3 (fun i x y => by rw [adK_n ho7 hw3 (by omega)]; exact hg.2.2.2.1.2.2 i x y) s4
    obtain ⟨N6, e6, q6, -, g6⟩ := x_work (L := L) (xs := xs) (d := d + 1) (V := V) (W := W) ck5 hg (o := o) (m := m) (x := t) (l := l) (by unfold i32; omega) (by unfold i32; omega) (by unfold i32; omega) (by unfold i32; omega) (fun _ _ _ => hgN)
    rw [if_pos (by omega), if_pos (by omega), if_pos (by omega)] at e6
    have q6 := q6 ⟨by omega, by omega, by omega⟩
    have zz : ∀ z, z < 241 ∨ 308 ≤ z → nwK (adK K o m t l) z = adK K o m t l z := fun z hz => nwK_n hz
    have zn : ∀ z, (z < 40 ∨ (144 ≤ z ∧ z < 241) ∨ 308 ≤ z) → nwK (adK K o m t l) z = K z := fun z hz => by rw [zz z (by omega), adK_n ho7 hw3 (by omega)]
    have z310 : nwK (adK K o m t l) 310 = K 310 := zn 310 (by omega)
    have hw40 : ∀ o2, 0 ≤ o2 → o2 < K 310 → nwK (adK K o m t l) (40 + o2) = if o2 = o then K (40 + o) + 1 else K (40 + o2) := fun o2 x y => by
      rw [zz (40 + o2) (by omega)]
      by_cases hq : o2 = o
      · rw [hq, if_pos rfl, adK_40]
      · rw [if_neg hq, adK_n ho7 hw3 (by omega)]
    have haw : aW (nwK (adK K o m t l)) = aW K + 1 := by
      rw [← s2]
      exact aW_cong (by rw [zz 310 (by omega)]) (fun o2 x y => zz _ (by omega))
    have al6 : ∀ b, 148 < b → N6 b = N5 b := fun b w => g6 b (by omega)
    have nw := adK_w (K := K) (m := m) (t := t) (l := l) ho7 hw3
    have LA6 : LA N6 (nwK (adK K o m t l)) := by
      obtain ⟨⟨q1, q2⟩, q3, q4, q5⟩ := HA1
      refine ⟨⟨by rw [z310, al6 184 (by decide), b5, if_neg (by decide), a4 184 (by decide), al4 16 (by decide)]; exact q1, by rw [haw, al6 184 (by decide), b5, if_pos rfl]⟩, fun o2 x y => ?_, fun o2 w2 x y u v => ?_, fun i2 x y => ?_⟩
      · rw [z310] at y
        obtain ⟨p1, p2, p3, p4, p5, p6⟩ := q3 o2 x y
        rw [zn o2 (by omega), zn (8 + o2) (by omega), zn (16 + o2) (by omega), zn (24 + o2) (by omega), zn (32 + o2) (by omega), hw40 o2 x y, al6 185 (by decide), al6 186 (by decide), al6 187 (by decide), al6 188 (by decide), al6 189 (by decide), al6 190 (by decide), a5 185 (by decide), a5 186 (by decide), a5 187 (by decide), a5 188 (by decide), a5 189 (by decide), a5 190 (by decide), a4 185 (by decide), a4 186 (by decide), a4 187 (by decide), a4 188 (by decide), a4 189 (by decide), b4, al 185 (by decide) (by decide) (by decide) (by decide), al 186 (by decide) (by decide) (by decide) (by decide), al 187 (by decide) (by decide) (by decide) (by decide), al 188 (by decide) (by decide) (by decide) (by decide), al 189 (by decide) (by decide) (by decide) (by decide), al 190 (by decide) (by decide) (by decide) (by decide)]
        refine ⟨p1, p2, p3, p4, p5, ?_⟩
        by_cases hq : o2 = o
        · rw [hq, if_pos rfl, if_pos rfl]
        · rw [if_neg (by omega), if_neg hq]
          exact p6
      · rw [z310] at y
        rw [hw40 o2 x y] at v
        have hw2 := hr.wk (o := o2) x (by omega)
        have c191 : N6 191 (4 * o2 + w2).toNat = if (4 * o2 + w2).toNat = i.toNat then iI m else M1 191 (4 * o2 + w2).toNat := by rw [al6 191 (by decide), a5 191 (by decide), a4 191 (by decide), g3.1 191 (by decide) (by decide), g2.1 191 (by decide) (by decide)]; exact g1.2.2 _
        have c192 : N6 192 (4 * o2 + w2).toNat = if (4 * o2 + w2).toNat = i.toNat then iI t else M1 192 (4 * o2 + w2).toNat := by rw [al6 192 (by decide), a5 192 (by decide), a4 192 (by decide), g3.1 192 (by decide) (by decide), g2.2.2, g1.1 192 (by decide) (by decide)]
        have c193 : N6 193 (4 * o2 + w2).toNat = if (4 * o2 + w2).toNat = i.toNat then iI l else M1 193 (4 * o2 + w2).toNat := by rw [al6 193 (by decide), a5 193 (by decide), a4 193 (by decide), g3.2.2, g2.1 193 (by decide) (by decide), g1.1 193 (by decide) (by decide)]
        have hv4 : w2 < 4 := by split at v <;> omega
        rw [c191, c192, c193, zz (48 + 4 * o2 + w2) (by omega), zz (80 + 4 * o2 + w2) (by omega), zz (112 + 4 * o2 + w2) (by omega)]
        by_cases hq : 4 * o2 + w2 = i
        · rw [show 48 + 4 * o2 + w2 = 48 + i by omega, show 80 + 4 * o2 + w2 = 80 + i by omega, show 112 + 4 * o2 + w2 = 112 + i by omega, hq, if_pos rfl, if_pos rfl, if_pos rfl]
          rw [hi] at nw
          rw [nw.1, nw.2.1, nw.2.2]
          exact ⟨rfl, rfl, rfl⟩
        · rw [if_neg (by omega), if_neg (by omega), if_neg (by omega), adK_n ho7 hw3 (by omega), adK_n ho7 hw3 (by omega), adK_n ho7 hw3 (by omega)]
          refine q4 o2 w2 x y u ?_
          by_cases ho2 : o2 = o
          · rw [if_pos ho2] at v
            rw [ho2]
            rw [ho2] at hq
            omega
          · rw [if_neg ho2] at v
            exact v
      · rw [zn (144 + i2) (by omega), al6 194 (by decide), a5 194 (by decide), a4 194 (by decide), al 194 (by decide) (by decide) (by decide) (by decide)]
        exact q5 i2 x y
    refine ⟨N6, _, _, _, ⟨⟨⟨q6, hgN, sv_g ck.hs.cc hg hus⟩, ⟨⟨by rw [zn 308 (by omega)]; exact r308, by rw [zn 309 (by omega)]; exact r309⟩, fun i w1 w2 => by rw [zn (238 + i) (by omega)]; exact rw4 i w1 w2⟩, by rw [zn 311 (by omega)]; exact rs0, by rw [al6 184 (by decide), b5, if_neg (by decide), a4 184 (by decide), al4 18 (by decide)]; exact rs1⟩, LA6, by omega, by rw [z310]; exact hk⟩, f1.pp.fp.tr (fun b w1 w2 => by rw [al6 b (by omega), a5 b (by omega), a4 b (by omega)]; exact al b (by omega) (by omega) (by omega) (by omega)), fun r hr9 => ?_⟩
    rw [show k - 1 = k + -1 by omega] at hr9
    have p1 : N5 191 i.toNat = iI m := by rw [a5 191 (by decide), a4 191 (by decide), g3.1 191 (by decide) (by decide), g2.1 191 (by decide) (by decide), g1.2.2, if_pos rfl]
    have p2 : N5 192 i.toNat = iI t := by rw [a5 192 (by decide), a4 192 (by decide), g3.1 192 (by decide) (by decide), g2.2.2, if_pos rfl]
    have p3 : N5 193 i.toNat = iI l := by rw [a5 193 (by decide), a4 193 (by decide), g3.2.2, if_pos rfl]
    have p4 : N3 190 o.toNat = iI (K (40 + o)) := by rw [al 190 (by decide) (by decide) (by decide) (by decide)]; exact emn
    have p5 : N4 184 17 = iI (aW K) := by rw [a4 184 (by decide), al4 17 (by decide)]; exact HA1.ws
    have p6 : N6 190 o.toNat = iI (K (40 + o) + 1) := by rw [al6 190 (by decide), a5 190 (by decide), b4, if_pos rfl]
    have tail : e_lim L xs (d + 9) 166 284 [some (.ref 184), none, some (.int (iI k)), some (.int (iI o)), some (.int (iI i)), none, none] [] (e_hp N3 V W) = some r := by
      simp (disch := first | assumption | exact e_nk_i _ | exact e_nk_n | exact e_nk_r _ | exact e_bo_0 | exact e_bo_1 | exact e_bo_b _ | omega) only [e_cl_v, e_cl_x, e_add_0, e_add_s, Option.toList_some, Option.toList_none, List.cons_append, List.nil_append, iI_add, iI_sub, iI_mul, iI_lt, iI_eq, iI_le, r166_284, r166_285, r166_288, r166_289, r166_290, r166_291, r166_292, r166_293, iI_vin, iI_nat, if_true, p4, hN4]
      simp (disch := first | assumption | exact e_nk_i _ | exact e_nk_n | exact e_nk_r _ | exact e_bo_0 | exact e_bo_1 | exact e_bo_b _ | omega) only [e_cl_v, e_cl_x, e_add_0, e_add_s, Option.toList_some, Option.toList_none, List.cons_append, List.nil_append, iI_add, iI_sub, iI_mul, iI_lt, iI_eq, iI_le, r166_294, r166_295, r166_296, r166_299, r166_300, r166_301, p5, hN5]
      simp (disch := first | assumption | exact e_nk_i _ | exact e_nk_n | exact e_nk_r _ | exact e_bo_0 | exact e_bo_1 | exact e_bo_b _ | omega) only [e_cl_v, e_cl_x, e_add_0, e_add_s, Option.toList_some, Option.toList_none, List.cons_append, List.nil_append, iI_add, iI_sub, iI_mul, iI_lt, iI_eq, iI_le, r166_304, r166_305, r166_308, r166_309, r166_310, r166_313, r166_315, r166_316, r166_317, r166_320, r166_322, r166_323, r166_324, r166_327, r166_329, r166_330, r166_333, r166_334, r166_337, r166_338, r166_339, r166_342, r166_343, r166_344, r166_347, iI_vin, iI_nat, if_true, p1, p2, p3, e6, p6]
      exact G_less (by repeat (first | exact e_ll.rf | refine e_ll_c ?_ | refine e_ll_x ?_)) hr9
    have e10 := k1 _ (k2 _ (k3 _ tail))
    rw [r166_195]
    simp (disch := first | assumption | exact e_nk_i _ | exact e_nk_n | exact e_nk_r _ | exact e_bo_0 | exact e_bo_1 | exact e_bo_b _ | omega) only [e_cl_v, e_cl_x, e_add_0, e_add_s, Option.toList_some, Option.toList_none, List.cons_append, List.nil_append, iI_add, iI_sub, iI_mul, iI_lt, iI_eq, iI_le, r166_196, r166_199, r166_200, r166_201, r166_204, r166_207, r166_208, r166_209, r166_212, r166_213, r166_214, r166_215, r166_218, r166_221, r166_222, r166_223, r166_224, r166_225, r166_228, r166_229, r166_230, r166_231, iI_vin, iI_nat, if_true, e0, e1, emn, if_neg h4]
    first | rw [if_pos (by omega)] | rw [if_neg (by omega)] | skip
    rw [hi]
    exact e10
theorem l_worked (hn : 1 ≤ n ∧ n ≤ 5) (H : DD M K c S) (HA : LA M K) (ha : aW K = 0) (hk : K 310 = n) : ∃ (M2 : e_MI) (K2 : e_St) (c2 : Int) (S2 : Int → e_St), (DD M2 K2 c2 S2 ∧ LA M2 K2 ∧ aW K2 ≤ 10 ∧ K2 310 = n) ∧ fTp M M2 ∧ ∀ r : e_R, e_lim L xs (d + 9) 166 350 [some (.ref 184), none, none, none, none, none, none] [] (e_hp M2 V W) = some r → e_lim L xs (d + 9) 166 171 [some (.ref 184), none, none, none, none, none, none] [] (e_hp M V W) = some r := by
  obtain ⟨M1, z, e1, r1, f1⟩ := l_next (L := L) (xs := xs) (d := d + 8) (V := V) (W := W) (M := M) (n := 3) (by omega)
  -- the loop over so many works
  have loop : ∀ (N : Int) (M0 : e_MI), 1 ≤ N ∧ N ≤ 10 → fX M M0 → ∃ (M2 : e_MI) (K2 : e_St) (c2 : Int) (S2 : Int → e_St), (DD M2 K2 c2 S2 ∧ LA M2 K2 ∧ aW K2 ≤ 10 ∧ K2 310 = n) ∧ fTp M M2 ∧ ∀ r : e_R, e_lim L xs (d + 9) 166 350 [some (.ref 184), none, none, none, none, none, none] [] (e_hp M2 V W) = some r → e_lim L xs (d + 9) 166 195 [some (.ref 184), none, some (.int (iI N)), none, none, none, none] [] (e_hp M0 V W) = some r := fun N M0 hN f0 => by
    have key := G_lp (i := 0) (n := N) (I := fun j M1 => fTp M M1 ∧ ∃ (K1 : e_St) (c1 : Int) (S1 : Int → e_St), DD M1 K1 c1 S1 ∧ LA M1 K1 ∧ aW K1 ≤ j ∧ K1 310 = n)
      (P := fun j M1 => ∃ (M2 : e_MI) (K2 : e_St) (c2 : Int) (S2 : Int → e_St), (DD M2 K2 c2 S2 ∧ LA M2 K2 ∧ aW K2 ≤ 10 ∧ K2 310 = n) ∧ fTp M M2 ∧ ∀ r : e_R, e_lim L xs (d + 9) 166 350 [some (.ref 184), none, none, none, none, none, none] [] (e_hp M2 V W) = some r → e_lim L xs (d + 9) 166 195 [some (.ref 184), none, some (.int (iI (N - j))), none, none, none, none] [] (e_hp M1 V W) = some r) (fun j M1 x y hI hc => ?_) (fun M1 hI => ?_) (by omega) M0 ⟨f0.pp.fp, K, c, S, H.of f0.l, HA.of f0.l, by omega, hk⟩
    · rw [show N - 0 = N by omega] at key
      exact key
    · obtain ⟨t0, K1, c1, S1, HD, H1, H2, hk1⟩ := hI
      obtain ⟨M3, K3, c3, S3, ⟨w1, w2, w3, w4⟩, t3, k3⟩ := l_worked1 (L := L) (xs := xs) (d := d) (V := V) (W := W) (l1 := 0) (k := N - j) hn HD H1 (by omega) hk1 (by omega)
      obtain ⟨M2, K2, c2, S2, y1, y2, e⟩ := hc M3 ⟨t0.tr t3, K3, c3, S3, w1, w2, by omega, w4⟩
      rw [show N - (j + 1) = N - j - 1 by omega] at e
      exact ⟨M2, K2, c2, S2, y1, y2, fun r hr9 => k3 r (e r hr9)⟩
    · obtain ⟨t0, K1, c1, S1, HD, H1, H2, hk1⟩ := hI
      refine ⟨M1, K1, c1, S1, ⟨HD, H1, by omega, hk1⟩, t0, fun r hr9 => ?_⟩
      rw [show N - N = 0 by omega, r166_195]
      simp (disch := first | assumption | exact e_nk_i _ | exact e_nk_n | exact e_nk_r _ | exact e_bo_0 | exact e_bo_1 | exact e_bo_b _ | omega) only [e_cl_v, e_cl_x, e_add_0, e_add_s, Option.toList_some, Option.toList_none, List.cons_append, List.nil_append, iI_add, iI_sub, iI_mul, iI_lt, iI_eq, iI_le, r166_196]
      exact G_less (by repeat (first | exact e_ll.rf | refine e_ll_c ?_ | refine e_ll_x ?_)) hr9
  by_cases hz : z = 0
  · obtain ⟨M2, v, e2, r2, f2⟩ := l_next (L := L) (xs := xs) (d := d + 8) (V := V) (W := W) (M := M1) (n := 10) (by omega)
    obtain ⟨M3, K3, c3, S3, y1, y2, e⟩ := loop (1 + v) M2 (by omega) (f1.t f2)
    refine ⟨M3, K3, c3, S3, y1, y2, fun r hr9 => ?_⟩
    have e9 := e r hr9
    simp (disch := first | assumption | exact e_nk_i _ | exact e_nk_n | exact e_nk_r _ | exact e_bo_0 | exact e_bo_1 | exact e_bo_b _ | omega) only [e_cl_v, e_cl_x, e_add_0, e_add_s, Option.toList_some, Option.toList_none, List.cons_append, List.nil_append, iI_add, iI_sub, iI_mul, iI_lt, iI_eq, iI_le, r166_171, r166_172, r166_173, r166_176, r166_179, r166_181, r166_184, r166_186, r166_187, r166_188, r166_189, r166_190, r166_193, r166_194, e1, e2, if_pos hz]
    exact G_less (by repeat (first | exact e_ll.rf | refine e_ll_c ?_ | refine e_ll_x ?_)) e9
  · obtain ⟨M2, v, e2, r2, f2⟩ := l_next (L := L) (xs := xs) (d := d + 8) (V := V) (W := W) (M := M1) (n := 6) (by omega)
    obtain ⟨M3, K3, c3, S3, y1, y2, e⟩ := loop (1 + v) M2 (by omega) (f1.t f2)
    refine ⟨M3, K3, c3, S3, y1, y2, fun r hr9 => ?_⟩
    have e9 := e r hr9
    simp (disch := first | assumption | exact e_nk_i _ | exact e_nk_n | exact e_nk_r _ | exact e_bo_0 | exact e_bo_1 | exact e_bo_b _ | omega) only [e_cl_v, e_cl_x, e_add_0, e_add_s, Option.toList_some, Option.toList_none, List.cons_append, List.nil_append, iI_add, iI_sub, iI_mul, iI_lt, iI_eq, iI_le, r166_171, r166_172, r166_173, r166_176, r166_179, r166_181, r166_184, r166_186, r166_187, r166_188, r166_189, r166_190, r166_193, r166_194, e1, e2, if_neg hz]
    exact G_less (by repeat (first | exact e_ll.rf | refine e_ll_c ?_ | refine e_ll_x ?_)) e9
end El38
