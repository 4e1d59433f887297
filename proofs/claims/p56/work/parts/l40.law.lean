section El40
variable {L : Nat} {xs : Nat → Int32} {d : Nat} {M M1 M2 M3 : e_MI} {V V1 V2 : e_ML} {W : e_MD} {K K2 : e_St} {S : Int → e_St} {h : e_H} {c o j w z m k q p i f b t n x its er u v : Int} {U : Int → Int} {s : Int × (Int → Int)} {a : Nat}
theorem l_settings (H : DD M K c S) (HA : DW M K n) : ∃ (M2 : e_MI) (K2 : e_St) (c2 : Int) (S2 : Int → e_St), (DD M2 K2 c2 S2 ∧ DW M2 K2 n) ∧ fTp M M2 ∧ ∀ r : e_R, e_lim L xs (d + 9) 166 457 [some (.ref 184), none, none, none, none, none, none] [] (e_hp M2 V W) = some r → e_lim L xs (d + 9) 166 350 [some (.ref 184), none, none, none, none, none, none] [] (e_hp M V W) = some r := by
  obtain ⟨M0, N, e1, r1, f0⟩ := l_next (L := L) (xs := xs) (d := d + 8) (V := V) (W := W) (M := M) (n := 6) (by omega)
  have key := G_lp (i := 0) (n := N) (I := fun j M1 => fTp M M1 ∧ ∃ (K1 : e_St) (c1 : Int) (S1 : Int → e_St), DD M1 K1 c1 S1 ∧ DW M1 K1 n)
      (P := fun j M1 => ∃ (M2 : e_MI) (K2 : e_St) (c2 : Int) (S2 : Int → e_St), (DD M2 K2 c2 S2 ∧ DW M2 K2 n) ∧ fTp M M2 ∧ ∀ r : e_R, e_lim L xs (d + 9) 166 457 [some (.ref 184), none, none, none, none, none, none] [] (e_hp M2 V W) = some r → e_lim L xs (d + 9) 166 357 [some (.ref 184), none, some (.int (iI (N - j))), none, none, none, none] [] (e_hp M1 V W) = some r) (fun j M1 x y hI hc => ?_) (fun M1 hI => ?_) (by omega) M0 ⟨f0.pp.fp, K, c, S, H.of f0.l, HA.1.of f0.l, HA.2⟩
  · obtain ⟨M2, K2, c2, S2, y1, y2, e⟩ := key
    refine ⟨M2, K2, c2, S2, y1, y2, fun r hr9 => ?_⟩
    have e9 := e r hr9
    rw [show N - 0 = N by omega] at e9
    simp (disch := first | assumption | exact e_nk_i _ | exact e_nk_n | exact e_nk_r _ | exact e_bo_0 | exact e_bo_1 | exact e_bo_b _ | omega) only [e_cl_v, e_cl_x, e_add_0, e_add_s, Option.toList_some, Option.toList_none, List.cons_append, List.nil_append, iI_add, iI_sub, iI_mul, iI_lt, iI_eq, iI_le, r166_350, r166_351, r166_353, r166_356, e1]
    exact e9
  · obtain ⟨t0, K1, c1, S1, HD, H1⟩ := hI
    obtain ⟨M3, K3, c3, S3, ⟨w1, w2⟩, t3, k3⟩ := l_set1 (L := L) (xs := xs) (d := d) (V := V) (W := W) (k := N - j) HD H1 (by omega)
    obtain ⟨M2, K2, c2, S2, y1, y2, e⟩ := hc M3 ⟨t0.tr t3, K3, c3, S3, w1, w2⟩
    rw [show N - (j + 1) = N - j - 1 by omega] at e
    exact ⟨M2, K2, c2, S2, y1, y2, fun r hr9 => k3 r (e r hr9)⟩
  · obtain ⟨t0, K1, c1, S1, HD, H1⟩ := hI
    refine ⟨M1, K1, c1, S1, ⟨HD, H1⟩, t0, fun r hr9 => ?_⟩
    rw [show N - N = 0 by omega, r166_357]
    simp (disch := first | assumption | exact e_nk_i _ | exact e_nk_n | exact e_nk_r _ | exact e_bo_0 | exact e_bo_1 | exact e_bo_b _ | omega) only [e_cl_v, e_cl_x, e_add_0, e_add_s, Option.toList_some, Option.toList_none, List.cons_append, List.nil_append, iI_add, iI_sub, iI_mul, iI_lt, iI_eq, iI_le, r166_358]
    exact G_less (by repeat (first | exact e_ll.rf | refine e_ll_c ?_ | refine e_ll_x ?_)) hr9
/-- before workers are all drawn -/
def DE (M : e_MI) (K : e_St) (c : Int) (S : Int → e_St) : Prop := (CK M K c S ∧ kG K ∧ ∀ j, 0 ≤ j → j < c → kG (S j)) ∧ (K 308 = 0 ∧ K 309 = 1) ∧ (K 311 = 0 ∧ M 184 18 = iI 0)
theorem l_v1 (hj : 0 ≤ j ∧ j < 3) : ∃ (M2 : e_MI) (v : Int), (0 ≤ v ∧ v ≤ 4) ∧ fS 195 j v M M2 ∧ ∀ r : e_R, e_lim L xs (d + 9) 166 487 [some (.ref 184), none, some (.int (iI j)), none, none, none, none] [] (e_hp M2 V W) = some r → e_lim L xs (d + 9) 166 464 [some (.ref 184), none, some (.int (iI j)), none, none, none, none] [] (e_hp M V W) = some r := by
  obtain ⟨M1, z, e1, r1, f1⟩ := l_next (L := L) (xs := xs) (d := d + 8) (V := V) (W := W) (M := M) (n := 3) (by omega)
  by_cases hz : z = 0
  · obtain ⟨M2, v, e2, r2, f2⟩ := l_next (L := L) (xs := xs) (d := d + 8) (V := V) (W := W) (M := M1) (n := 3) (by omega)
    refine ⟨_, v, by omega, fS.mk (f1.t f2) (by decide), fun r hr => ?_⟩
    simp (disch := first | assumption | exact e_nk_i _ | exact e_nk_n | exact e_nk_r _ | exact e_bo_0 | exact e_bo_1 | exact e_bo_b _ | omega) only [e_cl_v, e_cl_x, e_add_0, e_add_s, Option.toList_some, Option.toList_none, List.cons_append, List.nil_append, iI_add, iI_sub, iI_mul, iI_lt, iI_eq, iI_le, r166_464, r166_465, r166_468, r166_469, r166_470, r166_471, r166_474, r166_477, r166_478, r166_479, r166_482, r166_485, r166_486, iI_vin, iI_nat, if_true, e1, e2, if_pos hz]
    exact hr
  · refine ⟨_, 4, by omega, fS.mk f1 (by decide), fun r hr => ?_⟩
    simp (disch := first | assumption | exact e_nk_i _ | exact e_nk_n | exact e_nk_r _ | exact e_bo_0 | exact e_bo_1 | exact e_bo_b _ | omega) only [e_cl_v, e_cl_x, e_add_0, e_add_s, Option.toList_some, Option.toList_none, List.cons_append, List.nil_append, iI_add, iI_sub, iI_mul, iI_lt, iI_eq, iI_le, r166_464, r166_465, r166_468, r166_469, r166_470, r166_471, r166_474, r166_477, r166_478, r166_479, r166_482, r166_485, r166_486, iI_vin, iI_nat, if_true, e1, if_neg hz]
    exact hr
theorem l_staffed (H : DD M K c S) (HA : DW M K n) : ∃ (M2 : e_MI) (K2 : e_St) (c2 : Int) (S2 : Int → e_St), (DE M2 K2 c2 S2 ∧ DW M2 K2 n ∧ ∀ i : Int, 0 ≤ i → i < 3 → M2 195 i.toNat = iI (K2 (238 + i))) ∧ fTp M M2 ∧ ∀ r : e_R, e_lim L xs (d + 9) 166 513 [some (.ref 184), none, none, none, none, none, none] [] (e_hp M2 V W) = some r → e_lim L xs (d + 9) 166 457 [some (.ref 184), none, none, none, none, none, none] [] (e_hp M V W) = some r := by
  have key := G_lp (i := 0) (n := 3) (I := fun j M1 => fTp M M1 ∧ ∃ (K1 : e_St) (c1 : Int) (S1 : Int → e_St), DE M1 K1 c1 S1 ∧ DW M1 K1 n ∧ (∀ i, 0 ≤ i → i < j → M1 195 i.toNat = iI (K1 (238 + i))) ∧ ∀ i, j ≤ i → i < 3 → K1 (238 + i) = 4)
      (P := fun j M1 => ∃ (M2 : e_MI) (K2 : e_St) (c2 : Int) (S2 : Int → e_St), (DE M2 K2 c2 S2 ∧ DW M2 K2 n ∧ ∀ i : Int, 0 ≤ i → i < 3 → M2 195 i.toNat = iI (K2 (238 + i))) ∧ fTp M M2 ∧ ∀ r : e_R, e_lim L xs (d + 9) 166 513 [some (.ref 184), none, none, none, none, none, none] [] (e_hp M2 V W) = some r → e_lim L xs (d + 9) 166 459 [some (.ref 184), none, some (.int (iI j)), none, none, none, none] [] (e_hp M1 V W) = some r) (fun j M1 x y hI hc => ?_) (fun M1 hI => ?_) (by omega) M ⟨fTp.rf M, K, c, S, ⟨H.1, H.2.1.1, H.2.2⟩, HA, fun i _ _ => by omega, fun i x y => H.2.1.2 i x y⟩
  · obtain ⟨M2, K2, c2, S2, y1, y2, e⟩ := key
    refine ⟨M2, K2, c2, S2, y1, y2, fun r hr9 => ?_⟩
    have e9 := e r hr9
    simp (disch := first | assumption | exact e_nk_i _ | exact e_nk_n | exact e_nk_r _ | exact e_bo_0 | exact e_bo_1 | exact e_bo_b _ | omega) only [e_cl_v, e_cl_x, e_add_0, e_add_s, Option.toList_some, Option.toList_none, List.cons_append, List.nil_append, iI_add, iI_sub, iI_mul, iI_lt, iI_eq, iI_le, r166_457, r166_458]
    exact e9
  · obtain ⟨t0, K1, c1, S1, HD, H1, i1, i2⟩ := hI
    obtain ⟨⟨ck, hg, hus⟩, ⟨r308, r309⟩, rs0, rs1⟩ := HD
    obtain ⟨N1, v, b1, g1, k1⟩ := l_v1 (L := L) (xs := xs) (d := d) (V := V) (W := W) (M := M1) (j := j) ⟨x, y⟩
    have hr := hg.1
    have hn := hr.n
    have ck1 : CK N1 K1 c1 S1 := ck.of (fun a x y => g1.1 a (by omega) (by omega))
    have hgN : kG (uI K1 (238 + j) v) := kG_up hg (by omega) (by have := kb11 (z := 238 + j) (by omega); omega) (fun h => by omega)
    obtain ⟨N2, e2, q2, -, g2⟩ := x_workers (L := L) (xs := xs) (d := d + 1) (V := V) (W := W) ck1 hg (i := j) (v := v) (by unfold i32; omega) (by unfold i32; omega) (fun _ => hgN)
    rw [if_pos (by omega), i2 j (Int.le_refl _) y] at e2
    have q2 := q2 (by omega)
    have zn : ∀ z, z ≠ 238 + j → uI K1 (238 + j) v z = K1 z := fun z hz => uI_n _ _ hz
    have al2 : ∀ b, 148 < b → N2 b = N1 b := fun b w => g2 b (by omega)
    have haw : aW (uI K1 (238 + j) v) = aW K1 := aW_cong (zn 310 (by omega)) (fun o _ _ => zn _ (by omega))
    have LA2 : LA N2 (uI K1 (238 + j) v) := (H1.1.frame (M2 := N2) (fun a w1 w2 => by rw [al2 a (by omega)]; exact g1.1 a (by omega) (by omega)) (fun q hq => by rw [al2 184 (by omega)]; exact g1.2.1 q (by omega))).cgA hr (fun z hz => zn z (by omega))
    obtain ⟨M2, K2, c2, S2, y1, y2, e⟩ := hc N2 ⟨t0.tr (fun b w1 w2 => by rw [al2 b (by omega)]; exact g1.1 b (by omega) (by omega)), _, _, _, ⟨⟨q2, hgN, sv_g ck.hs.cc hg hus⟩, ⟨by rw [zn 308 (by omega)]; exact r308, by rw [zn 309 (by omega)]; exact r309⟩, by rw [zn 311 (by omega)]; exact rs0, by rw [al2 184 (by omega), g1.2.1 18 (by decide)]; exact rs1⟩, ⟨LA2, by rw [haw]; exact H1.2.1, by rw [zn 310 (by omega)]; exact H1.2.2⟩, fun i w1 w2 => by
      rw [al2 195 (by omega), g1.2.2]
      by_cases hq : i = j
      · rw [hq, if_pos rfl, uI_s]
      · rw [if_neg (by omega), zn (238 + i) (by omega)]
        exact i1 i w1 (by omega), fun i w1 w2 => by
      rw [zn (238 + i) (by omega)]
      exact i2 i (by omega) w2⟩
    refine ⟨M2, K2, c2, S2, y1, y2, fun r hr9 => ?_⟩
    have e9 := e r hr9
    have p1 : N1 195 j.toNat = iI v := by rw [g1.2.2, if_pos rfl]
    have tail : e_lim L xs (d + 9) 166 487 [some (.ref 184), none, some (.int (iI j)), none, none, none, none] [] (e_hp N1 V W) = some r := by
      simp (disch := first | assumption | exact e_nk_i _ | exact e_nk_n | exact e_nk_r _ | exact e_bo_0 | exact e_bo_1 | exact e_bo_b _ | omega) only [e_cl_v, e_cl_x, e_add_0, e_add_s, Option.toList_some, Option.toList_none, List.cons_append, List.nil_append, iI_add, iI_sub, iI_mul, iI_lt, iI_eq, iI_le, r166_487, r166_488, r166_491, r166_492, r166_493, r166_496, r166_497, r166_498, r166_501, r166_502, r166_505, r166_506, r166_507, r166_510, iI_vin, iI_nat, if_true, p1, e2]
      exact e9
    have e10 := k1 _ tail
    rw [r166_459]
    simp (disch := first | assumption | exact e_nk_i _ | exact e_nk_n | exact e_nk_r _ | exact e_bo_0 | exact e_bo_1 | exact e_bo_b _ | omega) only [e_cl_v, e_cl_x, e_add_0, e_add_s, Option.toList_some, Option.toList_none, List.cons_append, List.nil_append, iI_add, iI_sub, iI_mul, iI_lt, iI_eq, iI_le, r166_460, r166_461, if_pos y]
    exact e10
  · obtain ⟨t0, K1, c1, S1, HD, H1, i1, i2⟩ := hI
    refine ⟨M1, K1, c1, S1, ⟨HD, H1, i1⟩, t0, fun r hr9 => ?_⟩
    rw [r166_459]
    simp (disch := first | assumption | exact e_nk_i _ | exact e_nk_n | exact e_nk_r _ | exact e_bo_0 | exact e_bo_1 | exact e_bo_b _ | omega) only [e_cl_v, e_cl_x, e_add_0, e_add_s, Option.toList_some, Option.toList_none, List.cons_append, List.nil_append, iI_add, iI_sub, iI_mul, iI_lt, iI_eq, iI_le, r166_460, r166_461]
    rw [if_neg (by omega)]
    exact G_less (by repeat (first | exact e_ll.rf | refine e_ll_c ?_ | refine e_ll_x ?_)) hr9
theorem l_rated (H : DE M K c S) (HA : DW M K n) (HW : ∀ i : Int, 0 ≤ i → i < 3 → M 195 i.toNat = iI (K (238 + i))) : ∃ (M2 : e_MI) (K2 : e_St) (c2 : Int) (S2 : Int → e_St), (CL M2 K2 c2 S2 ∧ K2 310 = n ∧ K2 311 = 0) ∧ fTp M M2 ∧ ∀ r : e_R, e_lim L xs (d + 9) 166 566 [some (.ref 184), none, none, none, none, none, none] [] (e_hp M2 V W) = some r → e_lim L xs (d + 9) 166 513 [some (.ref 184), none, none, none, none, none, none] [] (e_hp M V W) = some r := by
  obtain ⟨⟨ck, hg, hus⟩, ⟨r308, r309⟩, rs0, rs1⟩ := H
  have hr := hg.1
  have hn := hr.n
  obtain ⟨M1, z, e1, r1, f1⟩ := l_next (L := L) (xs := xs) (d := d + 8) (V := V) (W := W) (M := M) (n := 5) (by omega)
  generalize hN1 : e_u M1 184 (upd (M1 184) 19 (iI (1 + z))) = N1
  have a1 : ∀ b, b ≠ 184 → N1 b = M1 b := fun b x => by rw [← hN1, e_u_n _ _ x]
  have b1 : ∀ q : Nat, N1 184 q = if q = 19 then iI (1 + z) else M1 184 q := fun q => by rw [← hN1, e_u_s]; rfl
  obtain ⟨M2, v, e2, r2, f2⟩ := l_next (L := L) (xs := xs) (d := d + 8) (V := V) (W := W) (M := N1) (n := 3) (by omega)
  generalize hN2 : e_u M2 184 (upd (M2 184) 20 (iI v)) = N2
  have a2 : ∀ b, b ≠ 184 → N2 b = M2 b := fun b x => by rw [← hN2, e_u_n _ _ x]
  have b2' : ∀ q : Nat, N2 184 q = if q = 20 then iI v else M2 184 q := fun q => by rw [← hN2, e_u_s]; rfl
  have al : ∀ b, b ≠ 184 → N2 b = M b := fun b x => by rw [a2 b x, f2.1 b x, a1 b x, f1.1 b x]
  have ck2 : CK N2 K c S := ck.of (fun a x y => al a (by omega))
  have p19 : N2 184 19 = iI (1 + z) := by rw [b2', if_neg (by decide), f2.2 19 (by decide), b1, if_pos rfl]
  have p20 : N2 184 20 = iI v := by rw [b2', if_pos rfl]
  have al4 : ∀ q : Nat, q ≠ 0 → q ≠ 19 → q ≠ 20 → N2 184 q = M 184 q := fun q x y w => by rw [b2', if_neg w, f2.2 q x, b1, if_neg y, f1.2 q x]
  have h9 : (308 + if (true = true) then (1 : Int) else 0) = 309 := by decide
  have h8 : (308 + if (false = true) then (1 : Int) else 0) = 308 := by decide
  have hg3 : kG (uI K 309 (1 + z)) := kG_up hg (by omega) (by have := kb14 (z := 309) (by omega); omega) (fun h => by omega)
  obtain ⟨M3, e3, q3, -, g3⟩ := x_setRate (L := L) (xs := xs) (d := d + 1) (V := V) (W := W) ck2 hg (bb := true) (v := 1 + z) (by unfold i32; omega)
  rw [if_pos (by omega), h9, r309] at e3
  have q3 := q3 (by omega)
  rw [h9] at q3
  have us3 := sv_g ck.hs.cc hg hus
  have g3' : ∀ b, 148 < b → M3 b = N2 b := fun b x => g3 b (by omega)
  have hg4 : kG (uI (uI K 309 (1 + z)) 308 v) := kG_up hg3 (by omega) (by have := kb14 (z := 308) (by omega); omega) (fun h => by omega)
  obtain ⟨M4, e4, q4, -, g4⟩ := x_setRate (L := L) (xs := xs) (d := d + 1) (V := V) (W := W) q3 hg3 (bb := false) (v := v) (by unfold i32; omega)
  rw [if_pos (by omega), h8, uI_n _ _ (show (308 : Int) ≠ 309 by omega), r308] at e4
  have q4 := q4 (by omega)
  rw [h8] at q4
  have g4' : ∀ b, 148 < b → M4 b = N2 b := fun b x => by rw [g4 b (by omega), g3' b x]
  have zn : ∀ z2, z2 ≠ 308 → z2 ≠ 309 → uI (uI K 309 (1 + z)) 308 v z2 = K z2 := fun z2 x y => by rw [uI_n _ _ x, uI_n _ _ y]
  have haw : aW (uI (uI K 309 (1 + z)) 308 v) = aW K := aW_cong (zn 310 (by omega) (by omega)) (fun o _ _ => zn _ (by omega) (by omega))
  have z11 : uI (uI K 309 (1 + z)) 308 v 311 = 0 := by rw [zn 311 (by omega) (by omega)]; exact rs0
  have LA4 : LA M4 (uI (uI K 309 (1 + z)) 308 v) := (HA.1.frame (M2 := M4) (fun a w1 w2 => by rw [g4' a (by omega)]; exact al a (by omega)) (fun q hq => by rw [g4' 184 (by omega)]; exact al4 q (by omega) (by omega) (by omega))).cgA hr (fun z2 hz => zn z2 (by omega) (by omega))
  have LB4 : LB M4 (uI (uI K 309 (1 + z)) 308 v) := ⟨by rw [z11, g4' 184 (by omega), al4 18 (by decide) (by decide) (by decide)]; exact rs1, fun i x y => by rw [g4' 195 (by omega), al 195 (by decide), zn (238 + i) (by omega) (by omega)]; exact HW i x y, fun k x y => by omega⟩
  have LC4 : LC M4 (uI (uI K 309 (1 + z)) 308 v) := ⟨by rw [uI_n _ _ (show (309 : Int) ≠ 308 by omega), uI_s, g4' 184 (by omega)]; exact p19, by rw [uI_s, g4' 184 (by omega)]; exact p20⟩
  refine ⟨M4, _, _, _, ⟨⟨q4, hg4, ⟨by rw [haw]; exact HA.2.1, fun k x y => by omega⟩, ⟨LA4, LB4, LC4⟩, sv_g q3.hs.cc hg3 us3⟩, by rw [zn 310 (by omega) (by omega)]; exact HA.2.2, z11⟩, fun b x y => by rw [g4' b (by omega)]; exact al b (by omega), fun r hr9 => ?_⟩
  have p20' : M3 184 20 = iI v := by rw [g3' 184 (by omega)]; exact p20
  rw [bI_t] at e3
  rw [bI_f] at e4
  simp (disch := first | assumption | exact e_nk_i _ | exact e_nk_n | exact e_nk_r _ | exact e_bo_0 | exact e_bo_1 | exact e_bo_b _ | omega) only [e_cl_v, e_cl_x, e_add_0, e_add_s, Option.toList_some, Option.toList_none, List.cons_append, List.nil_append, iI_add, iI_sub, iI_mul, iI_lt, iI_eq, iI_le, r166_513, r166_514, r166_515, r166_516, r166_517, r166_520, r166_521, e1, hN1]
  simp (disch := first | assumption | exact e_nk_i _ | exact e_nk_n | exact e_nk_r _ | exact e_bo_0 | exact e_bo_1 | exact e_bo_b _ | omega) only [e_cl_v, e_cl_x, e_add_0, e_add_s, Option.toList_some, Option.toList_none, List.cons_append, List.nil_append, iI_add, iI_sub, iI_mul, iI_lt, iI_eq, iI_le, r166_524, r166_525, r166_526, r166_527, r166_530, e2, hN2]
  simp (disch := first | assumption | exact e_nk_i _ | exact e_nk_n | exact e_nk_r _ | exact e_bo_0 | exact e_bo_1 | exact e_bo_b _ | omega) only [e_cl_v, e_cl_x, e_add_0, e_add_s, Option.toList_some, Option.toList_none, List.cons_append, List.nil_append, iI_add, iI_sub, iI_mul, iI_lt, iI_eq, iI_le, r166_533, r166_534, r166_537, r166_538, r166_539, r166_542, r166_545, r166_546, r166_549, r166_550, r166_553, r166_554, r166_555, r166_558, r166_561, p19, p20', e3, e4, if_true]
  exact hr9
theorem l_resting (H : CL M K c S) (h0 : K 311 = 0) (h1 : K 310 = n) : ∃ (M2 : e_MI) (K2 : e_St) (c2 : Int) (S2 : Int → e_St), (CL M2 K2 c2 S2 ∧ K2 310 = n) ∧ fTp M M2 ∧ ∀ r : e_R, e_lim L xs (d + 9) 166 591 [some (.ref 184), none, none, none, none, none, none] [] (e_hp M2 V W) = some r → e_lim L xs (d + 9) 166 566 [some (.ref 184), none, none, none, none, none, none] [] (e_hp M V W) = some r := by
  obtain ⟨M0, N, e1, r1, f0⟩ := l_next (L := L) (xs := xs) (d := d + 8) (V := V) (W := W) (M := M) (n := 4) (by omega)
  have key := G_lp (i := 0) (n := N) (I := fun j M1 => fTp M M1 ∧ ∃ (K1 : e_St) (c1 : Int) (S1 : Int → e_St), CL M1 K1 c1 S1 ∧ K1 310 = n ∧ K1 311 = j)
      (P := fun j M1 => ∃ (M2 : e_MI) (K2 : e_St) (c2 : Int) (S2 : Int → e_St), (CL M2 K2 c2 S2 ∧ K2 310 = n) ∧ fTp M M2 ∧ ∀ r : e_R, e_lim L xs (d + 9) 166 591 [some (.ref 184), none, none, none, none, none, none] [] (e_hp M2 V W) = some r → e_lim L xs (d + 9) 166 572 [some (.ref 184), none, some (.int (iI (N - j))), none, none, none, none] [] (e_hp M1 V W) = some r) (fun j M1 x y hI hc => ?_) (fun M1 hI => ?_) (by omega) M0 ⟨f0.pp.fp, K, c, S, H.of f0.l, h1, h0⟩
  · obtain ⟨M2, K2, c2, S2, y1, y2, e⟩ := key
    refine ⟨M2, K2, c2, S2, y1, y2, fun r hr9 => ?_⟩
    have e9 := e r hr9
    rw [show N - 0 = N by omega] at e9
    simp (disch := first | assumption | exact e_nk_i _ | exact e_nk_n | exact e_nk_r _ | exact e_bo_0 | exact e_bo_1 | exact e_bo_b _ | omega) only [e_cl_v, e_cl_x, e_add_0, e_add_s, Option.toList_some, Option.toList_none, List.cons_append, List.nil_append, iI_add, iI_sub, iI_mul, iI_lt, iI_eq, iI_le, r166_566, r166_567, r166_568, r166_571, e1]
    exact e9
  · obtain ⟨t0, K1, c1, S1, HD, H1, H2⟩ := hI
    obtain ⟨M3, K3, c3, S3, e3, H3, ⟨w1, w2⟩, t3⟩ := l_isRested (L := L) (xs := xs) (d := d) (V := V) (W := W) HD (by omega)
    obtain ⟨M2, K2, c2, S2, y1, y2, e⟩ := hc M3 ⟨t0.tr t3, K3, c3, S3, H3, by omega, by omega⟩
    refine ⟨M2, K2, c2, S2, y1, y2, fun r hr9 => ?_⟩
    have e9 := e r hr9
    rw [show N - (j + 1) = N - j + -1 by omega] at e9
    have h10 : ¬ (iI 1 = iI 0) := by decide
    rw [r166_572]
    simp (disch := first | assumption | exact e_nk_i _ | exact e_nk_n | exact e_nk_r _ | exact e_bo_0 | exact e_bo_1 | exact e_bo_b _ | omega) only [e_cl_v, e_cl_x, e_add_0, e_add_s, Option.toList_some, Option.toList_none, List.cons_append, List.nil_append, iI_add, iI_sub, iI_mul, iI_lt, iI_eq, iI_le, r166_573, r166_576, r166_577, r166_580, r166_583, r166_584, r166_585, r166_588, e3, bI_t, if_neg h10]
    first | rw [if_pos (by omega)] | rw [if_neg (by omega)] | skip
    exact e9
  · obtain ⟨t0, K1, c1, S1, HD, H1, H2⟩ := hI
    refine ⟨M1, K1, c1, S1, ⟨HD, H1⟩, t0, fun r hr9 => ?_⟩
    rw [show N - N = 0 by omega, r166_572]
    simp (disch := first | assumption | exact e_nk_i _ | exact e_nk_n | exact e_nk_r _ | exact e_bo_0 | exact e_bo_1 | exact e_bo_b _ | omega) only [e_cl_v, e_cl_x, e_add_0, e_add_s, Option.toList_some, Option.toList_none, List.cons_append, List.nil_append, iI_add, iI_sub, iI_mul, iI_lt, iI_eq, iI_le, r166_573]
    exact G_less (by repeat (first | exact e_ll.rf | refine e_ll_c ?_ | refine e_ll_x ?_)) hr9
theorem l_isDrawn (H : DD M K c S) (h0 : K 310 = 0) (h17 : M 184 17 = iI 0) (h190 : ∀ o : Int, 0 ≤ o → o < 8 → M 190 o.toNat = iI 0) (h194 : ∀ i : Int, 0 ≤ i → i < 64 → M 194 i.toNat = iI (K (144 + i))) : ∃ (M2 : e_MI) (K2 : e_St) (c2 : Int) (S2 : Int → e_St), e_lim L xs (d + 9) 166 0 [some (.ref 184), none, none, none, none, none, none] [] (e_hp M V W) = some (.inl (some (.int (bI true))), e_hp M2 V W, 0, 0) ∧ CL M2 K2 c2 S2 ∧ 1 ≤ K2 310 ∧ fTp M M2 := by
  obtain ⟨M1, z, e1, r1, f1⟩ := l_next (L := L) (xs := xs) (d := d + 8) (V := V) (W := W) (M := M) (n := 5) (by omega)
  generalize hN1 : e_u M1 184 (upd (M1 184) 16 (iI (1 + z))) = N1
  have a1 : ∀ b, b ≠ 184 → N1 b = M1 b := fun b x => by rw [← hN1, e_u_n _ _ x]
  have b1 : ∀ q : Nat, N1 184 q = if q = 16 then iI (1 + z) else M1 184 q := fun q => by rw [← hN1, e_u_s]; rfl
  have H1 := H.of f1.l
  have HN : DD N1 K c S := ⟨⟨H1.1.1.of (fun a x y => a1 a (by omega)), H1.1.2⟩, H1.2.1, H1.2.2.1, by rw [b1, if_neg (by decide)]; exact H1.2.2.2⟩
  obtain ⟨M2, K2, c2, S2, ⟨D2, O2, Z2, k2⟩, t2, e2⟩ := l_ordered (L := L) (xs := xs) (d := d) (V := V) (W := W) (n := 1 + z) (by omega) HN (fun o x y => by omega) ⟨⟨by rw [b1, if_pos rfl], by rw [b1, if_neg (by decide), f1.2 17 (by decide)]; exact h17⟩, fun o x y => by rw [a1 190 (by decide), f1.1 190 (by decide)]; exact h190 o x y, fun i x y => by rw [a1 194 (by decide), f1.1 194 (by decide)]; exact h194 i x y⟩ h0
  have hw2 : aW K2 = 0 := by
    have := SU_le (f := fun o => K2 (40 + o)) (n := K2 310) (c := 0) (fun o x y => by have := (O2 o x y).2; omega) (by omega)
    unfold aW
    omega
  have LA2 : LA M2 K2 := by
    refine ⟨⟨by rw [k2]; exact Z2.1.1, by rw [hw2]; exact Z2.1.2⟩, fun o x y => ?_, fun o w x y u v => ?_, fun i x y => Z2.2.2 i x y⟩
    · obtain ⟨⟨p1, p2, p3, p4, p5⟩, p6⟩ := O2 o x y
      exact ⟨p1, p2, p3, p4, p5, by rw [p6]; exact Z2.2.1 o x (by omega)⟩
    · have := (O2 o x y).2
      omega
  obtain ⟨M3, K3, c3, S3, ⟨D3, A3, w3, k3⟩, t3, e3⟩ := l_worked (L := L) (xs := xs) (d := d) (V := V) (W := W) (n := 1 + z) (by omega) D2 LA2 hw2 k2
  obtain ⟨M4, K4, c4, S4, ⟨D4, A4⟩, t4, e4⟩ := l_settings (L := L) (xs := xs) (d := d) (V := V) (W := W) D3 ⟨A3, w3, k3⟩
  obtain ⟨M5, K5, c5, S5, ⟨D5, A5, B5⟩, t5, e5⟩ := l_staffed (L := L) (xs := xs) (d := d) (V := V) (W := W) D4 A4
  obtain ⟨M6, K6, c6, S6, ⟨C6, k6, j6⟩, t6, e6⟩ := l_rated (L := L) (xs := xs) (d := d) (V := V) (W := W) D5 A5 B5
  obtain ⟨M7, K7, c7, S7, ⟨C7, k7⟩, t7, e7⟩ := l_resting (L := L) (xs := xs) (d := d) (V := V) (W := W) C6 j6 k6
  have tN : fTp M N1 := f1.pp.fp.tr (fun b x y => a1 b (by omega))
  refine ⟨M7, K7, c7, S7, ?_, C7, by omega, (((((tN.tr t2).tr t3).tr t4).tr t5).tr t6).tr t7⟩
  have tail : e_lim L xs (d + 9) 166 591 [some (.ref 184), none, none, none, none, none, none] [] (e_hp M7 V W) = some (.inl (some (.int (bI true))), e_hp M7 V W, 0, 0) := by
    have q1 := x_orders (L := L) (xs := xs) (d := d + 8) (V := V) (W := W) C7.ck.sh
    have q2 := x_works (L := L) (xs := xs) (d := d + 8) (V := V) (W := W) C7.ck.sh
    have q3 := C7.la.nn
    have q4 := C7.la.ws
    simp (disch := first | assumption | exact e_nk_i _ | exact e_nk_n | exact e_nk_r _ | exact e_bo_0 | exact e_bo_1 | exact e_bo_b _ | omega) only [e_cl_v, e_cl_x, e_add_0, e_add_s, Option.toList_some, Option.toList_none, List.cons_append, List.nil_append, iI_add, iI_sub, iI_mul, iI_lt, iI_eq, iI_le, r166_591, r166_592, r166_595, r166_598, r166_599, r166_602, r166_605, r166_606, r166_609, r166_612, r166_613, r166_616, r166_619, r166_620, r166_623, r166_624, q1, q2, q3, q4, if_true, bI_t]
  have e9 := e2 _ (e3 _ (e4 _ (e5 _ (e6 _ (e7 _ tail)))))
  simp (disch := first | assumption | exact e_nk_i _ | exact e_nk_n | exact e_nk_r _ | exact e_bo_0 | exact e_bo_1 | exact e_bo_b _ | omega) only [e_cl_v, e_cl_x, e_add_0, e_add_s, Option.toList_some, Option.toList_none, List.cons_append, List.nil_append, iI_add, iI_sub, iI_mul, iI_lt, iI_eq, iI_le, r166_0, r166_1, r166_2, r166_3, r166_4, r166_7, r166_8, r166_11, r166_12, e1, hN1]
  exact e9
end El40
