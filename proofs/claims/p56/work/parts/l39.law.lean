section El39
variable {L : Nat} {xs : Nat → Int32} {d : Nat} {M M1 M2 M3 : e_MI} {V V1 V2 : e_ML} {W : e_MD} {K K2 : e_St} {S : Int → e_St} {h : e_H} {c o j w z m k q p i f b t n x its er u v : Int} {U : Int → Int} {s : Int × (Int → Int)} {a : Nat}
/-! settings, workers, rates and rests are drawn -/
theorem LA.frame (H : LA M K) (h : ∀ a, a ≤ 194 → 184 < a → M2 a = M a) (h2 : ∀ j, j = 16 ∨ j = 17 → M2 184 j = M 184 j) : LA M2 K := by
  obtain ⟨⟨q1, q2⟩, q3, q4, q5⟩ := H
  refine ⟨⟨by rw [h2 16 (by omega)]; exact q1, by rw [h2 17 (by omega)]; exact q2⟩, fun o x y => ?_, fun o w x y z t => ?_, fun i x y => ?_⟩
  · rw [h 185 (by decide) (by decide), h 186 (by decide) (by decide), h 187 (by decide) (by decide), h 188 (by decide) (by decide), h 189 (by decide) (by decide), h 190 (by decide) (by decide)]
    exact q3 o x y
  · rw [h 191 (by decide) (by decide), h 192 (by decide) (by decide), h 193 (by decide) (by decide)]
    exact q4 o w x y z t
  · rw [h 194 (by decide) (by decide)]
    exact q5 i x y
/-- what is drawn of orders and works stays -/
def DW (M : e_MI) (K : e_St) (n : Int) : Prop := LA M K ∧ aW K ≤ 10 ∧ K 310 = n
theorem l_set1 (H : DD M K c S) (HA : DW M K n) (hk0 : 1 ≤ k ∧ k ≤ 5) : ∃ (M2 : e_MI) (K2 : e_St) (c2 : Int) (S2 : Int → e_St), (DD M2 K2 c2 S2 ∧ DW M2 K2 n) ∧ fTp M M2 ∧ ∀ r : e_R, e_lim L xs (d + 9) 166 357 [some (.ref 184), none, some (.int (iI (k - 1))), none, none, none, none] [] (e_hp M2 V W) = some r → e_lim L xs (d + 9) 166 357 [some (.ref 184), none, some (.int (iI k)), none, none, none, none] [] (e_hp M V W) = some r := by
  obtain ⟨M1, m, e1, r1, f1⟩ := l_next (L := L) (xs := xs) (d := d + 8) (V := V) (W := W) (M := M) (n := 3) (by omega)
  obtain ⟨M2, f, e2, r2, f2⟩ := l_next (L := L) (xs := xs) (d := d + 8) (V := V) (W := W) (M := M1) (n := 3) (by omega)
  obtain ⟨M3, z, e3, r3, f3⟩ := l_next (L := L) (xs := xs) (d := d + 8) (V := V) (W := W) (M := M2) (n := 2) (by omega)
  obtain ⟨M4, v, e4, r4, f4⟩ := l_next (L := L) (xs := xs) (d := d + 8) (V := V) (W := W) (M := M3) (n := 21) (by omega)
  have ft : fX M M4 := ((f1.t f2).t f3).t f4
  have hrem := iI_rem (a := f + 1 + z) (b := 3) (by omega) (by omega) (by omega) (by omega)
  have hn3 := iI_ne (b := 3) (by omega) (by omega)
  generalize hx : (f + 1 + z) % 3 = x at *
  have hxr : (0 ≤ x ∧ x ≤ 2) ∧ f ≠ x := by omega
  obtain ⟨⟨ck, hg, hus⟩, ⟨⟨r308, r309⟩, rw4⟩, rs0, rs1⟩ := H.of ft.l
  have HA4 := HA.1.of ft.l
  have hr := hg.1
  have hdg : ∀ m2 f2 : Int, 0 ≤ m2 → m2 < 4 → 0 ≤ f2 → f2 < 4 → 144 + 16 * m + 4 * f + x ≠ 144 + 16 * m2 + 4 * f2 + f2 := fun m2 f2 w1 w2 w3 w4 => by
    clear hx hrem e1 e2 e3 e4
    rcases (show f2 = 0 ∨ f2 = 1 ∨ f2 = 2 ∨ f2 = 3 by omega) with q | q | q | q <;> rcases (show f = 0 ∨ f = 1 ∨ f = 2 by omega) with q3 | q3 | q3 <;> rw [q, q3] <;> omega
  have hgN : kG (uI K (144 + 16 * m + 4 * f + x) v) := kG_up hg (by omega) (by have := kb9 (z := 144 + 16 * m + 4 * f + x) (by omega); omega) (fun _ m2 f2 w1 w2 w3 w4 => hdg m2 f2 w1 w2 w3 w4)
  obtain ⟨M5, e5, q5, -, g5⟩ := x_setting (L := L) (xs := xs) (d := d + 1) (V := V) (W := W) ck hg (m := m) (f := f) (x := x) (v := v) (by unfold i32; omega) (by unfold i32; omega) (by unfold i32; omega) (by unfold i32; omega) (fun _ _ => hgN)
  rw [if_pos (by omega)] at e5
  have q5 := q5 (by omega)
  have hsT : sT K m f x = K (144 + 16 * m + 4 * f + x) := by unfold sT; rw [if_neg hxr.2]
  rw [hsT] at e5
  have el := HA4.se (i := 16 * m + 4 * f + x) (by omega) (by omega)
  rw [show 144 + (16 * m + 4 * f + x) = 144 + 16 * m + 4 * f + x by omega] at el
  have el5 : M5 194 (16 * m + 4 * f + x).toNat = iI (K (144 + 16 * m + 4 * f + x)) := by rw [g5 194 (by omega)]; exact el
  generalize hM6 : e_u M5 194 (upd (M5 194) (16 * m + 4 * f + x).toNat (iI v)) = M6
  have a6 : ∀ b, b ≠ 194 → M6 b = M5 b := fun b y => by rw [← hM6, e_u_n _ _ y]
  have b6 : ∀ q : Nat, M6 194 q = if q = (16 * m + 4 * f + x).toNat then iI v else M5 194 q := fun q => by rw [← hM6, e_u_s]; rfl
  have zn : ∀ z, z < 144 ∨ 208 ≤ z → uI K (144 + 16 * m + 4 * f + x) v z = K z := fun z hz => uI_n _ _ (by omega)
  have haw : aW (uI K (144 + 16 * m + 4 * f + x) v) = aW K := aW_cong (zn 310 (by omega)) (fun o _ _ => zn _ (by have := hr.n; omega))
  have LA6 : LA M6 (uI K (144 + 16 * m + 4 * f + x) v) := by
    obtain ⟨⟨q1, q2⟩, q3, q4, q5⟩ := HA4
    have hn := hr.n
    refine ⟨⟨by rw [zn 310 (by omega), a6 184 (by decide), g5 184 (by omega)]; exact q1, by rw [haw, a6 184 (by decide), g5 184 (by omega)]; exact q2⟩, fun o x y => ?_, fun o w x y z t => ?_, fun i x y => ?_⟩
    · rw [zn 310 (by omega)] at y
      rw [a6 185 (by decide), a6 186 (by decide), a6 187 (by decide), a6 188 (by decide), a6 189 (by decide), a6 190 (by decide), g5 185 (by omega), g5 186 (by omega), g5 187 (by omega), g5 188 (by omega), g5 189 (by omega), g5 190 (by omega), zn o (by omega), zn (8 + o) (by omega), zn (16 + o) (by omega), zn (24 + o) (by omega), zn (32 + o) (by omega), zn (40 + o) (by omega)]
      exact q3 o x y
    · rw [zn 310 (by omega)] at y
      rw [zn (40 + o) (by omega)] at t
      have hw4 := hr.wk (o := o) x (by omega)
      rw [a6 191 (by decide), a6 192 (by decide), a6 193 (by decide), g5 191 (by omega), g5 192 (by omega), g5 193 (by omega), zn (48 + 4 * o + w) (by omega), zn (80 + 4 * o + w) (by omega), zn (112 + 4 * o + w) (by omega)]
      exact q4 o w x y z t
    · rw [b6]
      by_cases hq : i = 16 * m + 4 * f + (f + 1 + z) % 3
      · rw [if_pos (by omega), show 144 + i = 144 + 16 * m + 4 * f + (f + 1 + z) % 3 by omega, hx, uI_s]
      · rw [if_neg (by omega), uI_n _ _ (by omega), g5 194 (by omega)]
        exact q5 i x y
  refine ⟨M6, _, _, _, ⟨⟨⟨q5.of (fun a x y => a6 a (by omega)), hgN, sv_g ck.hs.cc hg hus⟩, ⟨⟨by rw [zn 308 (by omega)]; exact r308, by rw [zn 309 (by omega)]; exact r309⟩, fun i w1 w2 => by rw [zn (238 + i) (by omega)]; exact rw4 i w1 w2⟩, by rw [zn 311 (by omega)]; exact rs0, by rw [a6 184 (by decide), g5 184 (by omega)]; exact rs1⟩, LA6, by rw [haw]; exact HA.2.1, by rw [zn 310 (by omega)]; exact HA.2.2⟩, ft.pp.fp.tr (fun b w1 w2 => by rw [a6 b (by omega), g5 b (by omega)]), fun r hr9 => ?_⟩
  rw [show k - 1 = k + -1 by omega] at hr9
  rw [r166_357]
  simp (disch := first | assumption | exact e_nk_i _ | exact e_nk_n | exact e_nk_r _ | exact e_bo_0 | exact e_bo_1 | exact e_bo_b _ | omega) only [e_cl_v, e_cl_x, e_add_0, e_add_s, Option.toList_some, Option.toList_none, List.cons_append, List.nil_append, iI_add, iI_sub, iI_mul, iI_lt, iI_eq, iI_le, r166_358, r166_361, r166_362, r166_363, r166_366, r166_367, r166_368, r166_369, r166_372, r166_374, r166_376, r166_377, r166_378, r166_379, r166_380, r166_383, e1, e2, e3]
  first | rw [if_pos (by omega)] | rw [if_neg (by omega)] | skip
  simp (disch := first | assumption | exact e_nk_i _ | exact e_nk_n | exact e_nk_r _ | exact e_bo_0 | exact e_bo_1 | exact e_bo_b _ | omega) only [e_cl_v, e_cl_x, e_add_0, e_add_s, Option.toList_some, Option.toList_none, List.cons_append, List.nil_append, iI_add, iI_sub, iI_mul, iI_lt, iI_eq, iI_le, r166_384, r166_385, r166_386, hn3]
  simp only [iI_add, hrem]
  simp (disch := first | assumption | exact e_nk_i _ | exact e_nk_n | exact e_nk_r _ | exact e_bo_0 | exact e_bo_1 | exact e_bo_b _ | omega) only [e_cl_v, e_cl_x, e_add_0, e_add_s, Option.toList_some, Option.toList_none, List.cons_append, List.nil_append, iI_add, iI_sub, iI_mul, iI_lt, iI_eq, iI_le, r166_386, r166_388, r166_389, r166_391, r166_394, r166_396, r166_397, r166_400, r166_401, r166_403, r166_405, r166_407, r166_410, r166_411, r166_414, r166_416, r166_417, r166_418, r166_419, r166_421, r166_422, r166_423, r166_425, r166_426, r166_427, iI_vin, iI_nat, if_true, e4, e5, el5]
  simp (disch := first | assumption | exact e_nk_i _ | exact e_nk_n | exact e_nk_r _ | exact e_bo_0 | exact e_bo_1 | exact e_bo_b _ | omega) only [e_cl_v, e_cl_x, e_add_0, e_add_s, Option.toList_some, Option.toList_none, List.cons_append, List.nil_append, iI_add, iI_sub, iI_mul, iI_lt, iI_eq, iI_le, r166_432, r166_433, r166_436, r166_438, r166_439, r166_440, r166_441, r166_443, r166_444, r166_445, r166_447, r166_448, r166_450, r166_451, r166_454, iI_vin, iI_nat, if_true, hM6]
  exact G_less (by repeat (first | exact e_ll.rf | refine e_ll_c ?_ | refine e_ll_x ?_)) hr9
end El39
