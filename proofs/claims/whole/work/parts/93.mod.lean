section E93
variable {L : Nat} {xs : Nat → Int32} {d : Nat} {M M2 M3 : e_MI} {V : e_ML} {W : e_MD} {K K2 : e_St} {h : e_H} {S : Int → e_St} {c cd n er w f t o m q j z i : Int} {s : Int × (Int → Int)} {ρ ω β ε τ T U : Int → Int} {r : Option e_R} {an : Int32}
/-! an order goes: the orders behind it come down, number by number -/
/-- whether the number at z has come down: of the orders before j; of order j its first u numbers and v of its works' numbers -/
def dnP (o j u v z : Int) : Bool := decide ((0 ≤ z ∧ z < 48 ∧ o ≤ z % 8 ∧ (z % 8 < j ∨ (z % 8 = j ∧ z < 8 * u))) ∨ (48 ≤ z ∧ z < 144 ∧ o ≤ (z - 48) % 32 / 4 ∧ ((z - 48) % 32 / 4 < j ∨ ((z - 48) % 32 / 4 = j ∧ 3 * ((z - 48) % 4) + (z - 48) / 32 < v))))
def dnK (K : e_St) (o j u v : Int) : e_St := fun z => if z = 310 then K 310 - 1 else if dnP o j u v z = true then K (z + if z < 48 then 1 else 4) else K z
theorem dnK_n {u v : Int} (h : z ≠ 310) (h2 : dnP o j u v z = false) : dnK K o j u v z = K z := by
  unfold dnK
  rw [if_neg h, h2]
  rfl
theorem dnK_c {u v u2 v2 j2 : Int} (h : ∀ z, 0 ≤ z → z < 312 → dnP o j u v z = dnP o j2 u2 v2 z) : ∀ z, 0 ≤ z → z < 312 → dnK K o j u v z = dnK K o j2 u2 v2 z := fun z a b => by
  unfold dnK
  rw [h z a b]
theorem dnP_iff {u v : Int} : dnP o j u v z = true ↔ ((0 ≤ z ∧ z < 48 ∧ o ≤ z % 8 ∧ (z % 8 < j ∨ (z % 8 = j ∧ z < 8 * u))) ∨ (48 ≤ z ∧ z < 144 ∧ o ≤ (z - 48) % 32 / 4 ∧ ((z - 48) % 32 / 4 < j ∨ ((z - 48) % 32 / 4 = j ∧ 3 * ((z - 48) % 4) + (z - 48) / 32 < v)))) := decide_eq_true_iff
theorem bool_eq {a b : Bool} (h : a = true ↔ b = true) : a = b := by
  cases a <;> cases b <;> simp_all
theorem dn_u (ho : 0 ≤ o ∧ o ≤ j) (hj : j < 7) {u v : Int} (hu : 0 ≤ u ∧ u < 6) : ∀ z, 0 ≤ z → z < 312 → uI (dnK K o j u v) (8 * u + j) (K (8 * u + j + 1)) z = dnK K o j (u + 1) v z := fun z a b => by
  unfold uI
  by_cases hz : z = 8 * u + j
  · rw [if_pos hz]
    have hp : dnP o j (u + 1) v z = true := dnP_iff.mpr (Or.inl (by omega))
    unfold dnK
    rw [if_neg (by omega), if_pos hp, if_pos (by omega), hz]
  · rw [if_neg hz]
    have hp : dnP o j u v z = dnP o j (u + 1) v z := bool_eq (by
      rw [dnP_iff, dnP_iff]
      constructor
      · rintro (x | x)
        · exact Or.inl (by omega)
        · exact Or.inr x
      · rintro (x | x)
        · exact Or.inl (by omega)
        · exact Or.inr x)
    unfold dnK
    rw [hp]
theorem dn_v (ho : 0 ≤ o ∧ o ≤ j) (hj : j < 7) {u w i : Int} (hw : 0 ≤ w ∧ w < 4) (hi : 0 ≤ i ∧ i < 3) : ∀ z, 0 ≤ z → z < 312 → uI (dnK K o j u (3 * w + i)) (48 + 32 * i + 4 * j + w) (K (48 + 32 * i + 4 * j + w + 4)) z = dnK K o j u (3 * w + i + 1) z := fun z a b => by
  unfold uI
  by_cases hz : z = 48 + 32 * i + 4 * j + w
  · rw [if_pos hz]
    have hp : dnP o j u (3 * w + i + 1) z = true := dnP_iff.mpr (Or.inr (by omega))
    unfold dnK
    rw [if_neg (by omega), if_pos hp, if_neg (by omega), hz]
  · rw [if_neg hz]
    have hp : dnP o j u (3 * w + i) z = dnP o j u (3 * w + i + 1) z := bool_eq (by
      rw [dnP_iff, dnP_iff]
      constructor
      · rintro (x | x)
        · exact Or.inl x
        · exact Or.inr (by omega)
      · rintro (x | x)
        · exact Or.inl x
        · refine Or.inr ⟨x.1, x.2.1, x.2.2.1, ?_⟩
          rcases x.2.2.2 with y | y
          · exact Or.inl y
          · refine Or.inr ⟨y.1, ?_⟩
            obtain ⟨x1, x2, x3, x4⟩ := x
            have h1 : (z - 48) % 4 = w → (z - 48) / 32 = i → False := fun p q => by omega
            have hb : 0 ≤ (z - 48) / 32 ∧ (z - 48) / 32 ≤ 2 := by omega
            have y2 := y.2
            clear x1 x2 x3 x4 y hz a b
            generalize (z - 48) % 4 = a at *
            generalize (z - 48) / 32 = b at *
            by_cases c1 : a = w
            · have : b ≠ i := fun q => h1 c1 q
              omega
            · omega)
    unfold dnK
    rw [hp]
theorem mm_dropU (hK : e_KM M (dnK K o j i 0)) (ho : 0 ≤ o ∧ o ≤ j) (hj : j < 7) (hi : 0 ≤ i ∧ i < 6) {l1 l4 : Option Value} : ∃ M2 : e_MI, e_lim L xs d 195 43 [some (.ref 184), l1, some (.int (iI j)), some (.int (iI (8 * i))), l4] [] (e_hp M V W) = e_lim L xs d 195 43 [some (.ref 184), l1, some (.int (iI j)), some (.int (iI (8 * (i + 1)))), l4] [] (e_hp M2 V W) ∧ e_KM M2 (dnK K o j (i + 1) 0) ∧ frN M M2 := by
  have a0 := hK (8 * i + j + 1) (by omega) (by omega)
  rw [dnK_n (by omega) (by
    cases hb : dnP o j i 0 (8 * i + j + 1) with
    | false => rfl
    | true =>
      rw [dnP_iff] at hb
      omega)] at a0
  refine ⟨e_u M 185 (upd (M 185) (8 * i + j).toNat (iI (K (8 * i + j + 1)))), ?_, ?_, fun a x => e_u_n _ _ x⟩
  · rw [r195_43]
    simp (disch := first | assumption | exact e_nk_i _ | exact e_nk_n | exact e_nk_r _ | exact e_bo_0 | exact e_bo_1 | exact e_bo_b _ | omega) only [e_cl_v, e_cl_x, e_add_0, e_add_s, Option.toList_some, Option.toList_none, List.cons_append, List.nil_append, iI_add, iI_sub, iI_mul, iI_lt, iI_eq, iI_le, r195_44, r195_46, r195_49, r195_50, r195_53, r195_54, r195_55, r195_56, r195_57, r195_60, r195_61, r195_62, r195_63, r195_64, r195_65, r195_66, r195_67, r195_70, iI_vin, iI_nat, if_true, a0]
    rw [if_neg (by omega), show 8 * i + 8 = 8 * (i + 1) by omega]
  · exact e_ar.cong (KM_up hK (by omega)) (dn_u ho hj hi)
theorem mm_dropV (hK : e_KM M (dnK K o j 6 (3 * w + i))) (ho : 0 ≤ o ∧ o ≤ j) (hj : j < 7) (hw : 0 ≤ w ∧ w < 4) (hi : 0 ≤ i ∧ i < 3) {l1 : Option Value} : ∃ M2 : e_MI, e_lim L xs d 195 84 [some (.ref 184), l1, some (.int (iI j)), some (.int (iI w)), some (.int (iI (48 + 32 * i)))] [] (e_hp M V W) = e_lim L xs d 195 84 [some (.ref 184), l1, some (.int (iI j)), some (.int (iI w)), some (.int (iI (48 + 32 * (i + 1))))] [] (e_hp M2 V W) ∧ e_KM M2 (dnK K o j 6 (3 * w + (i + 1))) ∧ frN M M2 := by
  have a0 := hK (48 + 32 * i + 4 * j + w + 4) (by omega) (by omega)
  rw [dnK_n (by omega) (by
    cases hb : dnP o j 6 (3 * w + i) (48 + 32 * i + 4 * j + w + 4) with
    | false => rfl
    | true =>
      rw [dnP_iff] at hb
      omega)] at a0
  refine ⟨e_u M 185 (upd (M 185) (48 + 32 * i + 4 * j + w).toNat (iI (K (48 + 32 * i + 4 * j + w + 4)))), ?_, ?_, fun a x => e_u_n _ _ x⟩
  · rw [r195_84]
    simp (disch := first | assumption | exact e_nk_i _ | exact e_nk_n | exact e_nk_r _ | exact e_bo_0 | exact e_bo_1 | exact e_bo_b _ | omega) only [e_cl_v, e_cl_x, e_add_0, e_add_s, Option.toList_some, Option.toList_none, List.cons_append, List.nil_append, iI_add, iI_sub, iI_mul, iI_lt, iI_eq, iI_le, r195_86, r195_88, r195_91, r195_92, r195_95, r195_97, r195_98, r195_99, r195_100, r195_101, r195_102, r195_103, r195_104, r195_107, r195_109, r195_110, r195_111, r195_112, r195_113, r195_114, r195_115, r195_116, r195_117, r195_118, r195_119, r195_122, iI_vin, iI_nat, if_true, a0]
    rw [if_neg (by omega), show 48 + 32 * i + 32 = 48 + 32 * (i + 1) by omega]
  · rw [show 3 * w + (i + 1) = 3 * w + i + 1 by omega]
    exact e_ar.cong (KM_up hK (by omega)) (dn_v ho hj hw hi)
theorem mm_dropW (hK : e_KM M (dnK K o j 6 (3 * w))) (ho : 0 ≤ o ∧ o ≤ j) (hj : j < 7) (hw : 0 ≤ w ∧ w < 4) {l1 l4 : Option Value} : ∃ M2 : e_MI, e_lim L xs d 195 75 [some (.ref 184), l1, some (.int (iI j)), some (.int (iI w)), l4] [] (e_hp M V W) = e_lim L xs d 195 75 [some (.ref 184), l1, some (.int (iI j)), some (.int (iI (w + 1))), some (.int (iI 144))] [] (e_hp M2 V W) ∧ e_KM M2 (dnK K o j 6 (3 * (w + 1))) ∧ frN M M2 := by
  obtain ⟨M1, e1, k1, f1⟩ := mm_dropV (L := L) (xs := xs) (d := d) (V := V) (W := W) (i := 0) (l1 := l1) (by rw [show 3 * w + 0 = 3 * w by omega]; exact hK) ho hj hw (by omega)
  obtain ⟨M2, e2, k2, f2⟩ := mm_dropV (L := L) (xs := xs) (d := d) (V := V) (W := W) (i := 0 + 1) (l1 := l1) k1 ho hj hw (by omega)
  obtain ⟨M3, e3, k3, f3⟩ := mm_dropV (L := L) (xs := xs) (d := d) (V := V) (W := W) (i := 0 + 1 + 1) (l1 := l1) k2 ho hj hw (by omega)
  refine ⟨M3, ?_, by rw [show 3 * (w + 1) = 3 * w + (0 + 1 + 1 + 1) by omega]; exact k3, (f1.t f2).t f3⟩
  rw [r195_75]
  simp (disch := first | assumption | exact e_nk_i _ | exact e_nk_n | exact e_nk_r _ | exact e_bo_0 | exact e_bo_1 | exact e_bo_b _ | omega) only [e_cl_v, e_cl_x, e_add_0, e_add_s, Option.toList_some, Option.toList_none, List.cons_append, List.nil_append, iI_add, iI_sub, iI_mul, iI_lt, iI_eq, iI_le, r195_76, r195_77, r195_80, r195_82]
  rw [if_pos (by omega)]
  have e0 : e_lim L xs d 195 84 [some (.ref 184), l1, some (.int (iI j)), some (.int (iI w)), some (.int (iI 48))] [] (e_hp M V W) = e_lim L xs d 195 84 [some (.ref 184), l1, some (.int (iI j)), some (.int (iI w)), some (.int (iI 144))] [] (e_hp M3 V W) := (e1.trans e2).trans e3
  rw [e0, r195_84]
  simp (disch := first | assumption | exact e_nk_i _ | exact e_nk_n | exact e_nk_r _ | exact e_bo_0 | exact e_bo_1 | exact e_bo_b _ | omega) only [e_cl_v, e_cl_x, e_add_0, e_add_s, Option.toList_some, Option.toList_none, List.cons_append, List.nil_append, iI_add, iI_sub, iI_mul, iI_lt, iI_eq, iI_le, r195_86, r195_88, r195_125, r195_128]
  simp
/-- one order comes down -/
theorem mm_dropJ (hK : e_KM M (dnK K o j 0 0)) (ho : 0 ≤ o ∧ o ≤ j) (hj : j < 7) {l1 l3 l4 : Option Value} (n3 : e_nk l3 = true) : ∃ M2 : e_MI, e_lim L xs d 195 41 [some (.ref 184), l1, some (.int (iI j)), l3, l4] [] (e_hp M V W) = e_lim L xs d 195 131 [some (.ref 184), l1, some (.int (iI j)), some (.int (iI 4)), some (.int (iI 144))] [] (e_hp M2 V W) ∧ e_KM M2 (dnK K o (j + 1) 0 0) ∧ frN M M2 := by
  obtain ⟨M1, e1, k1, f1⟩ := mm_dropU (L := L) (xs := xs) (d := d) (V := V) (W := W) (i := 0) (l1 := l1) (l4 := l4) hK ho hj (by omega)
  obtain ⟨M2, e2, k2, f2⟩ := mm_dropU (L := L) (xs := xs) (d := d) (V := V) (W := W) (i := 0 + 1) (l1 := l1) (l4 := l4) k1 ho hj (by omega)
  obtain ⟨M3, e3, k3, f3⟩ := mm_dropU (L := L) (xs := xs) (d := d) (V := V) (W := W) (i := 0 + 1 + 1) (l1 := l1) (l4 := l4) k2 ho hj (by omega)
  obtain ⟨M4, e4, k4, f4⟩ := mm_dropU (L := L) (xs := xs) (d := d) (V := V) (W := W) (i := 0 + 1 + 1 + 1) (l1 := l1) (l4 := l4) k3 ho hj (by omega)
  obtain ⟨M5, e5, k5, f5⟩ := mm_dropU (L := L) (xs := xs) (d := d) (V := V) (W := W) (i := 0 + 1 + 1 + 1 + 1) (l1 := l1) (l4 := l4) k4 ho hj (by omega)
  obtain ⟨M6, e6, k6, f6⟩ := mm_dropU (L := L) (xs := xs) (d := d) (V := V) (W := W) (i := 0 + 1 + 1 + 1 + 1 + 1) (l1 := l1) (l4 := l4) k5 ho hj (by omega)
  have e16 : e_lim L xs d 195 43 [some (.ref 184), l1, some (.int (iI j)), some (.int (iI 0)), l4] [] (e_hp M V W) = e_lim L xs d 195 43 [some (.ref 184), l1, some (.int (iI j)), some (.int (iI 48)), l4] [] (e_hp M6 V W) := ((((e1.trans e2).trans e3).trans e4).trans e5).trans e6
  obtain ⟨M7, e7, k7, f7⟩ := mm_dropW (L := L) (xs := xs) (d := d) (V := V) (W := W) (w := 0) (l1 := l1) (l4 := l4) k6 ho hj (by omega)
  obtain ⟨M8, e8, k8, f8⟩ := mm_dropW (L := L) (xs := xs) (d := d) (V := V) (W := W) (w := 0 + 1) (l1 := l1) (l4 := some (.int (iI 144))) k7 ho hj (by omega)
  obtain ⟨M9, e9, k9, f9⟩ := mm_dropW (L := L) (xs := xs) (d := d) (V := V) (W := W) (w := 0 + 1 + 1) (l1 := l1) (l4 := some (.int (iI 144))) k8 ho hj (by omega)
  obtain ⟨M10, e10, k10, f10⟩ := mm_dropW (L := L) (xs := xs) (d := d) (V := V) (W := W) (w := 0 + 1 + 1 + 1) (l1 := l1) (l4 := some (.int (iI 144))) k9 ho hj (by omega)
  have e710 : e_lim L xs d 195 75 [some (.ref 184), l1, some (.int (iI j)), some (.int (iI 0)), l4] [] (e_hp M6 V W) = e_lim L xs d 195 75 [some (.ref 184), l1, some (.int (iI j)), some (.int (iI 4)), some (.int (iI 144))] [] (e_hp M10 V W) := ((e7.trans e8).trans e9).trans e10
  refine ⟨M10, ?_, e_ar.cong k10 (dnK_c fun z a b => bool_eq ?_), ((((((((f1.t f2).t f3).t f4).t f5).t f6).t f7).t f8).t f9).t f10⟩
  · simp (disch := first | assumption | exact e_nk_i _ | exact e_nk_n | exact e_nk_r _ | exact e_bo_0 | exact e_bo_1 | exact e_bo_b _ | omega) only [e_cl_v, e_cl_x, e_add_0, e_add_s, Option.toList_some, Option.toList_none, List.cons_append, List.nil_append, iI_add, iI_sub, iI_mul, iI_lt, iI_eq, iI_le, r195_41, r195_42]
    rw [e16, r195_43]
    simp (disch := first | assumption | exact e_nk_i _ | exact e_nk_n | exact e_nk_r _ | exact e_bo_0 | exact e_bo_1 | exact e_bo_b _ | omega) only [e_cl_v, e_cl_x, e_add_0, e_add_s, Option.toList_some, Option.toList_none, List.cons_append, List.nil_append, iI_add, iI_sub, iI_mul, iI_lt, iI_eq, iI_le, r195_44, r195_46, r195_73, r195_74]
    rw [if_pos (by omega), e710, r195_75]
    simp (disch := first | assumption | exact e_nk_i _ | exact e_nk_n | exact e_nk_r _ | exact e_bo_0 | exact e_bo_1 | exact e_bo_b _ | omega) only [e_cl_v, e_cl_x, e_add_0, e_add_s, Option.toList_some, Option.toList_none, List.cons_append, List.nil_append, iI_add, iI_sub, iI_mul, iI_lt, iI_eq, iI_le, r195_76, r195_77]
    rw [if_neg (by omega)]
  · rw [dnP_iff, dnP_iff]
    constructor
    · rintro (x | x)
      · exact Or.inl (by omega)
      · exact Or.inr ⟨x.1, x.2.1, x.2.2.1, by omega⟩
    · rintro (x | x)
      · exact Or.inl (by omega)
      · exact Or.inr ⟨x.1, x.2.1, x.2.2.1, by omega⟩
end E93
