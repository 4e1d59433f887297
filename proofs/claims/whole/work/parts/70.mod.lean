section E70
variable {L : Nat} {xs : Nat → Int32} {d : Nat} {M : e_MI} {V : e_ML} {W : e_MD} {K : e_St} {h : e_H} {ρ ω β ε τ : Int → Int} {k : Int}
/-- the first place before n where p holds, or n -/
def fsP (p : Int → Bool) : Nat → Int
  | 0 => 0
  | n + 1 => if fsP p n < n then fsP p n else if p n = true then n else n + 1
theorem fsP_none {p : Int → Bool} : ∀ n : Nat, (∀ j, 0 ≤ j → j < (n : Int) → p j = false) → fsP p n = n
  | 0, _ => rfl
  | n + 1, h => by
    have ih := fsP_none n (fun j a b => h j a (by omega))
    unfold fsP
    rw [ih, if_neg (by omega), if_neg (by rw [h n (by omega) (by omega)]; decide)]
    omega
theorem fsP_hit {p : Int → Bool} {j : Int} (h0 : 0 ≤ j) (hp : p j = true) (hf : ∀ q, 0 ≤ q → q < j → p q = false) : ∀ n : Nat, j < n → fsP p n = j
  | 0, h => by omega
  | n + 1, h => by
    unfold fsP
    by_cases hq : j < n
    · rw [fsP_hit h0 hp hf n hq, if_pos hq]
    · have e : j = n := by omega
      subst e
      rw [fsP_none n hf, if_neg (by omega), if_pos hp]
/-- where the first error on the tape is -/
def reW (K : e_St) (T : Int → Int) (m : Int) : Int := if fsP (rdE K T) m.toNat < m then fsP (rdE K T) m.toNat else if (rdS T m.toNat).1 = aW K then -1 else m
theorem mm_readsTape (hK : e_KM M K) (hr : kR K) (hn : 0 ≤ aW K ∧ aW K ≤ 16) {T : Int → Int} {m : Int} (hm : 0 ≤ m ∧ m ≤ 60) (hz : M 184 22 = iI m) (hT : e_ar (M 199) m T) (hT2 : ∀ j, 0 ≤ j → j < m → 0 ≤ T j ∧ T j ≤ 255) : ∃ M2 : e_MI, e_lim L xs (d + 2) 280 0 [some (.ref 184), none, none, none] [] (e_hp M V W) = some (.inl (some (.int (iI (reW K T m)))), e_hp M2 V W, 0, 0) ∧ (reW K T m = -1 → e_ar (M2 192) (aW K) (rdS T m.toNat).2) ∧ ∀ a, a ≠ 192 → a ≠ 200 → M2 a = M a := by
  have hn8 := hr.n
  have key := G_lp (i := 0) (n := m) (I := fun i M1 => (∀ j, 0 ≤ j → j < i → rdE K T j = false) ∧ e_ar (M1 192) (rdS T i.toNat).1 (rdS T i.toNat).2 ∧ e_ar (M1 200) 8 (fun o => cnt (rdS T i.toNat).2 o (rdS T i.toNat).1) ∧ ∀ a, a ≠ 192 → a ≠ 200 → M1 a = M a) (P := fun i M1 => ∃ M2 : e_MI, e_lim L xs (d + 2) 280 25 [some (.ref 184), some (.int (iI (rdS T i.toNat).1)), some (.int (iI i)), none] [] (e_hp M1 V W) = some (.inl (some (.int (iI (reW K T m)))), e_hp M2 V W, 0, 0) ∧ (reW K T m = -1 → e_ar (M2 192) (aW K) (rdS T m.toNat).2) ∧ ∀ a, a ≠ 192 → a ≠ 200 → M2 a = M a) (fun j M1 a b hI hc => ?_) (fun M1 hI => ?_) hm.1
  · have key2 := G_lp (i := 0) (n := 8) (I := fun i M1 => e_ar (M1 200) i (fun _ => 0) ∧ ∀ a, a ≠ 200 → M1 a = M a) (P := fun i M1 => ∃ M2 : e_MI, e_lim L xs (d + 2) 280 2 [some (.ref 184), some (.int (iI i)), none, none] [] (e_hp M1 V W) = some (.inl (some (.int (iI (reW K T m)))), e_hp M2 V W, 0, 0) ∧ (reW K T m = -1 → e_ar (M2 192) (aW K) (rdS T m.toNat).2) ∧ ∀ a, a ≠ 192 → a ≠ 200 → M2 a = M a) (fun j M1 a b hI hc => ?_) (fun M1 hI => ?_) (by omega) M ⟨fun z a b => by omega, fun _ _ => rfl⟩
    · obtain ⟨M2, e, r⟩ := key2
      refine ⟨M2, ?_, r⟩
      rw [← e]
      simp (disch := first | assumption | exact e_nk_i _ | exact e_nk_n | exact e_nk_r _ | exact e_bo_0 | exact e_bo_1 | exact e_bo_b _ | omega) only [e_cl_v, e_cl_x, e_add_0, e_add_s, Option.toList_some, Option.toList_none, List.cons_append, List.nil_append, iI_add, iI_sub, iI_mul, iI_lt, iI_eq, iI_le, r280_0, r280_1]
    · obtain ⟨M2, e, r⟩ := hc (e_u M1 200 (upd (M1 200) j.toNat (iI 0))) ⟨by rw [e_u_s]; exact hI.1.mr a, fun x y => by rw [e_u_n _ _ y, hI.2 x y]⟩
      refine ⟨M2, ?_, r⟩
      rw [← e, r280_2]
      simp (disch := first | assumption | exact e_nk_i _ | exact e_nk_n | exact e_nk_r _ | exact e_bo_0 | exact e_bo_1 | exact e_bo_b _ | omega) only [e_cl_v, e_cl_x, e_add_0, e_add_s, Option.toList_some, Option.toList_none, List.cons_append, List.nil_append, iI_add, iI_sub, iI_mul, iI_lt, iI_eq, iI_le, r280_3, r280_5, r280_8, r280_9, r280_12, r280_13, r280_14, r280_15, r280_18, iI_vin, iI_nat, if_true]
      rw [if_pos b]
    · obtain ⟨M2, e, r⟩ := key M1 ⟨fun j a b => by omega, fun z a b => by
        have : z < 0 := b
        omega, hI.1, fun a x y => hI.2 a y⟩
      refine ⟨M2, ?_, r⟩
      have e' : e_lim L xs (d + 2) 280 25 [some (.ref 184), some (.int (iI 0)), some (.int (iI 0)), none] [] (e_hp M1 V W) = some (.inl (some (.int (iI (reW K T m)))), e_hp M2 V W, 0, 0) := e
      rw [r280_2]
      simp (disch := first | assumption | exact e_nk_i _ | exact e_nk_n | exact e_nk_r _ | exact e_bo_0 | exact e_bo_1 | exact e_bo_b _ | omega) only [e_cl_v, e_cl_x, e_add_0, e_add_s, Option.toList_some, Option.toList_none, List.cons_append, List.nil_append, iI_add, iI_sub, iI_mul, iI_lt, iI_eq, iI_le, r280_3, r280_5, r280_21, r280_22, r280_23, r280_24, e']
      simp
  · obtain ⟨i1, i2, i3, i4⟩ := hI
    obtain ⟨g0, g1, g2⟩ := rdS_sp hr T j.toNat (fun q x y => i1 q x (by omega))
    have hK1 : e_KM M1 K := by
      unfold e_KM
      rw [i4 _ (by decide) (by decide)]
      exact hK
    have e1 := hT j a b
    rw [← i4 199 (by decide) (by decide)] at e1
    have q1 := hT2 j a b
    have hz1 : M1 184 22 = iI m := by rw [i4 _ (by decide) (by decide), hz]
    have e2 := mm_many (L := L) (xs := xs) (d := d + 1) (V := V) (W := W) hK1
    have e3 := mm_in (L := L) (xs := xs) (d := d + 1) (h := e_hp M1 V W) (x := T j - 48) (y2 := 0) (z2 := K 310 - 1) (by omega) (by omega) (by omega)
    have hst : rdS T (j + 1).toNat = if T j = 32 ∨ T j = 10 then rdS T j.toNat else ((rdS T j.toNat).1 + 1, uI (rdS T j.toNat).2 (rdS T j.toNat).1 (T j - 48)) := by
      rw [show (j + 1).toNat = j.toNat + 1 by omega]
      show (if T (j.toNat : Int) = 32 ∨ T (j.toNat : Int) = 10 then _ else (_, uI _ _ (T (j.toNat : Int) - 48))) = _
      rw [Int.toNat_of_nonneg a]
    rw [hst] at hc
    have hbad : rdE K T j = true → reW K T m = j := fun hq => by
      unfold reW
      rw [fsP_hit a hq i1 m.toNat (by omega), if_pos b]
    by_cases c1 : T j = 32 ∨ T j = 10
    · rw [if_pos c1] at hc
      obtain ⟨M2, e, r⟩ := hc M1 ⟨fun q x y => by
        by_cases hq : q = j
        · rw [hq]
          unfold rdE
          exact decide_eq_false (fun y => y.1 c1)
        · exact i1 q x (by omega), i2, i3, i4⟩
      refine ⟨M2, ?_, r⟩
      rw [← e, r280_25]
      simp (disch := first | assumption | exact e_nk_i _ | exact e_nk_n | exact e_nk_r _ | exact e_bo_0 | exact e_bo_1 | exact e_bo_b _ | omega) only [e_cl_v, e_cl_x, e_add_0, e_add_s, Option.toList_some, Option.toList_none, List.cons_append, List.nil_append, iI_add, iI_sub, iI_mul, iI_lt, iI_eq, iI_le, r280_26, r280_27, r280_30, r280_33, r280_34, r280_37, r280_38, r280_39, r280_41, r280_44, r280_45, r280_48, r280_49, r280_50, r280_52, r280_55, r280_118, r280_121, iI_vin, iI_nat, if_true, hz1, e1]
      rw [if_pos b]
      rcases c1 with z | z
      · rw [if_pos z]
      · rw [if_neg (by omega), if_pos z]
    · rw [if_neg c1] at hc
      by_cases c2 : 0 ≤ T j - 48 ∧ T j - 48 ≤ K 310 - 1
      · rw [decide_eq_true c2] at e3
        have e4 := mm_worksOf (L := L) (xs := xs) (d := d + 1) (V := V) (W := W) hK1 (o := T j - 48) c2.1 (by omega)
        have e5 := i3 (T j - 48) c2.1 (by omega)
        have r4 := hr.wk (o := T j - 48) c2.1 (by omega)
        have r5 := g2 (T j - 48) c2.1 (by omega)
        have r6 := cnt_rg (rdS T j.toNat).2 (T j - 48) g0
        by_cases c3 : cnt (rdS T j.toNat).2 (T j - 48) (rdS T j.toNat).1 = K (40 + (T j - 48))
        · have hre := hbad (by
            unfold rdE
            exact decide_eq_true ⟨c1, Or.inr c3⟩)
          refine ⟨M1, ?_, fun hq => by omega, i4⟩
          rw [hre, r280_25]
          simp (disch := first | assumption | exact e_nk_i _ | exact e_nk_n | exact e_nk_r _ | exact e_bo_0 | exact e_bo_1 | exact e_bo_b _ | omega) only [e_cl_v, e_cl_x, e_add_0, e_add_s, Option.toList_some, Option.toList_none, List.cons_append, List.nil_append, iI_add, iI_sub, iI_mul, iI_lt, iI_eq, iI_le, r280_26, r280_27, r280_30, r280_33, r280_34, r280_37, r280_38, r280_39, r280_41, r280_44, r280_45, r280_48, r280_49, r280_50, r280_52, r280_55, r280_58, r280_59, r280_62, r280_63, r280_64, r280_66, r280_67, r280_68, r280_69, r280_70, r280_71, r280_74, r280_75, r280_76, r280_79, r280_82, r280_83, r280_86, r280_87, r280_88, r280_89, r280_90, r280_93, r280_96, r280_97, iI_vin, iI_nat, if_true, hz1, e1, e2, e3, e4, e5, bI_0]
          rw [if_pos b, if_neg (by omega), if_neg (by omega), if_pos c3]
          simp
        · have hroom := cnt_room (ρ := (rdS T j.toNat).2) (o := T j - 48) hr g0 g1 g2 (by omega) (by omega)
          obtain ⟨M2, e, r⟩ := hc (e_u (e_u M1 200 (upd (M1 200) (T j - 48).toNat (iI (cnt (rdS T j.toNat).2 (T j - 48) (rdS T j.toNat).1 + 1)))) 192 (upd (M1 192) (rdS T j.toNat).1.toNat (iI (T j - 48)))) ⟨fun q x y => by
            by_cases hq : q = j
            · rw [hq]
              unfold rdE
              exact decide_eq_false (fun y => y.2.elim (fun z => z c2) c3)
            · exact i1 q x (by omega), by
            rw [e_u_s]
            exact i2.more g0, by
            rw [e_u_n _ _ (by decide), e_u_s]
            refine (i3.up (z0 := T j - 48) c2.1).cong (fun z x y => ?_)
            have hcc : cnt (uI (rdS T j.toNat).2 (rdS T j.toNat).1 (T j - 48)) z (rdS T j.toNat).1 = cnt (rdS T j.toNat).2 z (rdS T j.toNat).1 := cnt_cong (fun p a b => uI_n _ _ (by omega))
            simp only
            rw [cnt_s _ _ g0, hcc, uI_s]
            by_cases hz : z = T j - 48
            · rw [hz, uI_s, if_pos rfl]
            · rw [uI_n _ _ hz, if_neg (by omega)]
              omega, fun x y z => by rw [e_u_n _ _ y, e_u_n _ _ z, i4 x y z]⟩
          refine ⟨M2, ?_, r⟩
          have e' := G_less (l := [some (.ref 184), some (.int (iI ((rdS T j.toNat).1 + 1))), some (.int (iI (j + 1))), some (.int (iI (T j - 48)))]) (by repeat (first | exact e_ll.rf | refine e_ll_c ?_ | refine e_ll_x ?_)) e
          rw [← e', r280_25]
          simp (disch := first | assumption | exact e_nk_i _ | exact e_nk_n | exact e_nk_r _ | exact e_bo_0 | exact e_bo_1 | exact e_bo_b _ | omega) only [e_cl_v, e_cl_x, e_add_0, e_add_s, Option.toList_some, Option.toList_none, List.cons_append, List.nil_append, iI_add, iI_sub, iI_mul, iI_lt, iI_eq, iI_le, r280_26, r280_27, r280_30, r280_33, r280_34, r280_37, r280_38, r280_39, r280_41, r280_44, r280_45, r280_48, r280_49, r280_50, r280_52, r280_55, r280_58, r280_59, r280_62, r280_63, r280_64, r280_66, r280_67, r280_68, r280_69, r280_70, r280_71, r280_74, r280_75, r280_76, r280_79, r280_82, r280_83, r280_86, r280_87, r280_88, r280_89, r280_90, r280_93, r280_96, r280_97, r280_98, r280_99, r280_102, r280_103, r280_104, r280_105, r280_106, r280_107, r280_108, r280_109, r280_112, r280_113, r280_114, r280_115, r280_118, r280_121, iI_vin, iI_nat, if_true, hz1, e1, e2, e3, e4, e5, bI_0, e_u_n]
          rw [if_pos b, if_neg (by omega), if_neg (by omega), if_neg c3]
          simp
      · rw [decide_eq_false c2] at e3
        have hre := hbad (by
          unfold rdE
          exact decide_eq_true ⟨c1, Or.inl c2⟩)
        refine ⟨M1, ?_, fun hq => by omega, i4⟩
        rw [hre, r280_25]
        simp (disch := first | assumption | exact e_nk_i _ | exact e_nk_n | exact e_nk_r _ | exact e_bo_0 | exact e_bo_1 | exact e_bo_b _ | omega) only [e_cl_v, e_cl_x, e_add_0, e_add_s, Option.toList_some, Option.toList_none, List.cons_append, List.nil_append, iI_add, iI_sub, iI_mul, iI_lt, iI_eq, iI_le, r280_26, r280_27, r280_30, r280_33, r280_34, r280_37, r280_38, r280_39, r280_41, r280_44, r280_45, r280_48, r280_49, r280_50, r280_52, r280_55, r280_58, r280_59, r280_62, r280_63, r280_64, r280_66, r280_67, r280_68, r280_69, r280_70, r280_71, r280_74, r280_75, r280_76, r280_79, r280_96, r280_97, iI_vin, iI_nat, if_true, hz1, e1, e2, e3, bI_0]
        rw [if_pos b, if_neg (by omega), if_neg (by omega)]
  · obtain ⟨i1, i2, i3, i4⟩ := hI
    have hK1 : e_KM M1 K := by
      unfold e_KM
      rw [i4 _ (by decide) (by decide)]
      exact hK
    have hz1 : M1 184 22 = iI m := by rw [i4 _ (by decide) (by decide), hz]
    have e2 := mm_all2 (L := L) (xs := xs) (d := d) (V := V) (W := W) hK1 hr.n
    obtain ⟨g0, g1, g2⟩ := rdS_sp hr T m.toNat (fun q x y => i1 q x (by omega))
    have g3 := cnt_sum (ρ := (rdS T m.toNat).2) hr.n.1 (rdS T m.toNat).1 g0 g1
    have g4 := SU_le2 (f := fun o => cnt (rdS T m.toNat).2 o (rdS T m.toNat).1) (g := fun q => K (40 + q)) (n := K 310) hr.n.1 g2
    have g5 : SU (fun q => K (40 + q)) (K 310) = aW K := rfl
    have hre : reW K T m = if (rdS T m.toNat).1 = aW K then -1 else m := by
      unfold reW
      rw [fsP_none m.toNat (fun q x y => i1 q x (by omega)), if_neg (by omega)]
    refine ⟨M1, ?_, fun hq => ?_, i4⟩
    · rw [hre, r280_25]
      simp (disch := first | assumption | exact e_nk_i _ | exact e_nk_n | exact e_nk_r _ | exact e_bo_0 | exact e_bo_1 | exact e_bo_b _ | omega) only [e_cl_v, e_cl_x, e_add_0, e_add_s, Option.toList_some, Option.toList_none, List.cons_append, List.nil_append, iI_add, iI_sub, iI_mul, iI_lt, iI_eq, iI_le, r280_26, r280_27, r280_30, r280_124, r280_125, r280_126, r280_129, r280_132, r280_133, r280_136, r280_137, r280_140, hz1, e2]
      rw [if_neg (by omega)]
      by_cases z : (rdS T m.toNat).1 = aW K
      · rw [if_pos z, if_pos z]
      · rw [if_neg z, if_neg z]
    · rw [hre] at hq
      by_cases z : (rdS T m.toNat).1 = aW K
      · rw [← z]
        exact i2
      · rw [if_neg z] at hq
        omega
end E70
