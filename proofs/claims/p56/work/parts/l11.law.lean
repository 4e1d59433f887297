section El11
variable {L : Nat} {xs : Nat → Int32} {d : Nat} {M M2 M3 : e_MI} {V V2 : e_ML} {W : e_MD} {K K2 : e_St} {S : Int → e_St} {h : e_H} {c o w z m k q p i f n a b t x : Int} {τ β ε : Int → Int}
/-! whether a work can be in a window of times -/
theorem LB.rs (H : LB M K) : M 184 18 = iI (K 311) := H.1
theorem LB.wo (H : LB M K) (h0 : 0 ≤ i) (h1 : i < 3) : M 195 i.toNat = iI (K (238 + i)) := H.2.1 i h0 h1
theorem LB.rm (H : LB M K) (h0 : 0 ≤ k) (h1 : k < K 311) : M 196 k.toNat = iI (K (208 + k)) := (H.2.2 k h0 h1).1
theorem LB.rf (H : LB M K) (h0 : 0 ≤ k) (h1 : k < K 311) : M 197 k.toNat = iI (K (218 + k)) := (H.2.2 k h0 h1).2.1
theorem LB.rt (H : LB M K) (h0 : 0 ≤ k) (h1 : k < K 311) : M 198 k.toNat = iI (K (228 + k)) := (H.2.2 k h0 h1).2.2
/-- begins and ends of the first k places -/
def LE (M : e_MI) (β ε : Int → Int) (k : Int) : Prop := ∀ p, 0 ≤ p → p < k → (M 201 p.toNat = iI (β p) ∧ M 202 p.toNat = iI (ε p)) ∧ (0 ≤ β p ∧ β p ≤ 2001) ∧ (0 ≤ ε p ∧ ε p ≤ 2001)
theorem l_canT {o6 o7 : Option Value} {r : e_R} (H : LB M K) (hr : kR K) (hE : LE M β ε k) (hk : 0 ≤ k ∧ k ≤ 16) (hm : 0 ≤ m ∧ m ≤ 3) (ht : 0 ≤ t ∧ t ≤ 3000) (hf : i32 f) (hx : i32 x) (hk5 : e_nk o6 = true)
    (h1 : blB K β ε k m t = true → some (.inl (some (.int (bI false))), e_hp M V W, 0, 0) = some r)
    (h2 : blB K β ε k m t = false → e_lim L xs d 169 3 [some (.ref 184), some (.int (iI k)), some (.int (iI m)), some (.int (iI f)), some (.int (iI x)), some (.int (iI (t + 1))), none, none] [] (e_hp M V W) = some r) :
    e_lim L xs d 169 10 [some (.ref 184), some (.int (iI k)), some (.int (iI m)), some (.int (iI f)), some (.int (iI x)), some (.int (iI t)), o6, o7] [] (e_hp M V W) = some r := by
  have hn := hr.rm
  have e0 := H.rs
  have rests : ∀ (hF : rsB K m t = false → e_lim L xs d 169 65 [some (.ref 184), some (.int (iI k)), some (.int (iI m)), some (.int (iI f)), some (.int (iI x)), some (.int (iI t)), some (.int (iI (K 311))), none] [] (e_hp M V W) = some r), e_lim L xs d 169 13 [some (.ref 184), some (.int (iI k)), some (.int (iI m)), some (.int (iI f)), some (.int (iI x)), some (.int (iI t)), some (.int (iI 0)), none] [] (e_hp M V W) = some r := by
    intro hF
    refine G_find (C := fun j => e_lim L xs d 169 13 [some (.ref 184), some (.int (iI k)), some (.int (iI m)), some (.int (iI f)), some (.int (iI x)), some (.int (iI t)), some (.int (iI j)), none] [] (e_hp M V W)) (p := fun j => decide (K (208 + j) = m ∧ K (218 + j) ≤ t ∧ t ≤ K (228 + j) - 1)) (i := 0) hn.1 (fun j a b hp hc => ?_) (fun j a b hp _ => ?_) (fun hall => ?_)
    · have e1 := H.rm a b
      have e2 := H.rf a b
      have e3 := H.rt a b
      have r1 := hr.a (i := 228 + j) (by omega) (by omega)
      have r2 := hr.a (i := 218 + j) (by omega) (by omega)
      have r3 := hr.a (i := 208 + j) (by omega) (by omega)
      rw [decide_eq_false_iff_not] at hp
      rw [r169_13]
      simp (disch := first | assumption | exact e_nk_i _ | exact e_nk_n | exact e_nk_r _ | exact e_bo_0 | exact e_bo_1 | exact e_bo_b _ | omega) only [e_cl_v, e_cl_x, e_add_0, e_add_s, Option.toList_some, Option.toList_none, List.cons_append, List.nil_append, iI_add, iI_sub, iI_mul, iI_lt, iI_eq, iI_le, r169_15, r169_16, r169_19, r169_22, r169_23, r169_26, r169_28, r169_29, r169_30, r169_33, r169_35, r169_36, r169_39, r169_41, r169_42, r169_45, r169_47, r169_48, r169_51, r169_53, r169_54, r169_57, r169_58, r169_59, r169_62, iI_vin, iI_nat, if_true, e0, e1, e2, e3]
      rw [if_pos b]
      by_cases z1 : K (208 + j) = m
      · rw [if_pos z1]
        by_cases z2 : t < K (218 + j)
        · rw [if_pos z2]
          exact hc
        · rw [if_neg z2, if_neg (by omega)]
          exact hc
      · rw [if_neg z1]
        exact hc
    · have e1 := H.rm a b
      have e2 := H.rf a b
      have e3 := H.rt a b
      have r1 := hr.a (i := 228 + j) (by omega) (by omega)
      have r2 := hr.a (i := 218 + j) (by omega) (by omega)
      have r3 := hr.a (i := 208 + j) (by omega) (by omega)
      have hb : blB K β ε k m t = true := by
        unfold blB rsB
        rw [zAN_t (p := fun k => decide (K (208 + k) = m ∧ K (218 + k) ≤ t ∧ t ≤ K (228 + k) - 1)) a b hp]
        rfl
      rw [decide_eq_true_eq] at hp
      rw [r169_13]
      simp (disch := first | assumption | exact e_nk_i _ | exact e_nk_n | exact e_nk_r _ | exact e_bo_0 | exact e_bo_1 | exact e_bo_b _ | omega) only [e_cl_v, e_cl_x, e_add_0, e_add_s, Option.toList_some, Option.toList_none, List.cons_append, List.nil_append, iI_add, iI_sub, iI_mul, iI_lt, iI_eq, iI_le, r169_15, r169_16, r169_19, r169_22, r169_23, r169_26, r169_28, r169_29, r169_30, r169_33, r169_35, r169_36, r169_39, r169_41, r169_42, r169_45, r169_47, r169_48, r169_51, r169_53, r169_54, r169_57, r169_58, r169_59, r169_62, iI_vin, iI_nat, if_true, e0, e1, e2, e3]
      rw [if_pos b, if_pos hp.1, if_neg (by omega), if_pos (by omega)]
      exact h1 hb
    · have hb : rsB K m t = false := zAN_f hn.1 hall
      rw [r169_13]
      simp (disch := first | assumption | exact e_nk_i _ | exact e_nk_n | exact e_nk_r _ | exact e_bo_0 | exact e_bo_1 | exact e_bo_b _ | omega) only [e_cl_v, e_cl_x, e_add_0, e_add_s, Option.toList_some, Option.toList_none, List.cons_append, List.nil_append, iI_add, iI_sub, iI_mul, iI_lt, iI_eq, iI_le, r169_15, r169_16, r169_19, e0]
      rw [if_neg (by omega)]
      exact hF hb
  have busy : ∀ (hR : rsB K m t = false), e_lim L xs d 169 71 [some (.ref 184), some (.int (iI k)), some (.int (iI m)), some (.int (iI f)), some (.int (iI x)), some (.int (iI t)), some (.int (iI 0)), some (.int (iI 0))] [] (e_hp M V W) = some r := by
    intro hR
    rw [show iI 0 = iI (bz β ε 0 t) from rfl]
    refine G_loopI (C := fun j => e_lim L xs d 169 71 [some (.ref 184), some (.int (iI k)), some (.int (iI m)), some (.int (iI f)), some (.int (iI x)), some (.int (iI t)), some (.int (iI (bz β ε j t))), some (.int (iI j))] [] (e_hp M V W)) (i := 0) hk.1 (fun j a b hc => ?_) ?_
    · obtain ⟨⟨e1, e2⟩, e3, e4⟩ := hE j a b
      have hb := bz_rg β ε t a
      have hs : bz β ε (j + 1) t = bz β ε j t + (if β j ≤ t ∧ t ≤ ε j - 1 then 1 else 0) := SU_s _ a
      rw [hs] at hc
      rw [r169_71]
      simp (disch := first | assumption | exact e_nk_i _ | exact e_nk_n | exact e_nk_r _ | exact e_bo_0 | exact e_bo_1 | exact e_bo_b _ | omega) only [e_cl_v, e_cl_x, e_add_0, e_add_s, Option.toList_some, Option.toList_none, List.cons_append, List.nil_append, iI_add, iI_sub, iI_mul, iI_lt, iI_eq, iI_le, r169_73, r169_74, r169_77, r169_79, r169_81, r169_82, r169_85, r169_87, r169_88, r169_91, r169_93, r169_94, r169_97, r169_99, r169_100, r169_103, r169_104, r169_107, r169_108, r169_109, r169_111, r169_114, iI_vin, iI_nat, if_true, e1, e2]
      rw [if_pos b]
      by_cases z1 : t < β j
      · rw [if_pos z1]
        rw [if_neg (by omega)] at hc
        exact hc
      · rw [if_neg z1]
        by_cases z2 : t < ε j
        · rw [if_pos z2]
          rw [if_pos (by omega)] at hc
          exact hc
        · rw [if_neg z2]
          rw [if_neg (by omega)] at hc
          exact hc
    · have hb := bz_rg β ε t hk.1
      have hd1 := iI_rem (a := t) (b := 24) ht.1 (by omega) (by omega) (by omega)
      have hd2 := iI_div (a := t % 24) (b := 8) (by omega) (by omega) (by omega) (by omega)
      have n1 := iI_ne (b := 24) (by omega) (by omega)
      have n2 := iI_ne (b := 8) (by omega) (by omega)
      have e1 := H.wo (i := t % 24 / 8) (by omega) (by omega)
      have r1 := hr.wo (i := t % 24 / 8) (by omega) (by omega)
      rw [r169_71]
      simp (disch := first | assumption | exact e_nk_i _ | exact e_nk_n | exact e_nk_r _ | exact e_bo_0 | exact e_bo_1 | exact e_bo_b _ | omega) only [e_cl_v, e_cl_x, e_add_0, e_add_s, Option.toList_some, Option.toList_none, List.cons_append, List.nil_append, iI_add, iI_sub, iI_mul, iI_lt, iI_eq, iI_le, r169_73, r169_74]
      rw [if_neg (by omega)]
      simp (disch := first | assumption | exact e_nk_i _ | exact e_nk_n | exact e_nk_r _ | exact e_bo_0 | exact e_bo_1 | exact e_bo_b _ | omega) only [e_cl_v, e_cl_x, e_add_0, e_add_s, Option.toList_some, Option.toList_none, List.cons_append, List.nil_append, iI_add, iI_sub, iI_mul, iI_lt, iI_eq, iI_le, r169_117, r169_119, r169_120, r169_123]
      rw [r169_125, r169_127 n1, hd1, r169_128, r169_130 n2, hd2]
      simp (disch := first | assumption | exact e_nk_i _ | exact e_nk_n | exact e_nk_r _ | exact e_bo_0 | exact e_bo_1 | exact e_bo_b _ | omega) only [e_cl_v, e_cl_x, e_add_0, e_add_s, Option.toList_some, Option.toList_none, List.cons_append, List.nil_append, iI_add, iI_sub, iI_mul, iI_lt, iI_eq, iI_le, r169_131, r169_132, r169_135, r169_136, r169_137, r169_140, iI_vin, iI_nat, if_true, e1]
      by_cases z1 : bz β ε k t < K (238 + t % 24 / 8)
      · rw [if_pos z1]
        have hb2 : blB K β ε k m t = false := by
          unfold blB hwB
          rw [hR, decide_eq_true z1]
          rfl
        exact G_less (by repeat (first | exact e_ll.rf | refine e_ll_c ?_ | refine e_ll_x ?_)) (h2 hb2)
      · rw [if_neg z1]
        have hb2 : blB K β ε k m t = true := by
          unfold blB hwB
          rw [decide_eq_false z1]
          simp
        exact h1 hb2
  rw [r169_10, r169_11 rfl]
  refine G_less (by repeat (first | exact e_ll.rf | refine e_ll_c ?_ | refine e_ll_x ?_)) (rests fun hR => ?_)
  rw [r169_65, r169_66 rfl, r169_68, r169_69 rfl]
  exact busy hR
theorem l_canBe (H : LB M K) (hr : kR K) (hE : LE M β ε k) (hk : 0 ≤ k ∧ k ≤ 16) (hm : 0 ≤ m ∧ m ≤ 3) (hf : 0 ≤ f ∧ f ≤ x) (hx : x ≤ 3000) : e_lim L xs d 169 0 [some (.ref 184), some (.int (iI k)), some (.int (iI m)), some (.int (iI f)), some (.int (iI x)), none, none, none] [] (e_hp M V W) = some (.inl (some (.int (bI (decide (lB (blB K β ε k m) f (x - f) = -1))))), e_hp M V W, 0, 0) := by
  rw [r169_0, r169_1 (e_nk_i _)]
  refine G_find (C := fun j => e_lim L xs d 169 3 [some (.ref 184), some (.int (iI k)), some (.int (iI m)), some (.int (iI f)), some (.int (iI x)), some (.int (iI j)), none, none] [] (e_hp M V W)) (p := fun j => blB K β ε k m j) (i := f) (n := x) hf.2 (fun j a b hp hc => ?_) (fun j a b hp hall => ?_) (fun hall => ?_)
  · rw [r169_3]
    simp (disch := first | assumption | exact e_nk_i _ | exact e_nk_n | exact e_nk_r _ | exact e_bo_0 | exact e_bo_1 | exact e_bo_b _ | omega) only [e_cl_v, e_cl_x, e_add_0, e_add_s, Option.toList_some, Option.toList_none, List.cons_append, List.nil_append, iI_add, iI_sub, iI_mul, iI_lt, iI_eq, iI_le, r169_5, r169_7]
    rw [if_pos b]
    exact l_canT H hr hE hk hm (by omega) (by unfold i32; omega) (by unfold i32; omega) rfl (fun h => by rw [h] at hp; cases hp) (fun _ => hc)
  · have hne : ¬ lB (blB K β ε k m) f (x - f) = -1 := by
      intro hq
      rcases lB_cases (blB K β ε k m) f (x - f) (by omega) hf.1 with ⟨_, y⟩ | ⟨y, _⟩
      · rw [y j a (by omega)] at hp; cases hp
      · omega
    rw [decide_eq_false hne, r169_3]
    simp (disch := first | assumption | exact e_nk_i _ | exact e_nk_n | exact e_nk_r _ | exact e_bo_0 | exact e_bo_1 | exact e_bo_b _ | omega) only [e_cl_v, e_cl_x, e_add_0, e_add_s, Option.toList_some, Option.toList_none, List.cons_append, List.nil_append, iI_add, iI_sub, iI_mul, iI_lt, iI_eq, iI_le, r169_5, r169_7]
    rw [if_pos b]
    exact l_canT H hr hE hk hm (by omega) (by unfold i32; omega) (by unfold i32; omega) rfl (fun _ => rfl) (fun h => by rw [h] at hp; cases hp)
  · have hq : lB (blB K β ε k m) f (x - f) = -1 := lB_none hf.1 (by omega) (fun q a b => hall q a (by omega))
    rw [decide_eq_true hq, r169_3]
    simp (disch := first | assumption | exact e_nk_i _ | exact e_nk_n | exact e_nk_r _ | exact e_bo_0 | exact e_bo_1 | exact e_bo_b _ | omega) only [e_cl_v, e_cl_x, e_add_0, e_add_s, Option.toList_some, Option.toList_none, List.cons_append, List.nil_append, iI_add, iI_sub, iI_mul, iI_lt, iI_eq, iI_le, r169_5, r169_7, r169_143, r169_144]
    rw [if_neg (by omega)]
    rfl
end El11
