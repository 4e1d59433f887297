section Ec30
variable {L : Nat} {xs : Nat → Int32} {d : Nat} {M M2 M3 : e_MI} {V : e_ML} {W : e_MD} {K K2 : e_St} {S : Int → e_St} {h : e_H} {s0 s1 t t2 a b2 n : Nat} {s : Int × Int} {c o z m k q p i f l b e mc tl T x y N : Int} {sc : Bool} {ρ ν μ χ β ε τ u : Int → Int}
/-! the class's bound -/
def vF (z : Int) : Int := if z = -1 then 1000000 else z
theorem vF_min (h1 : -1 ≤ y) (h2 : y ≤ 1000) (hx : 0 ≤ x ∧ x ≤ 1000) : (if x < vF y then x else vF y) = vF (if y = -1 ∨ x < y then x else y) := by
  unfold vF
  by_cases hy : y = -1
  · rw [if_pos hy, if_pos (by omega), if_pos (Or.inl hy), if_neg (by omega)]
  · rw [if_neg hy]
    by_cases hz : x < y
    · rw [if_pos hz, if_pos (Or.inr hz), if_neg (by omega)]
    · rw [if_neg hz, if_neg (by omega), if_neg (by omega)]
theorem bdS_e (hr : kR K) (hp : kP K) (ho : 0 ≤ o ∧ o < K 310) (hs : bdR s) (h12 : s.1 = -1 ↔ s.2 = -1) : ∀ j : Nat, (j : Int) ≤ K (40 + o) → ((bdS K m o s j).1 = -1 ↔ s.1 = -1 ∧ SU (fun w => if K (48 + 4 * o + w) = m then tk K o w else 0) j = 0) ∧ ((bdS K m o s j).1 = -1 ↔ (bdS K m o s j).2 = -1) ∧ 0 ≤ SU (fun w => if K (48 + 4 * o + w) = m then tk K o w else 0) j
  | 0, _ => by
    have : SU (fun w => if K (48 + 4 * o + w) = m then tk K o w else 0) ((0 : Nat) : Int) = 0 := rfl
    rw [this]
    exact ⟨⟨fun y => ⟨y, rfl⟩, fun y => y.1⟩, h12, Int.le_refl _⟩
  | j + 1, hj => by
    obtain ⟨i1, i2, i3⟩ := bdS_e hr hp ho hs h12 j (by omega)
    have hn := hr.n
    have rg := bdS_rg hr (K := K) (m := m) (o := o) (by omega) hs j
    obtain ⟨r1, r2⟩ := rg
    have t0 := tF_rg hr (o := o) (f := 0) (by omega)
    have t1 := tF_rg hr (o := o) (f := j) (by omega)
    have t2 := tF_rg hr (o := o) (f := (j : Int) + 1) (by omega)
    have tm := tF_mono hr (o := o) (f := 0) (f2 := j) (by omega) (by omega)
    have re := hr.re (o := o) ho.1 (by omega)
    have tp := tk_pos hr hp (o := o) (w := j) ho (by omega)
    rw [show ((j + 1 : Nat) : Int) = (j : Int) + 1 by omega, SU_s _ (by omega)]
    unfold bdS
    by_cases hm : K (48 + 4 * o + (j : Int)) = m
    · rw [if_pos hm, if_pos hm]
      have a1 : (if (bdS K m o s j).1 = -1 ∨ K (16 + o) + tF K o 0 - tF K o j < (bdS K m o s j).1 then K (16 + o) + tF K o 0 - tF K o j else (bdS K m o s j).1) ≠ -1 := by split <;> omega
      have a2 : (if (bdS K m o s j).2 = -1 ∨ tF K o (j + 1) < (bdS K m o s j).2 then tF K o (j + 1) else (bdS K m o s j).2) ≠ -1 := by split <;> omega
      refine ⟨⟨fun y => absurd y a1, fun y => ?_⟩, ⟨fun y => absurd y a1, fun y => absurd y a2⟩, by omega⟩
      omega
    · rw [if_neg hm, if_neg hm, Int.add_zero]
      exact ⟨i1, i2, i3⟩
theorem bdO_e (hr : kR K) (hp : kP K) : ∀ n : Nat, (n : Int) ≤ K 310 → ((bdO K m n).1 = -1 ↔ SU (fun o => tO K o m) n = 0) ∧ ((bdO K m n).1 = -1 ↔ (bdO K m n).2 = -1) ∧ 0 ≤ SU (fun o => tO K o m) n
  | 0, _ => ⟨⟨fun _ => rfl, fun _ => rfl⟩, ⟨fun _ => rfl, fun _ => rfl⟩, Int.le_refl _⟩
  | n + 1, h => by
    obtain ⟨i1, i2, i3⟩ := bdO_e hr hp n (by omega)
    have hn := hr.n
    have hwk := hr.wk (o := n) (by omega) (by omega)
    have rg := bdO_rg (K := K) hr (m := m) n (by omega)
    obtain ⟨j1, j2, j3⟩ := bdS_e (m := m) hr hp (o := n) (by omega) rg i2 (K (40 + n)).toNat (by omega)
    rw [Int.toNat_of_nonneg hwk.1] at j1 j3
    rw [show ((n + 1 : Nat) : Int) = (n : Int) + 1 by omega, SU_s _ (by omega)]
    have e1 : tO K n m = SU (fun w => if K (48 + 4 * n + w) = m then tk K n w else 0) (K (40 + n)) := rfl
    rw [e1]
    have e2 : bdO K m (n + 1) = bdS K m n (bdO K m n) (K (40 + n)).toNat := rfl
    rw [e2]
    refine ⟨?_, j2, by omega⟩
    rw [j1, i1]
    omega
theorem s_lowestEndOf (H : SH M 1 K) (hr : kR K) (hp : kP K) (hm : 0 ≤ m ∧ m ≤ 3) : e_lim L xs (d + 4) 47 0 [some (.ref 1), some (.int (iI m)), none, none, none, none, none, none, none] [] (e_hp M V W) = some (.inl (some (.int (iI (bdW K m)))), e_hp M V W, 0, 0) := by
  have hn := hr.n
  have c0 := H.cn
  have e1 := s_timeOnMachine (L := L) (xs := xs) (d := d) (V := V) (W := W) H hr hm
  have r1 := lO_rg (m := m) hr
  obtain ⟨b1, b2, b3⟩ := bdO_e (m := m) hr hp (K 310).toNat (by omega)
  rw [Int.toNat_of_nonneg hn.1] at b1
  have hl : lO K m = SU (fun o => tO K o m) (K 310) := rfl
  rw [← hl] at b1
  have bR := bdO_rg (K := K) hr (m := m) (K 310).toNat (by omega)
  obtain ⟨bR1, bR2⟩ := bR
  simp (disch := first | assumption | exact e_nk_i _ | exact e_nk_n | exact e_nk_r _ | exact e_bo_0 | exact e_bo_1 | exact e_bo_b _ | omega) only [e_cl_v, e_cl_x, e_add_0, e_add_s, Option.toList_some, Option.toList_none, List.cons_append, List.nil_append, iI_add, iI_sub, iI_mul, iI_lt, iI_eq, iI_le, r47_0, r47_1, r47_2, r47_5, r47_6, r47_7, r47_10, r47_11, r47_12, r47_14, r47_15, r47_17, r47_19, r47_20, e1]
  unfold bdW
  by_cases hz : lO K m = 0
  · rw [if_pos hz, if_pos (b1.mpr hz)]
  · rw [if_neg hz, if_neg (fun y => hz (b1.mp y))]
    have v1 : vF (bdO K m (K 310).toNat).1 = (bdO K m (K 310).toNat).1 := by unfold vF; rw [if_neg (fun y => hz (b1.mp y))]
    have v2 : vF (bdO K m (K 310).toNat).2 = (bdO K m (K 310).toNat).2 := by unfold vF; rw [if_neg (fun y => hz (b1.mp (b2.mpr y)))]
    rw [show (iI 1000000 : Int32) = iI (vF (bdO K m (0 : Int).toNat).1) from rfl]
    refine Eq.trans (b := e_lim L xs (d + 4) 47 22 [some (.ref 1), some (.int (iI m)), some (.int (iI (lO K m))), some (.int (iI (vF (bdO K m (0 : Int).toNat).1))), some (.int (iI (vF (bdO K m (0 : Int).toNat).2))), some (.int (iI 0)), none, none, none] [] (e_hp M V W)) rfl ?_
    refine G_loopI (C := fun i => e_lim L xs (d + 4) 47 22 [some (.ref 1), some (.int (iI m)), some (.int (iI (lO K m))), some (.int (iI (vF (bdO K m i.toNat).1))), some (.int (iI (vF (bdO K m i.toNat).2))), some (.int (iI i)), none, none, none] [] (e_hp M V W)) (i := 0) hn.1 (fun j a b hc => ?_) ?_
    · have hwk := hr.wk (o := j) a (by omega)
      have re := hr.re (o := j) a (by omega)
      have e2 := s_worksIn (L := L) (xs := xs) (d := d + 2) (V := V) (W := W) H hn.2 a b
      have e3 := s_orderCell (L := L) (xs := xs) (d := d + 2) (V := V) (W := W) H hn.2 a b (j := 2) (by omega) (by omega)
      rw [show 8 * 2 + j = 16 + j by omega] at e3
      have e4 := s_timeFrom (L := L) (xs := xs) (d := d + 1) (V := V) (W := W) H hr a b (f := 0) (by omega)
      have t0 := tF_rg hr (o := j) (f := 0) (by omega)
      have hst : bdO K m (j + 1).toNat = bdS K m j (bdO K m j.toNat) (K (40 + j)).toNat := by
        rw [show (j + 1).toNat = j.toNat + 1 by omega]
        show bdS K m (j.toNat : Int) (bdO K m j.toNat) (K (40 + (j.toNat : Int))).toNat = _
        rw [Int.toNat_of_nonneg a]
      have rg := bdO_rg (K := K) hr (m := m) j.toNat (by omega)
      rw [hst] at hc
      have inner : e_lim L xs (d + 4) 47 59 [some (.ref 1), some (.int (iI m)), some (.int (iI (lO K m))), some (.int (iI (vF (bdS K m j (bdO K m j.toNat) (0 : Int).toNat).1))), some (.int (iI (vF (bdS K m j (bdO K m j.toNat) (0 : Int).toNat).2))), some (.int (iI j)), some (.int (iI (K (40 + j)))), some (.int (iI (K (16 + j) + tF K j 0))), some (.int (iI 0))] [] (e_hp M V W) = some (.inl (some (.int (iI ((bdO K m (K 310).toNat).1 + lO K m + (bdO K m (K 310).toNat).2)))), e_hp M V W, 0, 0) := by
        refine G_loopI (C := fun i => e_lim L xs (d + 4) 47 59 [some (.ref 1), some (.int (iI m)), some (.int (iI (lO K m))), some (.int (iI (vF (bdS K m j (bdO K m j.toNat) i.toNat).1))), some (.int (iI (vF (bdS K m j (bdO K m j.toNat) i.toNat).2))), some (.int (iI j)), some (.int (iI (K (40 + j)))), some (.int (iI (K (16 + j) + tF K j 0))), some (.int (iI i))] [] (e_hp M V W)) (i := 0) hwk.1 (fun w a2 b2 hc2 => ?_) ?_
        · have rs := bdS_rg hr (K := K) (m := m) (o := j) (by omega) rg w.toNat
          obtain ⟨rs1, rs2⟩ := rs
          have e5 := s_workCell (L := L) (xs := xs) (d := d + 2) (V := V) (W := W) H hr a b a2 b2 (j := 0) (by omega) (by omega)
          rw [show 48 + 32 * 0 + 4 * j + w = 48 + 4 * j + w by omega] at e5
          have mr := hr.mc (i := 4 * j + w) (by omega) (by omega)
          rw [show 48 + (4 * j + w) = 48 + 4 * j + w by omega] at mr
          have e6 := s_timeFrom (L := L) (xs := xs) (d := d + 1) (V := V) (W := W) H hr a b (f := w) (by omega)
          have e7 := s_timeFrom (L := L) (xs := xs) (d := d + 1) (V := V) (W := W) H hr a b (f := w + 1) (by omega)
          have t1 := tF_rg hr (o := j) (f := w) (by omega)
          have t2 := tF_rg hr (o := j) (f := w + 1) (by omega)
          have tm := tF_mono hr (o := j) (f := 0) (f2 := w) (by omega) a2
          have hs2 : bdS K m j (bdO K m j.toNat) (w + 1).toNat = if K (48 + 4 * j + w) = m then (if (bdS K m j (bdO K m j.toNat) w.toNat).1 = -1 ∨ K (16 + j) + tF K j 0 - tF K j w < (bdS K m j (bdO K m j.toNat) w.toNat).1 then K (16 + j) + tF K j 0 - tF K j w else (bdS K m j (bdO K m j.toNat) w.toNat).1, if (bdS K m j (bdO K m j.toNat) w.toNat).2 = -1 ∨ tF K j (w + 1) < (bdS K m j (bdO K m j.toNat) w.toNat).2 then tF K j (w + 1) else (bdS K m j (bdO K m j.toNat) w.toNat).2) else bdS K m j (bdO K m j.toNat) w.toNat := by
            have hw2 : w = ((w.toNat : Nat) : Int) := by omega
            rw [show (w + 1).toNat = w.toNat + 1 by omega]
            conv => rhs; rw [hw2]
            rfl
          rw [hs2] at hc2
          generalize bdS K m j (bdO K m j.toNat) w.toNat = s2 at *
          have w1 : -1000000000 ≤ vF s2.1 ∧ vF s2.1 ≤ 1000000000 := by unfold vF; split <;> omega
          have w2 : -1000000000 ≤ vF s2.2 ∧ vF s2.2 ≤ 1000000000 := by unfold vF; split <;> omega
          rw [r47_59]
          simp (disch := first | assumption | exact e_nk_i _ | exact e_nk_n | exact e_nk_r _ | exact e_bo_0 | exact e_bo_1 | exact e_bo_b _ | omega) only [e_cl_v, e_cl_x, e_add_0, e_add_s, Option.toList_some, Option.toList_none, List.cons_append, List.nil_append, iI_add, iI_sub, iI_mul, iI_lt, iI_eq, iI_le, r47_61, r47_63, r47_66, r47_67, r47_69, r47_71, r47_72, r47_75, r47_76, r47_79, r47_80, r47_82, r47_83, r47_85, r47_87, r47_90, r47_91, r47_94, r47_95, r47_97, r47_98, r47_100, r47_102, r47_103, r47_104, r47_107, r47_110, r47_112, r47_115, e5, e6, e7]
          rw [if_pos b2]
          by_cases hmm : K (48 + 4 * j + w) = m
          · rw [if_pos hmm] at hc2
            rw [if_pos hmm]
            simp only at hc2
            rw [← vF_min rs1.1 rs1.2 (by omega), ← vF_min rs2.1 rs2.2 (by omega)] at hc2
            rw [show (if K (16 + j) + tF K j 0 - tF K j w < vF s2.1 then iI (K (16 + j) + tF K j 0 - tF K j w) else iI (vF s2.1)) = iI (if K (16 + j) + tF K j 0 - tF K j w < vF s2.1 then K (16 + j) + tF K j 0 - tF K j w else vF s2.1) by split <;> rfl, show (if tF K j (w + 1) < vF s2.2 then iI (tF K j (w + 1)) else iI (vF s2.2)) = iI (if tF K j (w + 1) < vF s2.2 then tF K j (w + 1) else vF s2.2) by split <;> rfl]
            exact hc2
          · rw [if_neg hmm] at hc2
            rw [if_neg hmm]
            exact hc2
        · rw [r47_59]
          simp (disch := first | assumption | exact e_nk_i _ | exact e_nk_n | exact e_nk_r _ | exact e_bo_0 | exact e_bo_1 | exact e_bo_b _ | omega) only [e_cl_v, e_cl_x, e_add_0, e_add_s, Option.toList_some, Option.toList_none, List.cons_append, List.nil_append, iI_add, iI_sub, iI_mul, iI_lt, iI_eq, iI_le, r47_61, r47_63, r47_118, r47_121]
          rw [if_neg (by omega)]
          exact G_less (by repeat (first | exact e_ll.rf | refine e_ll_c ?_ | refine e_ll_x ?_)) hc
      rw [r47_22]
      simp (disch := first | assumption | exact e_nk_i _ | exact e_nk_n | exact e_nk_r _ | exact e_bo_0 | exact e_bo_1 | exact e_bo_b _ | omega) only [e_cl_v, e_cl_x, e_add_0, e_add_s, Option.toList_some, Option.toList_none, List.cons_append, List.nil_append, iI_add, iI_sub, iI_mul, iI_lt, iI_eq, iI_le, r47_24, r47_25, r47_28, r47_31, r47_32, r47_34, r47_37, r47_39, r47_40, r47_42, r47_43, r47_46, r47_47, r47_49, r47_50, r47_53, r47_54, r47_56, r47_57, c0, e2, e3, e4]
      rw [if_pos b]
      exact inner
    · rw [v1, v2, r47_22]
      simp (disch := first | assumption | exact e_nk_i _ | exact e_nk_n | exact e_nk_r _ | exact e_bo_0 | exact e_bo_1 | exact e_bo_b _ | omega) only [e_cl_v, e_cl_x, e_add_0, e_add_s, Option.toList_some, Option.toList_none, List.cons_append, List.nil_append, iI_add, iI_sub, iI_mul, iI_lt, iI_eq, iI_le, r47_24, r47_25, r47_28, r47_124, r47_125, r47_126, r47_127, r47_129, r47_130, c0]
      rw [if_neg (by omega), Int.add_comm (lO K m)]
theorem s_lowestEnd (H : SH M 1 K) (hr : kR K) (hp : kP K) : e_lim L xs (d + 5) 46 0 [some (.ref 1), none, none] [] (e_hp M V W) = some (.inl (some (.int (iI (boW K)))), e_hp M V W, 0, 0) := by
  have hn := hr.n
  have c0 := H.cn
  have sec : e_lim L xs (d + 5) 46 46 [some (.ref 1), some (.int (iI (boM K (0 : Int).toNat))), some (.int (iI 0))] [] (e_hp M V W) = some (.inl (some (.int (iI (boW K)))), e_hp M V W, 0, 0) := by
    refine G_loopI (C := fun i => e_lim L xs (d + 5) 46 46 [some (.ref 1), some (.int (iI (boM K i.toNat))), some (.int (iI i))] [] (e_hp M V W)) (i := 0) (n := 4) (by omega) (fun j a b hc => ?_) ?_
    · have e1 := s_lowestEndOf (L := L) (xs := xs) (d := d) (V := V) (W := W) H hr hp (m := j) (by omega)
      have r1 := bdW_rg (K := K) hr (m := j)
      have r2 := boM_rg (K := K) hr j.toNat
      rw [show (j + 1).toNat = j.toNat + 1 by omega, show boM K (j.toNat + 1) = if boM K j.toNat < bdW K (j.toNat : Int) then bdW K (j.toNat : Int) else boM K j.toNat from rfl, Int.toNat_of_nonneg a, mx_if] at hc
      rw [r46_46]
      simp (disch := first | assumption | exact e_nk_i _ | exact e_nk_n | exact e_nk_r _ | exact e_bo_0 | exact e_bo_1 | exact e_bo_b _ | omega) only [e_cl_v, e_cl_x, e_add_0, e_add_s, Option.toList_some, Option.toList_none, List.cons_append, List.nil_append, iI_add, iI_sub, iI_mul, iI_lt, iI_eq, iI_le, r46_47, r46_48, r46_51, r46_52, r46_53, r46_54, r46_57, r46_60, r46_61, r46_64, e1, iI_mx]
      rw [if_pos b]
      exact hc
    · rw [r46_46]
      simp (disch := first | assumption | exact e_nk_i _ | exact e_nk_n | exact e_nk_r _ | exact e_bo_0 | exact e_bo_1 | exact e_bo_b _ | omega) only [e_cl_v, e_cl_x, e_add_0, e_add_s, Option.toList_some, Option.toList_none, List.cons_append, List.nil_append, iI_add, iI_sub, iI_mul, iI_lt, iI_eq, iI_le, r46_47, r46_48, r46_67, r46_68]
      rw [if_neg (by omega)]
      rfl
  simp (disch := first | assumption | exact e_nk_i _ | exact e_nk_n | exact e_nk_r _ | exact e_bo_0 | exact e_bo_1 | exact e_bo_b _ | omega) only [e_cl_v, e_cl_x, e_add_0, e_add_s, Option.toList_some, Option.toList_none, List.cons_append, List.nil_append, iI_add, iI_sub, iI_mul, iI_lt, iI_eq, iI_le, r46_0, r46_1, r46_2, r46_3]
  rw [show (iI 0 : Int32) = iI (mX (boF K) 0) from rfl]
  refine Eq.trans (b := e_lim L xs (d + 5) 46 4 [some (.ref 1), some (.int (iI (mX (boF K) 0))), some (.int (iI 0))] [] (e_hp M V W)) rfl ?_
  refine G_loopI (C := fun i => e_lim L xs (d + 5) 46 4 [some (.ref 1), some (.int (iI (mX (boF K) i))), some (.int (iI i))] [] (e_hp M V W)) (i := 0) hn.1 (fun j a b hc => ?_) ?_
  · have hwk := hr.wk (o := j) a (by omega)
    have re := hr.re (o := j) a (by omega)
    have e2 := s_worksIn (L := L) (xs := xs) (d := d + 3) (V := V) (W := W) H hn.2 a b
    have e3 := s_orderCell (L := L) (xs := xs) (d := d + 3) (V := V) (W := W) H hn.2 a b (j := 2) (by omega) (by omega)
    rw [show 8 * 2 + j = 16 + j by omega] at e3
    have e4 := s_timeFrom (L := L) (xs := xs) (d := d + 2) (V := V) (W := W) H hr a b (f := 0) (by omega)
    have t0 := tF_rg hr (o := j) (f := 0) (by omega)
    have bo := boF_rg (K := K) hr (j := j) a (by omega)
    have hb : boF K j = if 0 < K (40 + j) then K (16 + j) + tF K j 0 else 0 := rfl
    rw [mX_s _ a, mx_if, hb] at hc
    rw [r46_4]
    simp (disch := first | assumption | exact e_nk_i _ | exact e_nk_n | exact e_nk_r _ | exact e_bo_0 | exact e_bo_1 | exact e_bo_b _ | omega) only [e_cl_v, e_cl_x, e_add_0, e_add_s, Option.toList_some, Option.toList_none, List.cons_append, List.nil_append, iI_add, iI_sub, iI_mul, iI_lt, iI_eq, iI_le, r46_5, r46_6, r46_9, r46_12, r46_13, r46_14, r46_17, r46_20, r46_21, r46_22, r46_23, r46_24, r46_27, r46_28, r46_29, r46_30, r46_33, r46_34, r46_37, r46_38, r46_41, c0, e2, e3, e4, iI_mx]
    rw [if_pos b]
    by_cases hz : 0 < K (40 + j)
    · rw [if_pos hz] at hc
      rw [if_neg (by omega)]
      exact hc
    · rw [if_neg hz, show max (mX (boF K) j) 0 = mX (boF K) j by omega] at hc
      rw [if_pos (by omega)]
      exact hc
  · rw [r46_4]
    simp (disch := first | assumption | exact e_nk_i _ | exact e_nk_n | exact e_nk_r _ | exact e_bo_0 | exact e_bo_1 | exact e_bo_b _ | omega) only [e_cl_v, e_cl_x, e_add_0, e_add_s, Option.toList_some, Option.toList_none, List.cons_append, List.nil_append, iI_add, iI_sub, iI_mul, iI_lt, iI_eq, iI_le, r46_5, r46_6, r46_9, r46_44, r46_45, c0]
    rw [if_neg (by omega)]
    exact sec
end Ec30
