section Ec30
variable {L : Nat} {xs : Nat → Int32} {d : Nat} {M M2 M3 : e_MI} {V : e_ML} {W : e_MD} {K K2 : e_St} {S : Int → e_St} {h : e_H} {s0 s1 t t2 a b2 n : Nat} {s : Int × Int} {c o z m k q p i f l b e mc tl T x y N : Int} {sc : Bool} {ρ ν μ χ β ε τ u : Int → Int}
/-! the class's bound -/
def vF (z : Int) : Int := if z = -1 then 1000000 else z
theorem vF_min (h1 : -1 ≤ y) (h2 : y ≤ 1000) (hx : 0 ≤ x ∧ x ≤ 1000) : (if x < vF y then x else vF y) = vF (if y = -1 ∨ x < y then x else y) := by
  unfold vF
  by_cases hy : y = -1
  · rw [if_pos hy, if_pos (by omega), if_pos (Or.inl hy), if_neg (by omega)]
  · rw [if_neg hy]
    by_cases hz : x < y
    · rw [if_pos hz, if_pos (Or.inr hz), if_neg (by omega)]
    · rw [if_neg hz, if_neg (by omega), if_neg (by omega)]
theorem bdS_e (hr : kR K) (hp : kP K) (ho : 0 ≤ o ∧ o < K 310) (hs : bdR s) (h12 : s.1 = -1 ↔ s.2 = -1) : ∀ j : Nat, (j : Int) ≤ K (40 + o) → ((bdS K m o s j).1 = -1 ↔ s.1 = -1 ∧ SU (fun w => if K (48 + 4 * o + w) = m then tk K o w else 0) j = 0) ∧ ((bdS K m o s j).1 = -1 ↔ (bdS K m o s j).2 = -1) ∧ 0 ≤ SU (fun w => if K (48 + 4 * o + w) = m then tk K o w else 0) j
  | 0, _ => by
    have : SU (fun w => if K (48 + 4 * o + w) = m then tk K o w else 0) ((0 : Nat) : Int) = 0 := rfl
    rw [this]
    exact ⟨⟨fun y => ⟨y, rfl⟩, fun y => y.1⟩, h12, Int.le_refl _⟩
  | j + 1, hj => by
    obtain ⟨i1, i2, i3⟩ := bdS_e hr hp ho hs h12 j (by omega)
    have hn := hr.n
    have rg := bdS_rg hr (K := K) (m := m) (o := o) (by omega) hs j
    obtain ⟨r1, r2⟩ := rg
    have t0 := tF_rg hr (o := o) (f := 0) (by omega)
    have t1 := tF_rg hr (o := o) (f := j) (by omega)
    have t2 := tF_rg hr (o := o) (f := (j : Int) + 1) (by omega)
    have tm := tF_mono hr (o := o) (f := 0) (f2 := j) (by omega) (by omega)
    have re := hr.re (o := o) ho.1 (by omega)
    have tp := tk_pos hr hp (o := o) (w := j) ho (by omega)
    rw [show ((j + 1 : Nat) : Int) = (j : Int) + 1 by omega, SU_s _ (by omega)]
    unfold bdS
    by_cases hm : K (48 + 4 * o + (j : Int)) = m
    · rw [if_pos hm, if_pos hm]
      have a1 : (if (bdS K m o s j).1 = -1 ∨ K (16 + o) + tF K o 0 - tF K o j < (bdS K m o s j).1 then K (16 + o) + tF K o 0 - tF K o j else (bdS K m o s j).1) ≠ -1 := by split <;> omega
      have a2 : (if (bdS K m o s j).2 = -1 ∨ tF K o (j + 1) < (bdS K m o s j).2 then tF K o (j + 1) else (bdS K m o s j).2) ≠ -1 := by split <;> omega
      refine ⟨⟨fun y => absurd y a1, fun y => ?_⟩, ⟨fun y => absurd y a1, fun y => absurd y a2⟩, by omega⟩
      omega
    · rw [if_neg hm, if_neg hm, Int.add_zero]
      exact ⟨i1, i2, i3⟩
theorem bdO_e (hr : kR K) (hp : kP K) : ∀ n : Nat, (n : Int) ≤ K 310 → ((bdO K m n).1 = -1 ↔ SU (fun o => tO K o m) n = 0) ∧ ((bdO K m n).1 = -1 ↔ (bdO K m n).2 = -1) ∧ 0 ≤ SU (fun o => tO K o m) n
  | 0, _ => ⟨⟨fun _ => rfl, fun _ => rfl⟩, ⟨fun _ => rfl, fun _ => rfl⟩, Int.le_refl _⟩
  | n + 1, h => by
    obtain ⟨i1, i2, i3⟩ := bdO_e hr hp n (by omega)
    have hn := hr.n
    have hwk := hr.wk (o := n) (by omega) (by omega)
    have rg := bdO_rg (K := K) hr (m := m) n (by omega)
    obtain ⟨j1, j2, j3⟩ := bdS_e (m := m) hr hp (o := n) (by omega) rg i2 (K (40 + n)).toNat (by omega)
    rw [Int.toNat_of_nonneg hwk.1] at j1 j3
    rw [show ((n + 1 : Nat) : Int) = (n : Int) + 1 by omega, SU_s _ (by omega)]
    have e1 : tO K n m = SU (fun w => if K (48 + 4 * n + w) = m then tk K n w else 0) (K (40 + n)) := rfl
    rw [e1]
    have e2 : bdO K m (n + 1) = bdS K m n (bdO K m n) (K (40 + n)).toNat := rfl
    rw [e2]
    refine ⟨?_, j2, by omega⟩
    rw [j1, i1]
    omega
theorem s_lowestEndOf (H : SH M 1 K) (hr : kR K) (hp : kP K) (hm : 0 ≤ m ∧ m ≤ 3) : e_lim L xs (d + 4) 50 0 [some (.ref 1), some (.int (iI m)), none, none, none, none, none, none, none] [] (e_hp M V W) = some (.inl (some (.int (iI (bdW K m)))), e_hp M V W, 0, 0) := by
  have hn := hr.n
  have c0 := H.cn
  have e1 := s_timeOnMachine (L := L) (xs := xs) (d := d) (V := V) (W := W) H hr hm
  have r1 := lO_rg (m := m) hr
  obtain ⟨b1, b2, b3⟩ := bdO_e (m := m) hr hp (K 310).toNat (by omega)
  rw [Int.toNat_of_nonneg hn.1] at b1
  have hl : lO K m = SU (fun o => tO K o m) (K 310) := rfl
  rw [← hl] at b1
  have bR := bdO_rg (K := K) hr (m := m) (K 310).toNat (by omega)
  obtain ⟨bR1, bR2⟩ := bR
  simp (disch := first | assumption | exact e_nk_i _ | exact e_nk_n | exact e_nk_r _ | exact e_bo_0 | exact e_bo_1 | exact e_bo_b _ | omega) only [e_cl_v, e_cl_x, e_add_0, e_add_s, Option.toList_some, Option.toList_none, List.cons_append, List.nil_append, iI_add, iI_sub, iI_mul, iI_lt, iI_eq, iI_le, r50_0, r50_1, r50_2, r50_5, r50_6, r50_7, r50_10, r50_11, r50_12, r50_14, r50_15, r50_17, r50_19, r50_20, e1]
  unfold bdW
  by_cases hz : lO K m = 0
  · rw [if_pos hz, if_pos (b1.mpr hz)]
  · rw [if_neg hz, if_neg (fun y => hz (b1.mp y))]
    have v1 : vF (bdO K m (K 310).toNat).1 = (bdO K m (K 310).toNat).1 := by unfold vF; rw [if_neg (fun y => hz (b1.mp y))]
    have v2 : vF (bdO K m (K 310).toNat).2 = (bdO K m (K 310).toNat).2 := by unfold vF; rw [if_neg (fun y => hz (b1.mp (b2.mpr y)))]
    rw [show (iI 1000000 : Int32) = iI (vF (bdO K m (0 : Int).toNat).1) from rfl]
    refine Eq.trans (b := e_lim L xs (d + 4) 50 22 [some (.ref 1), some (.int (iI m)), some (.int (iI (lO K m))), some (.int (iI (vF (bdO K m (0 : Int).toNat).1))), some (.int (iI (vF (bdO K m (0 : Int).toNat).2))), some (.int (iI 0)), none, none, none] [] (e_hp M V W)) rfl ?_
    refine G_loopI (C := fun i => e_lim L xs (d + 4) 50 22 [some (.ref 1), some (.int (iI m)), some (.int (iI (lO K m))), some (.int (iI (vF (bdO K m i.toNat).1))), some (.int (iI (vF (bdO K m i.toNat).2))), some (.int (iI i)), none, none, none] [] (e_hp M V W)) (i := 0) hn.1 (fun j a b hc => ?_) ?_
    · have hwk := hr.wk (o := j) a (by omega)
      have re := hr.re (o := j) a (by omega)
      have e2 := s_worksIn (L := L) (xs := xs) (d := d + 2) (V := V) (W := W) H hn.2 a b
      have e3 := s_orderCell (L := L) (xs := xs) (d := d + 2) (V := V) (W := W) H hn.2 a b (j := 2) (by omega) (by omega)
      rw [show 8 * 2 + j = 16 + j by omega] at e3
      have e4 := s_timeFrom (L := L) (xs := xs) (d := d + 1) (V := V) (W := W) H hr a b (f := 0) (by omega)
      have t0 := tF_rg hr (o := j) (f := 0) (by omega)
      have hst : bdO K m (j + 1).toNat = bdS K m j (bdO K m j.toNat) (K (40 + j)).toNat := by
        rw [show (j + 1).toNat = j.toNat + 1 by omega]
        show bdS K m (j.toNat : Int) (bdO K m j.toNat) (K (40 + (j.toNat : Int))).toNat = _
        rw [Int.toNat_of_nonneg a]
      have rg := bdO_rg (K := K) hr (m := m) j.toNat (by omega)
      rw [hst] at hc
      have inner : e_lim L xs (d + 4) 50 59 [some (.ref 1), some (.int (iI m)), some (.int (iI (lO K m))), some (.int (iI (vF (bdS K m j (bdO K m j.toNat) (0 : Int).toNat).1))), some (.int (iI (vF (bdS K m j (bdO K m j.toNat) (0 : Int).toNat).2))), some (.int (iI j)), some (.int (iI (K (40 + j)))), some (.int (iI (K (16 + j) + tF K j 0))), some (.int (iI 0))] [] (e_hp M V W) = some (.inl (some (.int (iI ((bdO K m (K 310).toNat).1 + lO K m + (bdO K m (K 310).toNat).2)))), e_hp M V W, 0, 0) := by
        refine G_loopI (C := fun i => e_lim L xs (d + 4) 50 59 [some (.ref 1), some (.int (iI m)), some (.int (iI (lO K m))), some (.int (iI (vF (bdS K m j (bdO K m j.toNat) i.toNat).1))), some (.int (iI (vF (bdS K m j (bdO K m j.toNat) i.toNat).2))), some (.int (iI j)), some (.int (iI (K (40 + j)))), some (.int (iI (K (16 + j) + tF K j 0))), some (.int (iI i))] [] (e_hp M V W)) (i := 0) hwk.1 (fun w a2 b2 hc2 => ?_) ?_
        · have rs := bdS_rg hr (K := K) (m := m) (o := j) (by omega) rg w.toNat
          obtain ⟨rs1, rs2⟩ := rs
          have e5 := s_workCell (L := L) (xs := xs) (d := d + 2) (V := V) (W := W) H hr a b a2 b2 (j := 0) (by omega) (by omega)
          rw [show 48 + 32 * 0 + 4 * j + w = 48 + 4 * j + w by omega] at e5
          have mr := hr.mc (i := 4 * j + w) (by omega) (by omega)
          rw [show 48 + (4 * j + w) = 48 + 4 * j + w by omega] at mr
          have e6 := s_timeFrom (L := L) (xs := xs) (d := d + 1) (V := V) (W := W) H hr a b (f := w) (by omega)
          have e7 := s_timeFrom (L := L) (xs := xs) (d := d + 1) (V := V) (W := W) H hr a b (f := w + 1) (by omega)
          have t1 := tF_rg hr (o := j) (f := w) (by omega)
          have t2 := tF_rg hr (o := j) (f := w + 1) (by omega)
          have tm := tF_mono hr (o := j) (f := 0) (f2 := w) (by omega) a2
          have hs2 : bdS K m j (bdO K m j.toNat) (w + 1).toNat = if K (48 + 4 * j + w) = m then (if (bdS K m j (bdO K m j.toNat) w.toNat).1 = -1 ∨ K (16 + j) + tF K j 0 - tF K j w < (bdS K m j (bdO K m j.toNat) w.toNat).1 then K (16 + j) + tF K j 0 - tF K j w else (bdS K m j (bdO K m j.toNat) w.toNat).1, if (bdS K m j (bdO K m j.toNat) w.toNat).2 = -1 ∨ tF K j (w + 1) < (bdS K m j (bdO K m j.toNat) w.toNat).2 then tF K j (w + 1) else (bdS K m j (bdO K m j.toNat) w.toNat).2) else bdS K m j (bdO K m j.toNat) w.toNat := by
            have hw2 : w = ((w.toNat : Nat) : Int) := by omega
            rw [show (w + 1).toNat = w.toNat + 1 by omega]
            conv => rhs; rw [hw2]
            rfl
          rw [hs2] at hc2
          generalize bdS K m j (bdO K m j.toNat) w.toNat = s2 at *
          have w1 : -1000000000 ≤ vF s2.1 ∧ vF s2.1 ≤ 1000000000 := by unfold vF; split <;> omega
          have w2 : -1000000000 ≤ vF s2.2 ∧ vF s2.2 ≤ 1000000000 := by unfold vF; split <;> omega
          rw [r50_59]
          simp (disch := first | assumption | exact e_nk_i _ | exact e_nk_n | exact e_nk_r _ | exact e_bo_0 | exact e_bo_1 | exact e_bo_b _ | omega) only [e_cl_v, e_cl_x, e_add_0, e_add_s, Option.toList_some, Option.toList_none, List.cons_append, List.nil_append, iI_add, iI_sub, iI_mul, iI_lt, iI_eq, iI_le, r50_61, r50_63, r50_66, r50_67, r50_69, r50_71, r50_72, r50_75, r50_76, r50_79, r50_80, r50_82, r50_83, r50_85, r50_87, r50_90, r50_91, r50_94, r50_95, r50_97, r50_98, r50_100, r50_102, r50_103, r50_104, r50_107, r50_110, r50_112, r50_115, e5, e6, e7]
          rw [if_pos b2]
          by_cases hmm : K (48 + 4 * j + w) = m
          · rw [if_pos hmm] at hc2
            rw [if_pos hmm]
            simp only at hc2
            rw [← vF_min rs1.1 rs1.2 (by omega), ← vF_min rs2.1 rs2.2 (by omega)] at hc2
            rw [show (if K (16 + j) + tF K j 0 - tF K j w < vF s2.1 then iI (K (16 + j) + tF K j 0 - tF K j w) else iI (vF s2.1)) = iI (if K (16 + j) + tF K j 0 - tF K j w < vF s2.1 then K (16 + j) + tF K j 0 - tF K j w else vF s2.1) by split <;> rfl, show (if tF K j (w + 1) < vF s2.2 then iI (tF K j (w + 1)) else iI (vF s2.2)) = iI (if tF K j (w + 1) < vF s2.2 then tF K j (w + 1) else vF s2.2) by split <;> rfl]
            exact hc2
          · rw [if_neg hmm] at hc2
            rw [if_neg hmm]
            exact hc2
        · rw [r50_59]
          simp (disch := first | assumption | exact e_nk_i _ | exact e_nk_n | exact e_nk_r _ | exact e_bo_0 | exact e_bo_1 | exact e_bo_b _ | omega) only [e_cl_v, e_cl_x, e_add_0, e_add_s, Option.toList_some, Option.toList_none, List.cons_append, List.nil_append, iI_add, iI_sub, iI_mul, iI_lt, iI_eq, iI_le, r50_61, r50_63, r50_118, r50_121]
          rw [if_neg (by omega)]
          exact G_less (by repeat (first | exact e_ll.rf | refine e_ll_c ?_ | refine e_ll_x ?_)) hc
      rw [r50_22]
      simp (disch := first | assumption | exact e_nk_i _ | exact e_nk_n | exact e_nk_r _ | exact e_bo_0 | exact e_bo_1 | exact e_bo_b _ | omega) only [e_cl_v, e_cl_x, e_add_0, e_add_s, Option.toList_some, Option.toList_none, List.cons_append, List.nil_append, iI_add, iI_sub, iI_mul, iI_lt, iI_eq, iI_le, r50_24, r50_25, r50_28, r50_31, r50_32, r50_34, r50_37, r50_39, r50_40, r50_42, r50_43, r50_46, r50_47, r50_49, r50_50, r50_53, r50_54, r50_56, r50_57, c0, e2, e3, e4]
      rw [if_pos b]
      exact inner
    · rw [v1, v2, r50_22]
      simp (disch := first | assumption | exact e_nk_i _ | exact e_nk_n | exact e_nk_r _ | exact e_bo_0 | exact e_bo_1 | exact e_bo_b _ | omega) only [e_cl_v, e_cl_x, e_add_0, e_add_s, Option.toList_some, Option.toList_none, List.cons_append, List.nil_append, iI_add, iI_sub, iI_mul, iI_lt, iI_eq, iI_le, r50_24, r50_25, r50_28, r50_124, r50_125, r50_126, r50_127, r50_129, r50_130, c0]
      rw [if_neg (by omega), Int.add_comm (lO K m)]
theorem s_lowestEnd (H : SH M 1 K) (hr : kR K) (hp : kP K) : e_lim L xs (d + 5) 49 0 [some (.ref 1), none, none] [] (e_hp M V W) = some (.inl (some (.int (iI (boW K)))), e_hp M V W, 0, 0) := by
  have hn := hr.n
  have c0 := H.cn
  have sec : e_lim L xs (d + 5) 49 46 [some (.ref 1), some (.int (iI (boM K (0 : Int).toNat))), some (.int (iI 0))] [] (e_hp M V W) = some (.inl (some (.int (iI (boW K)))), e_hp M V W, 0, 0) := by
    refine G_loopI (C := fun i => e_lim L xs (d + 5) 49 46 [some (.ref 1), some (.int (iI (boM K i.toNat))), some (.int (iI i))] [] (e_hp M V W)) (i := 0) (n := 4) (by omega) (fun j a b hc => ?_) ?_
    · have e1 := s_lowestEndOf (L := L) (xs := xs) (d := d) (V := V) (W := W) H hr hp (m := j) (by omega)
      have r1 := bdW_rg (K := K) hr (m := j)
      have r2 := boM_rg (K := K) hr j.toNat
      rw [show (j + 1).toNat = j.toNat + 1 by omega, show boM K (j.toNat + 1) = if boM K j.toNat < bdW K (j.toNat : Int) then bdW K (j.toNat : Int) else boM K j.toNat from rfl, Int.toNat_of_nonneg a, mx_if] at hc
      rw [r49_46]
      simp (disch := first | assumption | exact e_nk_i _ | exact e_nk_n | exact e_nk_r _ | exact e_bo_0 | exact e_bo_1 | exact e_bo_b _ | omega) only [e_cl_v, e_cl_x, e_add_0, e_add_s, Option.toList_some, Option.toList_none, List.cons_append, List.nil_append, iI_add, iI_sub, iI_mul, iI_lt, iI_eq, iI_le, r49_47, r49_48, r49_51, r49_52, r49_53, r49_54, r49_57, r49_60, r49_61, r49_64, e1, iI_mx]
      rw [if_pos b]
      exact hc
    · rw [r49_46]
      simp (disch := first | assumption | exact e_nk_i _ | exact e_nk_n | exact e_nk_r _ | exact e_bo_0 | exact e_bo_1 | exact e_bo_b _ | omega) only [e_cl_v, e_cl_x, e_add_0, e_add_s, Option.toList_some, Option.toList_none, List.cons_append, List.nil_append, iI_add, iI_sub, iI_mul, iI_lt, iI_eq, iI_le, r49_47, r49_48, r49_67, r49_68]
      rw [if_neg (by omega)]
      rfl
  simp (disch := first | assumption | exact e_nk_i _ | exact e_nk_n | exact e_nk_r _ | exact e_bo_0 | exact e_bo_1 | exact e_bo_b _ | omega) only [e_cl_v, e_cl_x, e_add_0, e_add_s, Option.toList_some, Option.toList_none, List.cons_append, List.nil_append, iI_add, iI_sub, iI_mul, iI_lt, iI_eq, iI_le, r49_0, r49_1, r49_2, r49_3]
  rw [show (iI 0 : Int32) = iI (mX (boF K) 0) from rfl]
  refine Eq.trans (b := e_lim L xs (d + 5) 49 4 [some (.ref 1), some (.int (iI (mX (boF K) 0))), some (.int (iI 0))] [] (e_hp M V W)) rfl ?_
  refine G_loopI (C := fun i => e_lim L xs (d + 5) 49 4 [some (.ref 1), some (.int (iI (mX (boF K) i))), some (.int (iI i))] [] (e_hp M V W)) (i := 0) hn.1 (fun j a b hc => ?_) ?_
  · have hwk := hr.wk (o := j) a (by omega)
    have re := hr.re (o := j) a (by omega)
    have e2 := s_worksIn (L := L) (xs := xs) (d := d + 3) (V := V) (W := W) H hn.2 a b
    have e3 := s_orderCell (L := L) (xs := xs) (d := d + 3) (V := V) (W := W) H hn.2 a b (j := 2) (by omega) (by omega)
    rw [show 8 * 2 + j = 16 + j by omega] at e3
    have e4 := s_timeFrom (L := L) (xs := xs) (d := d + 2) (V := V) (W := W) H hr a b (f := 0) (by omega)
    have t0 := tF_rg hr (o := j) (f := 0) (by omega)
    have bo := boF_rg (K := K) hr (j := j) a (by omega)
    have hb : boF K j = if 0 < K (40 + j) then K (16 + j) + tF K j 0 else 0 := rfl
    rw [mX_s _ a, mx_if, hb] at hc
    rw [r49_4]
    simp (disch := first | assumption | exact e_nk_i _ | exact e_nk_n | exact e_nk_r _ | exact e_bo_0 | exact e_bo_1 | exact e_bo_b _ | omega) only [e_cl_v, e_cl_x, e_add_0, e_add_s, Option.toList_some, Option.toList_none, List.cons_append, List.nil_append, iI_add, iI_sub, iI_mul, iI_lt, iI_eq, iI_le, r49_5, r49_6, r49_9, r49_12, r49_13, r49_14, r49_17, r49_20, r49_21, r49_22, r49_23, r49_24, r49_27, r49_28, r49_29, r49_30, r49_33, r49_34, r49_37, r49_38, r49_41, c0, e2, e3, e4, iI_mx]
    rw [if_pos b]
    by_cases hz : 0 < K (40 + j)
    · rw [if_pos hz] at hc
      rw [if_neg (by omega)]
      exact hc
    · rw [if_neg hz, show max (mX (boF K) j) 0 = mX (boF K) j by omega] at hc
      rw [if_pos (by omega)]
      exact hc
  · rw [r49_4]
    simp (disch := first | assumption | exact e_nk_i _ | exact e_nk_n | exact e_nk_r _ | exact e_bo_0 | exact e_bo_1 | exact e_bo_b _ | omega) only [e_cl_v, e_cl_x, e_add_0, e_add_s, Option.toList_some, Option.toList_none, List.cons_append, List.nil_append, iI_add, iI_sub, iI_mul, iI_lt, iI_eq, iI_le, r49_5, r49_6, r49_9, r49_44, r49_45, c0]
    rw [if_neg (by omega)]
    exact sec
end Ec30
