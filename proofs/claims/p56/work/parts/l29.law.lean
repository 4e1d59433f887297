section El29
variable {L : Nat} {xs : Nat → Int32} {d : Nat} {M M1 M2 M3 : e_MI} {V V2 : e_ML} {W : e_MD} {K K2 : e_St} {S : Int → e_St} {h : e_H} {c o j w z m k q p i a b t x its u v : Int} {l : List Int} {B : Nat → Int}
/-! one machine, two machines: as good as the best of all lines -/
theorem wy_len (hr : kR K) : (wyL K m 2).length = (goW K m).1.length + (goW K m).2.length ∧ (wyL K m 2).length ≤ 8 := by
  have h := goW_len hr (m := m)
  have e : wyL K m 2 = (goW K m).1 ++ (goW K m).2 := rfl
  rw [e, List.length_append]
  omega
theorem l_isGone (H : CL M K c S) (hm : 0 ≤ m ∧ m ≤ 3) (hN : M 184 29 = iI ((wyL K m 2).length : Int)) : ∃ M2 : e_MI, e_lim L xs (d + 7) 184 0 [some (.ref 184), some (.int (iI m)), none, none, none] [] (e_hp M V W) = some (.inl (some (.int (bI true))), e_hp M2 V W, 0, 0) ∧ CK M2 K c S ∧ ∀ a, 178 < a → M2 a = M a := by
  have hr := H.g.1
  have hn := hr.n
  obtain ⟨w1, w2⟩ := wy_len (m := m) hr
  have hot := go_ot (m := m) hr
  have hmem : ∀ k : Nat, k < (goW K m).1.length → (wyL K m 2).getD k 0 = (goW K m).1.getD k 0 ∧ 0 ≤ (goW K m).1.getD k 0 ∧ (goW K m).1.getD k 0 < K 310 := fun k hk => by
    have e : wyL K m 2 = (goW K m).1 ++ (goW K m).2 := rfl
    have e1 : (wyL K m 2).getD k 0 = (goW K m).1.getD k 0 := by rw [e, List.getD_eq_getElem?_getD, List.getElem?_append_left hk, ← List.getD_eq_getElem?_getD]
    have e2 := (wyL_iff (m := m) (w := 2) hr (by omega)).mp (show (wyL K m 2).getD k 0 ∈ wyL K m 2 from getD_mem (by omega))
    rw [e1] at e2
    exact ⟨e1, e2.1, e2.2.1⟩
  have key := G_lp (i := 0) (n := ((goW K m).1.length : Int)) (I := fun j M1 => CK M1 K c S ∧ ∀ a, 178 < a → M1 a = M a) (P := fun j M1 => ∃ M2 : e_MI, e_lim L xs (d + 7) 184 4 [some (.ref 184), some (.int (iI m)), some (.int (iI (smL (fun o => tO K o m) ((goW K m).1.take j.toNat)))), some (.int (iI j)), none] [] (e_hp M1 V W) = some (.inl (some (.int (bI true))), e_hp M2 V W, 0, 0) ∧ CK M2 K c S ∧ ∀ a, 178 < a → M2 a = M a) (fun j M1 x y hI hc => ?_) (fun M1 hI => ?_) (by omega) M ⟨H.ck, fun _ _ => rfl⟩
  · obtain ⟨M2, e, r⟩ := key
    refine ⟨M2, ?_, r⟩
    rw [← e]
    simp (disch := first | assumption | exact e_nk_i _ | exact e_nk_n | exact e_nk_r _ | exact e_bo_0 | exact e_bo_1 | exact e_bo_b _ | omega) only [e_cl_v, e_cl_x, e_add_0, e_add_s, Option.toList_some, Option.toList_none, List.cons_append, List.nil_append, iI_add, iI_sub, iI_mul, iI_lt, iI_eq, iI_le, r184_0, r184_1, r184_2, r184_3]
    rfl
  · obtain ⟨i1, i2⟩ := hI
    have H1 := H.qu i1 (fun a x => i2 a (by omega))
    obtain ⟨M3, e1, f1, g1⟩ := x_fewestLate (L := L) (xs := xs) (d := d + 1) (V := V) (W := W) i1 H.g (m := m) (by unfold i32; omega)
    rw [if_pos hm] at e1
    have H3 := H1.qu f1 (fun a x => g1 a (by omega))
    obtain ⟨M4, e2, f2, g2⟩ := x_oneAt (L := L) (xs := xs) (d := d + 1) (V := V) (W := W) f1 H.g (m := m) (w := 2) (p := j) (by unfold i32; omega) (by unfold i32; omega) (by unfold i32; omega)
    rw [if_pos (by omega), if_pos (by omega)] at e2
    have H4 := H3.qu f2 (fun a x => g2 a (by omega))
    obtain ⟨m1, m2, m3⟩ := hmem j.toNat (by omega)
    have han : anOA K m 2 j = (goW K m).1.getD j.toNat 0 := m1
    rw [han] at e2
    have h29 : M1 184 29 = iI ((wyL K m 2).length : Int) := by rw [i2 184 (by decide)]; exact hN
    have e3 := l_timeOn (L := L) (xs := xs) (d := d + 5) (V := V) (W := W) H4.la hr ⟨m2, m3⟩ (m := m) (by unfold i32; omega)
    have e4 := H4.la.du m2 m3
    have hin := OTa_get (goW K m).1 0 j.toNat (by omega) hot
    have ht0 := tO_0 (m := m) hr ⟨m2, m3⟩
    have hd := hr.du (o := (goW K m).1.getD j.toNat 0) m2 (by omega)
    have hts : smL (fun o => tO K o m) ((goW K m).1.take (j.toNat + 1)) = smL (fun o => tO K o m) ((goW K m).1.take j.toNat) + tO K ((goW K m).1.getD j.toNat 0) m := by
      rw [take_s (by omega), smL_app]
    have hs0 := smL_rg (t := fun o => tO K o m) (c := 324) ((goW K m).1.take j.toNat) (fun x hx => by
      obtain ⟨n, hn, e⟩ := List.getElem_of_mem (List.mem_of_mem_take hx)
      have h1 := (hmem n hn).2
      have h2 : (goW K m).1.getD n 0 = x := by
        rw [List.getD_eq_getElem?_getD, List.getElem?_eq_getElem hn]
        exact e
      rw [h2] at h1
      exact tO_0 hr h1)
    obtain ⟨M2, e, r⟩ := hc M4 ⟨f2, fun a x => by rw [g2 a x, g1 a x, i2 a x]⟩
    refine ⟨M2, ?_, r⟩
    rw [show (j + 1).toNat = j.toNat + 1 by omega] at e
    rw [hts] at e hin
    generalize (goW K m).1.getD j.toNat 0 = o at *
    generalize smL (fun o => tO K o m) ((goW K m).1.take j.toNat) = sm at *
    have hj2 : j < ((wyL K m 2).length : Int) - ((goW K m).2.length : Int) := by omega
    rw [r184_4]
    simp (disch := first | assumption | exact e_nk_i _ | exact e_nk_n | exact e_nk_r _ | exact e_bo_0 | exact e_bo_1 | exact e_bo_b _ | omega) only [e_cl_v, e_cl_x, e_add_0, e_add_s, Option.toList_some, Option.toList_none, List.cons_append, List.nil_append, iI_add, iI_sub, iI_mul, iI_lt, iI_eq, iI_le, r184_5, r184_6, r184_9, r184_10, r184_13, r184_14, r184_17, r184_18, r184_21, r184_22, r184_25, r184_26, r184_27, r184_28, r184_31, r184_33, r184_34, r184_35, r184_37, r184_38, r184_41, r184_42, r184_43, r184_44, r184_45, r184_48, r184_50, r184_51, r184_54, r184_55, r184_56, r184_59, h29, e1, e2, e3, e4, iI_vin, iI_nat, if_true, if_pos hj2]
    rw [if_neg (by omega)]
    exact G_less (by repeat (first | exact e_ll.rf | refine e_ll_c ?_ | refine e_ll_x ?_)) e
  · obtain ⟨i1, i2⟩ := hI
    obtain ⟨M3, e1, f1, g1⟩ := x_fewestLate (L := L) (xs := xs) (d := d + 1) (V := V) (W := W) i1 H.g (m := m) (by unfold i32; omega)
    rw [if_pos hm] at e1
    have h29 : M1 184 29 = iI ((wyL K m 2).length : Int) := by rw [i2 184 (by decide)]; exact hN
    refine ⟨M3, ?_, f1, fun a x => by rw [g1 a x, i2 a x]⟩
    rw [r184_4]
    simp (disch := first | assumption | exact e_nk_i _ | exact e_nk_n | exact e_nk_r _ | exact e_bo_0 | exact e_bo_1 | exact e_bo_b _ | omega) only [e_cl_v, e_cl_x, e_add_0, e_add_s, Option.toList_some, Option.toList_none, List.cons_append, List.nil_append, iI_add, iI_sub, iI_mul, iI_lt, iI_eq, iI_le, r184_5, r184_6, r184_9, r184_10, r184_13, r184_14, r184_17, r184_18, r184_62, r184_63, h29, e1]
    rw [if_neg (by omega)]
    rfl
/-- the best ones found are those told, on one machine -/
theorem one_told (hr : kR K) (hm : 0 ≤ m ∧ m ≤ 3) {B B2 : Nat → Int} (hB : (B 0 = 2147483647 ∧ B 1 = 2147483647 ∧ B 2 = 2147483647) ∧ -2147483648 ≤ B 3) (ht : TBx K m (-1) B B2) (hg : ∀ r t, Full K m (-1) r → r = [] ++ t → ∀ i, i < 4 → B2 i ≤ b4 (rvL K m (-1) r) i) : B2 0 = wtW K m ∧ (wyL K m 1 ≠ [] → B2 1 = ltW K m) ∧ B2 2 = ((goW K m).2.length : Int) := by
  have hn := hr.n
  have rg : ∀ r, Full K m (-1) r → rgV r.length (rvL K m (-1) r) := fun r hF => by
    have hl : ∀ x ∈ r, 0 ≤ x ∧ x < K 310 := fun x hx => by have := (hF.2 x).mp hx; exact ⟨this.1, this.2.1⟩
    have h8 := nd_len hn.1 hF.1 hl
    have := rgV_all (m := m) (q := -1) hr r.length (Nat.le_refl _) (by omega) hl
    rw [List.take_length] at this
    exact this
  have f0 := Full_wy (m := m) (w := 0) hr (by omega)
  have f1 := Full_wy (m := m) (w := 1) hr (by omega)
  have f2 := Full_wy (m := m) (w := 2) hr (by omega)
  have up0 := hg _ _ f0 rfl 0 (by omega)
  have up1 := hg _ _ f1 rfl 1 (by omega)
  have up2 := hg _ _ f2 rfl 2 (by omega)
  have a0 : b4 (rvL K m (-1) (wyL K m 0)) 0 = wtW K m := att0 K m
  have a2 : b4 (rvL K m (-1) (wyL K m 2)) 2 ≤ ((goW K m).2.length : Int) := att2 hr
  have r0 := (rg _ f0).2.2.1
  have rw0 : wtW K m = (rvL K m (-1) (wyL K m 0)).2.2.1 := (att0 K m).symm
  obtain ⟨q1, q2⟩ := wy_len (m := m) hr
  have hlen0 : (wyL K m 0).length = (wyL K m 2).length := Full_len f0 f2
  have hlen1 : (wyL K m 1).length = (wyL K m 2).length := Full_len f1 f2
  have low := ht.2 (fun i => if i = 0 then wtW K m else if i = 1 then (if wyL K m 1 = [] then -2147483648 else ltW K m) else if i = 2 then ((goW K m).2.length : Int) else -2147483648) (fun i hi => by
    rcases (show i = 0 ∨ i = 1 ∨ i = 2 ∨ i = 3 by omega) with e | e | e | e <;> subst e
    · show wtW K m ≤ B 0
      omega
    · show (if wyL K m 1 = [] then -2147483648 else ltW K m) ≤ B 1
      split
      · omega
      · have := (ltF_rg (m := m) hr (l := oneL K m false) (fun x hx => by have := oneL_mem hr hx; omega) (oneL K m false).length (Nat.le_refl _)).2.2
        have h2 := oneL_le hr (m := m) (br := false)
        have h3 : ltW K m = (ltF K m (oneL K m false) (oneL K m false).length).2 := rfl
        omega
    · show ((goW K m).2.length : Int) ≤ B 2
      omega
    · show (-2147483648 : Int) ≤ B 3
      omega) (fun r hF i hi => by
    have hrl : r.length = (wyL K m 2).length := Full_len hF f2
    rcases (show i = 0 ∨ i = 1 ∨ i = 2 ∨ i = 3 by omega) with e | e | e | e <;> subst e
    · show wtW K m ≤ (rvL K m (-1) r).2.2.1
      by_cases hne : r = []
      · have h0 : wyL K m 0 = [] := List.length_eq_zero_iff.mp (by rw [hlen0, ← hrl, hne]; rfl)
        rw [rw0, h0, hne]
        exact Int.le_refl _
      · exact one_best (w := 0) hr (by omega) hF hne
    · show (if wyL K m 1 = [] then -2147483648 else ltW K m) ≤ (rvL K m (-1) r).2.2.2.1
      by_cases hne : wyL K m 1 = []
      · rw [if_pos hne]
        exact (rg r hF).2.2.2.1.1
      · rw [if_neg hne]
        have hne2 : r ≠ [] := fun e => hne (List.length_eq_zero_iff.mp (by rw [hlen1, ← hrl, e]; rfl))
        exact one_best (w := 1) hr (by omega) hF hne2
    · show ((goW K m).2.length : Int) ≤ (rvL K m (-1) r).2.2.2.2
      by_cases hne : r = []
      · have h0 : (goW K m).2.length = 0 := by rw [hne] at hrl; simp at hrl; omega
        rw [h0, hne]
        exact Int.le_refl _
      · exact one_best (w := 2) hr (by omega) hF hne
    · show (-2147483648 : Int) ≤ (rvL K m (-1) r).2.1
      have := (rg r hF).2.1.1
      omega)
  have l0 : wtW K m ≤ B2 0 := low 0 (by omega)
  have l1 : (if wyL K m 1 = [] then -2147483648 else ltW K m) ≤ B2 1 := low 1 (by omega)
  have l2 : ((goW K m).2.length : Int) ≤ B2 2 := low 2 (by omega)
  refine ⟨by omega, fun hne => ?_, by omega⟩
  rw [if_neg hne] at l1
  have a1 : b4 (rvL K m (-1) (wyL K m 1)) 1 = ltW K m := att1 hr hne
  omega
theorem two_told (hr : kR K) (hm : 0 ≤ m ∧ m ≤ 3) (hq : 0 ≤ q ∧ q ≤ 3) {B B2 : Nat → Int} (hB : B 3 = 2147483647 ∧ ∀ i, i < 4 → -2147483648 ≤ B i) (ht : TBx K m q B B2) (hg : ∀ r t, Full K m q r → r = [] ++ t → ∀ i, i < 4 → B2 i ≤ b4 (rvL K m q r) i) : B2 3 = twW K m q := by
  have hn := hr.n
  have f0 := Full_two (m := m) (q := q) hr (by omega)
  have up := hg _ _ f0 rfl 3 (by omega)
  have a0 : b4 (rvL K m q (twoL K m q)) 3 = twW K m q := attT K (by omega)
  have rg : ∀ r, Full K m q r → rgV r.length (rvL K m q r) := fun r hF => by
    have hl : ∀ x ∈ r, 0 ≤ x ∧ x < K 310 := fun x hx => by have := (hF.2 x).mp hx; exact ⟨this.1, this.2.1⟩
    have h8 := nd_len hn.1 hF.1 hl
    have := rgV_all (m := m) (q := q) hr r.length (Nat.le_refl _) (by omega) hl
    rw [List.take_length] at this
    exact this
  have hl0 : (twoL K m q).length ≤ 8 := by
    have := nd_len hn.1 f0.1 (fun x hx => by have := (f0.2 x).mp hx; exact ⟨this.1, this.2.1⟩)
    omega
  have r0 := (rg _ f0).2.1
  have e0 : twW K m q = (rvL K m q (twoL K m q)).2.1 := (attT K (by omega)).symm
  have low := ht.2 (fun i => if i = 3 then twW K m q else -2147483648) (fun i hi => by
    have := hB.2 i hi
    show (if i = 3 then twW K m q else -2147483648) ≤ B i
    split
    · next e => subst e; omega
    · omega) (fun r hF i hi => by
    show (if i = 3 then twW K m q else -2147483648) ≤ b4 (rvL K m q r) i
    have hv := rg r hF
    split
    · next e => subst e; exact two_best hr (by omega) hF
    · obtain ⟨r1, r2, r3, r4, r5⟩ := hv
      unfold b4
      split
      · omega
      · split
        · omega
        · split <;> omega) 3 (by omega)
  have low : twW K m q ≤ B2 3 := low
  omega
end El29
