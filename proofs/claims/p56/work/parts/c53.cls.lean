section Ec53
variable {L : Nat} {xs : Nat → Int32} {d : Nat} {M M2 M3 : e_MI} {V V2 : e_ML} {W : e_MD} {K K1 K2 : e_St} {S : Int → e_St} {h : e_H} {t t2 b2 : Nat} {c o w z m k q p i f l e mc tl T x y v N n : Int} {sc bb : Bool} {ρ ν μ χ β ε τ τ2 u : Int → Int}
/-! one machine's late orders go, in the class -/
theorem o_longest (hr : kR K) (hn : n ≤ 8) (hT : e_ar (M 170) n (fun o => tO K o m)) {st : List Int} (h0 : 0 < st.length) (h8 : st.length ≤ 8) (hst : ∀ x ∈ st, 0 ≤ x ∧ x < n) (hl : e_la (M 171) st) : e_lim L xs (d + 2) 21 0 [some (.ref 169), some (.int (iI (st.length : Int))), none, none, none] [] (e_hp M V W) = some (.inl (some (.int (iI ((lgP (fun o => tO K o m) st : Nat) : Int)))), e_hp M V W, 0, 0) := by
  simp (disch := first | assumption | exact e_nk_i _ | exact e_nk_n | exact e_nk_r _ | exact e_bo_0 | exact e_bo_1 | exact e_bo_b _ | omega) only [e_cl_v, e_cl_x, e_add_0, e_add_s, Option.toList_some, Option.toList_none, List.cons_append, List.nil_append, iI_add, iI_sub, iI_mul, iI_lt, iI_eq, iI_le, r21_0, r21_1, r21_2, r21_3]
  have main : e_lim L xs (d + 2) 21 4 [some (.ref 169), some (.int (iI (st.length : Int))), some (.int (iI ((lgF (fun o => tO K o m) st ((1 : Int) - 1).toNat : Nat) : Int))), some (.int (iI 1)), none] [] (e_hp M V W) = some (.inl (some (.int (iI ((lgP (fun o => tO K o m) st : Nat) : Int)))), e_hp M V W, 0, 0) := by
    refine G_loopI (C := fun i => e_lim L xs (d + 2) 21 4 [some (.ref 169), some (.int (iI (st.length : Int))), some (.int (iI ((lgF (fun o => tO K o m) st (i - 1).toNat : Nat) : Int))), some (.int (iI i)), none] [] (e_hp M V W)) (i := 1) (n := st.length) (by omega) (fun j a b hc2 => ?_) ?_
    · obtain ⟨p, hp⟩ : ∃ p : Nat, j = ((p + 1 : Nat) : Int) := ⟨(j - 1).toNat, by omega⟩
      subst hp
      rw [show (((p + 1 : Nat) : Int) + 1 - 1).toNat = p + 1 by omega] at hc2
      show e_lim L xs (d + 2) 21 4 [some (.ref 169), some (.int (iI (st.length : Int))), some (.int (iI ((lgF (fun o => tO K o m) st (((p + 1 : Nat) : Int) - 1).toNat : Nat) : Int))), some (.int (iI ((p + 1 : Nat) : Int))), none] [] (e_hp M V W) = _
      rw [show (((p + 1 : Nat) : Int) - 1).toNat = p by omega]
      have hle := lgF_le (fun o => tO K o m) st p
      have m1 := hst _ (getD_mem (l := st) (i := p + 1) (by omega))
      have m2 := hst _ (getD_mem (l := st) (i := lgF (fun o => tO K o m) st p) (by omega))
      have g1 := m_atI (L := L) (xs := xs) (d := d + 1) (M := M) (V := V) (W := W) (v := iI (st.getD (p + 1) 0)) si_171 (z := ((p + 1 : Nat) : Int)) (by omega) (by omega) (by rw [Int.toNat_natCast]; exact la_get hl (i := p + 1) (by omega))
      have g2 := m_atI (L := L) (xs := xs) (d := d + 1) (M := M) (V := V) (W := W) (v := iI (st.getD (lgF (fun o => tO K o m) st p) 0)) si_171 (z := ((lgF (fun o => tO K o m) st p : Nat) : Int)) (by omega) (by omega) (by rw [Int.toNat_natCast]; exact la_get hl (by omega))
      have e1 := o_timeOf (L := L) (xs := xs) (d := d) (V := V) (W := W) hT (o := st.getD (p + 1) 0) m1 hn
      have e2 := o_timeOf (L := L) (xs := xs) (d := d) (V := V) (W := W) hT (o := st.getD (lgF (fun o => tO K o m) st p) 0) m2 hn
      have r1 := tO_rg hr (o := st.getD (p + 1) 0) (m := m) (by omega)
      have r2 := tO_rg hr (o := st.getD (lgF (fun o => tO K o m) st p) 0) (m := m) (by omega)
      have hs : lgF (fun o => tO K o m) st (p + 1) = if tO K (st.getD (lgF (fun o => tO K o m) st p) 0) m < tO K (st.getD (p + 1) 0) m ∨ (tO K (st.getD (p + 1) 0) m = tO K (st.getD (lgF (fun o => tO K o m) st p) 0) m ∧ st.getD (lgF (fun o => tO K o m) st p) 0 < st.getD (p + 1) 0) then p + 1 else lgF (fun o => tO K o m) st p := rfl
      rw [hs] at hc2
      generalize hq : lgF (fun o => tO K o m) st p = q at *
      have g1' : e_lim L xs (d + 1) 160 0 [some (.ref 171), some (.int (iI ((p + 1 : Nat) : Int)))] [] (e_hp M V W) = some (.inl (some (.int (iI (st.getD (p + 1) 0)))), e_hp M V W, 0, 0) := g1
      generalize st.getD (p + 1) 0 = u1 at *
      generalize st.getD q 0 = u2 at *
      rw [r21_4]
      simp (disch := first | assumption | exact e_nk_i _ | exact e_nk_n | exact e_nk_r _ | exact e_bo_0 | exact e_bo_1 | exact e_bo_b _ | omega) only [e_cl_v, e_cl_x, e_add_0, e_add_s, Option.toList_some, Option.toList_none, List.cons_append, List.nil_append, iI_add, iI_sub, iI_mul, iI_lt, iI_eq, iI_le, r21_5, r21_6, r21_9, r21_10, r21_11, r21_14, r21_15, r21_18, r21_21, r21_22, r21_23, r21_26, r21_27, r21_30, r21_33, r21_34, r21_36, r21_38, r21_41, r21_43, r21_46, r21_47, r21_50, r21_51, r21_54, r21_55, r21_58, r21_59, r21_62, r21_65, r21_66, r21_67, r21_70, g1', g2, e1, e2]
      rw [if_pos (by omega)]
      by_cases z1 : tO K u2 m < tO K u1 m
      · rw [if_pos (Or.inl z1)] at hc2
        first | rw [if_neg (by omega)] | rw [if_pos (by omega)]
        exact G_less (by repeat (first | exact e_ll.rf | refine e_ll_c ?_ | refine e_ll_x ?_)) hc2
      · first | rw [if_pos (by omega)] | rw [if_neg (by omega)]
        by_cases z2 : tO K u1 m = tO K u2 m
        · first | rw [if_pos (by omega)] | rw [if_neg (by omega)]
          by_cases z3 : u2 < u1
          · rw [if_pos (Or.inr ⟨z2, z3⟩)] at hc2
            first | rw [if_pos z3] | rw [if_neg (by omega)]
            exact G_less (by repeat (first | exact e_ll.rf | refine e_ll_c ?_ | refine e_ll_x ?_)) hc2
          · rw [if_neg (fun y => y.elim z1 (fun w => z3 w.2))] at hc2
            first | rw [if_neg z3] | rw [if_pos (by omega)]
            exact G_less (by repeat (first | exact e_ll.rf | refine e_ll_c ?_ | refine e_ll_x ?_)) hc2
        · rw [if_neg (fun y => y.elim z1 (fun w => z2 w.1))] at hc2
          rw [if_neg (by omega)]
          exact G_less (by repeat (first | exact e_ll.rf | refine e_ll_c ?_ | refine e_ll_x ?_)) hc2
    · rw [r21_4]
      simp (disch := first | assumption | exact e_nk_i _ | exact e_nk_n | exact e_nk_r _ | exact e_bo_0 | exact e_bo_1 | exact e_bo_b _ | omega) only [e_cl_v, e_cl_x, e_add_0, e_add_s, Option.toList_some, Option.toList_none, List.cons_append, List.nil_append, iI_add, iI_sub, iI_mul, iI_lt, iI_eq, iI_le, r21_5, r21_6, r21_73, r21_74]
      rw [if_neg (by omega)]
      rw [show ((st.length : Int) - 1).toNat = st.length - 1 by omega]
      rfl
  exact main
theorem o_closeGap {st : List Int} {q : Nat} (hq : q < st.length) (h8 : st.length ≤ 8) (hl : e_la (M 171) st) : ∃ M2 : e_MI, e_lim L xs (d + 1) 22 0 [some (.ref 169), some (.int (iI (q : Int))), some (.int (iI ((st.length - 1 : Nat) : Int))), none] [] (e_hp M V W) = some (.inl none, e_hp M2 V W, 0, 0) ∧ e_la (M2 171) (st.eraseIdx q) ∧ (∀ i, st.length ≤ i → M2 171 i = M 171 i) ∧ ∀ a, a ≠ 171 → M2 a = M a := by
  have key := G_lp (i := (q : Int)) (n := ((st.length - 1 : Nat) : Int)) (I := fun i M1 => (∀ a, a ≠ 171 → M1 a = M a) ∧ (∀ (j : Nat) (x : Int), (j : Int) < i → (st.eraseIdx q)[j]? = some x → M1 171 j = iI x) ∧ ∀ j : Nat, i ≤ (j : Int) → M1 171 j = M 171 j) (P := fun i M1 => ∃ M2 : e_MI, e_lim L xs (d + 1) 22 2 [some (.ref 169), some (.int (iI (q : Int))), some (.int (iI ((st.length - 1 : Nat) : Int))), some (.int (iI i))] [] (e_hp M1 V W) = some (.inl none, e_hp M2 V W, 0, 0) ∧ e_la (M2 171) (st.eraseIdx q) ∧ (∀ i, st.length ≤ i → M2 171 i = M 171 i) ∧ ∀ a, a ≠ 171 → M2 a = M a) (fun j M1 a b hI hc2 => ?_) (fun M1 hI => ?_) (by omega) M ⟨fun _ _ => rfl, fun j x hj hx => ?_, fun _ _ => rfl⟩
  · obtain ⟨M2, e, r⟩ := key
    refine ⟨M2, ?_, r⟩
    rw [← e]
    simp (disch := first | assumption | exact e_nk_i _ | exact e_nk_n | exact e_nk_r _ | exact e_bo_0 | exact e_bo_1 | exact e_bo_b _ | omega) only [e_cl_v, e_cl_x, e_add_0, e_add_s, Option.toList_some, Option.toList_none, List.cons_append, List.nil_append, iI_add, iI_sub, iI_mul, iI_lt, iI_eq, iI_le, r22_0, r22_1]
  · obtain ⟨i1, i2, i3⟩ := hI
    obtain ⟨p, hp⟩ : ∃ p : Nat, j = (p : Int) := ⟨j.toNat, by omega⟩
    subst hp
    have ht : ((p : Int) + 1).toNat = p + 1 := by omega
    have g1 := m_atI (L := L) (xs := xs) (d := d) (M := M1) (V := V) (W := W) (v := iI (st.getD (p + 1) 0)) si_171 (z := (p : Int) + 1) (by omega) (by omega) (by
      rw [ht, i3 (p + 1) (by omega)]
      exact la_get hl (by omega))
    have e3 := m_putI (L := L) (xs := xs) (d := d) (M := M1) (V := V) (W := W) (v := iI (st.getD (p + 1) 0)) si_171 (z := (p : Int)) (by omega) (by omega)
    rw [Int.toNat_natCast] at e3
    obtain ⟨M2, e, r⟩ := hc2 (e_u M1 171 (upd (M1 171) p (iI (st.getD (p + 1) 0)))) ⟨fun a ha => by rw [e_u_n _ _ ha, i1 a ha], fun i x hi hx => by
      rw [e_u_s]
      by_cases hz : i = p
      · subst hz
        rw [upd_s]
        rw [List.getElem?_eraseIdx, if_neg (by omega), List.getElem?_eq_getElem (by omega)] at hx
        rw [List.getD_eq_getElem?_getD, List.getElem?_eq_getElem (by omega)]
        injection hx with hx
        rw [hx]
        rfl
      · rw [upd_n _ _ hz]
        exact i2 i x (by omega) hx, fun i hi => by
      rw [e_u_s, upd_n _ _ (by omega), i3 i (by omega)]⟩
    refine ⟨M2, ?_, r⟩
    rw [← e, r22_2]
    simp (disch := first | assumption | exact e_nk_i _ | exact e_nk_n | exact e_nk_r _ | exact e_bo_0 | exact e_bo_1 | exact e_bo_b _ | omega) only [e_cl_v, e_cl_x, e_add_0, e_add_s, Option.toList_some, Option.toList_none, List.cons_append, List.nil_append, iI_add, iI_sub, iI_mul, iI_lt, iI_eq, iI_le, r22_3, r22_4, r22_7, r22_8, r22_11, r22_12, r22_13, r22_16, r22_17, r22_18, r22_19, r22_22, r22_25, r22_28, g1, e3]
    rw [if_pos b]
  · obtain ⟨i1, i2, i3⟩ := hI
    refine ⟨M1, ?_, fun i x hx => ?_, fun i hi => i3 i (by omega), i1⟩
    · rw [r22_2]
      simp (disch := first | assumption | exact e_nk_i _ | exact e_nk_n | exact e_nk_r _ | exact e_bo_0 | exact e_bo_1 | exact e_bo_b _ | omega) only [e_cl_v, e_cl_x, e_add_0, e_add_s, Option.toList_some, Option.toList_none, List.cons_append, List.nil_append, iI_add, iI_sub, iI_mul, iI_lt, iI_eq, iI_le, r22_3, r22_4, r22_31]
      rw [if_neg (by omega)]
    · have hi : i < (st.eraseIdx q).length := (List.getElem?_eq_some_iff.mp hx).1
      rw [List.length_eraseIdx, if_pos hq] at hi
      exact i2 i x (by omega) hx
  · rw [List.getElem?_eraseIdx, if_pos (by omega)] at hx
    exact hl j x hx
/-- how far one machine's orders are gone through, in the class -/
def goC (M : e_MI) (s : List Int × List Int) (k : Nat) (l : List Int) : Prop := e_la (M 171) s.1 ∧ e_la (M 172) s.2 ∧ (∀ i x, k ≤ i → l[i]? = some x → M 171 i = iI x) ∧ M 169 3 = iI (l.length : Int) ∧ M 169 4 = iI (s.2.length : Int)
theorem goS_in {t u : Int → Int} {s : List Int × List Int} {o : Int} (h2 : ∀ x, (x ∈ s.1 ∨ x ∈ s.2) → 0 ≤ x ∧ x < n) (ho : 0 ≤ o ∧ o < n) : ∀ x, (x ∈ (goS t u s o).1 ∨ x ∈ (goS t u s o).2) → 0 ≤ x ∧ x < n := by
  have hl : lgP t (s.1 ++ [o]) < (s.1 ++ [o]).length := by
    have := lgF_le t (s.1 ++ [o]) ((s.1 ++ [o]).length - 1)
    unfold lgP
    rw [List.length_append, List.length_singleton] at *
    omega
  have hm : ∀ x ∈ s.1 ++ [o], 0 ≤ x ∧ x < n := fun x hx => by
    rw [List.mem_append, List.mem_singleton] at hx
    rcases hx with y | y
    · exact h2 x (Or.inl y)
    · rw [y]; exact ho
  unfold goS
  split
  · intro x hx
    rcases hx with y | y
    · exact hm x y
    · exact h2 x (Or.inr y)
  · intro x hx
    rcases hx with y | y
    · exact hm x (List.mem_of_mem_eraseIdx y)
    · rw [List.mem_append, List.mem_singleton] at y
      rcases y with y | y
      · exact h2 x (Or.inr y)
      · rw [y]
        exact hm _ (getD_mem hl)
theorem o_goStep (H : SH M 1 K) (hr : kR K) (hT : e_ar (M 170) (K 310) (fun o => tO K o m)) {s : List Int × List Int} {l : List Int} {k : Nat} {o : Int} (ho : l[k]? = some o) (hl8 : l.length ≤ 8) (hml : ∀ x ∈ l, 0 ≤ x ∧ x < K 310) (hs1 : s.1.length + s.2.length ≤ k) (hs2 : ∀ x, (x ∈ s.1 ∨ x ∈ s.2) → 0 ≤ x ∧ x < K 310) (hI : goC M s k l) : ∃ M2 : e_MI, goC M2 (goS (fun o => tO K o m) (fun o => K (24 + o)) s o) (k + 1) l ∧ (∀ a, a ≠ 169 → a ≠ 171 → a ≠ 172 → M2 a = M a) ∧ ∀ r, e_lim L xs (d + 3) 20 7 [some (.ref 169), some (.ref 1), some (.int (iI ((goS (fun o => tO K o m) (fun o => K (24 + o)) s o).1.length : Int))), some (.int (iI (smL (fun o => tO K o m) (goS (fun o => tO K o m) (fun o => K (24 + o)) s o).1))), some (.int (iI ((k + 1 : Nat) : Int))), none, none] [] (e_hp M2 V W) = some r → e_lim L xs (d + 3) 20 7 [some (.ref 169), some (.ref 1), some (.int (iI (s.1.length : Int))), some (.int (iI (smL (fun o => tO K o m) s.1))), some (.int (iI (k : Int))), none, none] [] (e_hp M V W) = some r := by
  obtain ⟨h1, h2, h3, h4, h5⟩ := hI
  have hn8 := hr.n
  have hk : k < l.length := (List.getElem?_eq_some_iff.mp ho).1
  have ho7 := hml o (List.mem_of_getElem? ho)
  have g0 := m_atI (L := L) (xs := xs) (d := d + 2) (M := M) (V := V) (W := W) (v := iI o) si_171 (z := (k : Int)) (by omega) (by omega) (by rw [Int.toNat_natCast]; exact h3 k o (Nat.le_refl _) ho)
  have r1 := tO_rg hr (o := o) (m := m) (by omega)
  have r2 := hr.du (o := o) ho7.1 (by omega)
  have r3 := smL_rg (t := fun o => tO K o m) (c := 324) s.1 (fun x hx => tO_rg hr (by have := hs2 x (Or.inl hx); omega))
  have p1 := m_putI (L := L) (xs := xs) (d := d + 2) (M := M) (V := V) (W := W) (v := iI o) si_171 (z := (s.1.length : Int)) (by omega) (by omega)
  rw [Int.toNat_natCast] at p1
  obtain ⟨M1, hM1⟩ : ∃ M1 : e_MI, M1 = e_u M 171 (upd (M 171) s.1.length (iI o)) := ⟨_, rfl⟩
  rw [← hM1] at p1
  have m1 : ∀ a, a ≠ 171 → M1 a = M a := fun a x => by rw [hM1, e_u_n _ _ x]
  have m4 : e_la (M1 171) (s.1 ++ [o]) := by
    rw [hM1, e_u_s]
    exact la_app h1 o
  have m5 : ∀ i x, k + 1 ≤ i → l[i]? = some x → M1 171 i = iI x := fun i x hi hx => by
    rw [hM1, e_u_s, upd_n _ _ (by omega)]
    exact h3 i x (by omega) hx
  have hT1 : e_ar (M1 170) (K 310) (fun o => tO K o m) := by rw [m1 170 (by decide)]; exact hT
  have H1 : SH M1 1 K := H.of fun a x y => m1 a (by omega)
  have e1 := o_timeOf (L := L) (xs := xs) (d := d + 1) (V := V) (W := W) hT1 (o := o) ho7 hn8.2
  have e2 := s_orderCell (L := L) (xs := xs) (d := d + 1) (V := V) (W := W) H1 hn8.2 ho7.1 ho7.2 (j := 3) (by omega) (by omega)
  rw [show 8 * 3 + o = 24 + o by omega] at e2
  have hlen : ((s.1 ++ [o]).length : Int) = (s.1.length : Int) + 1 := by
    rw [List.length_append, List.length_singleton]
    rfl
  have hsm : smL (fun o => tO K o m) (s.1 ++ [o]) = smL (fun o => tO K o m) s.1 + tO K o m := smL_app _ _ _
  have seg : e_lim L xs (d + 3) 20 7 [some (.ref 169), some (.ref 1), some (.int (iI (s.1.length : Int))), some (.int (iI (smL (fun o => tO K o m) s.1))), some (.int (iI (k : Int))), none, none] [] (e_hp M V W) = if smL (fun o => tO K o m) (s.1 ++ [o]) ≤ K (24 + o) then e_lim L xs (d + 3) 20 123 [some (.ref 169), some (.ref 1), some (.int (iI ((s.1 ++ [o]).length : Int))), some (.int (iI (smL (fun o => tO K o m) (s.1 ++ [o])))), some (.int (iI (k : Int))), some (.int (iI o)), none] [] (e_hp M1 V W) else e_lim L xs (d + 3) 20 60 [some (.ref 169), some (.ref 1), some (.int (iI ((s.1 ++ [o]).length : Int))), some (.int (iI (smL (fun o => tO K o m) (s.1 ++ [o])))), some (.int (iI (k : Int))), some (.int (iI o)), none] [] (e_hp M1 V W) := by
    rw [hlen, hsm]
    rw [r20_7]
    generalize smL (fun o => tO K o m) s.1 = sm at *
    simp (disch := first | assumption | exact e_nk_i _ | exact e_nk_n | exact e_nk_r _ | exact e_bo_0 | exact e_bo_1 | exact e_bo_b _ | omega) only [e_cl_v, e_cl_x, e_add_0, e_add_s, Option.toList_some, Option.toList_none, List.cons_append, List.nil_append, iI_add, iI_sub, iI_mul, iI_lt, iI_eq, iI_le, r20_9, r20_10, r20_13, r20_16, r20_17, r20_20, r20_22, r20_25, r20_27, r20_28, r20_31, r20_32, r20_34, r20_37, r20_40, r20_41, r20_42, r20_44, r20_47, r20_48, r20_49, r20_50, r20_51, r20_53, r20_54, r20_57, h4, g0, p1, e1, e2]
    rw [if_pos (by omega)]
    by_cases hq : sm + tO K o m ≤ K (24 + o)
    · rw [if_pos hq]
      first | rw [if_neg (by omega)] | rw [if_pos (by omega)]
    · rw [if_neg hq]
      first | rw [if_pos (by omega)] | rw [if_neg (by omega)]
  have hgo : goS (fun o => tO K o m) (fun o => K (24 + o)) s o = if smL (fun o => tO K o m) (s.1 ++ [o]) ≤ K (24 + o) then (s.1 ++ [o], s.2) else ((s.1 ++ [o]).eraseIdx (lgP (fun o => tO K o m) (s.1 ++ [o])), s.2 ++ [(s.1 ++ [o]).getD (lgP (fun o => tO K o m) (s.1 ++ [o])) 0]) := rfl
  rw [hgo, seg]
  by_cases hq : smL (fun o => tO K o m) (s.1 ++ [o]) ≤ K (24 + o)
  · rw [if_pos hq, if_pos hq]
    refine ⟨M1, ⟨m4, by rw [m1 172 (by decide)]; exact h2, m5, by rw [m1 169 (by decide)]; exact h4, by rw [m1 169 (by decide)]; exact h5⟩, fun a x y z => m1 a y, fun R hR => ?_⟩
    have e' := G_less (l := [some (.ref 169), some (.ref 1), some (.int (iI ((s.1 ++ [o]).length : Int))), some (.int (iI (smL (fun o => tO K o m) (s.1 ++ [o])))), some (.int (iI ((k + 1 : Nat) : Int))), some (.int (iI o)), none]) (by repeat (first | exact e_ll.rf | refine e_ll_c ?_ | refine e_ll_x ?_)) hR
    rw [← e']
    simp (disch := first | assumption | exact e_nk_i _ | exact e_nk_n | exact e_nk_r _ | exact e_bo_0 | exact e_bo_1 | exact e_bo_b _ | omega) only [e_cl_v, e_cl_x, e_add_0, e_add_s, Option.toList_some, Option.toList_none, List.cons_append, List.nil_append, iI_add, iI_sub, iI_mul, iI_lt, iI_eq, iI_le, r20_123, r20_126]
    rfl
  · rw [if_neg hq, if_neg hq]
    have hst : ∀ x ∈ s.1 ++ [o], 0 ≤ x ∧ x < K 310 := fun x hx => by
      rw [List.mem_append, List.mem_singleton] at hx
      rcases hx with y | y
      · exact hs2 x (Or.inl y)
      · rw [y]; exact ho7
    have hl1 : (s.1 ++ [o]).length = s.1.length + 1 := by rw [List.length_append, List.length_singleton]
    have hlt : lgP (fun o => tO K o m) (s.1 ++ [o]) < (s.1 ++ [o]).length := by
      have := lgF_le (fun o => tO K o m) (s.1 ++ [o]) ((s.1 ++ [o]).length - 1)
      unfold lgP
      omega
    have e3 := o_longest (L := L) (xs := xs) (d := d) (V := V) (W := W) hr hn8.2 hT1 (st := s.1 ++ [o]) (by omega) (by omega) hst m4
    have hgd := hst _ (getD_mem hlt)
    have e4 := m_atI (L := L) (xs := xs) (d := d + 2) (M := M1) (V := V) (W := W) (v := iI ((s.1 ++ [o]).getD (lgP (fun o => tO K o m) (s.1 ++ [o])) 0)) si_171 (z := ((lgP (fun o => tO K o m) (s.1 ++ [o]) : Nat) : Int)) (by omega) (by omega) (by rw [Int.toNat_natCast]; exact la_get m4 hlt)
    have e5 := o_timeOf (L := L) (xs := xs) (d := d + 1) (V := V) (W := W) hT1 (o := (s.1 ++ [o]).getD (lgP (fun o => tO K o m) (s.1 ++ [o])) 0) hgd hn8.2
    have hera := smL_era (fun o => tO K o m) (s.1 ++ [o]) (lgP (fun o => tO K o m) (s.1 ++ [o])) hlt
    have r5 := tO_rg hr (o := (s.1 ++ [o]).getD (lgP (fun o => tO K o m) (s.1 ++ [o])) 0) (m := m) (by omega)
    have c4 : M1 169 4 = iI (s.2.length : Int) := by rw [m1 169 (by decide)]; exact h5
    generalize hg : (s.1 ++ [o]).getD (lgP (fun o => tO K o m) (s.1 ++ [o])) 0 = gd at *
    have p2 := m_putI (L := L) (xs := xs) (d := d + 2) (M := M1) (V := V) (W := W) (v := iI gd) si_172 (z := (s.2.length : Int)) (by omega) (by omega)
    rw [Int.toNat_natCast] at p2
    obtain ⟨M4, hM4⟩ : ∃ M4 : e_MI, M4 = e_u (e_u M1 172 (upd (M1 172) s.2.length (iI gd))) 169 (upd (M1 169) 4 (iI ((s.2.length : Int) + 1))) := ⟨_, rfl⟩
    have m6 : ∀ a, a ≠ 169 → a ≠ 172 → M4 a = M1 a := fun a x y => by rw [hM4, e_u_n _ _ x, e_u_n _ _ y]
    have e6' := o_closeGap (L := L) (xs := xs) (d := d + 1) (M := M4) (V := V) (W := W) (st := s.1 ++ [o]) (q := lgP (fun o => tO K o m) (s.1 ++ [o])) hlt (by omega) (by rw [m6 171 (by decide) (by decide)]; exact m4)
    obtain ⟨M2, e6, r6, r7, r8⟩ := e6'
    have hl2 : (((s.1 ++ [o]).length - 1 : Nat) : Int) = (s.1.length : Int) := by omega
    rw [hl2] at e6
    refine ⟨M2, ⟨r6, ?_, fun i x hi hx => ?_, ?_, ?_⟩, fun a x y z => by rw [r8 a y, m6 a x z, m1 a y], fun R hR => ?_⟩
    · rw [r8 172 (by decide), hM4, e_u_n _ _ (by decide), e_u_s, m1 172 (by decide)]
      exact la_app h2 gd
    · rw [r7 i (by omega), m6 171 (by decide) (by decide)]
      exact m5 i x hi hx
    · rw [r8 169 (by decide), hM4, e_u_s, upd_n _ _ (by decide), m1 169 (by decide)]
      exact h4
    · rw [r8 169 (by decide), hM4, e_u_s, upd_s, List.length_append, List.length_singleton]
      rfl
    · have e' := G_less (l := [some (.ref 169), some (.ref 1), some (.int (iI ((s.1 ++ [o]).eraseIdx (lgP (fun o => tO K o m) (s.1 ++ [o]))).length)), some (.int (iI (smL (fun o => tO K o m) ((s.1 ++ [o]).eraseIdx (lgP (fun o => tO K o m) (s.1 ++ [o])))))), some (.int (iI ((k + 1 : Nat) : Int))), some (.int (iI o)), some (.int (iI ((lgP (fun o => tO K o m) (s.1 ++ [o]) : Nat) : Int)))]) (by repeat (first | exact e_ll.rf | refine e_ll_c ?_ | refine e_ll_x ?_)) hR
      rw [← e', hera, List.length_eraseIdx, if_pos hlt, hl2, hlen]
      generalize lgP (fun o => tO K o m) (s.1 ++ [o]) = lg at *
      generalize smL (fun o => tO K o m) (s.1 ++ [o]) = sm at *
      rw [hlen] at e3
      simp (disch := first | assumption | exact e_nk_i _ | exact e_nk_n | exact e_nk_r _ | exact e_bo_0 | exact e_bo_1 | exact e_bo_b _ | omega) only [e_cl_v, e_cl_x, e_add_0, e_add_s, Option.toList_some, Option.toList_none, List.cons_append, List.nil_append, iI_add, iI_sub, iI_mul, iI_lt, iI_eq, iI_le, r20_60, r20_61, r20_62, r20_65, r20_67, r20_68, r20_69, r20_70, r20_73, r20_75, r20_78, r20_81, r20_82, r20_83, r20_84, r20_87, r20_88, r20_91, r20_92, r20_95, r20_97, r20_100, r20_103, r20_104, r20_105, r20_108, r20_109, r20_110, r20_113, r20_116, r20_117, r20_119, r20_120, r20_123, r20_126, e3, e4, e5, c4, p2, e_u_n]
      rw [← hM4]
      simp
      have ea : (s.1.length : Int) + 1 + -1 = (s.1.length : Int) := by omega
      rw [ea]
      simp (disch := first | assumption | exact e_nk_i _ | exact e_nk_n | exact e_nk_r _ | exact e_bo_0 | exact e_bo_1 | exact e_bo_b _ | omega) only [e_cl_v, e_cl_x, e_add_0, e_add_s, Option.toList_some, Option.toList_none, List.cons_append, List.nil_append, iI_add, iI_sub, iI_mul, iI_lt, iI_eq, iI_le, r20_116, r20_117, r20_119, r20_120, r20_123, r20_126, e6]
end Ec53
