section E62
variable {L : Nat} {xs : Nat → Int32} {d : Nat} {M : e_MI} {V : e_ML} {W : e_MD} {K : e_St} {h : e_H} {ρ ω β ε ρ2 ω2 β2 ε2 τ : Int → Int} {k : Int}
/-- the place of the longest of the first ones -/
def lgF (t : Int → Int) (l : List Int) : Nat → Nat
  | 0 => 0
  | p + 1 => if t (l.getD (lgF t l p) 0) < t (l.getD (p + 1) 0) ∨ (t (l.getD (p + 1) 0) = t (l.getD (lgF t l p) 0) ∧ l.getD (lgF t l p) 0 < l.getD (p + 1) 0) then p + 1 else lgF t l p
def lgP (t : Int → Int) (l : List Int) : Nat := lgF t l (l.length - 1)
theorem lgF_le (t : Int → Int) (l : List Int) : ∀ p : Nat, lgF t l p ≤ p
  | 0 => Nat.le_refl _
  | p + 1 => by
    have := lgF_le t l p
    unfold lgF
    split <;> omega
def smL (t : Int → Int) (l : List Int) : Int := (l.map t).sum
theorem smL_app (t : Int → Int) (l : List Int) (o : Int) : smL t (l ++ [o]) = smL t l + t o := by
  unfold smL
  rw [List.map_append, List.sum_append]
  simp
theorem smL_rg {t : Int → Int} {c : Int} : ∀ l : List Int, (∀ x ∈ l, 0 ≤ t x ∧ t x ≤ c) → 0 ≤ smL t l ∧ smL t l ≤ (l.length : Int) * c
  | [], _ => by unfold smL; simp
  | x :: l, h => by
    have ih := smL_rg l (fun y hy => h y (List.mem_cons_of_mem x hy))
    have hx := h x List.mem_cons_self
    have e : smL t (x :: l) = t x + smL t l := by unfold smL; simp
    rw [e, List.length_cons]
    have : ((l.length + 1 : Nat) : Int) * c = (l.length : Int) * c + c := by rw [Int.natCast_add, Int.add_mul]; simp
    omega
theorem smL_era (t : Int → Int) : ∀ (l : List Int) (p : Nat), p < l.length → smL t (l.eraseIdx p) = smL t l - t (l.getD p 0)
  | [], p, h => by simp at h
  | x :: l, 0, _ => by unfold smL; simp; omega
  | x :: l, p + 1, h => by
    have ih := smL_era t l p (by simpa using h)
    have e1 : smL t (x :: l) = t x + smL t l := by unfold smL; simp
    have e2 : smL t ((x :: l).eraseIdx (p + 1)) = t x + smL t (l.eraseIdx p) := by unfold smL; simp
    rw [e1, e2, ih, List.getD_cons_succ]
    omega
/-- one order more, and the longest goes where it would be late -/
def goS (t u : Int → Int) (s : List Int × List Int) (o : Int) : List Int × List Int :=
  if smL t (s.1 ++ [o]) ≤ u o then (s.1 ++ [o], s.2) else ((s.1 ++ [o]).eraseIdx (lgP t (s.1 ++ [o])), s.2 ++ [(s.1 ++ [o]).getD (lgP t (s.1 ++ [o])) 0])
def goL (t u : Int → Int) (l : List Int) : List Int × List Int := l.foldl (goS t u) ([], [])
theorem la_get {f : Nat → Int32} {l : List Int} (h : e_la f l) {i : Nat} (hi : i < l.length) : f i = iI (l.getD i 0) := by
  refine h i _ ?_
  rw [List.getD_eq_getElem?_getD, List.getElem?_eq_getElem hi]
  rfl
theorem la_app {f : Nat → Int32} {l : List Int} (h : e_la f l) (o : Int) : e_la (upd f l.length (iI o)) (l ++ [o]) := by
  have := ho_pu (o := o) (ho_in h)
  exact this
theorem getD_mem {l : List Int} {i : Nat} (hi : i < l.length) : l.getD i 0 ∈ l := by
  rw [List.getD_eq_getElem?_getD, List.getElem?_eq_getElem hi]
  exact List.getElem_mem hi
theorem mm_goLongest (hK : e_KM M K) (hr : kR K) {m : Int} (hm : 0 ≤ m ∧ m ≤ 3) {st : List Int} (h0 : 0 < st.length) (h8 : st.length ≤ 8) (hst : ∀ x ∈ st, 0 ≤ x ∧ x ≤ 7) (hl : e_la (M 196) st) (hc : M 184 17 = iI (st.length : Int)) {l2 l3 l4 l5 : Option Value} (n5 : e_nk l5 = true) {r : e_R} (he : e_lim L xs (d + 2) 251 168 [some (.ref 184), some (.int (iI m)), l2, l3, l4, l5, some (.int (iI (lgP (fun o => tO K o m) st : Nat))), none, none, none] [] (e_hp M V W) = some r) : e_lim L xs (d + 2) 251 90 [some (.ref 184), some (.int (iI m)), l2, l3, l4, l5, some (.int (iI 0)), some (.int (iI 1)), none, none] [] (e_hp M V W) = some r := by
  refine G_loopI (C := fun i => e_lim L xs (d + 2) 251 90 [some (.ref 184), some (.int (iI m)), l2, l3, l4, l5, some (.int (iI ((lgF (fun o => tO K o m) st (i - 1).toNat : Nat) : Int))), some (.int (iI i)), none, none] [] (e_hp M V W)) (i := 1) (n := st.length) (by omega) (fun j a b hc2 => ?_) ?_
  · obtain ⟨p, hp⟩ : ∃ p : Nat, j = ((p + 1 : Nat) : Int) := ⟨(j - 1).toNat, by omega⟩
    subst hp
    rw [show (((p + 1 : Nat) : Int) + 1 - 1).toNat = p + 1 by omega] at hc2
    show e_lim L xs (d + 2) 251 90 [some (.ref 184), some (.int (iI m)), l2, l3, l4, l5, some (.int (iI ((lgF (fun o => tO K o m) st (((p + 1 : Nat) : Int) - 1).toNat : Nat) : Int))), some (.int (iI ((p + 1 : Nat) : Int))), none, none] [] (e_hp M V W) = some r
    rw [show (((p + 1 : Nat) : Int) - 1).toNat = p by omega]
    have hle := lgF_le (fun o => tO K o m) st p
    have g1 := la_get hl (i := p + 1) (by omega)
    have g2 := la_get hl (i := lgF (fun o => tO K o m) st p) (by omega)
    have m1 := hst _ (getD_mem (l := st) (i := p + 1) (by omega))
    have m2 := hst _ (getD_mem (l := st) (i := lgF (fun o => tO K o m) st p) (by omega))
    have e1 := mm_timeOn (L := L) (xs := xs) (d := d) (V := V) (W := W) hK hr (o := st.getD (p + 1) 0) (m := m) m1 hm
    have e2 := mm_timeOn (L := L) (xs := xs) (d := d) (V := V) (W := W) hK hr (o := st.getD (lgF (fun o => tO K o m) st p) 0) (m := m) m2 hm
    have r1 := tO_rg hr (o := st.getD (p + 1) 0) (m := m) m1
    have r2 := tO_rg hr (o := st.getD (lgF (fun o => tO K o m) st p) 0) (m := m) m2
    have hs : lgF (fun o => tO K o m) st (p + 1) = if tO K (st.getD (lgF (fun o => tO K o m) st p) 0) m < tO K (st.getD (p + 1) 0) m ∨ (tO K (st.getD (p + 1) 0) m = tO K (st.getD (lgF (fun o => tO K o m) st p) 0) m ∧ st.getD (lgF (fun o => tO K o m) st p) 0 < st.getD (p + 1) 0) then p + 1 else lgF (fun o => tO K o m) st p := rfl
    rw [hs] at hc2
    generalize hq : lgF (fun o => tO K o m) st p = q at *
    rw [r251_90]
    simp (disch := first | assumption | exact e_nk_i _ | exact e_nk_n | exact e_nk_r _ | exact e_bo_0 | exact e_bo_1 | exact e_bo_b _ | omega) only [e_cl_v, e_cl_x, e_add_0, e_add_s, Option.toList_some, Option.toList_none, List.cons_append, List.nil_append, iI_add, iI_sub, iI_mul, iI_lt, iI_eq, iI_le, r251_92, r251_93, r251_96, r251_99, r251_100, r251_101, r251_104, r251_106, r251_107, r251_108, r251_111, r251_113, r251_114, r251_115, r251_118, r251_120, r251_121, r251_122, r251_125, r251_127, r251_129, r251_131, r251_134, r251_136, r251_138, r251_141, r251_142, r251_145, r251_147, r251_148, r251_149, r251_152, r251_154, r251_155, r251_158, r251_160, r251_162, r251_165, iI_vin, iI_nat, if_true, hc, Int.toNat_natCast, g1, g2, e1, e2]
    rw [if_pos (by omega)]
    by_cases z1 : tO K (st.getD q 0) m < tO K (st.getD (p + 1) 0) m
    · rw [if_pos (Or.inl z1)] at hc2
      rw [if_pos z1]
      exact G_less (by repeat (first | exact e_ll.rf | refine e_ll_c ?_ | refine e_ll_x ?_)) hc2
    · rw [if_neg z1]
      by_cases z2 : tO K (st.getD (p + 1) 0) m = tO K (st.getD q 0) m
      · rw [if_pos z2]
        by_cases z3 : st.getD q 0 < st.getD (p + 1) 0
        · rw [if_pos (Or.inr ⟨z2, z3⟩)] at hc2
          rw [if_pos z3]
          exact G_less (by repeat (first | exact e_ll.rf | refine e_ll_c ?_ | refine e_ll_x ?_)) hc2
        · rw [if_neg (fun y => y.elim z1 (fun w => z3 w.2))] at hc2
          rw [if_neg z3]
          exact G_less (by repeat (first | exact e_ll.rf | refine e_ll_c ?_ | refine e_ll_x ?_)) hc2
      · rw [if_neg (fun y => y.elim z1 (fun w => z2 w.1))] at hc2
        rw [if_neg z2]
        exact G_less (by repeat (first | exact e_ll.rf | refine e_ll_c ?_ | refine e_ll_x ?_)) hc2
  · rw [r251_90]
    simp (disch := first | assumption | exact e_nk_i _ | exact e_nk_n | exact e_nk_r _ | exact e_bo_0 | exact e_bo_1 | exact e_bo_b _ | omega) only [e_cl_v, e_cl_x, e_add_0, e_add_s, Option.toList_some, Option.toList_none, List.cons_append, List.nil_append, iI_add, iI_sub, iI_mul, iI_lt, iI_eq, iI_le, r251_92, r251_93, r251_96, hc]
    rw [if_neg (by omega)]
    rw [show ((st.length : Int) - 1).toNat = st.length - 1 by omega]
    exact G_less (by repeat (first | exact e_ll.rf | refine e_ll_c ?_ | refine e_ll_x ?_)) he
theorem mm_goGap {st : List Int} {q : Nat} (hq : q < st.length) (h8 : st.length ≤ 8) (hl : e_la (M 196) st) (hc : M 184 17 = iI ((st.length - 1 : Nat) : Int)) {l1 l2 l3 l4 l5 l6 : Option Value} (n6 : e_nk l6 = true) : ∃ M2 : e_MI, e_lim L xs d 251 223 [some (.ref 184), l1, l2, l3, l4, l5, l6, some (.int (iI (q : Int))), none, none] [] (e_hp M V W) = e_lim L xs d 251 254 [some (.ref 184), l1, l2, l3, l4, l5, l6, some (.int (iI ((st.length - 1 : Nat) : Int))), none, none] [] (e_hp M2 V W) ∧ e_la (M2 196) (st.eraseIdx q) ∧ (∀ i, st.length ≤ i → M2 196 i = M 196 i) ∧ ∀ a, a ≠ 196 → M2 a = M a := by
  have key := G_lp (i := (q : Int)) (n := ((st.length - 1 : Nat) : Int)) (I := fun i M1 => (∀ a, a ≠ 196 → M1 a = M a) ∧ (∀ (j : Nat) (x : Int), (j : Int) < i → (st.eraseIdx q)[j]? = some x → M1 196 j = iI x) ∧ ∀ j : Nat, i ≤ (j : Int) → M1 196 j = M 196 j) (P := fun i M1 => ∃ M2 : e_MI, e_lim L xs d 251 223 [some (.ref 184), l1, l2, l3, l4, l5, l6, some (.int (iI i)), none, none] [] (e_hp M1 V W) = e_lim L xs d 251 254 [some (.ref 184), l1, l2, l3, l4, l5, l6, some (.int (iI ((st.length - 1 : Nat) : Int))), none, none] [] (e_hp M2 V W) ∧ e_la (M2 196) (st.eraseIdx q) ∧ (∀ i, st.length ≤ i → M2 196 i = M 196 i) ∧ ∀ a, a ≠ 196 → M2 a = M a) (fun j M1 a b hI hc2 => ?_) (fun M1 hI => ?_) (by omega) M ⟨fun _ _ => rfl, fun j x hj hx => ?_, fun _ _ => rfl⟩
  · exact key
  · obtain ⟨i1, i2, i3⟩ := hI
    obtain ⟨p, hp⟩ : ∃ p : Nat, j = (p : Int) := ⟨j.toNat, by omega⟩
    subst hp
    have g1 : M1 196 (p + 1) = iI (st.getD (p + 1) 0) := by
      rw [i3 (p + 1) (by omega)]
      exact la_get hl (by omega)
    obtain ⟨M2, e, r⟩ := hc2 (e_u M1 196 (upd (M1 196) p (iI (st.getD (p + 1) 0)))) ⟨fun a ha => by rw [e_u_n _ _ ha, i1 a ha], fun i x hi hx => by
      rw [e_u_s]
      by_cases hz : i = p
      · subst hz
        rw [upd_s]
        rw [List.getElem?_eraseIdx, if_neg (by omega), List.getElem?_eq_getElem (by omega)] at hx
        rw [List.getD_eq_getElem?_getD, List.getElem?_eq_getElem (by omega)]
        injection hx with hx
        rw [hx]
        rfl
      · rw [upd_n _ _ hz]
        exact i2 i x (by omega) hx, fun i hi => by
      rw [e_u_s, upd_n _ _ (by omega), i3 i (by omega)]⟩
    refine ⟨M2, ?_, r⟩
    rw [← e, r251_223]
    have ht : ((p : Int) + 1).toNat = p + 1 := by omega
    simp (disch := first | assumption | exact e_nk_i _ | exact e_nk_n | exact e_nk_r _ | exact e_bo_0 | exact e_bo_1 | exact e_bo_b _ | omega) only [e_cl_v, e_cl_x, e_add_0, e_add_s, Option.toList_some, Option.toList_none, List.cons_append, List.nil_append, iI_add, iI_sub, iI_mul, iI_lt, iI_eq, iI_le, r251_225, r251_226, r251_229, r251_232, r251_233, r251_236, r251_238, r251_239, r251_242, r251_244, r251_245, r251_246, r251_247, r251_248, r251_251, iI_vin, iI_nat, if_true, i1, hc, ht, Int.toNat_natCast, g1]
    rw [if_pos b]
  · obtain ⟨i1, i2, i3⟩ := hI
    refine ⟨M1, ?_, fun i x hx => ?_, fun i hi => i3 i (by omega), i1⟩
    · rw [r251_223]
      simp (disch := first | assumption | exact e_nk_i _ | exact e_nk_n | exact e_nk_r _ | exact e_bo_0 | exact e_bo_1 | exact e_bo_b _ | omega) only [e_cl_v, e_cl_x, e_add_0, e_add_s, Option.toList_some, Option.toList_none, List.cons_append, List.nil_append, iI_add, iI_sub, iI_mul, iI_lt, iI_eq, iI_le, r251_225, r251_226, r251_229, i1, hc]
      simp
    · have hi : i < (st.eraseIdx q).length := (List.getElem?_eq_some_iff.mp hx).1
      rw [List.length_eraseIdx, if_pos hq] at hi
      exact i2 i x (by omega) hx
  · rw [List.getElem?_eraseIdx, if_pos (by omega)] at hx
    exact hl j x hx
theorem goS_rg {t u : Int → Int} {n : Nat} {s : List Int × List Int} {o : Int} (h1 : s.1.length + s.2.length ≤ n) (h2 : ∀ x, (x ∈ s.1 ∨ x ∈ s.2) → 0 ≤ x ∧ x ≤ 7) (ho : 0 ≤ o ∧ o ≤ 7) : (goS t u s o).1.length + (goS t u s o).2.length ≤ n + 1 ∧ ∀ x, (x ∈ (goS t u s o).1 ∨ x ∈ (goS t u s o).2) → 0 ≤ x ∧ x ≤ 7 := by
  have hl : lgP t (s.1 ++ [o]) < (s.1 ++ [o]).length := by
    have := lgF_le t (s.1 ++ [o]) ((s.1 ++ [o]).length - 1)
    unfold lgP
    rw [List.length_append, List.length_singleton] at *
    omega
  have hm : ∀ x ∈ s.1 ++ [o], 0 ≤ x ∧ x ≤ 7 := fun x hx => by
    rw [List.mem_append, List.mem_singleton] at hx
    rcases hx with y | y
    · exact h2 x (Or.inl y)
    · rw [y]; exact ho
  unfold goS
  split
  · refine ⟨?_, fun x hx => ?_⟩
    · simp only [List.length_append, List.length_singleton]
      omega
    · rcases hx with y | y
      · exact hm x y
      · exact h2 x (Or.inr y)
  · refine ⟨?_, fun x hx => ?_⟩
    · simp only [List.length_eraseIdx, if_pos hl]
      simp only [List.length_append, List.length_singleton]
      omega
    · rcases hx with y | y
      · exact hm x (List.mem_of_mem_eraseIdx y)
      · rw [List.mem_append, List.mem_singleton] at y
        rcases y with y | y
        · exact h2 x (Or.inr y)
        · rw [y]
          exact hm _ (getD_mem hl)
theorem goL_rg {t u : Int → Int} : ∀ l : List Int, (∀ x ∈ l, 0 ≤ x ∧ x ≤ 7) → ∀ (n : Nat) (s : List Int × List Int), s.1.length + s.2.length ≤ n → (∀ x, (x ∈ s.1 ∨ x ∈ s.2) → 0 ≤ x ∧ x ≤ 7) → (l.foldl (goS t u) s).1.length + (l.foldl (goS t u) s).2.length ≤ n + l.length ∧ ∀ x, (x ∈ (l.foldl (goS t u) s).1 ∨ x ∈ (l.foldl (goS t u) s).2) → 0 ≤ x ∧ x ≤ 7
  | [], _, n, s, h1, h2 => ⟨h1, h2⟩
  | o :: l, h, n, s, h1, h2 => by
    have g := goS_rg (t := t) (u := u) h1 h2 (h o List.mem_cons_self)
    have := goL_rg (t := t) (u := u) l (fun x hx => h x (List.mem_cons_of_mem o hx)) (n + 1) (goS t u s o) g.1 g.2
    rw [List.length_cons, List.foldl_cons]
    refine ⟨?_, this.2⟩
    omega
/-- how far one machine's orders are gone through -/
def goI (M : e_MI) (s : List Int × List Int) (k : Nat) (l : List Int) : Prop := e_la (M 196) s.1 ∧ e_la (M 197) s.2 ∧ (∀ i x, k ≤ i → l[i]? = some x → M 196 i = iI x) ∧ M 184 17 = iI (s.1.length : Int) ∧ M 184 18 = iI (s.2.length : Int)
theorem mm_goStep (hK : e_KM M K) (hr : kR K) {m : Int} (hm : 0 ≤ m ∧ m ≤ 3) {s : List Int × List Int} {l : List Int} {k : Nat} {o : Int} (ho : l[k]? = some o) (hl8 : l.length ≤ 8) (hml : ∀ x ∈ l, 0 ≤ x ∧ x ≤ 7) (hs1 : s.1.length + s.2.length ≤ k) (hs2 : ∀ x, (x ∈ s.1 ∨ x ∈ s.2) → 0 ≤ x ∧ x ≤ 7) (hI : goI M s k l) : ∃ M2 : e_MI, goI M2 (goS (fun o => tO K o m) (fun o => K (24 + o)) s o) (k + 1) l ∧ frO M M2 ∧ ∀ r, e_lim L xs (d + 2) 251 21 [some (.ref 184), some (.int (iI m)), some (.int (iI (l.length : Int))), some (.int (iI (smL (fun o => tO K o m) (goS (fun o => tO K o m) (fun o => K (24 + o)) s o).1))), some (.int (iI ((k + 1 : Nat) : Int))), none, none, none, none, none] [] (e_hp M2 V W) = some r → e_lim L xs (d + 2) 251 21 [some (.ref 184), some (.int (iI m)), some (.int (iI (l.length : Int))), some (.int (iI (smL (fun o => tO K o m) s.1))), some (.int (iI (k : Int))), none, none, none, none, none] [] (e_hp M V W) = some r := by
  obtain ⟨h1, h2, h3, h4, h5⟩ := hI
  have hk : k < l.length := (List.getElem?_eq_some_iff.mp ho).1
  have ho7 := hml o (List.mem_of_getElem? ho)
  have g0 := h3 k o (Nat.le_refl _) ho
  have e1 : ∀ M1 : e_MI, e_KM M1 K → e_lim L xs (d + 1) 236 0 [some (.ref 184), some (.int (iI o)), some (.int (iI m)), none, none] [] (e_hp M1 V W) = some (.inl (some (.int (iI (tO K o m)))), e_hp M1 V W, 0, 0) := fun M1 hK1 => mm_timeOn (L := L) (xs := xs) (d := d) (V := V) (W := W) hK1 hr (o := o) (m := m) ho7 hm
  have r1 := tO_rg hr (o := o) (m := m) ho7
  have r2 := hr.du (o := o) ho7.1 (by omega)
  have r3 := smL_rg (t := fun o => tO K o m) (c := 324) s.1 (fun x hx => tO_rg hr (hs2 x (Or.inl hx)))
  obtain ⟨M1, hM1⟩ : ∃ M1 : e_MI, M1 = e_u (e_u M 196 (upd (M 196) s.1.length (iI o))) 184 (upd (M 184) 17 (iI ((s.1.length : Int) + 1))) := ⟨_, rfl⟩
  have m1 : ∀ a, a ≠ 184 → a ≠ 196 → M1 a = M a := fun a x z => by rw [hM1, e_u_n _ _ x, e_u_n _ _ z]
  have hK1 : e_KM M1 K := by
    unfold e_KM
    rw [m1 _ (by decide) (by decide)]
    exact hK
  have m2 : ∀ j, j ≠ 17 → M1 184 j = M 184 j := fun j x => by rw [hM1, e_u_s, upd_n _ _ x]
  have m3 : M1 184 17 = iI ((s.1 ++ [o]).length : Int) := by
    rw [hM1, e_u_s, upd_s, List.length_append, List.length_singleton]
    rfl
  have m4 : e_la (M1 196) (s.1 ++ [o]) := by
    rw [hM1, e_u_n _ _ (by decide), e_u_s]
    exact la_app h1 o
  have m5 : ∀ i x, k + 1 ≤ i → l[i]? = some x → M1 196 i = iI x := fun i x hi hx => by
    rw [hM1, e_u_n _ _ (by decide), e_u_s, upd_n _ _ (by omega)]
    exact h3 i x (by omega) hx
  have m6 : e_la (M1 197) s.2 := by
    rw [m1 _ (by decide) (by decide)]
    exact h2
  have seg : e_lim L xs (d + 2) 251 21 [some (.ref 184), some (.int (iI m)), some (.int (iI (l.length : Int))), some (.int (iI (smL (fun o => tO K o m) s.1))), some (.int (iI (k : Int))), none, none, none, none, none] [] (e_hp M V W) = if smL (fun o => tO K o m) (s.1 ++ [o]) ≤ K (24 + o) then e_lim L xs (d + 2) 251 254 [some (.ref 184), some (.int (iI m)), some (.int (iI (l.length : Int))), some (.int (iI (smL (fun o => tO K o m) (s.1 ++ [o])))), some (.int (iI (k : Int))), some (.int (iI o)), none, none, none, none] [] (e_hp M1 V W) else e_lim L xs (d + 2) 251 84 [some (.ref 184), some (.int (iI m)), some (.int (iI (l.length : Int))), some (.int (iI (smL (fun o => tO K o m) (s.1 ++ [o])))), some (.int (iI (k : Int))), some (.int (iI o)), none, none, none, none] [] (e_hp M1 V W) := by
    have e1a := e1 M1 hK1
    have e2 := hK1 (24 + o) (by omega) (by omega)
    rw [hM1] at e1a e2
    rw [smL_app, hM1]
    have hq : (k : Int) < (l.length : Int) := by omega
    simp (disch := first | assumption | exact e_nk_i _ | exact e_nk_n | exact e_nk_r _ | exact e_bo_0 | exact e_bo_1 | exact e_bo_b _ | omega) only [e_cl_v, e_cl_x, e_add_0, e_add_s, Option.toList_some, Option.toList_none, List.cons_append, List.nil_append, iI_add, iI_sub, iI_mul, iI_lt, iI_eq, iI_le, r251_21, r251_23, r251_24, r251_27, r251_28, r251_31, r251_33, r251_34, r251_36, r251_37, r251_40, r251_41, r251_44, r251_46, r251_47, r251_48, r251_49, r251_52, r251_53, r251_54, r251_57, r251_58, r251_59, r251_61, r251_62, r251_65, r251_66, r251_67, r251_68, r251_69, r251_72, r251_74, r251_76, r251_77, r251_78, r251_81, iI_vin, iI_nat, if_true, Int.toNat_natCast, g0, h4, e_u_n, e1a, e2]
    rw [if_pos hq]
    by_cases z : smL (fun o => tO K o m) s.1 + tO K o m ≤ K (24 + o)
    · rw [if_neg (by omega), if_pos z]
    · rw [if_pos (by omega), if_neg z]
  by_cases hz : smL (fun o => tO K o m) (s.1 ++ [o]) ≤ K (24 + o)
  · have hg : goS (fun o => tO K o m) (fun o => K (24 + o)) s o = (s.1 ++ [o], s.2) := by
      unfold goS
      rw [if_pos hz]
    rw [hg]
    refine ⟨M1, ⟨m4, m6, m5, m3, by rw [m2 _ (by decide), h5]⟩, ⟨fun a x y z => m1 a x y, fun j x y => m2 j x⟩, fun r hr2 => ?_⟩
    rw [seg, if_pos hz]
    simp (disch := first | assumption | exact e_nk_i _ | exact e_nk_n | exact e_nk_r _ | exact e_bo_0 | exact e_bo_1 | exact e_bo_b _ | omega) only [e_cl_v, e_cl_x, e_add_0, e_add_s, Option.toList_some, Option.toList_none, List.cons_append, List.nil_append, iI_add, iI_sub, iI_mul, iI_lt, iI_eq, iI_le, r251_254, r251_257]
    exact G_less (by repeat (first | exact e_ll.rf | refine e_ll_c ?_ | refine e_ll_x ?_)) hr2
  · have hg : goS (fun o => tO K o m) (fun o => K (24 + o)) s o = ((s.1 ++ [o]).eraseIdx (lgP (fun o => tO K o m) (s.1 ++ [o])), s.2 ++ [(s.1 ++ [o]).getD (lgP (fun o => tO K o m) (s.1 ++ [o])) 0]) := by
      unfold goS
      rw [if_neg hz]
    rw [hg]
    have hlen : (s.1 ++ [o]).length = s.1.length + 1 := by rw [List.length_append, List.length_singleton]
    have hmem : ∀ x ∈ s.1 ++ [o], 0 ≤ x ∧ x ≤ 7 := fun x hx => by
      rw [List.mem_append, List.mem_singleton] at hx
      rcases hx with y | y
      · exact hs2 x (Or.inl y)
      · rw [y]; exact ho7
    have hlp : lgP (fun o => tO K o m) (s.1 ++ [o]) < (s.1 ++ [o]).length := by
      have := lgF_le (fun o => tO K o m) (s.1 ++ [o]) ((s.1 ++ [o]).length - 1)
      unfold lgP
      omega
    have hsum := smL_era (fun o => tO K o m) (s.1 ++ [o]) (lgP (fun o => tO K o m) (s.1 ++ [o])) hlp
    have hsr := smL_rg (t := fun o => tO K o m) (c := 324) (s.1 ++ [o]) (fun x hx => tO_rg hr (hmem x hx))
    have keyL : ∀ r : e_R, _ := fun r => mm_goLongest (L := L) (xs := xs) (d := d) (V := V) (W := W) hK1 hr hm (st := s.1 ++ [o]) (by omega) (by omega) hmem m4 m3 (l2 := some (.int (iI (l.length : Int)))) (l3 := some (.int (iI (smL (fun o => tO K o m) (s.1 ++ [o]))))) (l4 := some (.int (iI (k : Int)))) (l5 := some (.int (iI o))) (e_nk_i _) (r := r)
    generalize hst : s.1 ++ [o] = st at *
    generalize hq : lgP (fun o => tO K o m) st = q at *
    have g1 := la_get m4 hlp
    have qm := hmem _ (getD_mem hlp)
    obtain ⟨M3, hM3⟩ : ∃ M3 : e_MI, M3 = e_u (e_u M1 197 (upd (M1 197) s.2.length (iI (st.getD q 0)))) 184 (upd (upd (M1 184) 18 (iI ((s.2.length : Int) + 1))) 17 (iI ((st.length - 1 : Nat) : Int))) := ⟨_, rfl⟩
    have n1 : ∀ a, a ≠ 184 → a ≠ 197 → M3 a = M1 a := fun a x z => by rw [hM3, e_u_n _ _ x, e_u_n _ _ z]
    have n2 : ∀ j, j ≠ 17 → j ≠ 18 → M3 184 j = M1 184 j := fun j x z => by rw [hM3, e_u_s, upd_n _ _ x, upd_n _ _ z]
    have n3 : M3 184 17 = iI ((st.length - 1 : Nat) : Int) := by rw [hM3, e_u_s, upd_s]
    have n4 : M3 184 18 = iI ((s.2.length : Int) + 1) := by rw [hM3, e_u_s, upd_n _ _ (by decide), upd_s]
    have n5 : e_la (M3 197) (s.2 ++ [st.getD q 0]) := by
      rw [hM3, e_u_n _ _ (by decide), e_u_s]
      exact la_app m6 _
    have hK3 : e_KM M3 K := by
      unfold e_KM
      rw [n1 _ (by decide) (by decide)]
      exact hK1
    obtain ⟨M4, e4, p1, p2, p3⟩ := mm_goGap (L := L) (xs := xs) (d := d + 2) (M := M3) (V := V) (W := W) hlp (by omega) (by rw [n1 _ (by decide) (by decide)]; exact m4) n3 (l1 := some (.int (iI m))) (l2 := some (.int (iI (l.length : Int)))) (l3 := some (.int (iI (smL (fun o => tO K o m) (st.eraseIdx q))))) (l4 := some (.int (iI (k : Int)))) (l5 := some (.int (iI o))) (l6 := some (.int (iI (q : Int)))) (e_nk_i _)
    refine ⟨M4, ⟨p1, ?_, fun i x hi hx => ?_, ?_, ?_⟩, ⟨fun a x y z => by rw [p3 a y, n1 a x z, m1 a x y], fun j x z => by rw [p3 _ (by decide), n2 j x z, m2 j x]⟩, fun r hr2 => ?_⟩
    · rw [p3 _ (by decide)]
      exact n5
    · rw [p2 i (by omega), n1 _ (by decide) (by decide)]
      exact m5 i x hi hx
    · rw [p3 _ (by decide), n3, List.length_eraseIdx, if_pos hlp]
    · rw [p3 _ (by decide), n4, List.length_append, List.length_singleton]
      rfl
    · rw [seg, if_neg hz]
      simp (disch := first | assumption | exact e_nk_i _ | exact e_nk_n | exact e_nk_r _ | exact e_bo_0 | exact e_bo_1 | exact e_bo_b _ | omega) only [e_cl_v, e_cl_x, e_add_0, e_add_s, Option.toList_some, Option.toList_none, List.cons_append, List.nil_append, iI_add, iI_sub, iI_mul, iI_lt, iI_eq, iI_le, r251_84, r251_85, r251_87, r251_88]
      refine G_less (l2 := [some (.ref 184), some (.int (iI m)), some (.int (iI (l.length : Int))), some (.int (iI (smL (fun o => tO K o m) st))), some (.int (iI (k : Int))), some (.int (iI o)), some (.int (iI 0)), some (.int (iI 1)), none, none]) (by repeat (first | exact e_ll.rf | refine e_ll_c ?_ | refine e_ll_x ?_)) ?_
      refine keyL r ?_
      have ea : ∀ M5 : e_MI, e_KM M5 K → e_lim L xs (d + 1) 236 0 [some (.ref 184), some (.int (iI (st.getD q 0))), some (.int (iI m)), none, none] [] (e_hp M5 V W) = some (.inl (some (.int (iI (tO K (st.getD q 0) m)))), e_hp M5 V W, 0, 0) := fun M5 hK5 => mm_timeOn (L := L) (xs := xs) (d := d) (V := V) (W := W) hK5 hr (o := st.getD q 0) (m := m) qm hm
      have r6 := tO_rg hr (o := st.getD q 0) (m := m) qm
      have h18 : M1 184 18 = iI (s.2.length : Int) := by rw [m2 _ (by decide), h5]
      have eb := ea (e_u (e_u M1 197 (upd (M1 197) s.2.length (iI (st.getD q 0)))) 184 (upd (M1 184) 18 (iI ((s.2.length : Int) + 1)))) (by
        unfold e_KM
        rw [e_u_n _ _ (by decide), e_u_n _ _ (by decide)]
        exact hK1)
      have hone : M1 196 q = iI (st.getD q 0) := g1
      have hl1 : (st.length : Int) - 1 = ((st.length - 1 : Nat) : Int) := by omega
      have hfin : e_lim L xs (d + 2) 251 223 [some (.ref 184), some (.int (iI m)), some (.int (iI (l.length : Int))), some (.int (iI (smL (fun o => tO K o m) (st.eraseIdx q)))), some (.int (iI (k : Int))), some (.int (iI o)), some (.int (iI (q : Int))), some (.int (iI (q : Int))), none, none] [] (e_hp M3 V W) = some r := by
        rw [e4]
        simp (disch := first | assumption | exact e_nk_i _ | exact e_nk_n | exact e_nk_r _ | exact e_bo_0 | exact e_bo_1 | exact e_bo_b _ | omega) only [e_cl_v, e_cl_x, e_add_0, e_add_s, Option.toList_some, Option.toList_none, List.cons_append, List.nil_append, iI_add, iI_sub, iI_mul, iI_lt, iI_eq, iI_le, r251_254, r251_257]
        exact G_less (by repeat (first | exact e_ll.rf | refine e_ll_c ?_ | refine e_ll_x ?_)) hr2
      rw [hM3, hsum] at hfin
      simp (disch := first | assumption | exact e_nk_i _ | exact e_nk_n | exact e_nk_r _ | exact e_bo_0 | exact e_bo_1 | exact e_bo_b _ | omega) only [e_cl_v, e_cl_x, e_add_0, e_add_s, Option.toList_some, Option.toList_none, List.cons_append, List.nil_append, iI_add, iI_sub, iI_mul, iI_lt, iI_eq, iI_le, r251_168, r251_169, r251_172, r251_173, r251_176, r251_177, r251_180, r251_182, r251_183, r251_184, r251_185, r251_186, r251_189, r251_190, r251_191, r251_194, r251_195, r251_196, r251_197, r251_200, r251_202, r251_203, r251_204, r251_207, r251_208, r251_209, r251_210, r251_211, r251_214, r251_215, r251_216, r251_219, r251_221, iI_vin, iI_nat, if_true, Int.toNat_natCast, hone, h18, m3, e_u_n, e_u_s, e_u_u, upd_n, eb, hl1]
      exact hfin
theorem mm_goes (hK : e_KM M K) (hr : kR K) {m : Int} (hm : 0 ≤ m ∧ m ≤ 3) : ∃ M2 : e_MI, e_lim L xs (d + 4) 251 0 [some (.ref 184), some (.int (iI m)), none, none, none, none, none, none, none, none] [] (e_hp M V W) = some (.inl none, e_hp M2 V W, 0, 0) ∧ e_la (M2 196) (goL (fun o => tO K o m) (fun o => K (24 + o)) (oneL K m false)).1 ∧ e_la (M2 197) (goL (fun o => tO K o m) (fun o => K (24 + o)) (oneL K m false)).2 ∧ frO M M2 ∧ M2 184 17 = iI ((goL (fun o => tO K o m) (fun o => K (24 + o)) (oneL K m false)).1.length : Int) ∧ M2 184 18 = iI ((goL (fun o => tO K o m) (fun o => K (24 + o)) (oneL K m false)).2.length : Int) := by
  have hn := hr.n
  obtain ⟨M0, e0, a1, a2, a3, a4, a5⟩ := mm_rowsOne (L := L) (xs := xs) (d := d) (V := V) (W := W) hK hr (m := m) (br := false) hm
  have hl8 : (oneL K m false).length ≤ 8 := by
    have := rowL_len (isA K m false) (fun o => decide (tO K o m ≠ 0)) (K 310).toNat
    unfold oneL
    omega
  have hml : ∀ x ∈ oneL K m false, 0 ≤ x ∧ x ≤ 7 := fun x hx => by
    unfold oneL at hx
    rw [rowL_mem] at hx
    omega
  generalize hl : oneL K m false = l at *
  have hpre : ∀ k : Nat, k ≤ l.length → ((l.take k).foldl (goS (fun o => tO K o m) (fun o => K (24 + o))) ([], [])).1.length + ((l.take k).foldl (goS (fun o => tO K o m) (fun o => K (24 + o))) ([], [])).2.length ≤ k ∧ ∀ x, (x ∈ ((l.take k).foldl (goS (fun o => tO K o m) (fun o => K (24 + o))) ([], [])).1 ∨ x ∈ ((l.take k).foldl (goS (fun o => tO K o m) (fun o => K (24 + o))) ([], [])).2) → 0 ≤ x ∧ x ≤ 7 := fun k hk => by
    have := goL_rg (t := fun o => tO K o m) (u := fun o => K (24 + o)) (l.take k) (fun x hx => hml x (List.mem_of_mem_take hx)) 0 ([], []) (Nat.le_refl _) (fun x hx => by rcases hx with y | y <;> cases y)
    rw [List.length_take, Nat.min_eq_left hk, Nat.zero_add] at this
    exact this
  have key := G_lp (i := 0) (n := (l.length : Int)) (I := fun i M1 => goI M1 ((l.take i.toNat).foldl (goS (fun o => tO K o m) (fun o => K (24 + o))) ([], [])) i.toNat l ∧ frO M M1) (P := fun i M1 => ∃ M2 : e_MI, e_lim L xs (d + 4) 251 21 [some (.ref 184), some (.int (iI m)), some (.int (iI (l.length : Int))), some (.int (iI (smL (fun o => tO K o m) ((l.take i.toNat).foldl (goS (fun o => tO K o m) (fun o => K (24 + o))) ([], [])).1))), some (.int (iI i)), none, none, none, none, none] [] (e_hp M1 V W) = some (.inl none, e_hp M2 V W, 0, 0) ∧ e_la (M2 196) (goL (fun o => tO K o m) (fun o => K (24 + o)) l).1 ∧ e_la (M2 197) (goL (fun o => tO K o m) (fun o => K (24 + o)) l).2 ∧ frO M M2 ∧ M2 184 17 = iI ((goL (fun o => tO K o m) (fun o => K (24 + o)) l).1.length : Int) ∧ M2 184 18 = iI ((goL (fun o => tO K o m) (fun o => K (24 + o)) l).2.length : Int)) (fun j M1 a b hI hc => ?_) (fun M1 hI => ?_) (by omega) (e_u M0 184 (upd (M0 184) 17 (iI 0))) ⟨⟨fun i x hx => by simp at hx, fun i x hx => by simp at hx, fun i x _ hx => by rw [e_u_n _ _ (by decide)]; exact a1 i x hx, by rw [e_u_s, upd_s]; rfl, by rw [e_u_s, upd_n _ _ (by decide), a5]; rfl⟩, a2.t ⟨fun a x y z => e_u_n _ _ x, fun j x y => by rw [e_u_s, upd_n _ _ x]⟩⟩
  · obtain ⟨M2, e, r⟩ := key
    refine ⟨M2, ?_, r⟩
    rw [← e]
    rw [bI_f] at e0
    simp (disch := first | assumption | exact e_nk_i _ | exact e_nk_n | exact e_nk_r _ | exact e_bo_0 | exact e_bo_1 | exact e_bo_b _ | omega) only [e_cl_v, e_cl_x, e_add_0, e_add_s, Option.toList_some, Option.toList_none, List.cons_append, List.nil_append, iI_add, iI_sub, iI_mul, iI_lt, iI_eq, iI_le, r251_0, r251_1, r251_2, r251_3, r251_6, r251_7, r251_10, r251_11, r251_12, r251_13, r251_16, r251_17, r251_18, r251_19, e0, a4]
    rfl
  · obtain ⟨p, hp⟩ : ∃ p : Nat, j = (p : Int) := ⟨j.toNat, by omega⟩
    subst hp
    obtain ⟨hg, hF⟩ := hI
    rw [Int.toNat_natCast] at hg
    have hp2 : p < l.length := by omega
    have hpr := hpre p (by omega)
    obtain ⟨o, ho⟩ : ∃ o, l[p]? = some o := ⟨_, List.getElem?_eq_getElem hp2⟩
    obtain ⟨M2, c1, c2, c3⟩ := mm_goStep (L := L) (xs := xs) (d := d + 2) (V := V) (W := W) (K := K) (by
      unfold e_KM
      rw [hF.1 _ (by decide) (by decide) (by decide)]
      exact hK) hr hm ho hl8 hml hpr.1 hpr.2 hg
    have htk : (l.take (p + 1)).foldl (goS (fun o => tO K o m) (fun o => K (24 + o))) ([], []) = goS (fun o => tO K o m) (fun o => K (24 + o)) ((l.take p).foldl (goS (fun o => tO K o m) (fun o => K (24 + o))) ([], [])) o := by
      rw [List.take_succ, ho, Option.toList_some, List.foldl_append]
      rfl
    have hq1 : ((p : Int) + 1).toNat = p + 1 := by omega
    obtain ⟨M3, e, r⟩ := hc M2 ⟨by rw [hq1, htk]; exact c1, hF.t c2⟩
    refine ⟨M3, ?_, r⟩
    rw [hq1, htk] at e
    rw [Int.toNat_natCast]
    exact c3 _ e
  · obtain ⟨hg, hF⟩ := hI
    rw [Int.toNat_natCast, List.take_length] at hg
    obtain ⟨h1, h2, h3, h4, h5⟩ := hg
    refine ⟨M1, ?_, h1, h2, hF, h4, h5⟩
    rw [r251_21]
    simp (disch := first | assumption | exact e_nk_i _ | exact e_nk_n | exact e_nk_r _ | exact e_bo_0 | exact e_bo_1 | exact e_bo_b _ | omega) only [e_cl_v, e_cl_x, e_add_0, e_add_s, Option.toList_some, Option.toList_none, List.cons_append, List.nil_append, iI_add, iI_sub, iI_mul, iI_lt, iI_eq, iI_le, r251_23, r251_24, r251_260]
    rw [if_neg (by omega)]
end E62
