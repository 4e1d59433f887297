section Ec54
variable {L : Nat} {xs : Nat → Int32} {d : Nat} {M M2 M3 : e_MI} {V V2 : e_ML} {W : e_MD} {K K1 K2 : e_St} {S : Int → e_St} {h : e_H} {t t2 b2 : Nat} {c o w z m k q p i f e mc tl T x y v N n : Int} {sc bb : Bool} {l : List Int} {ρ ν μ χ β ε τ τ2 u : Int → Int}
/-! one machine, in the class -/
theorem goS_len (t u : Int → Int) (s : List Int × List Int) (o : Int) : (goS t u s o).1.length + (goS t u s o).2.length = s.1.length + s.2.length + 1 := by
  have hl : lgP t (s.1 ++ [o]) < (s.1 ++ [o]).length := by
    have := lgF_le t (s.1 ++ [o]) ((s.1 ++ [o]).length - 1)
    unfold lgP
    rw [List.length_append, List.length_singleton] at *
    omega
  unfold goS
  split
  · simp only [List.length_append, List.length_singleton]
    omega
  · simp only [List.length_eraseIdx, if_pos hl]
    simp only [List.length_append, List.length_singleton]
    omega
theorem goF_len (t u : Int → Int) : ∀ (l : List Int) (s : List Int × List Int), (l.foldl (goS t u) s).1.length + (l.foldl (goS t u) s).2.length = s.1.length + s.2.length + l.length
  | [], s => rfl
  | o :: l, s => by
    rw [List.foldl_cons, goF_len t u l, goS_len, List.length_cons]
    omega
theorem o_goAll (hr : kR K) (hl8 : l.length ≤ 8) (hml : ∀ x ∈ l, 0 ≤ x ∧ x < K 310) : ∀ (rest : List Int) (k : Nat) (s : List Int × List Int) (M : e_MI), l.drop k = rest → k + rest.length = l.length → SH M 1 K → e_ar (M 170) (K 310) (fun o => tO K o m) → s.1.length + s.2.length ≤ k → (∀ x, (x ∈ s.1 ∨ x ∈ s.2) → 0 ≤ x ∧ x < K 310) → goC M s k l → ∃ M2 : e_MI, goC M2 (rest.foldl (goS (fun o => tO K o m) (fun o => K (24 + o))) s) l.length l ∧ (∀ a, a ≠ 169 → a ≠ 171 → a ≠ 172 → M2 a = M a) ∧ ∀ r, e_lim L xs (d + 3) 20 7 [some (.ref 169), some (.ref 1), some (.int (iI ((rest.foldl (goS (fun o => tO K o m) (fun o => K (24 + o))) s).1.length : Int))), some (.int (iI (smL (fun o => tO K o m) (rest.foldl (goS (fun o => tO K o m) (fun o => K (24 + o))) s).1))), some (.int (iI (l.length : Int))), none, none] [] (e_hp M2 V W) = some r → e_lim L xs (d + 3) 20 7 [some (.ref 169), some (.ref 1), some (.int (iI (s.1.length : Int))), some (.int (iI (smL (fun o => tO K o m) s.1))), some (.int (iI (k : Int))), none, none] [] (e_hp M V W) = some r
  | [], k, s, M, hd, hk, H, hT, hs1, hs2, hI => by
    have : k = l.length := by simpa using hk
    subst this
    exact ⟨M, hI, fun _ _ _ _ => rfl, fun r hr => hr⟩
  | o :: rest, k, s, M, hd, hk, H, hT, hs1, hs2, hI => by
    rw [List.length_cons] at hk
    have ho : l[k]? = some o := by
      have h1 : (l.drop k)[0]? = some o := by rw [hd]; rfl
      rw [List.getElem?_drop] at h1
      exact h1
    have hd2 : l.drop (k + 1) = rest := by
      have h1 : (l.drop k).drop 1 = rest := by rw [hd]; rfl
      rw [List.drop_drop] at h1
      exact h1
    obtain ⟨M1, g1, g2, g3⟩ := o_goStep (L := L) (xs := xs) (d := d) (V := V) (W := W) (m := m) H hr hT ho hl8 hml hs1 hs2 hI
    have ho7 := hml o (List.mem_of_getElem? ho)
    have hlen := goS_len (fun o => tO K o m) (fun o => K (24 + o)) s o
    obtain ⟨M2, g4, g5, g6⟩ := o_goAll hr hl8 hml rest (k + 1) _ M1 hd2 (by omega) (H.of fun a x y => g2 a (by omega) (by omega) (by omega)) (by rw [g2 170 (by decide) (by decide) (by decide)]; exact hT) (by omega) (goS_in hs2 ho7) g1
    rw [List.foldl_cons]
    exact ⟨M2, g4, fun a x y z => by rw [g5 a x y z, g2 a x y z], fun r hR => g3 r (g6 r hR)⟩
theorem o_sendLate (H : SH M 1 K) (hr : kR K) (hT : e_ar (M 170) (K 310) (fun o => tO K o m)) (hl8 : l.length ≤ 8) (hml : ∀ x ∈ l, 0 ≤ x ∧ x < K 310) (hl : e_la (M 171) l) (hc : M 169 3 = iI (l.length : Int)) (hc2 : M 169 4 = iI 0) : ∃ M2 : e_MI, e_lim L xs (d + 3) 20 0 [some (.ref 169), some (.ref 1), none, none, none, none, none] [] (e_hp M V W) = some (.inl none, e_hp M2 V W, 0, 0) ∧ e_la (M2 171) ((goL (fun o => tO K o m) (fun o => K (24 + o)) l).1 ++ (goL (fun o => tO K o m) (fun o => K (24 + o)) l).2) ∧ M2 169 3 = iI (l.length : Int) ∧ M2 169 4 = iI ((goL (fun o => tO K o m) (fun o => K (24 + o)) l).2.length : Int) ∧ ∀ a, a ≠ 169 → a ≠ 171 → a ≠ 172 → M2 a = M a := by
  obtain ⟨M1, ⟨g1, g2, g3, g4, g5⟩, g6, g7⟩ := o_goAll (L := L) (xs := xs) (d := d) (V := V) (W := W) (m := m) hr hl8 hml l 0 ([], []) M rfl (by omega) H hT (by simp) (fun x hx => by rcases hx with hx | hx <;> cases hx) ⟨fun i x hx => by simp at hx, fun i x hx => by simp at hx, fun i x _ hx => hl i x hx, hc, hc2⟩
  have hlen := goF_len (fun o => tO K o m) (fun o => K (24 + o)) l ([], [])
  have hgo : l.foldl (goS (fun o => tO K o m) (fun o => K (24 + o))) ([], []) = goL (fun o => tO K o m) (fun o => K (24 + o)) l := rfl
  rw [hgo] at g1 g2 g5 g7 hlen
  generalize goL (fun o => tO K o m) (fun o => K (24 + o)) l = s at *
  simp only [List.length_nil, Nat.zero_add] at hlen
  have key := G_lp (i := 0) (n := (s.2.length : Int)) (I := fun i M4 => (∀ a, a ≠ 171 → M4 a = M1 a) ∧ (∀ j : Nat, j < s.1.length → M4 171 j = M1 171 j) ∧ ∀ (j : Nat) (x : Int), (j : Int) < i → s.2[j]? = some x → M4 171 (s.1.length + j) = iI x) (P := fun i M4 => ∃ M2 : e_MI, e_lim L xs (d + 3) 20 132 [some (.ref 169), some (.ref 1), some (.int (iI (s.1.length : Int))), none, some (.int (iI i)), none, none] [] (e_hp M4 V W) = some (.inl none, e_hp M2 V W, 0, 0) ∧ e_la (M2 171) (s.1 ++ s.2) ∧ ∀ a, a ≠ 171 → M2 a = M1 a) (fun j M4 a b hI hc => ?_) (fun M4 hI => ?_) (by omega) M1 ⟨fun _ _ => rfl, fun _ _ => rfl, fun j x hj => by omega⟩
  · obtain ⟨M2, e, r1, r2⟩ := key
    refine ⟨M2, ?_, r1, by rw [r2 169 (by decide)]; exact g4, by rw [r2 169 (by decide)]; exact g5, fun a x y z => by rw [r2 a y, g6 a x y z]⟩
    have e' := G_less (l := [some (.ref 169), some (.ref 1), some (.int (iI (s.1.length : Int))), some (.int (iI (smL (fun o => tO K o m) s.1))), some (.int (iI 0)), none, none]) (by repeat (first | exact e_ll.rf | refine e_ll_c ?_ | refine e_ll_x ?_)) e
    have e2 := g7 (.inl none, e_hp M2 V W, 0, 0) (by
      rw [← e', r20_7]
      simp (disch := first | assumption | exact e_nk_i _ | exact e_nk_n | exact e_nk_r _ | exact e_bo_0 | exact e_bo_1 | exact e_bo_b _ | omega) only [e_cl_v, e_cl_x, e_add_0, e_add_s, Option.toList_some, Option.toList_none, List.cons_append, List.nil_append, iI_add, iI_sub, iI_mul, iI_lt, iI_eq, iI_le, r20_9, r20_10, r20_13, r20_129, r20_130, g4]
      rw [if_neg (by omega)])
    have e3 : e_lim L xs (d + 3) 20 7 [some (.ref 169), some (.ref 1), some (.int (iI 0)), some (.int (iI 0)), some (.int (iI 0)), none, none] [] (e_hp M V W) = some (.inl none, e_hp M2 V W, 0, 0) := e2
    simp (disch := first | assumption | exact e_nk_i _ | exact e_nk_n | exact e_nk_r _ | exact e_bo_0 | exact e_bo_1 | exact e_bo_b _ | omega) only [e_cl_v, e_cl_x, e_add_0, e_add_s, Option.toList_some, Option.toList_none, List.cons_append, List.nil_append, iI_add, iI_sub, iI_mul, iI_lt, iI_eq, iI_le, r20_0, r20_1, r20_2, r20_3, r20_4, r20_5, e3]
  · obtain ⟨i1, i2, i3⟩ := hI
    obtain ⟨p, hp⟩ : ∃ p : Nat, j = (p : Int) := ⟨j.toNat, by omega⟩
    subst hp
    have hp2 : p < s.2.length := by omega
    have c4 : M4 169 4 = iI (s.2.length : Int) := by rw [i1 169 (by decide)]; exact g5
    have e1 := m_atI (L := L) (xs := xs) (d := d + 2) (M := M4) (V := V) (W := W) (v := iI (s.2.getD p 0)) si_172 (z := (p : Int)) (by omega) (by omega) (by rw [Int.toNat_natCast, i1 172 (by decide)]; exact la_get g2 hp2)
    have e2 := m_putI (L := L) (xs := xs) (d := d + 2) (M := M4) (V := V) (W := W) (v := iI (s.2.getD p 0)) si_171 (z := (s.1.length : Int) + (p : Int)) (by omega) (by omega)
    rw [show ((s.1.length : Int) + (p : Int)).toNat = s.1.length + p by omega] at e2
    obtain ⟨M2, e, r⟩ := hc (e_u M4 171 (upd (M4 171) (s.1.length + p) (iI (s.2.getD p 0)))) ⟨fun a y => by rw [e_u_n _ _ y, i1 a y], fun j y => by rw [e_u_s, upd_n _ _ (by omega), i2 j y], fun j x y z => by
      rw [e_u_s]
      by_cases hj : j = p
      · subst hj
        rw [upd_s, List.getD_eq_getElem?_getD, z]
        rfl
      · rw [upd_n _ _ (by omega)]
        exact i3 j x (by omega) z⟩
    refine ⟨M2, ?_, r⟩
    rw [← e, r20_132]
    simp (disch := first | assumption | exact e_nk_i _ | exact e_nk_n | exact e_nk_r _ | exact e_bo_0 | exact e_bo_1 | exact e_bo_b _ | omega) only [e_cl_v, e_cl_x, e_add_0, e_add_s, Option.toList_some, Option.toList_none, List.cons_append, List.nil_append, iI_add, iI_sub, iI_mul, iI_lt, iI_eq, iI_le, r20_134, r20_135, r20_138, r20_141, r20_142, r20_145, r20_146, r20_148, r20_149, r20_150, r20_153, r20_155, r20_158, r20_161, r20_164, c4, e1, e2]
    rw [if_pos (by omega)]
  · obtain ⟨i1, i2, i3⟩ := hI
    have c4 : M4 169 4 = iI (s.2.length : Int) := by rw [i1 169 (by decide)]; exact g5
    refine ⟨M4, ?_, fun i x hx => ?_, i1⟩
    · rw [r20_132]
      simp (disch := first | assumption | exact e_nk_i _ | exact e_nk_n | exact e_nk_r _ | exact e_bo_0 | exact e_bo_1 | exact e_bo_b _ | omega) only [e_cl_v, e_cl_x, e_add_0, e_add_s, Option.toList_some, Option.toList_none, List.cons_append, List.nil_append, iI_add, iI_sub, iI_mul, iI_lt, iI_eq, iI_le, r20_134, r20_135, r20_138, r20_167, c4]
      rw [if_neg (by omega)]
    · by_cases hi : i < s.1.length
      · rw [List.getElem?_append_left hi] at hx
        rw [i2 i hi]
        exact g1 i x hx
      · rw [List.getElem?_append_right (by omega)] at hx
        have hi2 : i - s.1.length < s.2.length := (List.getElem?_eq_some_iff.mp hx).1
        have := i3 (i - s.1.length) x (by omega) hx
        rw [show s.1.length + (i - s.1.length) = i by omega] at this
        exact this
/-- one machine's row stands -/
def OR (M : e_MI) (K : e_St) (m w : Int) : Prop := e_la (M 171) (wyL K m w) ∧ M 169 3 = iI ((wyL K m w).length : Int) ∧ (w = 2 → M 169 4 = iI ((goW K m).2.length : Int)) ∧ e_ar (M 170) (K 310) (fun o => tO K o m)
theorem oneL_in (hr : kR K) (br : Bool) : (∀ x ∈ oneL K m br, 0 ≤ x ∧ x < K 310) ∧ (oneL K m br).length ≤ 8 := by
  have hn := hr.n
  have hlen := rowL_len (isA K m br) (fun o => decide (tO K o m ≠ 0)) (K 310).toNat
  refine ⟨fun x hx => ?_, by unfold oneL; omega⟩
  unfold oneL at hx
  rw [rowL_mem] at hx
  omega
theorem wyL_len (K : e_St) (m w : Int) : (wyL K m w).length = (oneL K m (decide (w = 0))).length := by
  unfold wyL
  split
  · next h =>
    subst h
    rw [List.length_append]
    have := goF_len (fun o => tO K o m) (fun o => K (24 + o)) (oneL K m false) ([], [])
    simp only [List.length_nil, Nat.zero_add] at this
    exact this
  · rfl
theorem goF_in {t u : Int → Int} : ∀ (l : List Int) (s : List Int × List Int), (∀ x ∈ l, 0 ≤ x ∧ x < n) → (∀ x, (x ∈ s.1 ∨ x ∈ s.2) → 0 ≤ x ∧ x < n) → ∀ x, (x ∈ (l.foldl (goS t u) s).1 ∨ x ∈ (l.foldl (goS t u) s).2) → 0 ≤ x ∧ x < n
  | [], s, _, h2 => h2
  | o :: l, s, h1, h2 => by
    rw [List.foldl_cons]
    exact goF_in l _ (fun x hx => h1 x (List.mem_cons_of_mem o hx)) (goS_in h2 (h1 o List.mem_cons_self))
theorem wyL_in (hr : kR K) (m w : Int) : (∀ x ∈ wyL K m w, 0 ≤ x ∧ x < K 310) ∧ (wyL K m w).length ≤ 8 := by
  have g := oneL_in (m := m) hr (decide (w = 0))
  refine ⟨fun x hx => ?_, by rw [wyL_len]; exact g.2⟩
  unfold wyL at hx
  split at hx
  · have g2 := oneL_in (m := m) hr false
    rw [List.mem_append] at hx
    exact goF_in (oneL K m false) ([], []) g2.1 (fun x hx => by rcases hx with hx | hx <;> cases hx) x hx
  · exact g.1 x hx
theorem o_arrange (H : SH M 1 K) (hr : kR K) (hm : 0 ≤ m ∧ m ≤ 3) (hw : 0 ≤ w ∧ w ≤ 2) : ∃ M2 : e_MI, e_lim L xs (d + 4) 16 0 [some (.ref 169), some (.ref 1), some (.int (iI m)), some (.int (iI w)), none, none] [] (e_hp M V W) = some (.inl none, e_hp M2 V W, 0, 0) ∧ OR M2 K m w ∧ ∀ a, a < 169 ∨ 172 < a → M2 a = M a := by
  obtain ⟨M1, e1, g1, g2, g3, g4, g5⟩ := o_rows (L := L) (xs := xs) (d := d) (V := V) (W := W) H hr hm hw
  by_cases hq : w = 2
  · subst hq
    have hde : decide ((2 : Int) = 0) = false := by decide
    rw [hde] at g1 g2
    have gi := oneL_in (m := m) hr false
    obtain ⟨M2, e2, k1, k2, k3, k4⟩ := o_sendLate (L := L) (xs := xs) (d := d) (V := V) (W := W) (m := m) (H.of fun a x y => g5 a (by omega)) hr g4 gi.2 gi.1 g1 g2 g3
    refine ⟨M2, e1 _ ?_, ⟨?_, ?_, fun _ => k3, by rw [k4 170 (by decide) (by decide) (by decide)]; exact g4⟩, fun a x => by rw [k4 a (by omega) (by omega) (by omega), g5 a (by omega)]⟩
    · simp (disch := first | assumption | exact e_nk_i _ | exact e_nk_n | exact e_nk_r _ | exact e_bo_0 | exact e_bo_1 | exact e_bo_b _ | omega) only [e_cl_v, e_cl_x, e_add_0, e_add_s, Option.toList_some, Option.toList_none, List.cons_append, List.nil_append, iI_add, iI_sub, iI_mul, iI_lt, iI_eq, iI_le, r16_61, r16_62, r16_63, r16_66, r16_67, r16_68, r16_71, e2]
      simp
    · unfold wyL
      rw [if_pos rfl]
      exact k1
    · rw [wyL_len, hde]
      exact k2
  · refine ⟨M1, e1 _ ?_, ⟨?_, ?_, fun y => absurd y hq, g4⟩, fun a x => g5 a (by omega)⟩
    · simp (disch := first | assumption | exact e_nk_i _ | exact e_nk_n | exact e_nk_r _ | exact e_bo_0 | exact e_bo_1 | exact e_bo_b _ | omega) only [e_cl_v, e_cl_x, e_add_0, e_add_s, Option.toList_some, Option.toList_none, List.cons_append, List.nil_append, iI_add, iI_sub, iI_mul, iI_lt, iI_eq, iI_le, r16_61, r16_62, r16_63, r16_66, r16_67, r16_68, r16_71]
      rw [if_neg hq]
    · unfold wyL
      rw [if_neg hq]
      exact g1
    · rw [wyL_len]
      exact g2
theorem wtF_rg (hr : kR K) (hl : ∀ x ∈ l, 0 ≤ x ∧ x < K 310) : ∀ k : Nat, k ≤ l.length → (0 ≤ (wtF K m l k).1 ∧ (wtF K m l k).1 ≤ 324 * k)
  | 0, _ => by
    unfold wtF
    omega
  | k + 1, h => by
    have ih := wtF_rg hr hl k (by omega)
    have hn := hr.n
    have hx := hl _ (getD_mem (l := l) (i := k) (by omega))
    have r1 := tO_rg hr (o := l.getD k 0) (m := m) (by omega)
    show 0 ≤ (wtF K m l k).1 + tO K (l.getD k 0) m ∧ (wtF K m l k).1 + tO K (l.getD k 0) m ≤ 324 * ((k + 1 : Nat) : Int)
    omega
theorem o_sumEnds (H : SH M 1 K) (hr : kR K) (hT : e_ar (M 170) (K 310) (fun o => tO K o m)) (hl8 : l.length ≤ 8) (hml : ∀ x ∈ l, 0 ≤ x ∧ x < K 310) (hl : e_la (M 171) l) (hc : M 169 3 = iI (l.length : Int)) : e_lim L xs (d + 2) 23 0 [some (.ref 169), some (.ref 1), none, none, none, none] [] (e_hp M V W) = some (.inl (some (.int (iI (wtF K m l l.length).2))), e_hp M V W, 0, 0) := by
  have hn := hr.n
  have main : e_lim L xs (d + 2) 23 7 [some (.ref 169), some (.ref 1), some (.int (iI (wtF K m l (0 : Int).toNat).2)), some (.int (iI (wtF K m l (0 : Int).toNat).1)), some (.int (iI 0)), none] [] (e_hp M V W) = some (.inl (some (.int (iI (wtF K m l l.length).2))), e_hp M V W, 0, 0) := by
    refine G_loopI (C := fun i => e_lim L xs (d + 2) 23 7 [some (.ref 169), some (.ref 1), some (.int (iI (wtF K m l i.toNat).2)), some (.int (iI (wtF K m l i.toNat).1)), some (.int (iI i)), none] [] (e_hp M V W)) (i := 0) (n := l.length) (by omega) (fun j a b hc2 => ?_) ?_
    · obtain ⟨p, hp⟩ : ∃ p : Nat, j = (p : Int) := ⟨j.toNat, by omega⟩
      subst hp
      have hx := hml _ (getD_mem (l := l) (i := p) (by omega))
      have e1 := m_atI (L := L) (xs := xs) (d := d + 1) (M := M) (V := V) (W := W) (v := iI (l.getD p 0)) si_171 (z := (p : Int)) (by omega) (by omega) (by rw [Int.toNat_natCast]; exact la_get hl (by omega))
      have e2 := o_timeOf (L := L) (xs := xs) (d := d) (V := V) (W := W) hT (o := l.getD p 0) hx hn.2
      have e3 := s_orderCell (L := L) (xs := xs) (d := d) (V := V) (W := W) H hn.2 hx.1 hx.2 (j := 4) (by omega) (by omega)
      rw [show 8 * 4 + l.getD p 0 = 32 + l.getD p 0 by omega] at e3
      have hst : wtF K m l ((p : Int) + 1).toNat = ((wtF K m l p).1 + tO K (l.getD p 0) m, (wtF K m l p).2 + K (32 + l.getD p 0) * ((wtF K m l p).1 + tO K (l.getD p 0) m)) := by
        rw [show ((p : Int) + 1).toNat = p + 1 by omega]
        rfl
      rw [hst] at hc2
      simp only at hc2
      simp only [Int.toNat_natCast]
      generalize wtF K m l p = s at *
      generalize l.getD p 0 = g at *
      have e' := G_less (l := [some (.ref 169), some (.ref 1), some (.int (iI (s.2 + K (32 + g) * (s.1 + tO K g m)))), some (.int (iI (s.1 + tO K g m))), some (.int (iI ((p : Int) + 1))), some (.int (iI g))]) (by repeat (first | exact e_ll.rf | refine e_ll_c ?_ | refine e_ll_x ?_)) hc2
      rw [← e', r23_7]
      simp (disch := first | assumption | exact e_nk_i _ | exact e_nk_n | exact e_nk_r _ | exact e_bo_0 | exact e_bo_1 | exact e_bo_b _ | omega) only [e_cl_v, e_cl_x, e_add_0, e_add_s, Option.toList_some, Option.toList_none, List.cons_append, List.nil_append, iI_add, iI_sub, iI_mul, iI_lt, iI_eq, iI_le, r23_9, r23_10, r23_13, r23_16, r23_17, r23_20, r23_22, r23_25, r23_27, r23_28, r23_29, r23_31, r23_34, r23_35, r23_36, r23_37, r23_38, r23_40, r23_41, r23_44, r23_45, r23_46, r23_47, r23_48, r23_51, hc, e1, e2, e3]
      rw [if_pos (by omega)]
    · simp only [Int.toNat_natCast]
      rw [r23_7]
      simp (disch := first | assumption | exact e_nk_i _ | exact e_nk_n | exact e_nk_r _ | exact e_bo_0 | exact e_bo_1 | exact e_bo_b _ | omega) only [e_cl_v, e_cl_x, e_add_0, e_add_s, Option.toList_some, Option.toList_none, List.cons_append, List.nil_append, iI_add, iI_sub, iI_mul, iI_lt, iI_eq, iI_le, r23_9, r23_10, r23_13, r23_54, r23_55, hc]
      rw [if_neg (by omega)]
  have main' : e_lim L xs (d + 2) 23 7 [some (.ref 169), some (.ref 1), some (.int (iI 0)), some (.int (iI 0)), some (.int (iI 0)), none] [] (e_hp M V W) = some (.inl (some (.int (iI (wtF K m l l.length).2))), e_hp M V W, 0, 0) := main
  simp (disch := first | assumption | exact e_nk_i _ | exact e_nk_n | exact e_nk_r _ | exact e_bo_0 | exact e_bo_1 | exact e_bo_b _ | omega) only [e_cl_v, e_cl_x, e_add_0, e_add_s, Option.toList_some, Option.toList_none, List.cons_append, List.nil_append, iI_add, iI_sub, iI_mul, iI_lt, iI_eq, iI_le, r23_0, r23_1, r23_2, r23_3, r23_4, r23_5, main']
/-- the greatest lateness so far -/
def glF (K : e_St) (m : Int) (l : List Int) (k : Nat) : Int := if k = 0 then -1000000 else (ltF K m l k).2
theorem o_lateness (H : SH M 1 K) (hr : kR K) (hT : e_ar (M 170) (K 310) (fun o => tO K o m)) (hl8 : l.length ≤ 8) (hml : ∀ x ∈ l, 0 ≤ x ∧ x < K 310) (hl : e_la (M 171) l) (hc : M 169 3 = iI (l.length : Int)) : e_lim L xs (d + 2) 24 0 [some (.ref 169), some (.ref 1), none, none, none, none] [] (e_hp M V W) = some (.inl (some (.int (iI (ltF K m l l.length).2))), e_hp M V W, 0, 0) := by
  have hn := hr.n
  by_cases hz : l.length = 0
  · rw [hz] at hc ⊢
    simp (disch := first | assumption | exact e_nk_i _ | exact e_nk_n | exact e_nk_r _ | exact e_bo_0 | exact e_bo_1 | exact e_bo_b _ | omega) only [e_cl_v, e_cl_x, e_add_0, e_add_s, Option.toList_some, Option.toList_none, List.cons_append, List.nil_append, iI_add, iI_sub, iI_mul, iI_lt, iI_eq, iI_le, r24_0, r24_1, r24_4, r24_7, r24_8, hc]
    simp
    rfl
  · have main : e_lim L xs (d + 2) 24 17 [some (.ref 169), some (.ref 1), some (.int (iI (glF K m l (0 : Int).toNat))), some (.int (iI (ltF K m l (0 : Int).toNat).1)), some (.int (iI 0)), none] [] (e_hp M V W) = some (.inl (some (.int (iI (ltF K m l l.length).2))), e_hp M V W, 0, 0) := by
      refine G_loopI (C := fun i => e_lim L xs (d + 2) 24 17 [some (.ref 169), some (.ref 1), some (.int (iI (glF K m l i.toNat))), some (.int (iI (ltF K m l i.toNat).1)), some (.int (iI i)), none] [] (e_hp M V W)) (i := 0) (n := l.length) (by omega) (fun j a b hc2 => ?_) ?_
      · obtain ⟨p, hp⟩ : ∃ p : Nat, j = (p : Int) := ⟨j.toNat, by omega⟩
        subst hp
        have hx := hml _ (getD_mem (l := l) (i := p) (by omega))
        have e1 := m_atI (L := L) (xs := xs) (d := d + 1) (M := M) (V := V) (W := W) (v := iI (l.getD p 0)) si_171 (z := (p : Int)) (by omega) (by omega) (by rw [Int.toNat_natCast]; exact la_get hl (by omega))
        have e2 := o_timeOf (L := L) (xs := xs) (d := d) (V := V) (W := W) hT (o := l.getD p 0) hx hn.2
        have e3 := s_orderCell (L := L) (xs := xs) (d := d) (V := V) (W := W) H hn.2 hx.1 hx.2 (j := 3) (by omega) (by omega)
        rw [show 8 * 3 + l.getD p 0 = 24 + l.getD p 0 by omega] at e3
        have r0 := ltF_rg (m := m) hr (l := l) (fun x hx => by have := hml x hx; omega) p (by omega)
        have r1 := tO_rg hr (o := l.getD p 0) (m := m) (by omega)
        have r2 := hr.du (o := l.getD p 0) hx.1 (by omega)
        have hst : (ltF K m l ((p : Int) + 1).toNat).1 = (ltF K m l p).1 + tO K (l.getD p 0) m := by
          rw [show ((p : Int) + 1).toNat = p + 1 by omega]
          rfl
        have hst2 : glF K m l ((p : Int) + 1).toNat = max (glF K m l p) ((ltF K m l p).1 + tO K (l.getD p 0) m - K (24 + l.getD p 0)) := by
          rw [show ((p : Int) + 1).toNat = p + 1 by omega]
          show (if p = 0 ∨ (ltF K m l p).2 < (ltF K m l p).1 + tO K (l.getD p 0) m - K (24 + l.getD p 0) then (ltF K m l p).1 + tO K (l.getD p 0) m - K (24 + l.getD p 0) else (ltF K m l p).2) = _
          unfold glF
          by_cases hp0 : p = 0
          · rw [if_pos (Or.inl hp0), if_pos hp0]
            omega
          · rw [if_neg hp0]
            by_cases hl2 : (ltF K m l p).2 < (ltF K m l p).1 + tO K (l.getD p 0) m - K (24 + l.getD p 0)
            · rw [if_pos (Or.inr hl2)]
              omega
            · rw [if_neg (by omega)]
              omega
        rw [hst, hst2] at hc2
        have rg : -1000000 ≤ glF K m l p ∧ glF K m l p ≤ 5000 := by
          unfold glF
          split <;> omega
        simp only [Int.toNat_natCast]
        generalize (ltF K m l p).1 = s1 at *
        generalize glF K m l p = s2 at *
        generalize l.getD p 0 = g at *
        have e' := G_less (l := [some (.ref 169), some (.ref 1), some (.int (iI (max s2 (s1 + tO K g m - K (24 + g))))), some (.int (iI (s1 + tO K g m))), some (.int (iI ((p : Int) + 1))), some (.int (iI g))]) (by repeat (first | exact e_ll.rf | refine e_ll_c ?_ | refine e_ll_x ?_)) hc2
        rw [← e', r24_17]
        simp (disch := first | assumption | exact e_nk_i _ | exact e_nk_n | exact e_nk_r _ | exact e_bo_0 | exact e_bo_1 | exact e_bo_b _ | omega) only [e_cl_v, e_cl_x, e_add_0, e_add_s, Option.toList_some, Option.toList_none, List.cons_append, List.nil_append, iI_add, iI_sub, iI_mul, iI_lt, iI_eq, iI_le, r24_19, r24_20, r24_23, r24_26, r24_27, r24_30, r24_32, r24_35, r24_37, r24_38, r24_39, r24_41, r24_44, r24_45, r24_46, r24_47, r24_48, r24_49, r24_51, r24_52, r24_55, r24_56, r24_59, r24_60, r24_63, hc, e1, e2, e3, iI_mx]
        rw [if_pos (by omega)]
      · simp only [Int.toNat_natCast]
        have : glF K m l l.length = (ltF K m l l.length).2 := by
          unfold glF
          rw [if_neg hz]
        rw [this, r24_17]
        simp (disch := first | assumption | exact e_nk_i _ | exact e_nk_n | exact e_nk_r _ | exact e_bo_0 | exact e_bo_1 | exact e_bo_b _ | omega) only [e_cl_v, e_cl_x, e_add_0, e_add_s, Option.toList_some, Option.toList_none, List.cons_append, List.nil_append, iI_add, iI_sub, iI_mul, iI_lt, iI_eq, iI_le, r24_19, r24_20, r24_23, r24_66, r24_67, hc]
        rw [if_neg (by omega)]
    have main' : e_lim L xs (d + 2) 24 17 [some (.ref 169), some (.ref 1), some (.int (iI (-1000000))), some (.int (iI 0)), some (.int (iI 0)), none] [] (e_hp M V W) = some (.inl (some (.int (iI (ltF K m l l.length).2))), e_hp M V W, 0, 0) := main
    simp (disch := first | assumption | exact e_nk_i _ | exact e_nk_n | exact e_nk_r _ | exact e_bo_0 | exact e_bo_1 | exact e_bo_b _ | omega) only [e_cl_v, e_cl_x, e_add_0, e_add_s, Option.toList_some, Option.toList_none, List.cons_append, List.nil_append, iI_add, iI_sub, iI_mul, iI_lt, iI_eq, iI_le, r24_0, r24_1, r24_4, r24_7, r24_8, r24_9, r24_11, r24_12, r24_13, r24_14, r24_15, hc, main']
    rw [if_neg (by omega)]
end Ec54
