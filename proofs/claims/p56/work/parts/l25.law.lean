section El25
variable {K : e_St} {c o j w z m k q p i a b x B its v : Int} {t u : Int → Int}
/-! what is told is among the lines, and those told not to be late are not -/
theorem take_s {l : List Int} {k : Nat} (hk : k < l.length) : l.take (k + 1) = l.take k ++ [l.getD k 0] := by
  rw [List.take_add_one, List.getD_eq_getElem?_getD, List.getElem?_eq_getElem hk]
  rfl
theorem tO_0 (hr : kR K) (ho : 0 ≤ o ∧ o < K 310) : 0 ≤ tO K o m ∧ tO K o m ≤ 324 := by
  have hn := hr.n
  have hw := hr.wk (o := o) ho.1 (by omega)
  have := SU_le (f := fun w => if K (48 + 4 * o + w) = m then tk K o w else 0) (n := K (40 + o)) (c := 81) (fun i x y => by
    have h1 := hr.am (o := o) ho.1 (by omega)
    have h2 := hr.tm (i := 4 * o + i) (by omega) (by omega)
    rw [show 80 + (4 * o + i) = 80 + 4 * o + i by omega] at h2
    have := mul_rg (a := K (8 + o)) (b := K (80 + 4 * o + i)) (A := 9) (C := 9) h1 h2
    have htk : tk K o i = K (8 + o) * K (80 + 4 * o + i) := rfl
    rw [htk]
    split <;> omega) hw.1
  have hd : tO K o m = SU (fun w => if K (48 + 4 * o + w) = m then tk K o w else 0) (K (40 + o)) := rfl
  rw [hd]
  omega
theorem wt_rv (K : e_St) (m q : Int) (l : List Int) : ∀ k : Nat, k ≤ l.length → (rvL K m q (l.take k)).1 = (wtF K m l k).1 ∧ (rvL K m q (l.take k)).2.2.1 = (wtF K m l k).2
  | 0, _ => ⟨rfl, rfl⟩
  | k + 1, h => by
    obtain ⟨i1, i2⟩ := wt_rv K m q l k (by omega)
    rw [take_s (by omega), rvL_a]
    unfold wtF rvS
    rw [i1, i2]
    exact ⟨rfl, rfl⟩
theorem tw_rv (K : e_St) {m q : Int} (hq : q ≠ -1) (l : List Int) : ∀ k : Nat, k ≤ l.length → (rvL K m q (l.take k)).1 = (twF K m q l k).1 ∧ (rvL K m q (l.take k)).2.1 = (twF K m q l k).2
  | 0, _ => ⟨rfl, rfl⟩
  | k + 1, h => by
    obtain ⟨i1, i2⟩ := tw_rv K hq l k (by omega)
    rw [take_s (by omega), rvL_a]
    unfold twF rvS
    rw [i1, i2]
    refine ⟨rfl, ?_⟩
    simp only
    rw [if_neg hq]
    split <;> omega
theorem lt_rv (hr : kR K) (q : Int) (l : List Int) (hl : ∀ x ∈ l, 0 ≤ x ∧ x < K 310) : ∀ k : Nat, k ≤ l.length → ((rvL K m q (l.take k)).1 = (ltF K m l k).1 ∧ 0 ≤ (ltF K m l k).1) ∧ (0 < k → (rvL K m q (l.take k)).2.2.2.1 = (ltF K m l k).2)
  | 0, _ => ⟨⟨rfl, Int.le_refl _⟩, fun h => absurd h (by omega)⟩
  | k + 1, h => by
    obtain ⟨⟨i1, i2⟩, i3⟩ := lt_rv hr q l hl k (by omega)
    have hx := hl (l.getD k 0) (getD_mem (by omega))
    have ht := tO_0 (m := m) hr hx
    have hd := hr.du (o := l.getD k 0) hx.1 (by have := hr.n; omega)
    rw [take_s (by omega), rvL_a]
    unfold ltF rvS
    rw [i1]
    refine ⟨⟨rfl, by simp only; omega⟩, fun _ => ?_⟩
    simp only
    by_cases h0 : k = 0
    · subst h0
      rw [if_pos (Or.inl rfl)]
      have e : (rvL K m q (l.take 0)).2.2.2.1 = -2147483648 := rfl
      rw [e]
      omega
    · rw [i3 (by omega)]
      split <;> omega
theorem att0 (K : e_St) (m : Int) : (rvL K m (-1) (wyL K m 0)).2.2.1 = wtW K m := by
  have h := (wt_rv K m (-1) (oneL K m true) (oneL K m true).length (Nat.le_refl _)).2
  rw [List.take_length] at h
  exact h
theorem att1 (hr : kR K) (hne : wyL K m 1 ≠ []) : (rvL K m (-1) (wyL K m 1)).2.2.2.1 = ltW K m := by
  have h := (lt_rv (m := m) hr (-1) (oneL K m false) (fun x hx => by have := oneL_mem hr hx; omega) (oneL K m false).length (Nat.le_refl _)).2
  rw [List.take_length] at h
  have hw : wyL K m 1 = oneL K m false := rfl
  rw [hw] at hne ⊢
  exact h (List.length_pos_iff.mpr hne)
theorem attT (K : e_St) {m q : Int} (hq : q ≠ -1) : (rvL K m q (twoL K m q)).2.1 = twW K m q := by
  have h := (tw_rv K (m := m) hq (twoL K m q) (twoL K m q).length (Nat.le_refl _)).2
  rw [List.take_length] at h
  exact h
/-- in time, from a on -/
def OTa (t u : Int → Int) : Int → List Int → Prop
  | _, [] => True
  | a, x :: l => a + t x ≤ u x ∧ OTa t u (a + t x) l
theorem OTa_mono : ∀ (l : List Int) (a b : Int), b ≤ a → OTa t u a l → OTa t u b l
  | [], _, _, _, _ => trivial
  | x :: l, a, b, h, ⟨h1, h2⟩ => ⟨by omega, OTa_mono l _ _ (by omega) h2⟩
theorem smL_c (t : Int → Int) (x : Int) (l : List Int) : smL t (x :: l) = t x + smL t l := by unfold smL; simp
theorem OTa_app : ∀ (l : List Int) (a o : Int), OTa t u a l → a + smL t l + t o ≤ u o → OTa t u a (l ++ [o])
  | [], a, o, _, h => ⟨by have : smL t [] = 0 := rfl; omega, trivial⟩
  | x :: l, a, o, ⟨h1, h2⟩, h => ⟨h1, OTa_app l _ o h2 (by rw [smL_c] at h; omega)⟩
theorem OTa_era : ∀ (l : List Int) (a : Int) (i : Nat), (∀ x ∈ l, 0 ≤ t x) → OTa t u a l → OTa t u a (l.eraseIdx i)
  | [], _, _, _, _ => trivial
  | x :: l, a, 0, hx, ⟨h1, h2⟩ => OTa_mono l _ _ (by have := hx x List.mem_cons_self; omega) h2
  | x :: l, a, i + 1, hx, ⟨h1, h2⟩ => ⟨h1, OTa_era l _ i (fun y hy => hx y (List.mem_cons_of_mem _ hy)) h2⟩
theorem OTa_last : ∀ (l : List Int) (a : Int), l ≠ [] → OTa t u a l → ∃ x ∈ l, a + smL t l ≤ u x
  | [], _, h, _ => absurd rfl h
  | [x], a, _, ⟨h1, _⟩ => ⟨x, List.mem_cons_self, by rw [smL_c]; have : smL t [] = 0 := rfl; omega⟩
  | x :: y :: l, a, _, ⟨h1, h2⟩ => by
    obtain ⟨z, hz, h⟩ := OTa_last (y :: l) (a + t x) (by simp) h2
    exact ⟨z, List.mem_cons_of_mem _ hz, by rw [smL_c]; omega⟩
theorem OTa_get : ∀ (l : List Int) (a : Int) (k : Nat), k < l.length → OTa t u a l → a + smL t (l.take (k + 1)) ≤ u (l.getD k 0)
  | [], _, _, h, _ => absurd h (by simp)
  | x :: l, a, 0, _, ⟨h1, _⟩ => by
    have e : (x :: l).take (0 + 1) = [x] := rfl
    rw [e, smL_c]
    have : smL t [] = 0 := rfl
    show a + (t x + smL t []) ≤ u x
    omega
  | x :: l, a, k + 1, h, ⟨_, h2⟩ => by
    have ih := OTa_get l (a + t x) k (by simpa using h) h2
    rw [show (x :: l).take (k + 1 + 1) = x :: l.take (k + 1) from rfl, smL_c, List.getD_cons_succ]
    omega
theorem ot_step {s : List Int × List Int} (ht : ∀ x ∈ s.1, 0 ≤ t x) (ho : 0 ≤ t o) (hb : ∀ x ∈ s.1, u x ≤ u o) (h : OTa t u 0 s.1) : OTa t u 0 (goS t u s o).1 ∧ ∀ x ∈ (goS t u s o).1, x ∈ s.1 ++ [o] := by
  unfold goS
  by_cases c1 : smL t (s.1 ++ [o]) ≤ u o
  · rw [if_pos c1]
    rw [smL_app] at c1
    exact ⟨OTa_app s.1 0 o h (by omega), fun x hx => hx⟩
  · rw [if_neg c1]
    refine ⟨?_, fun x hx => List.mem_of_mem_eraseIdx hx⟩
    show OTa t u 0 ((s.1 ++ [o]).eraseIdx (lgP t (s.1 ++ [o])))
    have hlt := lgP_lt t (s.1 ++ [o]) (by simp)
    have hmx := lgP_max t (l := s.1 ++ [o]) (z := o) (by simp)
    generalize lgP t (s.1 ++ [o]) = n at *
    by_cases c2 : n < s.1.length
    · rw [List.eraseIdx_append_of_lt_length c2]
      have hg : (s.1 ++ [o]).getD n 0 = s.1.getD n 0 := by rw [List.getD_eq_getElem?_getD, List.getD_eq_getElem?_getD, List.getElem?_append_left c2]
      rw [hg] at hmx
      refine OTa_app _ 0 o (OTa_era s.1 0 n ht h) ?_
      rw [smL_era t s.1 n c2]
      obtain ⟨x, hx, h1⟩ := OTa_last s.1 0 (fun e => by rw [e] at c2; simp at c2) h
      have := hb x hx
      omega
    · have hn : n = s.1.length := by simp at hlt; omega
      rw [hn, List.eraseIdx_append_of_length_le (Nat.le_refl _)]
      simpa using h
theorem ot_all : ∀ (rest : List Int) (s : List Int × List Int), (∀ x ∈ s.1, 0 ≤ t x) → (∀ x ∈ rest, 0 ≤ t x) → (∀ x ∈ s.1, ∀ o ∈ rest, u x ≤ u o) → rest.Pairwise (fun x o => u x ≤ u o) → OTa t u 0 s.1 → OTa t u 0 (rest.foldl (goS t u) s).1
  | [], s, _, _, _, _, h => h
  | o :: rest, s, h1, h2, h3, h4, h => by
    rw [List.pairwise_cons] at h4
    obtain ⟨g1, g2⟩ := ot_step h1 (h2 o List.mem_cons_self) (fun x hx => h3 x hx o List.mem_cons_self) h
    refine ot_all rest (goS t u s o) (fun x hx => ?_) (fun x hx => h2 x (List.mem_cons_of_mem _ hx)) (fun x hx y hy => ?_) h4.2 g1
    · have := g2 x hx
      rw [List.mem_append, List.mem_singleton] at this
      rcases this with e | e
      · exact h1 x e
      · rw [e]; exact h2 o List.mem_cons_self
    · have := g2 x hx
      rw [List.mem_append, List.mem_singleton] at this
      rcases this with e | e
      · exact h3 x e y (List.mem_cons_of_mem _ hy)
      · rw [e]; exact h4.1 y hy
theorem go_ot (hr : kR K) : OTa (fun o => tO K o m) (fun o => K (24 + o)) 0 (goW K m).1 := by
  refine ot_all (oneL K m false) ([], []) (fun x hx => by cases hx) (fun x hx => ?_) (fun x hx => by cases hx) ?_ trivial
  · have := oneL_mem hr hx
    exact (tO_0 hr ⟨this.1, this.2.1⟩).1
  · refine (oneL_day hr (m := m)).imp (fun {x y} h => ?_)
    show K (24 + x) ≤ K (24 + y)
    omega
theorem rv_time (K : e_St) (m q : Int) : ∀ (l : List Int) (s : rvT), (l.foldl (rvS K m q) s).1 = s.1 + smL (fun o => tO K o m) l
  | [], s => by have : smL (fun o => tO K o m) [] = 0 := rfl; simp [this]
  | x :: l, s => by
    rw [List.foldl_cons, rv_time K m q l, smL_c]
    show s.1 + tO K x m + _ = _
    omega
theorem rv_ot (K : e_St) (m q : Int) : ∀ (l : List Int) (s : rvT), OTa (fun o => tO K o m) (fun o => K (24 + o)) s.1 l → (l.foldl (rvS K m q) s).2.2.2.2 = s.2.2.2.2
  | [], s, _ => rfl
  | x :: l, s, ⟨h1, h2⟩ => by
    rw [List.foldl_cons, rv_ot K m q l (rvS K m q s x) h2]
    have h1 : s.1 + tO K x m ≤ K (24 + x) := h1
    show s.2.2.2.2 + (if K (24 + x) < s.1 + tO K x m then 1 else 0) = _
    rw [if_neg (by omega), Int.add_zero]
theorem rv_late (K : e_St) (m q : Int) : ∀ (l : List Int) (s : rvT), (l.foldl (rvS K m q) s).2.2.2.2 ≤ s.2.2.2.2 + (l.length : Int)
  | [], s => by simp
  | x :: l, s => by
    have ih := rv_late K m q l (rvS K m q s x)
    rw [List.foldl_cons, List.length_cons]
    have h1 : (rvS K m q s x).2.2.2.2 ≤ s.2.2.2.2 + 1 := by
      show s.2.2.2.2 + (if K (24 + x) < s.1 + tO K x m then 1 else 0) ≤ _
      split <;> omega
    omega
theorem att2 (hr : kR K) : (rvL K m (-1) (wyL K m 2)).2.2.2.2 ≤ ((goW K m).2.length : Int) := by
  have hw : wyL K m 2 = (goW K m).1 ++ (goW K m).2 := rfl
  rw [hw]
  unfold rvL
  rw [List.foldl_append]
  have h1 := rv_ot K m (-1) (goW K m).1 (0, 0, 0, -2147483648, 0) (go_ot hr)
  have h2 := rv_late K m (-1) (goW K m).2 ((goW K m).1.foldl (rvS K m (-1)) (0, 0, 0, -2147483648, 0))
  rw [h1] at h2
  have h2 : _ ≤ (0 : Int) + _ := h2
  omega
end El25
