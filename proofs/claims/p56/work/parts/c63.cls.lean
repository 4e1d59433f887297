section Ec63
variable {K : e_St} {o w z m q p e x y v n c b N : Int} {i j k f : Int} {χ χ2 A B C D : Int → Bool} {g t u : Int → Int} {l J : List Int} {s : List Int × List Int}
/-! the fewest late orders -/
theorem ts_cg {χ χ2 : Int → Bool} (g : Int → Int) (h : ∀ i, 0 ≤ i → i < n → χ i = χ2 i) : TSx g χ n = TSx g χ2 n := SU_cong fun i a b => by rw [h i a b]
theorem ts_sub (hg : ∀ i, 0 ≤ i → i < n → 0 ≤ g i) (hn : 0 ≤ n) (h : ∀ i, 0 ≤ i → i < n → χ i = true → χ2 i = true) : TSx g χ n ≤ TSx g χ2 n := SU_le2 hn fun i a b => by
  have h1 := hg i a b
  by_cases hq : χ i = true
  · rw [if_pos hq, if_pos (h i a b hq)]
    exact Int.le_refl _
  · rw [if_neg hq]
    split <;> omega
theorem ts_z (g : Int → Int) (hn : 0 ≤ n) (h : ∀ i, 0 ≤ i → i < n → χ i = false) : TSx g χ n = 0 := by
  have : TSx g χ n = SU (fun _ => 0) n := SU_cong fun i a b => by rw [h i a b, if_neg Bool.false_ne_true]
  rw [this, SU_z hn]
/-- one more in a set -/
def ad (χ : Int → Bool) (j : Int) : Int → Bool := fun i => χ i || decide (i = j)
theorem ad_j (χ : Int → Bool) (j : Int) : ad χ j j = true := by
  unfold ad
  simp
theorem ad_n (χ : Int → Bool) {i j : Int} (h : i ≠ j) : ad χ j i = χ i := by
  unfold ad
  simp [h]
theorem ad_t (h : ad χ j i = true) : χ i = true ∨ i = j := by
  unfold ad at h
  simpa using h
theorem ts_ad (g : Int → Int) (hj : 0 ≤ j ∧ j < n) (h : χ j = false) : TSx g (ad χ j) n = TSx g χ n + g j := by
  rw [ts_hiI g hj.1 hj.2 (ad_j χ j)]
  congr 1
  refine ts_cg g fun i a b => ?_
  by_cases hi : i = j
  · rw [hi, dl_j, h]
  · rw [dl_n _ hi, ad_n χ hi]
/-- ahead by the days -/
def leD (u : Int → Int) (q o : Int) : Bool := decide (u q < u o ∨ (u q = u o ∧ q ≤ o))
theorem leD_rf (u : Int → Int) (o : Int) : leD u o o = true := decide_eq_true (Or.inr ⟨rfl, Int.le_refl _⟩)
theorem leD_u (h : leD u q o = true) : u q ≤ u o := by
  unfold leD at h
  rw [decide_eq_true_eq] at h
  omega
/-- all of a set are in time -/
def feS (t u : Int → Int) (N : Int) (A : Int → Bool) : Prop := ∀ o, 0 ≤ o → o < N → A o = true → TSx t (fun q => A q && leD u q o) N ≤ u o
theorem feS_sub (ht : ∀ o, 0 ≤ o → o < N → 0 ≤ t o) (hN : 0 ≤ N) (h : feS t u N A) (hB : ∀ o, 0 ≤ o → o < N → B o = true → A o = true) : feS t u N B := fun o a b c => by
  have h1 := h o a b (hB o a b c)
  have h2 := ts_sub (χ := fun q => B q && leD u q o) (χ2 := fun q => A q && leD u q o) ht hN (fun q x y z => by
    rw [Bool.and_eq_true] at z ⊢
    exact ⟨hB q x y z.1, z.2⟩)
  omega
theorem era_mem : ∀ (l : List Int) (i : Nat) (z : Int), z ∈ l → i < l.length → z ≠ l.getD i 0 → z ∈ l.eraseIdx i
  | [], i, z, h, _, _ => by cases h
  | x :: l, 0, z, h, _, hn => by
    rw [List.eraseIdx_cons_zero]
    rcases List.mem_cons.mp h with e | e
    · exact absurd e hn
    · exact e
  | x :: l, i + 1, z, h, hi, hn => by
    rw [List.eraseIdx_cons_succ]
    rw [List.getD_cons_succ] at hn
    rcases List.mem_cons.mp h with e | e
    · rw [e]
      exact List.mem_cons_self
    · exact List.mem_cons_of_mem x (era_mem l i z e (by simpa using hi) hn)
theorem era_perm : ∀ (l : List Int) (i : Nat), i < l.length → (l.eraseIdx i ++ [l.getD i 0]).Perm l
  | [], i, h => by simp at h
  | x :: l, 0, _ => by
    rw [List.eraseIdx_cons_zero]
    exact List.perm_append_comm
  | x :: l, i + 1, h => by
    rw [List.eraseIdx_cons_succ, List.getD_cons_succ, List.cons_append]
    exact List.Perm.cons x (era_perm l i (by simpa using h))
theorem lgF_max (t : Int → Int) (l : List Int) : ∀ p i : Nat, i ≤ p → t (l.getD i 0) ≤ t (l.getD (lgF t l p) 0)
  | 0, i, h => by
    have : i = 0 := by omega
    rw [this]
    exact Int.le_refl _
  | p + 1, i, h => by
    have ih := lgF_max t l p
    unfold lgF
    by_cases hc : t (l.getD (lgF t l p) 0) < t (l.getD (p + 1) 0) ∨ (t (l.getD (p + 1) 0) = t (l.getD (lgF t l p) 0) ∧ l.getD (lgF t l p) 0 < l.getD (p + 1) 0)
    · rw [if_pos hc]
      by_cases hi : i = p + 1
      · rw [hi]
        exact Int.le_refl _
      · have := ih i (by omega)
        omega
    · rw [if_neg hc]
      by_cases hi : i = p + 1
      · rw [hi]
        omega
      · exact ih i (by omega)
theorem lgP_lt (t : Int → Int) (l : List Int) (h : 0 < l.length) : lgP t l < l.length := by
  have := lgF_le t l (l.length - 1)
  unfold lgP
  omega
theorem lgP_max (t : Int → Int) {l : List Int} {z : Int} (hz : z ∈ l) : t z ≤ t (l.getD (lgP t l) 0) := by
  obtain ⟨i, hi, rfl⟩ := List.mem_iff_getElem.mp hz
  have := lgF_max t l (l.length - 1) i (by omega)
  rw [List.getD_eq_getElem?_getD, List.getElem?_eq_getElem hi] at this
  exact this
theorem smL_le (ht : ∀ o, 0 ≤ o → o < N → 0 ≤ t o) (hN : 0 ≤ N) : ∀ (l : List Int) (B : Int → Bool), l.Nodup → (∀ x ∈ l, (0 ≤ x ∧ x < N) ∧ B x = true) → smL t l ≤ TSx t B N
  | [], B, _, _ => by
    have := ts_0 (χ := B) ht hN
    unfold smL
    simpa using this
  | x :: l, B, hd, h => by
    have hx := h x List.mem_cons_self
    obtain ⟨hx1, hx2⟩ := List.nodup_cons.mp hd
    have ih := smL_le ht hN l (dl B x) hx2 (fun y hy => by
      have := h y (List.mem_cons_of_mem x hy)
      refine ⟨this.1, ?_⟩
      rw [dl_n B (fun e => hx1 (by rw [← e]; exact hy))]
      exact this.2)
    have e := ts_hiI t hx.1.1 hx.1.2 hx.2
    have e1 : smL t (x :: l) = t x + smL t l := by unfold smL; simp
    omega
theorem cn_le (hN : 0 ≤ N) : ∀ (J : List Int) (B : Int → Bool), (∀ x, 0 ≤ x → x < N → B x = true → x ∈ J) → TSx (fun _ => 1) B N ≤ (J.length : Int)
  | [], B, h => by
    rw [ts_z _ hN (fun i a b => by
      cases hb : B i with
      | false => rfl
      | true => exact absurd (h i a b hb) (by simp))]
    exact Int.le_refl _
  | x :: J, B, h => by
    rw [List.length_cons]
    by_cases hx : (0 ≤ x ∧ x < N) ∧ B x = true
    · have ih := cn_le hN J (dl B x) (fun y a b c => by
        obtain ⟨c1, c2⟩ := dl_t c
        rcases List.mem_cons.mp (h y a b c1) with e | e
        · exact absurd e c2
        · exact e)
      have e := ts_hiI (fun _ => 1) hx.1.1 hx.1.2 hx.2
      try simp only at e
      omega
    · have ih := cn_le hN J B (fun y a b c => by
        rcases List.mem_cons.mp (h y a b c) with e | e
        · rw [← e] at hx
          exact absurd ⟨⟨a, b⟩, c⟩ hx
        · exact e)
      omega
/-- each set in time has one as large, and not longer, among those that stay -/
def MHI (t u : Int → Int) (N : Int) (p J : List Int) : Prop := ∀ A : Int → Bool, (∀ o, 0 ≤ o → o < N → A o = true → o ∈ p) → feS t u N A → ∃ B : Int → Bool, (∀ o, 0 ≤ o → o < N → B o = true → o ∈ J) ∧ TSx (fun _ => 1) B N = TSx (fun _ => 1) A N ∧ TSx t B N ≤ TSx t A N
theorem mh_step {p : List Int} {o : Int} (ht : ∀ o, 0 ≤ o → o < N → 0 ≤ t o) (hp : ∀ q ∈ p, 0 ≤ q ∧ q < N) (ho : 0 ≤ o ∧ o < N) (hb : ∀ q ∈ p, u q < u o ∨ (u q = u o ∧ q < o)) (h1 : s.1.Nodup) (h2 : ∀ x ∈ s.1, x ∈ p) (h3 : MHI t u N p s.1) : (goS t u s o).1.Nodup ∧ (∀ x ∈ (goS t u s o).1, x ∈ p ++ [o]) ∧ MHI t u N (p ++ [o]) (goS t u s o).1 := by
  have hN : 0 ≤ N := by omega
  have hop : o ∉ p := fun h => by
    have := hb o h
    omega
  have hos : o ∉ s.1 := fun h => hop (h2 o h)
  have hJn : (s.1 ++ [o]).Nodup := by
    rw [List.nodup_append]
    refine ⟨h1, by simp, fun a ha b hb e => ?_⟩
    rw [List.mem_singleton] at hb
    exact hos (by rw [← hb, ← e]; exact ha)
  have hJp : ∀ x ∈ s.1 ++ [o], x ∈ p ++ [o] := fun x hx => by
    rw [List.mem_append] at hx ⊢
    rcases hx with e | e
    · exact Or.inl (h2 x e)
    · exact Or.inr e
  have hJr : ∀ x ∈ s.1 ++ [o], 0 ≤ x ∧ x < N := fun x hx => by
    have := hJp x hx
    rw [List.mem_append, List.mem_singleton] at this
    rcases this with e | e
    · exact hp x e
    · rw [e]; exact ho
  -- with all of them
  have claim : ∀ A : Int → Bool, (∀ q, 0 ≤ q → q < N → A q = true → q ∈ p ++ [o]) → feS t u N A → ∃ B : Int → Bool, (∀ q, 0 ≤ q → q < N → B q = true → q ∈ s.1 ++ [o]) ∧ TSx (fun _ => 1) B N = TSx (fun _ => 1) A N ∧ TSx t B N ≤ TSx t A N ∧ (u o < smL t (s.1 ++ [o]) → ∃ y ∈ s.1 ++ [o], B y = false) := by
    intro A hA hf
    by_cases hAo : A o = true
    · have hA0 : ∀ q, 0 ≤ q → q < N → dl A o q = true → q ∈ p := fun q a b c => by
        obtain ⟨c1, c2⟩ := dl_t c
        have := hA q a b c1
        rw [List.mem_append, List.mem_singleton] at this
        rcases this with e | e
        · exact e
        · exact absurd e c2
      obtain ⟨B0, b1, b2, b3⟩ := h3 (dl A o) hA0 (feS_sub ht hN hf (fun q a b c => (dl_t c).1))
      have a1 := ts_hiI (fun _ => 1) ho.1 ho.2 hAo
      have a2 := ts_hiI t ho.1 ho.2 hAo
      try simp only at a1
      have hB0 : B0 o = false := by
        cases hc : B0 o with
        | false => rfl
        | true => exact absurd (b1 o ho.1 ho.2 hc) hos
      have c1 := ts_ad (fun _ => 1) ho hB0
      have c2 := ts_ad t ho hB0
      try simp only at c1
      refine ⟨ad B0 o, fun q a b c => ?_, by omega, by omega, fun hs => ?_⟩
      · rw [List.mem_append, List.mem_singleton]
        rcases ad_t c with e | e
        · exact Or.inl (b1 q a b e)
        · exact Or.inr e
      · refine Classical.byContradiction fun hno => ?_
        have hall : ∀ y ∈ s.1 ++ [o], ad B0 o y = true := fun y hy => by
          cases hc : ad B0 o y with
          | true => rfl
          | false => exact absurd ⟨y, hy, hc⟩ hno
        have k1 := smL_le ht hN (s.1 ++ [o]) (ad B0 o) hJn (fun x hx => ⟨hJr x hx, hall x hx⟩)
        have k2 := hf o ho.1 ho.2 hAo
        have k3 : TSx t (fun q => A q && leD u q o) N = TSx t A N := ts_cg t fun q a b => by
          cases hc : A q with
          | false => rfl
          | true =>
            have := hA q a b hc
            rw [List.mem_append, List.mem_singleton] at this
            rw [Bool.true_and]
            rcases this with e | e
            · have := hb q e
              exact decide_eq_true (by omega)
            · rw [e]
              exact leD_rf u o
        omega
    · rw [Bool.not_eq_true] at hAo
      obtain ⟨B, b1, b2, b3⟩ := h3 A (fun q a b c => by
        have := hA q a b c
        rw [List.mem_append, List.mem_singleton] at this
        rcases this with e | e
        · exact e
        · rw [e, hAo] at c
          cases c) hf
      refine ⟨B, fun q a b c => List.mem_append_left _ (b1 q a b c), b2, b3, fun _ => ⟨o, by simp, ?_⟩⟩
      cases hc : B o with
      | false => rfl
      | true => exact absurd (b1 o ho.1 ho.2 hc) hos
  unfold goS
  by_cases hq : smL t (s.1 ++ [o]) ≤ u o
  · rw [if_pos hq]
    refine ⟨hJn, hJp, fun A hA hf => ?_⟩
    obtain ⟨B, b1, b2, b3, -⟩ := claim A hA hf
    exact ⟨B, b1, b2, b3⟩
  · rw [if_neg hq]
    have hlt := lgP_lt t (s.1 ++ [o]) (by simp)
    have hmax := fun z hz => lgP_max t (l := s.1 ++ [o]) (z := z) hz
    have hmem := getD_mem hlt
    refine ⟨hJn.eraseIdx _, fun x hx => hJp x (List.mem_of_mem_eraseIdx hx), fun A hA hf => ?_⟩
    obtain ⟨B, b1, b2, b3, b4⟩ := claim A hA hf
    obtain ⟨y, y1, y2⟩ := b4 (by omega)
    have hyr := hJr y y1
    have hxr := hJr _ hmem
    have hera := fun z hz hne => era_mem (s.1 ++ [o]) (lgP t (s.1 ++ [o])) z hz hlt hne
    have hty := hmax y y1
    simp only
    generalize (s.1 ++ [o]).getD (lgP t (s.1 ++ [o])) 0 = xx at *
    by_cases hBx : B xx = true
    · have hyx : y ≠ xx := fun e => by rw [e, hBx] at y2; cases y2
      have d1 := ts_hiI (fun _ => 1) hxr.1 hxr.2 hBx
      have d2 := ts_hiI t hxr.1 hxr.2 hBx
      have hdy : dl B xx y = false := by rw [dl_n B hyx]; exact y2
      have d3 := ts_ad (fun _ => 1) hyr hdy
      have d4 := ts_ad t hyr hdy
      try simp only at d1 d3
      refine ⟨ad (dl B xx) y, fun q a b c => ?_, by omega, by omega⟩
      rcases ad_t c with e | e
      · obtain ⟨e1, e2⟩ := dl_t e
        exact hera q (b1 q a b e1) e2
      · rw [e]
        exact hera y y1 hyx
    · refine ⟨B, fun q a b c => hera q (b1 q a b c) (fun e => hBx (by rw [← e]; exact c)), b2, b3⟩
theorem mh_all (ht : ∀ o, 0 ≤ o → o < N → 0 ≤ t o) : ∀ (rest p : List Int) (s : List Int × List Int), (∀ q ∈ p ++ rest, 0 ≤ q ∧ q < N) → (p ++ rest).Pairwise (fun q o => u q < u o ∨ (u q = u o ∧ q < o)) → s.1.Nodup → (∀ x ∈ s.1, x ∈ p) → MHI t u N p s.1 → MHI t u N (p ++ rest) (rest.foldl (goS t u) s).1
  | [], p, s, _, _, _, _, h3 => by
    rw [List.append_nil]
    exact h3
  | o :: rest, p, s, hr, hw, h1, h2, h3 => by
    have hpo : ∀ q ∈ p, u q < u o ∨ (u q = u o ∧ q < o) := fun q hq => (List.pairwise_append.mp hw).2.2 q hq o List.mem_cons_self
    obtain ⟨g1, g2, g3⟩ := mh_step ht (fun q hq => hr q (List.mem_append_left _ hq)) (hr o (by simp)) hpo h1 h2 h3
    have e : p ++ o :: rest = (p ++ [o]) ++ rest := by simp
    rw [List.foldl_cons, e]
    rw [e] at hr hw
    exact mh_all ht rest (p ++ [o]) _ hr hw g1 g2 g3
theorem mh_goL (ht : ∀ o, 0 ≤ o → o < N → 0 ≤ t o) (hN : 0 ≤ N) (hr : ∀ q ∈ l, 0 ≤ q ∧ q < N) (hw : l.Pairwise (fun q o => u q < u o ∨ (u q = u o ∧ q < o))) (hA : ∀ o, 0 ≤ o → o < N → A o = true → o ∈ l) (hf : feS t u N A) : TSx (fun _ => 1) A N ≤ ((goL t u l).1.length : Int) := by
  have h := mh_all (t := t) (u := u) ht l [] ([], []) hr hw List.nodup_nil (fun x hx => by cases hx) (fun A hA _ => ⟨A, hA, rfl, Int.le_refl _⟩)
  obtain ⟨B, b1, b2, -⟩ := h A hA hf
  rw [← b2]
  exact cn_le hN _ B b1
theorem goS_perm (t u : Int → Int) (s : List Int × List Int) (o : Int) : ((goS t u s o).1 ++ (goS t u s o).2).Perm (s.1 ++ s.2 ++ [o]) := by
  have hlt := lgP_lt t (s.1 ++ [o]) (by simp)
  have h1 : ((s.1 ++ [o]) ++ s.2).Perm (s.1 ++ s.2 ++ [o]) := by
    rw [List.append_assoc, List.append_assoc]
    exact List.Perm.append_left s.1 List.perm_append_comm
  unfold goS
  split
  · exact h1
  · refine List.Perm.trans ?_ h1
    have h2 := era_perm (s.1 ++ [o]) (lgP t (s.1 ++ [o])) hlt
    refine List.Perm.trans ?_ (List.Perm.append_right s.2 h2)
    simp only
    rw [List.append_assoc]
    exact List.Perm.append_left _ List.perm_append_comm
theorem goF_perm (t u : Int → Int) : ∀ (l : List Int) (s : List Int × List Int), ((l.foldl (goS t u) s).1 ++ (l.foldl (goS t u) s).2).Perm (s.1 ++ s.2 ++ l)
  | [], s => by rw [List.append_nil]; exact List.Perm.refl _
  | o :: l, s => by
    rw [List.foldl_cons]
    refine (goF_perm t u l (goS t u s o)).trans ?_
    have := List.Perm.append_right l (goS_perm t u s o)
    rw [List.append_assoc (s.1 ++ s.2)] at this
    exact this
/-! sets of places of a row, and sets of its orders -/
theorem cov_le {ll : Int → Int} (hg : ∀ o, 0 ≤ o → o < N → 0 ≤ g o) (hN : 0 ≤ N) : ∀ (n : Nat) (C D : Int → Bool), (∀ i, 0 ≤ i → i < (n : Int) → 0 ≤ ll i ∧ ll i < N) → (∀ q, 0 ≤ q → q < N → C q = true → ∃ k, 0 ≤ k ∧ k < (n : Int) ∧ D k = true ∧ ll k = q) → TSx g C N ≤ TSx (fun i => g (ll i)) D n
  | 0, C, D, _, h => by
    rw [ts_z g hN (fun q a b => by
      cases hc : C q with
      | false => rfl
      | true =>
        obtain ⟨k, k0, k1, -⟩ := h q a b hc
        omega)]
    exact Int.le_refl _
  | n + 1, C, D, hr, h => by
    have hn := hr n (by omega) (by omega)
    have hgn := hg _ hn.1 hn.2
    rw [show ((n + 1 : Nat) : Int) = (n : Int) + 1 by omega, ts_s _ D (by omega)]
    by_cases hD : D n = true
    · rw [if_pos hD]
      have ih := cov_le hg hN n (dl C (ll n)) D (fun i a b => hr i a (by omega)) (fun q a b c => by
        obtain ⟨c1, c2⟩ := dl_t c
        obtain ⟨k, k0, k1, k2, k3⟩ := h q a b c1
        by_cases hk : k = (n : Int)
        · rw [hk] at k3
          exact absurd k3.symm c2
        · exact ⟨k, k0, by omega, k2, k3⟩)
      by_cases hC : C (ll n) = true
      · rw [ts_hiI g hn.1 hn.2 hC]
        omega
      · rw [Bool.not_eq_true] at hC
        have : TSx g C N = TSx g (dl C (ll n)) N := ts_cg g fun q a b => by
          by_cases hq : q = ll n
          · rw [hq, dl_j, hC]
          · rw [dl_n C hq]
        omega
    · rw [if_neg hD, Int.add_zero]
      exact cov_le hg hN n C D (fun i a b => hr i a (by omega)) (fun q a b c => by
        obtain ⟨k, k0, k1, k2, k3⟩ := h q a b c
        by_cases hk : k = (n : Int)
        · rw [hk] at k2
          exact absurd k2 hD
        · exact ⟨k, k0, by omega, k2, k3⟩)
theorem inj_le {ll : Int → Int} (hN : 0 ≤ N) : ∀ (n : Nat) (A B : Int → Bool), (∀ i, 0 ≤ i → i < (n : Int) → 0 ≤ ll i ∧ ll i < N) → (∀ i k, 0 ≤ i → i < k → k < (n : Int) → ll i ≠ ll k) → (∀ k, 0 ≤ k → k < (n : Int) → A k = true → B (ll k) = true) → TSx (fun _ => 1) A n ≤ TSx (fun _ => 1) B N
  | 0, A, B, _, _, _ => ts_0 (fun _ _ _ => by omega) hN
  | n + 1, A, B, hr, hi, h => by
    have hn := hr n (by omega) (by omega)
    rw [show ((n + 1 : Nat) : Int) = (n : Int) + 1 by omega, ts_s _ A (by omega)]
    by_cases hA : A n = true
    · rw [if_pos hA]
      have hB := h n (by omega) (by omega) hA
      have ih := inj_le hN n A (dl B (ll n)) (fun i a b => hr i a (by omega)) (fun i k a b c => hi i k a b (by omega)) (fun k a b c => by
        rw [dl_n B (hi k n a b (by omega))]
        exact h k a (by omega) c)
      have e := ts_hiI (fun _ => 1) hn.1 hn.2 hB
      try simp only at e
      omega
    · rw [if_neg hA, Int.add_zero]
      exact inj_le hN n A B (fun i a b => hr i a (by omega)) (fun i k a b c => hi i k a b (by omega)) (fun k a b c => h k a (by omega) c)
/-- how few of a set of places can be late -/
def LGx (t u : Int → Int) (ll : Int → Int) (n : Int) (χ : Int → Bool) (b : Int) : Prop := ∃ A : Int → Bool, (∀ i, 0 ≤ i → i < n → A i = true → χ i = true) ∧ (∀ i, 0 ≤ i → i < n → A i = true → TSx (fun k => t (ll k)) (fun k => A k && leD u (ll k) (ll i)) n ≤ u (ll i)) ∧ TSx (fun _ => 1) χ n - TSx (fun _ => 1) A n ≤ b
theorem lg_step {ll : Int → Int} (ht : ∀ i, 0 ≤ i → i < n → 0 ≤ t (ll i)) (hj : 0 ≤ j ∧ j < n) (hχ : χ j = true) (h : LGx t u ll n (dl χ j) b) : LGx t u ll n χ (b + if u (ll j) < TSx (fun k => t (ll k)) χ n then 1 else 0) := by
  obtain ⟨A, a1, a2, a3⟩ := h
  have hn : 0 ≤ n := by omega
  have e1 := ts_hiI (fun _ => 1) hj.1 hj.2 hχ
  try simp only at e1
  have hAj : A j = false := by
    cases hc : A j with
    | false => rfl
    | true =>
      have := a1 j hj.1 hj.2 hc
      rw [dl_j] at this
      cases this
  by_cases hq : u (ll j) < TSx (fun k => t (ll k)) χ n
  · rw [if_pos hq]
    exact ⟨A, fun i a b c => (dl_t (a1 i a b c)).1, a2, by omega⟩
  · rw [if_neg hq]
    have e2 := ts_ad (fun _ => 1) hj hAj
    try simp only at e2
    have hsub : ∀ i, 0 ≤ i → i < n → ad A j i = true → χ i = true := fun i a b c => by
      rcases ad_t c with e | e
      · exact (dl_t (a1 i a b e)).1
      · rw [e]; exact hχ
    refine ⟨ad A j, hsub, fun i a b c => ?_, by omega⟩
    by_cases hle : leD u (ll j) (ll i) = true
    · have k1 := ts_sub (g := fun k => t (ll k)) (χ := fun k => ad A j k && leD u (ll k) (ll i)) (χ2 := χ) ht hn (fun k x y z => by
        rw [Bool.and_eq_true] at z
        exact hsub k x y z.1)
      have k2 := leD_u hle
      omega
    · have hij : i ≠ j := fun e => hle (by rw [e]; exact leD_rf u _)
      have hAi : A i = true := by
        rcases ad_t c with e | e
        · exact e
        · exact absurd e hij
      have k1 : TSx (fun k => t (ll k)) (fun k => ad A j k && leD u (ll k) (ll i)) n = TSx (fun k => t (ll k)) (fun k => A k && leD u (ll k) (ll i)) n := ts_cg _ fun k x y => by
        by_cases hk : k = j
        · rw [hk]
          rw [Bool.not_eq_true] at hle
          rw [hle, Bool.and_false, Bool.and_false]
        · rw [ad_n A hk]
      rw [k1]
      exact a2 i a b hAi
end Ec63
