section Ec13
variable {L : Nat} {xs : Nat → Int32} {d : Nat} {M M2 M3 : e_MI} {V : e_ML} {W : e_MD} {K K2 : e_St} {h : e_H} {s t t2 a n : Nat} {o j w z m k q p i f l b e mc tl v T x N : Int} {sc : Bool} {ρ ν μ χ β ε τ u : Int → Int}
/-! the class's questions of a timing -/
theorem TT.a1 (h : TT M t K τ k) : (M t 2 = iI k ∧ 0 ≤ k ∧ k ≤ 16) ∧ e_ar (M (t + 1)) k τ ∧ e_ar (M (t + 2)) k (scW τ) ∧ e_ar (M (t + 3)) k (mcA K τ (scW τ)) ∧ e_ar (M (t + 4)) k (tlA K τ (scW τ)) ∧ e_ar (M (t + 5)) k (scB K τ) ∧ e_ar (M (t + 6)) k (scE K τ) := by
  obtain ⟨ρ, ν, μ, χ, β, ε, ⟨⟨-, g2, g3⟩, ⟨a1, a2, a3, a4, a5, a6⟩, -⟩, hg⟩ := h
  exact ⟨⟨g2, g3⟩, a1.cong fun z x y => (hg z x y).1.1, a2.cong fun z x y => (hg z x y).1.2, a3.cong fun z x y => (hg z x y).2.1.1, a4.cong fun z x y => (hg z x y).2.1.2, a5.cong fun z x y => (hg z x y).2.2.1, a6.cong fun z x y => (hg z x y).2.2.2⟩
theorem TT.a2 (h : TT M t K τ k) : e_ar (M (t + 7)) k (oAh τ) ∧ e_ar (M (t + 8)) k (mAh K τ (scW τ)) ∧ e_ar (M (t + 9)) k (tAh K τ (scW τ)) ∧ (∀ p, 0 ≤ p → p < k → M (t + 10) (τ p * 4 + scW τ p).toNat = iI p) ∧ e_ar (M (t + 11)) 8 (laF τ k) ∧ e_ar (M (t + 14)) 8 (fun o => cnt τ o k) := by
  obtain ⟨ρ, ν, μ, χ, β, ε, ⟨-, -, ⟨b1, b2, b3, b4⟩, ⟨c11, -, -, c14⟩, -⟩, hg⟩ := h
  refine ⟨b1.cong fun z x y => oAh_cong x (fun p a b => (hg p a (by omega)).1.1), b2.cong fun z x y => ?_, b3.cong fun z x y => ?_, fun p x y => ?_, c11.cong fun z x y => laF_cong z (fun p a b => (hg p a b).1.1), c14.cong fun z x y => cnt_cong fun p a b => (hg p a b).1.1⟩
  · unfold oAh mAh
    exact zLP_cong fun p a b => by rw [(hg p a (by omega)).2.1.1, (hg z x y).2.1.1]
  · unfold tbF tAh oAh
    rw [(hg z x y).2.1.2]
    split
    · rfl
    · exact zLP_cong fun p a b => by rw [(hg p a (by omega)).2.1.2]
  · have := b4 p x y
    rw [(hg p x y).1.1, (hg p x y).1.2] at this
    exact this
theorem tt_latest (ht : e_isT t) (hT : TT M t K τ k) (hr : kR K) (hp : kP K) (hv : vP K τ k) : e_lim L xs (d + 2) 79 0 [some (.ref t), none, none] [] (e_hp M V W) = some (.inl (some (.int (iI (mX (scE K τ) k)))), e_hp M V W, 0, 0) := by
  obtain ⟨⟨t2, k0, k16⟩, a1, a2, a3, a4, a5, a6⟩ := hT.a1
  simp (disch := first | assumption | exact e_nk_i _ | exact e_nk_n | exact e_nk_r _ | exact e_bo_0 | exact e_bo_1 | exact e_bo_b _ | omega) only [e_cl_v, e_cl_x, e_add_0, e_add_s, Option.toList_some, Option.toList_none, List.cons_append, List.nil_append, iI_add, iI_sub, iI_mul, iI_lt, iI_eq, iI_le, r79_0, r79_1, r79_2, r79_3]
  refine G_loopI (C := fun i => e_lim L xs (d + 2) 79 4 [some (.ref t), some (.int (iI (mX (scE K τ) i))), some (.int (iI i))] [] (e_hp M V W)) (i := 0) k0 (fun j a b hc => ?_) ?_
  · have e1 := tg_finishAt (L := L) (xs := xs) (d := d) (V := V) (W := W) ht a6 a b k16
    have r1 := sc_spI hr hp hv a b
    have r2 := mX_rg (f := scE K τ) (n := j) (c := 2001) a (by omega) (fun p x y => (sc_spI hr hp hv x (by omega)).1.2.2)
    rw [mX_s _ a, mx_if] at hc
    rw [r79_4]
    simp (disch := first | assumption | exact e_nk_i _ | exact e_nk_n | exact e_nk_r _ | exact e_bo_0 | exact e_bo_1 | exact e_bo_b _ | omega) only [e_cl_v, e_cl_x, e_add_0, e_add_s, Option.toList_some, Option.toList_none, List.cons_append, List.nil_append, iI_add, iI_sub, iI_mul, iI_lt, iI_eq, iI_le, r79_5, r79_6, r79_9, r79_12, r79_13, r79_14, r79_15, r79_18, r79_21, r79_22, r79_25, t2, e1, iI_mx]
    rw [if_pos b]
    exact hc
  · rw [r79_4]
    simp (disch := first | assumption | exact e_nk_i _ | exact e_nk_n | exact e_nk_r _ | exact e_bo_0 | exact e_bo_1 | exact e_bo_b _ | omega) only [e_cl_v, e_cl_x, e_add_0, e_add_s, Option.toList_some, Option.toList_none, List.cons_append, List.nil_append, iI_add, iI_sub, iI_mul, iI_lt, iI_eq, iI_le, r79_5, r79_6, r79_9, r79_28, r79_29, t2]
    rw [if_neg (by omega)]
theorem tt_isDoneAt (ht : e_isT t) (hT : TT M t K τ k) (hr : kR K) (hp : kP K) (hv : vP K τ k) (h0 : 0 ≤ p ∧ p < k) (hx : 0 ≤ x ∧ x ≤ 3000) : e_lim L xs (d + 2) 81 0 [some (.ref t), some (.int (iI p)), some (.int (iI x))] [] (e_hp M V W) = some (.inl (some (.int (bI (decide (scB K τ p ≤ x ∧ x ≤ scE K τ p - 1))))), e_hp M V W, 0, 0) := by
  obtain ⟨⟨t2, k0, k16⟩, a1, a2, a3, a4, a5, a6⟩ := hT.a1
  have e1 := m_atI (L := L) (xs := xs) (d := d + 1) (M := M) (V := V) (W := W) ht.i5 (z := p) h0.1 (by omega) (a5 p h0.1 h0.2)
  have e2 := tg_finishAt (L := L) (xs := xs) (d := d) (V := V) (W := W) ht a6 h0.1 h0.2 k16
  have r1 := sc_spI hr hp hv h0.1 h0.2
  simp (disch := first | assumption | exact e_nk_i _ | exact e_nk_n | exact e_nk_r _ | exact e_bo_0 | exact e_bo_1 | exact e_bo_b _ | omega) only [e_cl_v, e_cl_x, e_add_0, e_add_s, Option.toList_some, Option.toList_none, List.cons_append, List.nil_append, iI_add, iI_sub, iI_mul, iI_lt, iI_eq, iI_le, r81_0, r81_1, r81_4, r81_5, r81_8, r81_9, r81_12, r81_13, r81_14, r81_15, r81_18, r81_21, r81_22, r81_25, r81_26, e1, e2]
  by_cases z1 : x < scB K τ p
  · rw [if_pos z1, decide_eq_false (by omega), bI_f]
  · rw [if_neg z1]
    by_cases z2 : x < scE K τ p
    · rw [if_pos z2, decide_eq_true (by omega), bI_t]
    · rw [if_neg z2, decide_eq_false (by omega), bI_f]
theorem tt_countAtTime (ht : e_isT t) (hT : TT M t K τ k) (hr : kR K) (hp : kP K) (hv : vP K τ k) (hx : 0 ≤ x ∧ x ≤ 3000) : e_lim L xs (d + 3) 82 0 [some (.ref t), some (.int (iI x)), none, none] [] (e_hp M V W) = some (.inl (some (.int (iI (bz (scB K τ) (scE K τ) k x)))), e_hp M V W, 0, 0) := by
  obtain ⟨⟨t2, k0, k16⟩, a1, a2, a3, a4, a5, a6⟩ := hT.a1
  simp (disch := first | assumption | exact e_nk_i _ | exact e_nk_n | exact e_nk_r _ | exact e_bo_0 | exact e_bo_1 | exact e_bo_b _ | omega) only [e_cl_v, e_cl_x, e_add_0, e_add_s, Option.toList_some, Option.toList_none, List.cons_append, List.nil_append, iI_add, iI_sub, iI_mul, iI_lt, iI_eq, iI_le, r82_0, r82_1, r82_2, r82_3]
  rw [show (iI 0 : Int32) = iI (bz (scB K τ) (scE K τ) 0 x) from rfl]
  refine G_loopI (C := fun i => e_lim L xs (d + 3) 82 4 [some (.ref t), some (.int (iI x)), some (.int (iI (bz (scB K τ) (scE K τ) i x))), some (.int (iI i))] [] (e_hp M V W)) (i := 0) k0 (fun j a b hc => ?_) ?_
  · have e1 := tt_isDoneAt (L := L) (xs := xs) (d := d) (V := V) (W := W) ht hT hr hp hv ⟨a, b⟩ hx
    rw [bz_s _ _ _ a] at hc
    rw [r82_4]
    by_cases z : scB K τ j ≤ x ∧ x ≤ scE K τ j - 1
    · rw [if_pos z] at hc
      rw [decide_eq_true z, bI_t] at e1
      simp (disch := first | assumption | exact e_nk_i _ | exact e_nk_n | exact e_nk_r _ | exact e_bo_0 | exact e_bo_1 | exact e_bo_b _ | omega) only [e_cl_v, e_cl_x, e_add_0, e_add_s, Option.toList_some, Option.toList_none, List.cons_append, List.nil_append, iI_add, iI_sub, iI_mul, iI_lt, iI_eq, iI_le, r82_5, r82_6, r82_9, r82_12, r82_13, r82_14, r82_15, r82_16, r82_19, r82_22, r82_23, r82_26, r82_27, r82_28, r82_29, r82_32, t2, e1]
      rw [if_pos b]
      simpa using hc
    · rw [if_neg z] at hc
      rw [decide_eq_false z, bI_f] at e1
      simp (disch := first | assumption | exact e_nk_i _ | exact e_nk_n | exact e_nk_r _ | exact e_bo_0 | exact e_bo_1 | exact e_bo_b _ | omega) only [e_cl_v, e_cl_x, e_add_0, e_add_s, Option.toList_some, Option.toList_none, List.cons_append, List.nil_append, iI_add, iI_sub, iI_mul, iI_lt, iI_eq, iI_le, r82_5, r82_6, r82_9, r82_12, r82_13, r82_14, r82_15, r82_16, r82_19, r82_22, r82_23, r82_26, r82_27, r82_28, r82_29, r82_32, t2, e1]
      rw [if_pos b]
      simpa using hc
  · rw [r82_4]
    simp (disch := first | assumption | exact e_nk_i _ | exact e_nk_n | exact e_nk_r _ | exact e_bo_0 | exact e_bo_1 | exact e_bo_b _ | omega) only [e_cl_v, e_cl_x, e_add_0, e_add_s, Option.toList_some, Option.toList_none, List.cons_append, List.nil_append, iI_add, iI_sub, iI_mul, iI_lt, iI_eq, iI_le, r82_5, r82_6, r82_9, r82_35, r82_36, t2]
    rw [if_neg (by omega)]
def ooP (K : e_St) (τ : Int → Int) (m x : Int) : Int → Bool := fun k => decide (mcA K τ (scW τ) k = m ∧ scB K τ k ≤ x ∧ x ≤ scE K τ k - 1)
theorem tt_orderOn (ht : e_isT t) (hT : TT M t K τ k) (hr : kR K) (hp : kP K) (hv : vP K τ k) (hm : 0 ≤ m ∧ m ≤ 3) (hx : 0 ≤ x ∧ x ≤ 3000) : e_lim L xs (d + 3) 83 0 [some (.ref t), some (.int (iI m)), some (.int (iI x)), none] [] (e_hp M V W) = some (.inl (some (.int (iI (if fsN (ooP K τ m x) k = -1 then -1 else τ (fsN (ooP K τ m x) k))))), e_hp M V W, 0, 0) := by
  obtain ⟨⟨t2, k0, k16⟩, a1, a2, a3, a4, a5, a6⟩ := hT.a1
  simp (disch := first | assumption | exact e_nk_i _ | exact e_nk_n | exact e_nk_r _ | exact e_bo_0 | exact e_bo_1 | exact e_bo_b _ | omega) only [e_cl_v, e_cl_x, e_add_0, e_add_s, Option.toList_some, Option.toList_none, List.cons_append, List.nil_append, iI_add, iI_sub, iI_mul, iI_lt, iI_eq, iI_le, r83_0, r83_1]
  refine G_find (C := fun i => e_lim L xs (d + 3) 83 2 [some (.ref t), some (.int (iI m)), some (.int (iI x)), some (.int (iI i))] [] (e_hp M V W)) (p := ooP K τ m x) (i := 0) k0 (fun j a b hp2 hc => ?_) (fun j a b hp2 hf => ?_) (fun hf => ?_)
  · have e1 := m_atI (L := L) (xs := xs) (d := d + 2) (M := M) (V := V) (W := W) ht.i3 (z := j) a (by omega) (a3 j a b)
    have e2 := tt_isDoneAt (L := L) (xs := xs) (d := d) (V := V) (W := W) ht hT hr hp hv ⟨a, b⟩ hx
    have r1 := (hv.rg hr a b).2.2.1
    unfold ooP at hp2
    rw [decide_eq_false_iff_not] at hp2
    rw [r83_2]
    simp (disch := first | assumption | exact e_nk_i _ | exact e_nk_n | exact e_nk_r _ | exact e_bo_0 | exact e_bo_1 | exact e_bo_b _ | omega) only [e_cl_v, e_cl_x, e_add_0, e_add_s, Option.toList_some, Option.toList_none, List.cons_append, List.nil_append, iI_add, iI_sub, iI_mul, iI_lt, iI_eq, iI_le, r83_3, r83_4, r83_7, r83_10, r83_11, r83_14, r83_15, r83_18, r83_19, r83_22, r83_23, r83_24, r83_25, r83_28, r83_31, r83_32, r83_35, r83_36, r83_39, r83_40, r83_43, t2, e1, e2, bI_0]
    rw [if_pos b]
    by_cases z : mcA K τ (scW τ) j = m
    · rw [if_pos z, if_pos (by rw [decide_eq_false_iff_not]; exact fun y => hp2 ⟨z, y⟩)]
      exact hc
    · rw [if_neg z]
      exact hc
  · have e1 := m_atI (L := L) (xs := xs) (d := d + 2) (M := M) (V := V) (W := W) ht.i3 (z := j) a (by omega) (a3 j a b)
    have e2 := tt_isDoneAt (L := L) (xs := xs) (d := d) (V := V) (W := W) ht hT hr hp hv ⟨a, b⟩ hx
    have e3 := m_atI (L := L) (xs := xs) (d := d + 2) (M := M) (V := V) (W := W) ht.i1 (z := j) a (by omega) (a1 j a b)
    have r1 := (hv.rg hr a b).2.2.1
    rw [fsN_hit a b hp2 hf, if_neg (by omega)]
    unfold ooP at hp2
    rw [decide_eq_true_eq] at hp2
    rw [r83_2]
    simp (disch := first | assumption | exact e_nk_i _ | exact e_nk_n | exact e_nk_r _ | exact e_bo_0 | exact e_bo_1 | exact e_bo_b _ | omega) only [e_cl_v, e_cl_x, e_add_0, e_add_s, Option.toList_some, Option.toList_none, List.cons_append, List.nil_append, iI_add, iI_sub, iI_mul, iI_lt, iI_eq, iI_le, r83_3, r83_4, r83_7, r83_10, r83_11, r83_14, r83_15, r83_18, r83_19, r83_22, r83_23, r83_24, r83_25, r83_28, r83_31, r83_32, r83_35, r83_36, r83_39, r83_40, r83_43, t2, e1, e2, e3, bI_0]
    rw [if_pos b, if_pos hp2.1, if_neg (by rw [decide_eq_false_iff_not]; exact fun y => y hp2.2)]
  · rw [fsN_none k0 hf, if_pos rfl, r83_2]
    simp (disch := first | assumption | exact e_nk_i _ | exact e_nk_n | exact e_nk_r _ | exact e_bo_0 | exact e_bo_1 | exact e_bo_b _ | omega) only [e_cl_v, e_cl_x, e_add_0, e_add_s, Option.toList_some, Option.toList_none, List.cons_append, List.nil_append, iI_add, iI_sub, iI_mul, iI_lt, iI_eq, iI_le, r83_3, r83_4, r83_7, r83_46, r83_47, t2]
    rw [if_neg (by omega)]
theorem tt_beginOf (ht : e_isT t) (hT : TT M t K τ (aW K)) (hr : kR K) (hv : vR K τ) (hn : 0 ≤ aW K) (ho : 0 ≤ o ∧ o < K 310) (hw : 0 ≤ w ∧ w < K (40 + o)) : e_lim L xs (d + 1) 77 0 [some (.ref t), some (.int (iI o)), some (.int (iI w))] [] (e_hp M V W) = some (.inl (some (.int (iI (scB K τ (plO K τ o w))))), e_hp M V W, 0, 0) := by
  obtain ⟨⟨t2, k0, k16⟩, a1, a2, a3, a4, a5, a6⟩ := hT.a1
  obtain ⟨-, -, -, b4, -, -⟩ := hT.a2
  have hn8 := hr.n
  have hwk := hr.wk (o := o) ho.1 (by omega)
  obtain ⟨⟨x, y⟩, ⟨z1, z2⟩, -⟩ := plO_sp hr hv hn ho hw
  have g1 := b4 _ x y
  rw [z1, z2] at g1
  have e1 := m_atI (L := L) (xs := xs) (d := d) (M := M) (V := V) (W := W) ht.i10 (z := o * 4 + w) (by omega) (by omega) g1
  have e2 := m_atI (L := L) (xs := xs) (d := d) (M := M) (V := V) (W := W) ht.i5 (z := plO K τ o w) x (by omega) (a5 _ x y)
  simp (disch := first | assumption | exact e_nk_i _ | exact e_nk_n | exact e_nk_r _ | exact e_bo_0 | exact e_bo_1 | exact e_bo_b _ | omega) only [e_cl_v, e_cl_x, e_add_0, e_add_s, Option.toList_some, Option.toList_none, List.cons_append, List.nil_append, iI_add, iI_sub, iI_mul, iI_lt, iI_eq, iI_le, r77_0, r77_1, r77_4, r77_5, r77_8, r77_9, r77_10, r77_11, r77_12, r77_13, r77_16, r77_19, e1, e2]
theorem laF_pl (hr : kR K) (hv : vR K τ) (hn : 0 ≤ aW K) (ho : 0 ≤ o ∧ o < K 310) (hw : K (40 + o) ≠ 0) : laF τ (aW K) o = plO K τ o (K (40 + o) - 1) := by
  have hn8 := hr.n
  have hwk := hr.wk (o := o) ho.1 (by omega)
  have hc := hv.2 o ho.1 ho.2
  obtain ⟨-, -, un⟩ := plO_sp hr hv hn ho (w := K (40 + o) - 1) (by omega)
  rcases zLP_cases (fun q => decide (τ q = o)) (aW K) hn with ⟨a, b⟩ | ⟨a, b, c, e⟩
  · exfalso
    have : cnt τ o (aW K) = cnt τ o (0 + ((aW K).toNat : Int)) := by rw [show (0 : Int) + ((aW K).toNat : Int) = aW K by omega]
    rw [cnt_ext (Int.le_refl _) (aW K).toNat (fun p x y => by
      have := b p x (by omega)
      rw [decide_eq_false_iff_not] at this
      exact this)] at this
    have h0 : cnt τ o 0 = 0 := rfl
    omega
  · have hl : laF τ (aW K) o = zLP (fun q => decide (τ q = o)) (aW K) := rfl
    rw [decide_eq_true_eq] at c
    rw [← hl] at a b c e
    refine un _ a c ?_
    show cnt τ (τ (laF τ (aW K) o)) (laF τ (aW K) o) = _
    rw [c]
    have h1 := cnt_s τ o a
    rw [if_pos c] at h1
    have h2 := cnt_ext (ρ := τ) (o := o) (a := laF τ (aW K) o + 1) (by omega) (aW K - (laF τ (aW K) o + 1)).toNat (fun p x y => by
      have := e p (by omega) (by omega)
      rw [decide_eq_false_iff_not] at this
      exact this)
    rw [show laF τ (aW K) o + 1 + ((aW K - (laF τ (aW K) o + 1)).toNat : Int) = aW K by omega] at h2
    omega
theorem tt_finishOf (ht : e_isT t) (hT : TT M t K τ (aW K)) (H : SH M 1 K) (hr : kR K) (hv : vR K τ) (hn : 0 ≤ aW K) (ho : 0 ≤ o ∧ o < K 310) : e_lim L xs (d + 2) 78 0 [some (.ref t), some (.ref 1), some (.int (iI o))] [] (e_hp M V W) = some (.inl (some (.int (iI (enO K τ o)))), e_hp M V W, 0, 0) := by
  obtain ⟨⟨t2, k0, k16⟩, a1, a2, a3, a4, a5, a6⟩ := hT.a1
  obtain ⟨-, -, -, -, b11, b14⟩ := hT.a2
  have hn8 := hr.n
  have hwk := hr.wk (o := o) ho.1 (by omega)
  have g1 := b14 o ho.1 (by omega)
  simp only at g1
  rw [hv.2 o ho.1 ho.2] at g1
  have e1 := m_atI (L := L) (xs := xs) (d := d + 1) (M := M) (V := V) (W := W) ht.i14 (z := o) ho.1 (by omega) g1
  have e2 := s_orderCell (L := L) (xs := xs) (d := d) (V := V) (W := W) H hn8.2 ho.1 ho.2 (j := 2) (by omega) (by omega)
  rw [show 8 * 2 + o = 16 + o by omega] at e2
  unfold enO
  by_cases hq : K (40 + o) = 0
  · rw [if_pos hq]
    rw [hq] at e1
    simp (disch := first | assumption | exact e_nk_i _ | exact e_nk_n | exact e_nk_r _ | exact e_bo_0 | exact e_bo_1 | exact e_bo_b _ | omega) only [e_cl_v, e_cl_x, e_add_0, e_add_s, Option.toList_some, Option.toList_none, List.cons_append, List.nil_append, iI_add, iI_sub, iI_mul, iI_lt, iI_eq, iI_le, r78_0, r78_1, r78_4, r78_5, r78_8, r78_11, r78_12, r78_13, r78_14, r78_17, r78_20, r78_21, r78_22, r78_25, r78_26, r78_29, r78_32, e1, e2]
    simp
  · rw [if_neg hq]
    have hl := laF_pl hr hv hn ho hq
    obtain ⟨⟨x, y⟩, -, -⟩ := plO_sp hr hv hn ho (w := K (40 + o) - 1) (by omega)
    have g2 := b11 o ho.1 (by omega)
    rw [hl] at g2
    have e3 := m_atI (L := L) (xs := xs) (d := d + 1) (M := M) (V := V) (W := W) ht.i11 (z := o) ho.1 (by omega) g2
    have e4 := tg_finishAt (L := L) (xs := xs) (d := d) (V := V) (W := W) ht a6 x y k16
    simp (disch := first | assumption | exact e_nk_i _ | exact e_nk_n | exact e_nk_r _ | exact e_bo_0 | exact e_bo_1 | exact e_bo_b _ | omega) only [e_cl_v, e_cl_x, e_add_0, e_add_s, Option.toList_some, Option.toList_none, List.cons_append, List.nil_append, iI_add, iI_sub, iI_mul, iI_lt, iI_eq, iI_le, r78_0, r78_1, r78_4, r78_5, r78_8, r78_11, r78_12, r78_13, r78_14, r78_17, r78_20, r78_21, r78_22, r78_25, r78_26, r78_29, r78_32, e1, e3, e4]
    rw [if_neg hq]
theorem tt_countMoved (ht : e_isT t) (hT : TT M t K τ (aW K)) (hT2 : TT M 149 K2 u (aW K2)) (hr : kR K) (hp : kP K) (hr2 : kR K2) (hp2 : kP K2) (hv : vR K τ) (hv2 : vR K2 u) (hn : 0 ≤ aW K) (hn2 : 0 ≤ aW K2) (h310 : K2 310 = K 310) (h40 : ∀ o, 0 ≤ o → o < K 310 → K2 (40 + o) = K (40 + o)) : e_lim L xs (d + 2) 80 0 [some (.ref t), some (.ref 149), none, none] [] (e_hp M V W) = some (.inl (some (.int (iI (SU (fun p => if scB K2 u (plO K2 u (τ p) (scW τ p)) = scB K τ p then 0 else 1) (aW K))))), e_hp M V W, 0, 0) := by
  obtain ⟨⟨q2, k0, k16⟩, a1, a2, a3, a4, a5, a6⟩ := hT.a1
  simp (disch := first | assumption | exact e_nk_i _ | exact e_nk_n | exact e_nk_r _ | exact e_bo_0 | exact e_bo_1 | exact e_bo_b _ | omega) only [e_cl_v, e_cl_x, e_add_0, e_add_s, Option.toList_some, Option.toList_none, List.cons_append, List.nil_append, iI_add, iI_sub, iI_mul, iI_lt, iI_eq, iI_le, r80_0, r80_1, r80_2, r80_3]
  rw [show (iI 0 : Int32) = iI (SU (fun p => if scB K2 u (plO K2 u (τ p) (scW τ p)) = scB K τ p then 0 else 1) 0) from rfl]
  refine G_loopI (C := fun i => e_lim L xs (d + 2) 80 4 [some (.ref t), some (.ref 149), some (.int (iI (SU (fun p => if scB K2 u (plO K2 u (τ p) (scW τ p)) = scB K τ p then 0 else 1) i))), some (.int (iI i))] [] (e_hp M V W)) (i := 0) k0 (fun j a b hc => ?_) ?_
  · have v := hv.vp hr j a b
    have hw : scW τ j = cnt τ (τ j) j := rfl
    have hw0 := cnt_rg τ (τ j) a
    have e1 := m_atI (L := L) (xs := xs) (d := d + 1) (M := M) (V := V) (W := W) ht.i5 (z := j) a (by omega) (a5 j a b)
    have e2 := m_atI (L := L) (xs := xs) (d := d + 1) (M := M) (V := V) (W := W) ht.i1 (z := j) a (by omega) (a1 j a b)
    have e3 := m_atI (L := L) (xs := xs) (d := d + 1) (M := M) (V := V) (W := W) ht.i2 (z := j) a (by omega) (a2 j a b)
    have hwj : 0 ≤ scW τ j ∧ scW τ j < K2 (40 + τ j) := by rw [h40 _ v.1.1 v.1.2]; omega
    have hoj : 0 ≤ τ j ∧ τ j < K2 310 := by rw [h310]; exact v.1
    have e4 := tt_beginOf (L := L) (xs := xs) (d := d) (V := V) (W := W) (t := 149) e_isT_1 hT2 hr2 hv2 hn2 (o := τ j) (w := scW τ j) hoj hwj
    have r1 := (sc_spI hr hp (hv.vp hr) a b).1.1
    obtain ⟨⟨x, y⟩, -, -⟩ := plO_sp hr2 hv2 hn2 (o := τ j) (w := scW τ j) hoj hwj
    have r2 := (sc_spI hr2 hp2 (hv2.vp hr2) x y).1.1
    rw [SU_s _ a] at hc
    rw [r80_4]
    simp (disch := first | assumption | exact e_nk_i _ | exact e_nk_n | exact e_nk_r _ | exact e_bo_0 | exact e_bo_1 | exact e_bo_b _ | omega) only [e_cl_v, e_cl_x, e_add_0, e_add_s, Option.toList_some, Option.toList_none, List.cons_append, List.nil_append, iI_add, iI_sub, iI_mul, iI_lt, iI_eq, iI_le, r80_5, r80_6, r80_9, r80_12, r80_13, r80_16, r80_17, r80_20, r80_21, r80_22, r80_25, r80_26, r80_29, r80_30, r80_33, r80_34, r80_37, r80_40, r80_43, r80_46, r80_49, q2, e1, e2, e3, e4]
    rw [if_pos b]
    by_cases z : scB K τ j = scB K2 u (plO K2 u (τ j) (scW τ j))
    · rw [if_pos z]
      rw [if_pos z.symm, Int.add_zero] at hc
      exact hc
    · rw [if_neg z]
      rw [if_neg (Ne.symm z)] at hc
      exact hc
  · rw [r80_4]
    simp (disch := first | assumption | exact e_nk_i _ | exact e_nk_n | exact e_nk_r _ | exact e_bo_0 | exact e_bo_1 | exact e_bo_b _ | omega) only [e_cl_v, e_cl_x, e_add_0, e_add_s, Option.toList_some, Option.toList_none, List.cons_append, List.nil_append, iI_add, iI_sub, iI_mul, iI_lt, iI_eq, iI_le, r80_5, r80_6, r80_9, r80_52, r80_53, q2]
    rw [if_neg (by omega)]
end Ec13
