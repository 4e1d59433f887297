section E55
variable {L : Nat} {xs : Nat → Int32} {d : Nat} {M : e_MI} {V : e_ML} {W : e_MD} {K : e_St} {h : e_H} {ρ ω β ε ρ2 ω2 β2 ε2 τ : Int → Int} {k : Int}
/-- a loop whose memory changes -/
theorem G_lp {I P : Int → e_MI → Prop} {i n : Int} (hs : ∀ j M, i ≤ j → j < n → I j M → (∀ M2, I (j + 1) M2 → P (j + 1) M2) → P j M) (he : ∀ M, I n M → P n M) (hi : i ≤ n) : ∀ M, I i M → P i M := by
  have : ∀ k : Nat, i + k ≤ n → ∀ M, I (n - k) M → P (n - k) M := by
    intro k
    induction k with
    | zero => intro _; rw [show n - ((0 : Nat) : Int) = n by omega]; exact he
    | succ k ih =>
      intro hk M hM
      refine hs _ M (by omega) (by omega) hM ?_
      rw [show n - ((k + 1 : Nat) : Int) + 1 = n - (k : Int) by omega]
      exact ih (by omega)
  have h1 := this (n - i).toNat (by omega)
  rw [show n - ((n - i).toNat : Int) = i by omega] at h1
  exact h1
theorem e_ar.mr {f : Nat → Int32} {n : Int} {r : Int → Int} (h : e_ar f n r) (h0 : 0 ≤ n) : e_ar (upd f n.toNat (iI (r n))) (n + 1) r := (h.more (v := r n) h0).cong (fun z _ _ => by
  unfold uI
  split
  · rename_i hq
    rw [hq]
  · rfl)
/-- a row of places that goes -/
def vR (K : e_St) (τ : Int → Int) : Prop := (∀ p, 0 ≤ p → p < aW K → 0 ≤ τ p ∧ τ p < K 310) ∧ ∀ o, 0 ≤ o → o < K 310 → cnt τ o (aW K) = K (40 + o)
def kV (K : e_St) : Prop := (0 ≤ aW K ∧ aW K ≤ 16) ∧ vR K (fun p => K (241 + p))
theorem cnt_mono {o i n : Int} (h0 : 0 ≤ i) (hi : i ≤ n) : cnt τ o i ≤ cnt τ o n := SU_mono (fun j _ _ => by split <;> omega) h0 hi
theorem vR.c (hr : kR K) (h : vR K τ) {p : Int} (h0 : 0 ≤ p) (h1 : p < aW K) : (0 ≤ τ p ∧ τ p ≤ 7) ∧ cnt τ (τ p) p < K (40 + τ p) ∧ cnt τ (τ p) p ≤ 3 := by
  have hn := hr.n
  have a := h.1 p h0 h1
  have b := h.2 (τ p) a.1 a.2
  have c := cnt_mono (τ := τ) (o := τ p) (i := p + 1) (n := aW K) (by omega) (by omega)
  have e := cnt_s τ (τ p) h0
  rw [if_pos rfl] at e
  have g := hr.wk (o := τ p) a.1 (by omega)
  omega
def frT (M M2 : e_MI) : Prop := (∀ a, a ≠ 184 → a ≠ 188 → a ≠ 189 → a ≠ 190 → a ≠ 191 → a ≠ 192 → M2 a = M a) ∧ ∀ j, j ≠ 0 → j ≠ 9 → M2 184 j = M 184 j
theorem frT.KM {M2 : e_MI} (h : frT M M2) (hK : e_KM M K) : e_KM M2 K := by
  unfold e_KM
  rw [h.1 _ (by decide) (by decide) (by decide) (by decide) (by decide) (by decide)]
  exact hK
theorem frT.t {M2 M3 : e_MI} (h : frT M M2) (h2 : frT M2 M3) : frT M M3 := ⟨fun a x0 x1 x2 x3 x4 x5 => by rw [h2.1 a x0 x1 x2 x3 x4 x5, h.1 a x0 x1 x2 x3 x4 x5], fun j x0 x1 => by rw [h2.2 j x0 x1, h.2 j x0 x1]⟩
theorem mm_timesTried (hK : e_KM M K) (hr : kR K) (hS : e_SC M ρ ω β ε) {n : Int} (hn0 : 0 ≤ n) (hn : n ≤ 16) (ht : e_ar (M 192) n τ) (hτ : ∀ p, 0 ≤ p → p < n → (0 ≤ τ p ∧ τ p ≤ 7) ∧ cnt τ (τ p) p ≤ 3) : ∃ (M2 : e_MI) (ρ2 ω2 β2 ε2 : Int → Int), e_lim L xs (d + 4) 219 0 [some (.ref 184), some (.int (iI n)), none] [] (e_hp M V W) = some (.inl (some (.int (bI (fiR K τ n)))), e_hp M2 V W, 0, 0) ∧ e_SC M2 ρ2 ω2 β2 ε2 ∧ (fiR K τ n = true → agR K τ n ρ2 ω2 β2 ε2) ∧ frT M M2 ∧ M2 184 9 = iI n ∧ M2 184 0 = M 184 0 := by
  obtain ⟨M2, ρ2, ω2, β2, ε2, e, hS2, hg, hF⟩ := mm_ttL (L := L) (xs := xs) (d := d) (V := V) (W := W) hr hn hτ n.toNat 0 (e_u M 184 (upd (M 184) 9 (iI n))) ρ ω β ε (by omega) (by omega) (by unfold e_KM; rw [e_u_n _ _ (by decide)]; exact hK) (by rw [e_u_n _ _ (by decide)]; exact ht) (by
    unfold e_SC
    rw [e_u_n _ _ (by decide), e_u_n _ _ (by decide), e_u_n _ _ (by decide), e_u_n _ _ (by decide)]
    exact hS) (fun p a b => by omega) (fun p a b => by omega)
  have h184 := hF 184 (by decide) (by decide) (by decide) (by decide)
  rw [e_u_s] at h184
  refine ⟨M2, ρ2, ω2, β2, ε2, ?_, hS2, hg, ⟨fun a x0 x1 x2 x3 x4 x5 => ?_, fun j x0 x1 => ?_⟩, ?_, ?_⟩
  · rw [← e]
    simp (disch := first | assumption | exact e_nk_i _ | exact e_nk_n | exact e_nk_r _ | exact e_bo_0 | exact e_bo_1 | exact e_bo_b _ | omega) only [e_cl_v, e_cl_x, e_add_0, e_add_s, Option.toList_some, Option.toList_none, List.cons_append, List.nil_append, iI_add, iI_sub, iI_mul, iI_lt, iI_eq, iI_le, r219_0, r219_1, r219_2, r219_5, r219_6]
  · rw [hF a x1 x2 x3 x4, e_u_n _ _ x0]
  · rw [h184, upd_n _ _ x1]
  · rw [h184, upd_s]
  · rw [h184, upd_n _ _ (by decide)]
/-- the present row -/
def rwK (K : e_St) : Int → Int := fun p => K (241 + p)
theorem mm_times (hK : e_KM M K) (hr : kR K) (hv : kV K) (hS : e_SC M ρ ω β ε) : ∃ (M2 : e_MI) (ρ2 ω2 β2 ε2 : Int → Int), e_lim L xs (d + 5) 220 0 [some (.ref 184), none] [] (e_hp M V W) = some (.inl (some (.int (bI (fiR K (rwK K) (aW K))))), e_hp M2 V W, 0, 0) ∧ e_SC M2 ρ2 ω2 β2 ε2 ∧ (fiR K (rwK K) (aW K) = true → agR K (rwK K) (aW K) ρ2 ω2 β2 ε2) ∧ frT M M2 ∧ M2 184 9 = iI (aW K) ∧ M2 184 0 = M 184 0 := by
  have hn := hv.1
  have hA : ∀ M1 : e_MI, (∀ a, a ≠ 192 → M1 a = M a) → e_KM M1 K ∧ e_SC M1 ρ ω β ε := fun M1 hM1 => ⟨by unfold e_KM; rw [hM1 _ (by decide)]; exact hK, by
    unfold e_SC
    rw [hM1 _ (by decide), hM1 _ (by decide), hM1 _ (by decide), hM1 _ (by decide)]
    exact hS⟩
  have key := G_lp (i := 0) (n := aW K) (I := fun i M1 => e_ar (M1 192) i (rwK K) ∧ ∀ a, a ≠ 192 → M1 a = M a) (P := fun i M1 => ∃ (M2 : e_MI) (ρ2 ω2 β2 ε2 : Int → Int), e_lim L xs (d + 5) 220 2 [some (.ref 184), some (.int (iI i))] [] (e_hp M1 V W) = some (.inl (some (.int (bI (fiR K (rwK K) (aW K))))), e_hp M2 V W, 0, 0) ∧ e_SC M2 ρ2 ω2 β2 ε2 ∧ (fiR K (rwK K) (aW K) = true → agR K (rwK K) (aW K) ρ2 ω2 β2 ε2) ∧ frT M M2 ∧ M2 184 9 = iI (aW K) ∧ M2 184 0 = M 184 0) (fun j M1 h0 h1 hI hc => ?_) (fun M1 hI => ?_) hn.1 M ⟨fun p a b => by omega, fun _ _ => rfl⟩
  · obtain ⟨M2, ρ2, ω2, β2, ε2, e, rest⟩ := key
    refine ⟨M2, ρ2, ω2, β2, ε2, ?_, rest⟩
    rw [← e]
    simp (disch := first | assumption | exact e_nk_i _ | exact e_nk_n | exact e_nk_r _ | exact e_bo_0 | exact e_bo_1 | exact e_bo_b _ | omega) only [e_cl_v, e_cl_x, e_add_0, e_add_s, Option.toList_some, Option.toList_none, List.cons_append, List.nil_append, iI_add, iI_sub, iI_mul, iI_lt, iI_eq, iI_le, r220_0, r220_1]
  · obtain ⟨hKM, hSM⟩ := hA M1 hI.2
    have e1 := hKM (241 + j) (by omega) (by omega)
    have e2 := mm_all (L := L) (xs := xs) (d := d + 3) (V := V) (W := W) hKM hr
    obtain ⟨M2, ρ2, ω2, β2, ε2, e, rest⟩ := hc (e_u M1 192 (upd (M1 192) j.toNat (iI (rwK K j)))) ⟨by rw [e_u_s]; exact hI.1.mr h0, fun a ha => by rw [e_u_n _ _ ha]; exact hI.2 a ha⟩
    refine ⟨M2, ρ2, ω2, β2, ε2, ?_, rest⟩
    rw [← e, r220_2]
    simp (disch := first | assumption | exact e_nk_i _ | exact e_nk_n | exact e_nk_r _ | exact e_bo_0 | exact e_bo_1 | exact e_bo_b _ | omega) only [e_cl_v, e_cl_x, e_add_0, e_add_s, Option.toList_some, Option.toList_none, List.cons_append, List.nil_append, iI_add, iI_sub, iI_mul, iI_lt, iI_eq, iI_le, r220_3, r220_4, r220_7, r220_10, r220_11, r220_14, r220_15, r220_16, r220_19, r220_22, r220_23, r220_24, r220_25, r220_26, r220_29, iI_vin, iI_nat, if_true, e1, e2]
    rw [if_pos h1]
    rfl
  · obtain ⟨hKM, hSM⟩ := hA M1 hI.2
    have e2 := mm_all (L := L) (xs := xs) (d := d + 3) (V := V) (W := W) hKM hr
    obtain ⟨M2, ρ2, ω2, β2, ε2, e, hS2, hg, hF, r1, r2⟩ := mm_timesTried (L := L) (xs := xs) (d := d) (V := V) (W := W) hKM hr hSM hn.1 hn.2 hI.1 (fun p a b => ⟨(hv.2.c hr a b).1, (hv.2.c hr a b).2.2⟩)
    refine ⟨M2, ρ2, ω2, β2, ε2, ?_, hS2, hg, ⟨fun a x0 x1 x2 x3 x4 x5 => by rw [hF.1 a x0 x1 x2 x3 x4 x5, hI.2 a x5], fun j x0 x1 => by rw [hF.2 j x0 x1, hI.2 184 (by decide)]⟩, r1, by rw [r2, hI.2 184 (by decide)]⟩
    rw [r220_2]
    simp (disch := first | assumption | exact e_nk_i _ | exact e_nk_n | exact e_nk_r _ | exact e_bo_0 | exact e_bo_1 | exact e_bo_b _ | omega) only [e_cl_v, e_cl_x, e_add_0, e_add_s, Option.toList_some, Option.toList_none, List.cons_append, List.nil_append, iI_add, iI_sub, iI_mul, iI_lt, iI_eq, iI_le, r220_3, r220_4, r220_7, r220_10, r220_11, r220_14, r220_15, r220_16, r220_19, r220_22, r220_23, r220_24, r220_25, r220_26, r220_29, r220_32, r220_33, r220_34, r220_37, r220_40, iI_vin, iI_nat, if_true, e2, e]
    rw [if_neg (by omega)]
/-- the greatest of the first n, at least 0 -/
def mxS (f : Int → Int) : Nat → Int
  | 0 => 0
  | n + 1 => if mxS f n < f n then f n else mxS f n
def mX (f : Int → Int) (n : Int) : Int := mxS f n.toNat
theorem mX_s (f : Int → Int) {n : Int} (h : 0 ≤ n) : mX f (n + 1) = if mX f n < f n then f n else mX f n := by
  unfold mX
  rw [show (n + 1).toNat = n.toNat + 1 by omega]
  show (if mxS f n.toNat < f (n.toNat : Int) then f (n.toNat : Int) else mxS f n.toNat) = _
  rw [Int.toNat_of_nonneg h]
theorem mX_rg {f : Int → Int} {n c : Int} (hn : 0 ≤ n) (hc : 0 ≤ c) (h : ∀ p, 0 ≤ p → p < n → f p ≤ c) : 0 ≤ mX f n ∧ mX f n ≤ c := by
  revert h
  refine SU_ind (P := fun n => (∀ p, 0 ≤ p → p < n → f p ≤ c) → 0 ≤ mX f n ∧ mX f n ≤ c) (fun _ => ⟨Int.le_refl _, hc⟩) (fun i hi ih h => ?_) n hn
  have h1 := ih (fun p a b => h p a (by omega))
  have h2 := h i hi (by omega)
  rw [mX_s f hi]
  split <;> omega
theorem mX_cong {f g : Int → Int} {n : Int} (hn : 0 ≤ n) (h : ∀ p, 0 ≤ p → p < n → f p = g p) : mX f n = mX g n := by
  revert h
  refine SU_ind (P := fun n => (∀ p, 0 ≤ p → p < n → f p = g p) → mX f n = mX g n) (fun _ => rfl) (fun i hi ih h => ?_) n hn
  rw [mX_s f hi, mX_s g hi, ih (fun p a b => h p a (by omega)), h i hi (by omega)]
theorem mm_endNow {n : Int} (hn : 0 ≤ n ∧ n ≤ 16) (hz : M 184 9 = iI n) (hS : e_SC M ρ ω β ε) : e_lim L xs d 221 0 [some (.ref 184), none, none] [] (e_hp M V W) = some (.inl (some (.int (iI (mX ε n)))), e_hp M V W, 0, 0) := by
  obtain ⟨h1, h2, h3, h4, g1, g2, g3, g4⟩ := hS
  simp (disch := first | assumption | exact e_nk_i _ | exact e_nk_n | exact e_nk_r _ | exact e_bo_0 | exact e_bo_1 | exact e_bo_b _ | omega) only [e_cl_v, e_cl_x, e_add_0, e_add_s, Option.toList_some, Option.toList_none, List.cons_append, List.nil_append, iI_add, iI_sub, iI_mul, iI_lt, iI_eq, iI_le, r221_0, r221_1, r221_2, r221_3, r221_5, r221_6, r221_9, r221_12, r221_13, r221_16, r221_17, r221_18, r221_19, r221_22, r221_23, r221_26, r221_27, r221_28, r221_29, r221_32, r221_35, r221_36]
  rw [show (iI 0 : Int32) = iI (mX ε 0) from rfl]
  refine (G_loopI (C := fun i => e_lim L xs d 221 4 [some (.ref 184), some (.int (iI (mX ε i))), some (.int (iI i))] [] (e_hp M V W)) (i := 0) hn.1 (fun j a b hc => ?_) ?_)
  · have q := g4 j a (by omega)
    have e := h4 j a (by omega)
    have qm := mX_rg (f := ε) (n := j) (c := 2001) a (by omega) (fun p x z => (g4 p x (by omega)).2)
    rw [mX_s ε a] at hc
    rw [r221_4]
    simp (disch := first | assumption | exact e_nk_i _ | exact e_nk_n | exact e_nk_r _ | exact e_bo_0 | exact e_bo_1 | exact e_bo_b _ | omega) only [e_cl_v, e_cl_x, e_add_0, e_add_s, Option.toList_some, Option.toList_none, List.cons_append, List.nil_append, iI_add, iI_sub, iI_mul, iI_lt, iI_eq, iI_le, r221_0, r221_1, r221_2, r221_3, r221_5, r221_6, r221_9, r221_12, r221_13, r221_16, r221_17, r221_18, r221_19, r221_22, r221_23, r221_26, r221_27, r221_28, r221_29, r221_32, r221_35, r221_36, iI_vin, iI_nat, if_true, hz, e]
    rw [if_pos b]
    by_cases hq : mX ε j < ε j
    · rw [if_pos hq] at hc ⊢
      exact hc
    · rw [if_neg hq] at hc ⊢
      exact hc
  · rw [r221_4]
    simp (disch := first | assumption | exact e_nk_i _ | exact e_nk_n | exact e_nk_r _ | exact e_bo_0 | exact e_bo_1 | exact e_bo_b _ | omega) only [e_cl_v, e_cl_x, e_add_0, e_add_s, Option.toList_some, Option.toList_none, List.cons_append, List.nil_append, iI_add, iI_sub, iI_mul, iI_lt, iI_eq, iI_le, r221_0, r221_1, r221_2, r221_3, r221_5, r221_6, r221_9, r221_12, r221_13, r221_16, r221_17, r221_18, r221_19, r221_22, r221_23, r221_26, r221_27, r221_28, r221_29, r221_32, r221_35, r221_36, hz]
    rw [if_neg (by omega)]
theorem mm_placeOf (hS : e_SC M ρ ω β ε) {o w p : Int} (ho : 0 ≤ o ∧ o ≤ 7) (hw : 0 ≤ w ∧ w ≤ 3) (hp : 0 ≤ p ∧ p < 16) (hh : ρ p = o ∧ ω p = w) (hu : ∀ q, 0 ≤ q → q < p → ¬(ρ q = o ∧ ω q = w)) : e_lim L xs d 222 0 [some (.ref 184), some (.int (iI o)), some (.int (iI w)), none] [] (e_hp M V W) = some (.inl (some (.int (iI p))), e_hp M V W, 0, 0) := by
  obtain ⟨h1, h2, h3, h4, g1, g2, g3, g4⟩ := hS
  simp (disch := first | assumption | exact e_nk_i _ | exact e_nk_n | exact e_nk_r _ | exact e_bo_0 | exact e_bo_1 | exact e_bo_b _ | omega) only [e_cl_v, e_cl_x, e_add_0, e_add_s, Option.toList_some, Option.toList_none, List.cons_append, List.nil_append, iI_add, iI_sub, iI_mul, iI_lt, iI_eq, iI_le, r222_0, r222_1, r222_3, r222_6, r222_7, r222_8, r222_9, r222_12, r222_13, r222_16, r222_17, r222_18, r222_19, r222_22, r222_25, r222_28, r222_29]
  refine (G_loopI (C := fun i => e_lim L xs d 222 2 [some (.ref 184), some (.int (iI o)), some (.int (iI w)), some (.int (iI i))] [] (e_hp M V W)) (i := 0) hp.1 (fun j a b hc => ?_) ?_)
  · have q1 := g1 j a (by omega)
    have q2 := g2 j a (by omega)
    have e1 := h1 j a (by omega)
    have e2 := h2 j a (by omega)
    have u := hu j a b
    rw [r222_2]
    simp (disch := first | assumption | exact e_nk_i _ | exact e_nk_n | exact e_nk_r _ | exact e_bo_0 | exact e_bo_1 | exact e_bo_b _ | omega) only [e_cl_v, e_cl_x, e_add_0, e_add_s, Option.toList_some, Option.toList_none, List.cons_append, List.nil_append, iI_add, iI_sub, iI_mul, iI_lt, iI_eq, iI_le, r222_0, r222_1, r222_3, r222_6, r222_7, r222_8, r222_9, r222_12, r222_13, r222_16, r222_17, r222_18, r222_19, r222_22, r222_25, r222_28, r222_29, iI_vin, iI_nat, if_true, e1, e2]
    by_cases z1 : ρ j = o
    · rw [if_pos z1, if_neg (by omega)]
      exact hc
    · rw [if_neg z1]
      exact hc
  · have e1 := h1 p hp.1 hp.2
    have e2 := h2 p hp.1 hp.2
    rw [hh.1] at e1
    rw [hh.2] at e2
    rw [r222_2]
    simp (disch := first | assumption | exact e_nk_i _ | exact e_nk_n | exact e_nk_r _ | exact e_bo_0 | exact e_bo_1 | exact e_bo_b _ | omega) only [e_cl_v, e_cl_x, e_add_0, e_add_s, Option.toList_some, Option.toList_none, List.cons_append, List.nil_append, iI_add, iI_sub, iI_mul, iI_lt, iI_eq, iI_le, r222_0, r222_1, r222_3, r222_6, r222_7, r222_8, r222_9, r222_12, r222_13, r222_16, r222_17, r222_18, r222_19, r222_22, r222_25, r222_28, r222_29, iI_vin, iI_nat, if_true, e1, e2]
end E55
