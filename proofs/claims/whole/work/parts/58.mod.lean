section E58
variable {L : Nat} {xs : Nat → Int32} {d : Nat} {M : e_MI} {V : e_ML} {W : e_MD} {K : e_St} {h : e_H} {ρ ω β ε ρ2 ω2 β2 ε2 τ : Int → Int} {k : Int}
theorem mm_keepsBegins {n : Int} (hn : 0 ≤ n ∧ n ≤ 16) (hz : M 184 9 = iI n) (hS : e_SC M ρ ω β ε) (hu : ∀ p q, 0 ≤ p → p < n → 0 ≤ q → q < n → 4 * ρ p + ω p = 4 * ρ q + ω q → p = q) : ∃ f : Nat → Int32, e_lim L xs d 223 0 [some (.ref 184), none] [] (e_hp M V W) = some (.inl none, e_hp (e_u M 187 f) V W, 0, 0) ∧ ∀ p, 0 ≤ p → p < n → f (4 * ρ p + ω p).toNat = iI (β p) := by
  obtain ⟨h1, h2, h3, h4, g1, g2, g3, g4⟩ := hS
  have key := G_lp (i := 0) (n := n) (I := fun i M1 => ∃ f, M1 = e_u M 187 f ∧ ∀ p, 0 ≤ p → p < i → f (4 * ρ p + ω p).toNat = iI (β p)) (P := fun i M1 => ∃ f : Nat → Int32, e_lim L xs d 223 2 [some (.ref 184), some (.int (iI i))] [] (e_hp M1 V W) = some (.inl none, e_hp (e_u M 187 f) V W, 0, 0) ∧ ∀ p, 0 ≤ p → p < n → f (4 * ρ p + ω p).toNat = iI (β p)) (fun j M1 a b hI hc => ?_) (fun M1 hI => ?_) hn.1 M ⟨M 187, (e_u_rf M 187).symm, fun p a b => by omega⟩
  · obtain ⟨f, e, r⟩ := key
    refine ⟨f, ?_, r⟩
    rw [← e]
    simp (disch := first | assumption | exact e_nk_i _ | exact e_nk_n | exact e_nk_r _ | exact e_bo_0 | exact e_bo_1 | exact e_bo_b _ | omega) only [e_cl_v, e_cl_x, e_add_0, e_add_s, Option.toList_some, Option.toList_none, List.cons_append, List.nil_append, iI_add, iI_sub, iI_mul, iI_lt, iI_eq, iI_le, r223_0, r223_1]
  · obtain ⟨f, hM, hf⟩ := hI
    have q1 := g1 j a (by omega)
    have q2 := g2 j a (by omega)
    have e1 := h1 j a (by omega)
    have e2 := h2 j a (by omega)
    have e3 := h3 j a (by omega)
    obtain ⟨f2, e, r⟩ := hc (e_u M 187 (upd f (4 * ρ j + ω j).toNat (iI (β j)))) ⟨_, rfl, fun p x z => by
      by_cases hq : p = j
      · rw [hq, upd_s]
      · have hne := hu p j x (by omega) a b
        have qp1 := g1 p x (by omega)
        have qp2 := g2 p x (by omega)
        rw [upd_n _ _ (by omega)]
        exact hf p x (by omega)⟩
    refine ⟨f2, ?_, r⟩
    rw [← e, hM, r223_2]
    simp (disch := first | assumption | exact e_nk_i _ | exact e_nk_n | exact e_nk_r _ | exact e_bo_0 | exact e_bo_1 | exact e_bo_b _ | omega) only [e_cl_v, e_cl_x, e_add_0, e_add_s, Option.toList_some, Option.toList_none, List.cons_append, List.nil_append, iI_add, iI_sub, iI_mul, iI_lt, iI_eq, iI_le, r223_3, r223_4, r223_7, r223_10, r223_11, r223_14, r223_15, r223_16, r223_19, r223_20, r223_21, r223_22, r223_23, r223_26, r223_27, r223_28, r223_29, r223_30, r223_33, r223_34, r223_35, r223_36, r223_39, iI_vin, iI_nat, if_true, e_u_n, e_u_s, e_u_u, hz, e1, e2, e3]
    rw [if_pos b]
  · obtain ⟨f, hM, hf⟩ := hI
    refine ⟨f, ?_, hf⟩
    rw [hM, r223_2]
    simp (disch := first | assumption | exact e_nk_i _ | exact e_nk_n | exact e_nk_r _ | exact e_bo_0 | exact e_bo_1 | exact e_bo_b _ | omega) only [e_cl_v, e_cl_x, e_add_0, e_add_s, Option.toList_some, Option.toList_none, List.cons_append, List.nil_append, iI_add, iI_sub, iI_mul, iI_lt, iI_eq, iI_le, r223_3, r223_4, r223_7, r223_10, r223_11, r223_14, r223_15, r223_16, r223_19, r223_20, r223_21, r223_22, r223_23, r223_26, r223_27, r223_28, r223_29, r223_30, r223_33, r223_34, r223_35, r223_36, r223_39, r223_42, e_u_n, hz]
    rw [if_neg (by omega)]
theorem mm_others {n : Int} (hn : 0 ≤ n ∧ n ≤ 16) (hz : M 184 9 = iI n) (hS : e_SC M ρ ω β ε) {g : Int → Int} (hg : ∀ p, 0 ≤ p → p < n → M 187 (4 * ρ p + ω p).toNat = iI (g p) ∧ 0 ≤ g p ∧ g p ≤ 2001) : e_lim L xs d 224 0 [some (.ref 184), none, none] [] (e_hp M V W) = some (.inl (some (.int (iI (SU (fun p => if g p = β p then 0 else 1) n)))), e_hp M V W, 0, 0) := by
  obtain ⟨h1, h2, h3, h4, g1, g2, g3, g4⟩ := hS
  simp (disch := first | assumption | exact e_nk_i _ | exact e_nk_n | exact e_nk_r _ | exact e_bo_0 | exact e_bo_1 | exact e_bo_b _ | omega) only [e_cl_v, e_cl_x, e_add_0, e_add_s, Option.toList_some, Option.toList_none, List.cons_append, List.nil_append, iI_add, iI_sub, iI_mul, iI_lt, iI_eq, iI_le, r224_0, r224_1, r224_2, r224_3, r224_5, r224_6, r224_9, r224_12, r224_13, r224_14, r224_17, r224_18, r224_19, r224_22, r224_23, r224_24, r224_25, r224_26, r224_29, r224_30, r224_31, r224_32, r224_33, r224_34, r224_37, r224_38, r224_39, r224_42, r224_43, r224_46, r224_47, r224_48, r224_49, r224_52, r224_55, r224_56]
  rw [show (iI 0 : Int32) = iI (SU (fun p => if g p = β p then 0 else 1) 0) from rfl]
  refine (G_loopI (C := fun i => e_lim L xs d 224 4 [some (.ref 184), some (.int (iI (SU (fun p => if g p = β p then 0 else 1) i))), some (.int (iI i))] [] (e_hp M V W)) (i := 0) hn.1 (fun j a b hc => ?_) ?_)
  · have q1 := g1 j a (by omega)
    have q2 := g2 j a (by omega)
    have q3 := g3 j a (by omega)
    have e1 := h1 j a (by omega)
    have e2 := h2 j a (by omega)
    have e3 := h3 j a (by omega)
    obtain ⟨e4, q4⟩ := hg j a b
    rw [SU_s _ a] at hc
    rw [r224_4]
    simp (disch := first | assumption | exact e_nk_i _ | exact e_nk_n | exact e_nk_r _ | exact e_bo_0 | exact e_bo_1 | exact e_bo_b _ | omega) only [e_cl_v, e_cl_x, e_add_0, e_add_s, Option.toList_some, Option.toList_none, List.cons_append, List.nil_append, iI_add, iI_sub, iI_mul, iI_lt, iI_eq, iI_le, r224_0, r224_1, r224_2, r224_3, r224_5, r224_6, r224_9, r224_12, r224_13, r224_14, r224_17, r224_18, r224_19, r224_22, r224_23, r224_24, r224_25, r224_26, r224_29, r224_30, r224_31, r224_32, r224_33, r224_34, r224_37, r224_38, r224_39, r224_42, r224_43, r224_46, r224_47, r224_48, r224_49, r224_52, r224_55, r224_56, iI_vin, iI_nat, if_true, hz, e1, e2, e3, e4]
    rw [if_pos b]
    by_cases hq : g j = β j
    · rw [if_pos hq] at hc ⊢
      exact hc
    · rw [if_neg hq] at hc ⊢
      exact hc
  · rw [r224_4]
    simp (disch := first | assumption | exact e_nk_i _ | exact e_nk_n | exact e_nk_r _ | exact e_bo_0 | exact e_bo_1 | exact e_bo_b _ | omega) only [e_cl_v, e_cl_x, e_add_0, e_add_s, Option.toList_some, Option.toList_none, List.cons_append, List.nil_append, iI_add, iI_sub, iI_mul, iI_lt, iI_eq, iI_le, r224_0, r224_1, r224_2, r224_3, r224_5, r224_6, r224_9, r224_12, r224_13, r224_14, r224_17, r224_18, r224_19, r224_22, r224_23, r224_24, r224_25, r224_26, r224_29, r224_30, r224_31, r224_32, r224_33, r224_34, r224_37, r224_38, r224_39, r224_42, r224_43, r224_46, r224_47, r224_48, r224_49, r224_52, r224_55, r224_56, hz]
    rw [if_neg (by omega)]
theorem mm_noTimes (hK : e_KM M K) (hr : kR K) (hv : kV K) (hS : e_SC M ρ ω β ε) (h0 : M 184 0 = iI 0) {c : Int} (hc : 0 < c ∧ c < 10) : ∃ (M2 : e_MI) (ρ2 ω2 β2 ε2 : Int → Int), e_lim L xs (d + 6) 225 0 [some (.ref 184), some (.int (iI c))] [] (e_hp M V W) = some (.inl (some (.int (bI (!fiR K (rwK K) (aW K))))), e_hp M2 V W, 0, 0) ∧ e_SC M2 ρ2 ω2 β2 ε2 ∧ (fiR K (rwK K) (aW K) = true → agR K (rwK K) (aW K) ρ2 ω2 β2 ε2) ∧ frT M M2 ∧ M2 184 9 = iI (aW K) ∧ M2 184 0 = (if fiR K (rwK K) (aW K) = true then iI 0 else iI c) := by
  obtain ⟨M2, ρ2, ω2, β2, ε2, e, hS2, hg, hF, r1, r2⟩ := mm_times (L := L) (xs := xs) (d := d) (V := V) (W := W) hK hr hv hS
  have e4 := mm_fails (L := L) (xs := xs) (d := d + 5) (M := M2) (V := V) (W := W) (b := fiR K (rwK K) (aW K)) (c := c) (by rw [r2, h0]) hc
  cases hb : fiR K (rwK K) (aW K) with
  | true =>
    rw [hb] at e e4 hg
    refine ⟨M2, ρ2, ω2, β2, ε2, ?_, hS2, hg, hF, r1, by rw [r2, h0]; rfl⟩
    simp (disch := first | assumption | exact e_nk_i _ | exact e_nk_n | exact e_nk_r _ | exact e_bo_0 | exact e_bo_1 | exact e_bo_b _ | omega) only [e_cl_v, e_cl_x, e_add_0, e_add_s, Option.toList_some, Option.toList_none, List.cons_append, List.nil_append, iI_add, iI_sub, iI_mul, iI_lt, iI_eq, iI_le, r225_0, r225_1, r225_2, r225_5, r225_6, r225_9, e, e4]
    rfl
  | false =>
    rw [hb] at e e4 hg
    refine ⟨e_u M2 184 (upd (M2 184) 0 (iI c)), ρ2, ω2, β2, ε2, ?_, ?_, hg, ⟨fun a x0 x1 x2 x3 x4 x5 => by rw [e_u_n _ _ x0, hF.1 a x0 x1 x2 x3 x4 x5], fun j x0 x1 => by rw [e_u_s, upd_n _ _ x0, hF.2 j x0 x1]⟩, by rw [e_u_s, upd_n _ _ (by decide), r1], by rw [e_u_s, upd_s]; rfl⟩
    · simp (disch := first | assumption | exact e_nk_i _ | exact e_nk_n | exact e_nk_r _ | exact e_bo_0 | exact e_bo_1 | exact e_bo_b _ | omega) only [e_cl_v, e_cl_x, e_add_0, e_add_s, Option.toList_some, Option.toList_none, List.cons_append, List.nil_append, iI_add, iI_sub, iI_mul, iI_lt, iI_eq, iI_le, r225_0, r225_1, r225_2, r225_5, r225_6, r225_9, e, e4]
      rfl
    · unfold e_SC
      rw [e_u_n _ _ (by decide), e_u_n _ _ (by decide), e_u_n _ _ (by decide), e_u_n _ _ (by decide)]
      exact hS2
/-- the place of a work in a row -/
def plO (K : e_St) (τ : Int → Int) (o w : Int) : Int := zLP (fun p => decide (τ p = o ∧ scW τ p = w)) (aW K)
theorem cnt_ex {o w : Int} (hw : 0 ≤ w) : ∀ n : Int, 0 ≤ n → w < cnt τ o n → ∃ p, 0 ≤ p ∧ p < n ∧ τ p = o ∧ cnt τ o p = w := by
  refine SU_ind (P := fun n => w < cnt τ o n → ∃ p, 0 ≤ p ∧ p < n ∧ τ p = o ∧ cnt τ o p = w) (fun h => ?_) (fun i hi ih h => ?_)
  · exact absurd h (by show ¬ (w < 0); omega)
  · rw [cnt_s τ o hi] at h
    by_cases hq : w < cnt τ o i
    · obtain ⟨p, a, b, c, e⟩ := ih hq
      exact ⟨p, a, by omega, c, e⟩
    · by_cases ho : τ i = o
      · rw [if_pos ho] at h
        exact ⟨i, hi, by omega, ho, by omega⟩
      · rw [if_neg ho] at h
        omega
theorem cnt_inj {p q : Int} (hp : 0 ≤ p) (hq : 0 ≤ q) (h : τ p = τ q) (hc : cnt τ (τ p) p = cnt τ (τ q) q) : p = q := by
  have gen : ∀ p q : Int, 0 ≤ p → p < q → τ p = τ q → cnt τ (τ p) p < cnt τ (τ q) q := by
    intro p q a b e
    have h1 := cnt_s τ (τ p) a
    rw [if_pos rfl] at h1
    have h2 := cnt_mono (τ := τ) (o := τ p) (i := p + 1) (n := q) (by omega) (by omega)
    rw [← e]
    omega
  by_cases h1 : p < q
  · have := gen p q hp h1 h
    omega
  · by_cases h2 : q < p
    · have := gen q p hq h2 h.symm
      omega
    · omega
theorem plO_sp (hr : kR K) (hv : vR K τ) (hn : 0 ≤ aW K) {o w : Int} (ho : 0 ≤ o ∧ o < K 310) (hw : 0 ≤ w ∧ w < K (40 + o)) : (0 ≤ plO K τ o w ∧ plO K τ o w < aW K) ∧ (τ (plO K τ o w) = o ∧ scW τ (plO K τ o w) = w) ∧ ∀ q, 0 ≤ q → τ q = o → scW τ q = w → q = plO K τ o w := by
  have hc := hv.2 o ho.1 ho.2
  obtain ⟨p, a, b, c, e⟩ := cnt_ex (τ := τ) (o := o) hw.1 (aW K) hn (by omega)
  have he : scW τ p = w := by
    show cnt τ (τ p) p = w
    rw [c]
    exact e
  have un : ∀ q, 0 ≤ q → τ q = o → scW τ q = w → q = p := fun q x y z => cnt_inj x a (by rw [y, c]) (z.trans he.symm)
  have hp : plO K τ o w = p := zLP_hit a b (decide_eq_true ⟨c, he⟩) (fun q x y => decide_eq_false (fun z => by
    have := un q (by omega) z.1 z.2
    omega))
  rw [hp]
  exact ⟨⟨a, b⟩, ⟨c, he⟩, un⟩
/-- when an order is ready -/
def enO (K : e_St) (τ : Int → Int) (o : Int) : Int := if K (40 + o) = 0 then K (16 + o) else scE K τ (plO K τ o (K (40 + o) - 1))
theorem mm_placeOfR (hr : kR K) (hv : vR K τ) (hn : 0 ≤ aW K ∧ aW K ≤ 16) (hS : e_SC M ρ ω β ε) (hg : agR K τ (aW K) ρ ω β ε) {o w : Int} (ho : 0 ≤ o ∧ o < K 310) (hw : 0 ≤ w ∧ w < K (40 + o)) : e_lim L xs d 222 0 [some (.ref 184), some (.int (iI o)), some (.int (iI w)), none] [] (e_hp M V W) = some (.inl (some (.int (iI (plO K τ o w)))), e_hp M V W, 0, 0) := by
  have hn8 := hr.n
  have hwk := hr.wk (o := o) ho.1 (by omega)
  obtain ⟨a, b, c⟩ := plO_sp hr hv hn.1 ho hw
  have ag := hg (plO K τ o w) a.1 a.2
  refine mm_placeOf hS (by omega) (by omega) (by omega) ⟨by rw [ag.1, b.1], by rw [ag.2.1, b.2]⟩ (fun q x y z => ?_)
  have aq := hg q x (by omega)
  have := c q x (by rw [← aq.1, z.1]) (by rw [← aq.2.1, z.2])
  omega
theorem mm_endIs (hK : e_KM M K) (hr : kR K) (hv : vR K τ) (hn : 0 ≤ aW K ∧ aW K ≤ 16) (hS : e_SC M ρ ω β ε) (hg : agR K τ (aW K) ρ ω β ε) {o : Int} (ho : 0 ≤ o ∧ o < K 310) : e_lim L xs (d + 1) 231 0 [some (.ref 184), some (.int (iI o))] [] (e_hp M V W) = some (.inl (some (.int (iI (enO K τ o)))), e_hp M V W, 0, 0) := by
  have hn8 := hr.n
  have hwk := hr.wk (o := o) ho.1 (by omega)
  have e1 := mm_worksOf (L := L) (xs := xs) (d := d) (V := V) (W := W) hK (o := o) ho.1 (by omega)
  have e2 := hK (16 + o) (by omega) (by omega)
  unfold enO
  by_cases hq : K (40 + o) = 0
  · rw [hq] at e1
    simp (disch := first | assumption | exact e_nk_i _ | exact e_nk_n | exact e_nk_r _ | exact e_bo_0 | exact e_bo_1 | exact e_bo_b _ | omega) only [e_cl_v, e_cl_x, e_add_0, e_add_s, Option.toList_some, Option.toList_none, List.cons_append, List.nil_append, iI_add, iI_sub, iI_mul, iI_lt, iI_eq, iI_le, r231_0, r231_1, r231_2, r231_5, r231_8, r231_9, r231_12, r231_14, r231_15, r231_16, r231_17, r231_20, r231_21, r231_24, r231_25, r231_26, r231_27, r231_28, r231_31, r231_32, r231_33, r231_36, r231_37, e1, e2, iI_vin, iI_nat, if_true, if_pos hq]
  · obtain ⟨a, b, c⟩ := plO_sp hr hv hn.1 ho (w := K (40 + o) - 1) (by omega)
    have e3 := mm_placeOfR (L := L) (xs := xs) (d := d) (V := V) (W := W) hr hv hn hS hg (o := o) (w := K (40 + o) - 1) ho (by omega)
    have e4 := hS.2.2.2.1 (plO K τ o (K (40 + o) - 1)) a.1 (by omega)
    rw [(hg _ a.1 a.2).2.2.2] at e4
    simp (disch := first | assumption | exact e_nk_i _ | exact e_nk_n | exact e_nk_r _ | exact e_bo_0 | exact e_bo_1 | exact e_bo_b _ | omega) only [e_cl_v, e_cl_x, e_add_0, e_add_s, Option.toList_some, Option.toList_none, List.cons_append, List.nil_append, iI_add, iI_sub, iI_mul, iI_lt, iI_eq, iI_le, r231_0, r231_1, r231_2, r231_5, r231_8, r231_9, r231_12, r231_14, r231_15, r231_16, r231_17, r231_20, r231_21, r231_24, r231_25, r231_26, r231_27, r231_28, r231_31, r231_32, r231_33, r231_36, r231_37, e1, e2, e3, e4, iI_vin, iI_nat, if_true, if_neg hq]
end E58
