section Ec23
variable {L : Nat} {xs : Nat → Int32} {d : Nat} {M M2 M3 : e_MI} {V : e_ML} {W : e_MD} {K K2 : e_St} {S : Int → e_St} {h : e_H} {s s0 s1 t t2 a b2 n : Nat} {c o j w z m k q p i f l b e mc tl v T x N : Int} {sc : Bool} {ρ ν μ χ β ε τ u : Int → Int}
/-! one cell of a shop changes -/
theorem SH_workers (H : SH M 1 K) (hr : kR K) (ha : aW K ≤ 16) (hi : 0 ≤ i ∧ i < 3) : SH (e_u M 6 (upd (M 6) i.toNat (iI v))) 1 (uI K (238 + i) v) := by
  have hn := hr.n
  have hmm := hr.rm
  have hu : ∀ z, z ≠ 238 + i → uI K (238 + i) v z = K z := fun z hz => uI_n _ _ hz
  have hA : aW (uI K (238 + i) v) = aW K := aW_cong (hu _ (by omega)) (fun o a b => hu _ (by omega))
  refine SH_mk ⟨?_, fun o2 j a b c e => ?_, fun o2 w j a b c e f g => ?_, fun i2 a b => ?_, fun k j a b c e => ?_, fun i2 a b => ?_, fun i2 a b => ?_⟩ (fun p a b => ?_) (fun i2 a b => ?_) (fun q p a b c e f => ?_)
  · rw [hu _ (by omega), hu _ (by omega), hA, e_u_n _ _ (by omega)]
    exact H.1
  · rw [hu _ (by omega)] at b
    rw [hu _ (by omega), e_u_n _ _ (by omega)]
    exact H.oc a b c e
  · rw [hu _ (by omega)] at b e
    have := hr.wk (o := o2) a (by omega)
    rw [hu _ (by omega), e_u_n _ _ (by omega)]
    exact H.wc a b c e f g
  · rw [hu _ (by omega), e_u_n _ _ (by omega)]
    exact H.se a b
  · rw [hu _ (by omega)] at b
    rw [hu _ (by omega), e_u_n _ _ (by omega)]
    exact H.re a b c e
  · rw [e_u_s]
    unfold upd uI
    by_cases hq : i2 = i
    · rw [if_pos (by omega), if_pos (by omega)]
    · rw [if_neg (by omega), if_neg (by omega)]
      exact H.sf a b
  · rw [hu _ (by omega), e_u_n _ _ (by omega)]
    exact H.ra a b
  · rw [hA] at b
    rw [hu _ (by omega), e_u_n _ _ (by omega)]
    exact H.ro a b
  · rw [hu _ (by omega), e_u_n _ _ (by omega)]
    exact H.kp a b
  · rw [hA] at f
    rw [hu _ (by omega)] at c
    rw [hu _ (by omega), e_u_n _ _ (by omega)]
    exact H.kr a b c e f
theorem SH_rate (H : SH M 1 K) (hr : kR K) (ha : aW K ≤ 16) (hi : 0 ≤ i ∧ i < 2) : SH (e_u M 7 (upd (M 7) i.toNat (iI v))) 1 (uI K (308 + i) v) := by
  have hn := hr.n
  have hmm := hr.rm
  have hu : ∀ z, z ≠ 308 + i → uI K (308 + i) v z = K z := fun z hz => uI_n _ _ hz
  have hA : aW (uI K (308 + i) v) = aW K := aW_cong (hu _ (by omega)) (fun o a b => hu _ (by omega))
  refine SH_mk ⟨?_, fun o2 j a b c e => ?_, fun o2 w j a b c e f g => ?_, fun i2 a b => ?_, fun k j a b c e => ?_, fun i2 a b => ?_, fun i2 a b => ?_⟩ (fun p a b => ?_) (fun i2 a b => ?_) (fun q p a b c e f => ?_)
  · rw [hu _ (by omega), hu _ (by omega), hA, e_u_n _ _ (by omega)]
    exact H.1
  · rw [hu _ (by omega)] at b
    rw [hu _ (by omega), e_u_n _ _ (by omega)]
    exact H.oc a b c e
  · rw [hu _ (by omega)] at b e
    have := hr.wk (o := o2) a (by omega)
    rw [hu _ (by omega), e_u_n _ _ (by omega)]
    exact H.wc a b c e f g
  · rw [hu _ (by omega), e_u_n _ _ (by omega)]
    exact H.se a b
  · rw [hu _ (by omega)] at b
    rw [hu _ (by omega), e_u_n _ _ (by omega)]
    exact H.re a b c e
  · rw [hu _ (by omega), e_u_n _ _ (by omega)]
    exact H.sf a b
  · rw [e_u_s]
    unfold upd uI
    by_cases hq : i2 = i
    · rw [if_pos (by omega), if_pos (by omega)]
    · rw [if_neg (by omega), if_neg (by omega)]
      exact H.ra a b
  · rw [hA] at b
    rw [hu _ (by omega), e_u_n _ _ (by omega)]
    exact H.ro a b
  · rw [hu _ (by omega), e_u_n _ _ (by omega)]
    exact H.kp a b
  · rw [hA] at f
    rw [hu _ (by omega)] at c
    rw [hu _ (by omega), e_u_n _ _ (by omega)]
    exact H.kr a b c e f
theorem SH_amount (H : SH M 1 K) (hr : kR K) (ha : aW K ≤ 16) (ho : 0 ≤ o ∧ o < K 310) : SH (e_u M 2 (upd (M 2) (o * 6 + 1).toNat (iI v))) 1 (uI K (8 + o) v) := by
  have hn := hr.n
  have hmm := hr.rm
  have hu : ∀ z, z ≠ 8 + o → uI K (8 + o) v z = K z := fun z hz => uI_n _ _ hz
  have hA : aW (uI K (8 + o) v) = aW K := aW_cong (hu _ (by omega)) (fun o a b => hu _ (by omega))
  refine SH_mk ⟨?_, fun o2 j a b c e => ?_, fun o2 w j a b c e f g => ?_, fun i2 a b => ?_, fun k j a b c e => ?_, fun i2 a b => ?_, fun i2 a b => ?_⟩ (fun p a b => ?_) (fun i2 a b => ?_) (fun q p a b c e f => ?_)
  · rw [hu _ (by omega), hu _ (by omega), hA, e_u_n _ _ (by omega)]
    exact H.1
  · rw [hu _ (by omega)] at b
    rw [e_u_s]
    unfold upd uI
    by_cases hq : j = 1 ∧ o2 = o
    · rw [if_pos (by omega), if_pos (by omega)]
    · rw [if_neg (by omega), if_neg (by omega)]
      exact H.oc a b c e
  · rw [hu _ (by omega)] at b e
    have := hr.wk (o := o2) a (by omega)
    rw [hu _ (by omega), e_u_n _ _ (by omega)]
    exact H.wc a b c e f g
  · rw [hu _ (by omega), e_u_n _ _ (by omega)]
    exact H.se a b
  · rw [hu _ (by omega)] at b
    rw [hu _ (by omega), e_u_n _ _ (by omega)]
    exact H.re a b c e
  · rw [hu _ (by omega), e_u_n _ _ (by omega)]
    exact H.sf a b
  · rw [hu _ (by omega), e_u_n _ _ (by omega)]
    exact H.ra a b
  · rw [hA] at b
    rw [hu _ (by omega), e_u_n _ _ (by omega)]
    exact H.ro a b
  · rw [hu _ (by omega), e_u_n _ _ (by omega)]
    exact H.kp a b
  · rw [hA] at f
    rw [hu _ (by omega)] at c
    rw [hu _ (by omega), e_u_n _ _ (by omega)]
    exact H.kr a b c e f
theorem SH_noRest (H : SH M 1 K) (hr : kR K) (ha : aW K ≤ 16)  : SH (e_u M 1 (upd (M 1) 2 (iI 0))) 1 (uI K (311) 0) := by
  have hn := hr.n
  have hmm := hr.rm
  have hu : ∀ z, z ≠ 311 → uI K (311) 0 z = K z := fun z hz => uI_n _ _ hz
  have hA : aW (uI K (311) 0) = aW K := aW_cong (hu _ (by omega)) (fun o a b => hu _ (by omega))
  refine SH_mk ⟨?_, fun o2 j a b c e => ?_, fun o2 w j a b c e f g => ?_, fun i2 a b => ?_, fun k j a b c e => ?_, fun i2 a b => ?_, fun i2 a b => ?_⟩ (fun p a b => ?_) (fun i2 a b => ?_) (fun q p a b c e f => ?_)
  · rw [e_u_s, hu _ (by omega), hA, uI_s]
    exact ⟨H.1.1, H.1.2.1, rfl⟩
  · rw [hu _ (by omega)] at b
    rw [hu _ (by omega), e_u_n _ _ (by omega)]
    exact H.oc a b c e
  · rw [hu _ (by omega)] at b e
    have := hr.wk (o := o2) a (by omega)
    rw [hu _ (by omega), e_u_n _ _ (by omega)]
    exact H.wc a b c e f g
  · rw [hu _ (by omega), e_u_n _ _ (by omega)]
    exact H.se a b
  · rw [uI_s] at b
    omega
  · rw [hu _ (by omega), e_u_n _ _ (by omega)]
    exact H.sf a b
  · rw [hu _ (by omega), e_u_n _ _ (by omega)]
    exact H.ra a b
  · rw [hA] at b
    rw [hu _ (by omega), e_u_n _ _ (by omega)]
    exact H.ro a b
  · rw [hu _ (by omega), e_u_n _ _ (by omega)]
    exact H.kp a b
  · rw [hA] at f
    rw [hu _ (by omega)] at c
    rw [hu _ (by omega), e_u_n _ _ (by omega)]
    exact H.kr a b c e f
theorem s_addRest (H : SH M 1 K) (hr : kR K) (ha : aW K ≤ 16) (hk : K 311 < 10) : ∃ M2 : e_MI, e_lim L xs (d + 1) 39 0 [some (.ref 1), some (.int (iI m)), some (.int (iI f)), some (.int (iI x)), none] [] (e_hp M V W) = some (.inl none, e_hp M2 V W, 0, 0) ∧ SH M2 1 (reK K m f x) ∧ ∀ a, a ≠ 1 → a ≠ 5 → M2 a = M a := by
  have hn := hr.n
  have hmm := hr.rm
  have hc := H.cr
  have e1 := m_putI (L := L) (xs := xs) (d := d) (M := M) (V := V) (W := W) (v := iI m) si_5 (z := K 311 * 3) (by omega) (by omega)
  have e2 := m_putI (L := L) (xs := xs) (d := d) (M := e_u M 5 (upd (M 5) (K 311 * 3).toNat (iI m))) (V := V) (W := W) (v := iI f) si_5 (z := K 311 * 3 + 1) (by omega) (by omega)
  generalize hM2 : e_u (e_u M 5 (upd (M 5) (K 311 * 3).toNat (iI m))) 5 (upd (e_u M 5 (upd (M 5) (K 311 * 3).toNat (iI m)) 5) (K 311 * 3 + 1).toNat (iI f)) = M2 at e2
  have e3 := m_putI (L := L) (xs := xs) (d := d) (M := M2) (V := V) (W := W) (v := iI x) si_5 (z := K 311 * 3 + 2) (by omega) (by omega)
  generalize hM3 : e_u M2 5 (upd (M2 5) (K 311 * 3 + 2).toNat (iI x)) = M3 at e3
  have f2 : ∀ a, a ≠ 5 → M3 a = M a := fun a y => by rw [← hM3, ← hM2, e_u_n _ _ y, e_u_n _ _ y, e_u_n _ _ y]
  have c3 : M3 1 2 = iI (K 311) := by rw [f2 1 (by omega)]; exact hc
  have h5 : ∀ k j, 0 ≤ k → k ≤ K 311 → 0 ≤ j → j < 3 → M3 5 (k * 3 + j).toNat = if k = K 311 then iI (if j = 0 then m else if j = 1 then f else x) else iI (K (208 + 10 * j + k)) := fun k j a b c e => by
    rw [← hM3, ← hM2, e_u_s, e_u_s, e_u_s]
    unfold upd
    by_cases hq : k = K 311
    · rw [if_pos hq]
      rcases (show j = 0 ∨ j = 1 ∨ j = 2 by omega) with r | r | r
      · rw [if_neg (by omega), if_neg (by omega), if_pos (by omega), if_pos r]
      · rw [if_neg (by omega), if_pos (by omega), if_neg (by omega), if_pos r]
      · rw [if_pos (by omega), if_neg (by omega), if_neg (by omega)]
    · rw [if_neg hq, if_neg (by omega), if_neg (by omega), if_neg (by omega)]
      exact H.re a (by omega) c e
  have hu : ∀ z, z ≠ 208 + K 311 → z ≠ 218 + K 311 → z ≠ 228 + K 311 → z ≠ 311 → reK K m f x z = K z := fun z h1 h2 h3 h4 => by
    unfold reK
    rw [uI_n _ _ h4, uI_n _ _ h3, uI_n _ _ h2, uI_n _ _ h1]
  have hA : aW (reK K m f x) = aW K := aW_cong (hu _ (by omega) (by omega) (by omega) (by omega)) (fun o a b => hu _ (by omega) (by omega) (by omega) (by omega))
  have h311 : reK K m f x 311 = K 311 + 1 := uI_s _ _ _
  refine ⟨e_u M3 1 (upd (M3 1) 2 (iI (K 311 + 1))), ?_, ?_, fun a y z => by rw [e_u_n _ _ y]; exact f2 a z⟩
  · simp (disch := first | assumption | exact e_nk_i _ | exact e_nk_n | exact e_nk_r _ | exact e_bo_0 | exact e_bo_1 | exact e_bo_b _ | omega) only [e_cl_v, e_cl_x, e_add_0, e_add_s, Option.toList_some, Option.toList_none, List.cons_append, List.nil_append, iI_add, iI_sub, iI_mul, iI_lt, iI_eq, iI_le, r39_0, r39_1, r39_4, r39_5, r39_6, r39_8, r39_9, r39_12, r39_14, r39_15, r39_18, r39_19, r39_22, r39_24, r39_25, r39_26, r39_27, r39_30, r39_31, r39_34, r39_36, r39_37, r39_38, r39_39, r39_42, r39_43, r39_44, r39_47, r39_48, r39_49, r39_52, hc, e1, e2, hM2, e3, hM3, c3, Int.add_zero]
  · refine SH_mk ⟨?_, fun o2 j a b c e => ?_, fun o2 w j a b c e f g => ?_, fun i2 a b => ?_, fun k j a b c e => ?_, fun i2 a b => ?_, fun i2 a b => ?_⟩ (fun p a b => ?_) (fun i2 a b => ?_) (fun q p a b c e f => ?_)
    · rw [hu _ (by omega) (by omega) (by omega) (by omega), h311, hA, e_u_s, f2 1 (by omega)]
      exact ⟨H.1.1, H.1.2.1, rfl⟩
    · rw [hu _ (by omega) (by omega) (by omega) (by omega)] at b
      rw [hu _ (by omega) (by omega) (by omega) (by omega), e_u_n _ _ (by omega), f2 _ (by omega)]
      exact H.oc a b c e
    · rw [hu _ (by omega) (by omega) (by omega) (by omega)] at b e
      have := hr.wk (o := o2) a (by omega)
      rw [hu _ (by omega) (by omega) (by omega) (by omega), e_u_n _ _ (by omega), f2 _ (by omega)]
      exact H.wc a b c e f g
    · rw [hu _ (by omega) (by omega) (by omega) (by omega), e_u_n _ _ (by omega), f2 _ (by omega)]
      exact H.se a b
    · rw [h311] at b
      rw [e_u_n _ _ (by omega), show 1 + 4 = 5 from rfl, h5 k j a (by omega) c e]
      unfold reK uI
      by_cases hq : k = K 311
      · rw [if_pos hq]
        rcases (show j = 0 ∨ j = 1 ∨ j = 2 by omega) with r | r | r <;> subst r <;> subst hq
        · rw [if_pos rfl, if_neg (by omega), if_neg (by omega), if_neg (by omega), if_pos (by omega)]
        · rw [if_neg (by omega), if_pos rfl, if_neg (by omega), if_neg (by omega), if_pos (by omega)]
        · rw [if_neg (by omega), if_neg (by omega), if_neg (by omega), if_pos (by omega)]
      · rw [if_neg hq, if_neg (by omega), if_neg (by omega), if_neg (by omega), if_neg (by omega)]
    · rw [hu _ (by omega) (by omega) (by omega) (by omega), e_u_n _ _ (by omega), f2 _ (by omega)]
      exact H.sf a b
    · rw [hu _ (by omega) (by omega) (by omega) (by omega), e_u_n _ _ (by omega), f2 _ (by omega)]
      exact H.ra a b
    · rw [hA] at b
      rw [hu _ (by omega) (by omega) (by omega) (by omega), e_u_n _ _ (by omega), f2 _ (by omega)]
      exact H.ro a b
    · rw [hu _ (by omega) (by omega) (by omega) (by omega), e_u_n _ _ (by omega), f2 _ (by omega)]
      exact H.kp a b
    · rw [hA] at f
      rw [hu _ (by omega) (by omega) (by omega) (by omega)] at c
      rw [hu _ (by omega) (by omega) (by omega) (by omega), e_u_n _ _ (by omega), f2 _ (by omega)]
      exact H.kr a b c e f
end Ec23
