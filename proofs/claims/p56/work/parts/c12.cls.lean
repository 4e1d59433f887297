section Ec12
variable {L : Nat} {xs : Nat → Int32} {d : Nat} {M M2 M3 : e_MI} {V : e_ML} {W : e_MD} {K : e_St} {h : e_H} {s t a n : Nat} {o j w z m k q p i f l b e mc tl v T x N : Int} {sc : Bool} {ρ ν μ χ β ε τ u : Int → Int}
theorem pfx.less (h : pfx K τ N) (h0 : 0 ≤ k) (hk : k ≤ N) : pfx K τ k := ⟨fun p a b => h.1 p a (by omega), fun o a b => by
  have h1 := h.2 o a b
  have h2 := cnt_mono (τ := τ) (o := o) (i := k) (n := N) h0 hk
  omega⟩
theorem uI_self (τ : Int → Int) (k : Int) : uI τ k (τ k) = τ := by
  funext x
  unfold uI
  split
  · next h => rw [h]
  · rfl
theorem TG.f0 {v : Int32} (hG : TG M t sc k ρ ν μ χ β ε) : TG (e_u M t (upd (M t) 0 v)) t sc k ρ ν μ χ β ε := by
  obtain ⟨⟨g1, g2, g3⟩, gA, gB, gC, gU, gR⟩ := hG
  refine ⟨⟨?_, ?_, g3⟩, ?_, ?_, ?_, ?_, gR⟩
  · rw [e_u_s, upd_n _ _ (by decide)]; exact g1
  · rw [e_u_s, upd_n _ _ (by decide)]; exact g2
  · unfold tgA
    rw [e_u_n _ _ (by omega), e_u_n _ _ (by omega), e_u_n _ _ (by omega), e_u_n _ _ (by omega), e_u_n _ _ (by omega), e_u_n _ _ (by omega)]
    exact gA
  · unfold tgB
    rw [e_u_n _ _ (by omega), e_u_n _ _ (by omega), e_u_n _ _ (by omega), e_u_n _ _ (by omega)]
    exact gB
  · unfold tgC
    rw [e_u_n _ _ (by omega), e_u_n _ _ (by omega), e_u_n _ _ (by omega), e_u_n _ _ (by omega)]
    exact gC
  · unfold tgU
    rw [e_u_n _ _ (by omega)]
    exact gU
theorem TT.f0 {v : Int32} (h : TT M t K τ k) : TT (e_u M t (upd (M t) 0 v)) t K τ k := by
  obtain ⟨ρ, ν, μ, χ, β, ε, hG, hg⟩ := h
  exact ⟨ρ, ν, μ, χ, β, ε, hG.f0, hg⟩
/-- the same cells, the same timing -/
theorem TT.of (h : TT M t K τ k) (hM : ∀ a, t ≤ a → a ≤ t + 15 → M2 a = M a) : TT M2 t K τ k := by
  obtain ⟨ρ, ν, μ, χ, β, ε, hG, hg⟩ := h
  refine ⟨ρ, ν, μ, χ, β, ε, ?_, hg⟩
  unfold TG tgA tgB tgC tgU at hG ⊢
  rw [hM t (by omega) (by omega), hM (t + 1) (by omega) (by omega), hM (t + 2) (by omega) (by omega), hM (t + 3) (by omega) (by omega), hM (t + 4) (by omega) (by omega), hM (t + 5) (by omega) (by omega), hM (t + 6) (by omega) (by omega), hM (t + 7) (by omega) (by omega), hM (t + 8) (by omega) (by omega), hM (t + 9) (by omega) (by omega), hM (t + 10) (by omega) (by omega), hM (t + 11) (by omega) (by omega), hM (t + 12) (by omega) (by omega), hM (t + 13) (by omega) (by omega), hM (t + 14) (by omega) (by omega), hM (t + 15) (by omega) (by omega)]
  exact hG
theorem TG0.of (h : TG0 M t) (hM : ∀ a, t ≤ a → a ≤ t + 15 → M2 a = M a) : TG0 M2 t := by
  obtain ⟨sc, k, ρ, ν, μ, χ, β, ε, hG⟩ := h
  refine ⟨sc, k, ρ, ν, μ, χ, β, ε, ?_⟩
  unfold TG tgA tgB tgC tgU at hG ⊢
  rw [hM t (by omega) (by omega), hM (t + 1) (by omega) (by omega), hM (t + 2) (by omega) (by omega), hM (t + 3) (by omega) (by omega), hM (t + 4) (by omega) (by omega), hM (t + 5) (by omega) (by omega), hM (t + 6) (by omega) (by omega), hM (t + 7) (by omega) (by omega), hM (t + 8) (by omega) (by omega), hM (t + 9) (by omega) (by omega), hM (t + 10) (by omega) (by omega), hM (t + 11) (by omega) (by omega), hM (t + 12) (by omega) (by omega), hM (t + 13) (by omega) (by omega), hM (t + 14) (by omega) (by omega), hM (t + 15) (by omega) (by omega)]
  exact hG
theorem tg_followL (ht : e_isT t) (h11 : 11 ≤ t) (ha : e_isI a 16) (hat : a < t ∨ t + 15 < a) (hr : kR K) (hd : kD K) (hp : kP K) (hx : pfx K τ N) (hN : N ≤ 16) : ∀ (m : Nat) (k : Int) (M : e_MI), k + m = N → 0 ≤ k → SH M 1 K → e_ar (M a) N τ → TT M t K τ k → (∀ p, 0 ≤ p → p < k → scB K τ p ≠ 2001) → M t 0 = iI 1 → ∀ l5 l6 : Option Value, ∃ M2 : e_MI, e_lim L xs (d + 5) 63 13 [some (.ref t), some (.ref 1), some (.ref a), some (.int (iI N)), some (.int (iI k)), l5, l6] [] (e_hp M V W) = some (.inl (some (.int (bI (fiR K τ N)))), e_hp M2 V W, 0, 0) ∧ fwE M2 t K τ N ∧ ∀ a, a < t ∨ t + 15 < a → M2 a = M a
  | 0, k, M, hm, hk, H, har, hT, hb, h0, l5, l6 => by
    have hkN : k = N := by omega
    subst hkN
    have hfi : fiR K τ k = true := fiR_t hk hb
    refine ⟨M, ?_, ⟨by rw [hfi, h0]; rfl, k, hk, Int.le_refl _, hT, fun _ => rfl⟩, fun _ _ => rfl⟩
    rw [hfi, r63_13]
    simp (disch := first | assumption | exact e_nk_i _ | exact e_nk_n | exact e_nk_r _ | exact e_bo_0 | exact e_bo_1 | exact e_bo_b _ | omega) only [e_cl_v, e_cl_x, e_add_0, e_add_s, Option.toList_some, Option.toList_none, List.cons_append, List.nil_append, iI_add, iI_sub, iI_mul, iI_lt, iI_eq, iI_le, r63_15, r63_16, r63_75, r63_76, r63_79, h0]
    rw [if_neg (by omega)]
    rfl
  | m + 1, k, M, hm, hk, H, har, hT, hb, h0, l5, l6 => by
    have hkN : k < N := by omega
    have hτ := hx.1 k hk hkN
    have hxk := hx.less hk (by omega : k ≤ N)
    have hw2 := (hx.vp k hk hkN).2
    have e1 := m_atI (L := L) (xs := xs) (d := d + 4) (M := M) (V := V) (W := W) ha (z := k) hk (by omega) (har k hk hkN)
    have e2 := tg_earliest (L := L) (xs := xs) (d := d) (V := V) (W := W) ht H hr hd hp hxk hT ⟨hk, by omega⟩ (o := τ k) hτ hw2
    obtain ⟨M1, e3, hT1, f1, z1⟩ := tg_layE (L := L) (xs := xs) (d := d + 1) (V := V) (W := W) ht h11 H hr hp hxk hT ⟨hk, by omega⟩ (o := τ k) hτ hw2
    rw [uI_self] at e2 hT1
    have e3' : e_lim L xs (d + 4) 73 0 [some (.ref t), some (.ref 1), some (.int (iI (τ k))), some (.int (iI (scB K τ k))), none, none, none, none] [] (e_hp M V W) = some (.inl none, e_hp M1 V W, 0, 0) := by
      have := e3
      rw [uI_self] at this
      exact this
    have hsp := sc_spI hr hp hx.vp hk hkN
    by_cases hq : scB K τ k = 2001
    · have hfi : fiR K τ N = false := fiR_f hk hkN hq
      refine ⟨e_u M1 t (upd (M1 t) 0 (iI 0)), ?_, ⟨by rw [e_u_s, upd_s, hfi]; rfl, k + 1, by omega, by omega, hT1.f0, fun a => by rw [hfi] at a; cases a⟩, fun a x => by rw [e_u_n _ _ (by omega), f1 a x]⟩
      rw [hfi, r63_13]
      simp (disch := first | assumption | exact e_nk_i _ | exact e_nk_n | exact e_nk_r _ | exact e_bo_0 | exact e_bo_1 | exact e_bo_b _ | omega) only [e_cl_v, e_cl_x, e_add_0, e_add_s, Option.toList_some, Option.toList_none, List.cons_append, List.nil_append, iI_add, iI_sub, iI_mul, iI_lt, iI_eq, iI_le, r63_15, r63_16, r63_19, r63_20, r63_23, r63_26, r63_27, r63_29, r63_32, r63_34, r63_35, r63_36, r63_38, r63_41, r63_43, r63_44, r63_45, r63_47, r63_49, r63_52, r63_53, r63_55, r63_58, r63_61, r63_62, r63_65, r63_66, r63_69, r63_72, h0, e1, e2, e3']
      rw [if_pos hkN, if_pos hq, r63_13]
      simp (disch := first | assumption | exact e_nk_i _ | exact e_nk_n | exact e_nk_r _ | exact e_bo_0 | exact e_bo_1 | exact e_bo_b _ | omega) only [e_cl_v, e_cl_x, e_add_0, e_add_s, Option.toList_some, Option.toList_none, List.cons_append, List.nil_append, iI_add, iI_sub, iI_mul, iI_lt, iI_eq, iI_le, r63_15, r63_16, r63_19, r63_20, r63_23, r63_75, r63_76, r63_79, e_u_s, upd_s]
      simp
      rfl
    · obtain ⟨M2, e4, r1, r2⟩ := tg_followL ht h11 ha hat hr hd hp hx hN m (k + 1) (e_u M1 t (upd (M1 t) 0 (iI 1))) (by omega) (by omega) (H.of fun a x y => by rw [e_u_n _ _ (by omega), f1 a (by omega)]) (by rw [e_u_n _ _ (by omega), f1 a hat]; exact har) hT1.f0 (fun p a b => by
        by_cases hpk : p = k
        · rw [hpk]; exact hq
        · exact hb p a (by omega)) (by rw [e_u_s, upd_s]) (some (.int (iI (τ k)))) (some (.int (iI (scB K τ k))))
      refine ⟨M2, ?_, r1, fun a x => by rw [r2 a x, e_u_n _ _ (by omega), f1 a x]⟩
      rw [← e4, r63_13]
      simp (disch := first | assumption | exact e_nk_i _ | exact e_nk_n | exact e_nk_r _ | exact e_bo_0 | exact e_bo_1 | exact e_bo_b _ | omega) only [e_cl_v, e_cl_x, e_add_0, e_add_s, Option.toList_some, Option.toList_none, List.cons_append, List.nil_append, iI_add, iI_sub, iI_mul, iI_lt, iI_eq, iI_le, r63_15, r63_16, r63_19, r63_20, r63_23, r63_26, r63_27, r63_29, r63_32, r63_34, r63_35, r63_36, r63_38, r63_41, r63_43, r63_44, r63_45, r63_47, r63_49, r63_52, r63_53, r63_55, r63_58, r63_61, r63_62, r63_65, r63_66, r63_69, r63_72, h0, e1, e2, e3']
      rw [if_pos hkN, if_neg hq]
      simp
theorem tg_follow (ht : e_isT t) (h11 : 11 ≤ t) (ha : e_isI a 16) (hat : a < t ∨ t + 15 < a) (hr : kR K) (hd : kD K) (hp : kP K) (hx : pfx K τ N) (hN : 0 ≤ N ∧ N ≤ 16) (H : SH M 1 K) (har : e_ar (M a) N τ) (hT : TG0 M t) : ∃ M2 : e_MI, e_lim L xs (d + 5) 63 0 [some (.ref t), some (.ref 1), some (.ref a), some (.int (iI N)), none, none, none] [] (e_hp M V W) = some (.inl (some (.int (bI (fiR K τ N)))), e_hp M2 V W, 0, 0) ∧ fwE M2 t K τ N ∧ ∀ a, a < t ∨ t + 15 < a → M2 a = M a := by
  obtain ⟨M1, e1, hT1, f1, z1⟩ := tg_restart (L := L) (xs := xs) (d := d + 1) (V := V) (W := W) ht h11 H hr hT τ
  obtain ⟨M2, e2, r1, r2⟩ := tg_followL (L := L) (xs := xs) (d := d) (V := V) (W := W) ht h11 ha hat hr hd hp hx hN.2 N.toNat 0 (e_u M1 t (upd (M1 t) 0 (iI 1))) (by omega) (by omega) (H.of fun a x y => by rw [e_u_n _ _ (by omega), f1 a (by omega)]) (by rw [e_u_n _ _ (by omega), f1 a hat]; exact har) hT1.f0 (fun p a b => by omega) (by rw [e_u_s, upd_s]) none none
  refine ⟨M2, ?_, r1, fun a x => by rw [r2 a x, e_u_n _ _ (by omega), f1 a x]⟩
  rw [← e2]
  simp (disch := first | assumption | exact e_nk_i _ | exact e_nk_n | exact e_nk_r _ | exact e_bo_0 | exact e_bo_1 | exact e_bo_b _ | omega) only [e_cl_v, e_cl_x, e_add_0, e_add_s, Option.toList_some, Option.toList_none, List.cons_append, List.nil_append, iI_add, iI_sub, iI_mul, iI_lt, iI_eq, iI_le, r63_0, r63_1, r63_2, r63_5, r63_6, r63_7, r63_10, r63_11, e1]
theorem vR.pf (hr : kR K) (h : vR K τ) : pfx K τ (aW K) := ⟨h.1, fun o a b => by have := h.2 o a b; omega⟩
theorem fwE.g (h : fwE M t K τ N) : TG0 M t := by
  obtain ⟨-, c, -, -, hT, -⟩ := h
  exact hT.g
end Ec12
