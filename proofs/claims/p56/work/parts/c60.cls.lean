section Ec60
variable {L : Nat} {xs : Nat → Int32} {d : Nat} {M M0 M2 M3 : e_MI} {V V2 : e_ML} {W : e_MD} {K K1 K2 : e_St} {S : Int → e_St} {h : e_H} {t t2 b2 : Nat} {c o w z m k q p i f e mc tl T x y v N n : Int} {sc bb : Bool} {ρ ν μ χ β ε τ τ2 u : Int → Int}
/-! the search for the least end, in the class -/
theorem bST.rf (hb : bQ M K → nX K τ k → bP M K) : bST M M K τ k := ⟨fun h => h, fun h _ => h, hb⟩
/-- a whole row has been laid -/
theorem k_exLeaf (H : SH M 1 K) (hg : kG K) (hp : pfx K τ (aW K)) (hf : ∀ p, 0 ≤ p → p < aW K → scB K τ p ≠ 2001) (hE : ES M0 M K τ (aW K)) : ∃ M2 : e_MI, e_lim L xs (d + 3) 9 0 [some (.ref 165), some (.ref 1), some (.ref 149), some (.int (iI (aW K))), some (.int (iI (mX (scE K τ) (aW K)))), none] [] (e_hp M V W) = some (.inl none, e_hp M2 V W, 0, 0) ∧ ES M0 M2 K τ (aW K) ∧ bST M M2 K τ (aW K) := by
  obtain ⟨hr, ⟨ha, -⟩, hkp, hk9, hd⟩ := hg
  obtain ⟨hT, hL, ⟨b, hb, hb0, hb1⟩, hgo, hfr⟩ := hE
  have c1 := H.cw
  have hok : okR K τ := ⟨hp.v hr ha.1, hf⟩
  obtain ⟨l1, l2, l3⟩ := lsE_rg hr hkp ha.1
  have l4 := l3 τ hok
  have hen : enR K τ = mX (scE K τ) (aW K) := rfl
  have he1 : mX (scE K τ) (aW K) ≤ 2000 := mX_le ha.1 (by omega) (fun p a c => by
    have := hok.en hr hkp a c
    omega)
  have he0 : 0 ≤ mX (scE K τ) (aW K) := mX_0 ha.1
  by_cases hlt : mX (scE K τ) (aW K) < b
  · obtain ⟨g, e2, hA⟩ := t_copyRow (L := L) (xs := xs) (d := d) (M := e_u M 165 (upd (M 165) 4 (iI (mX (scE K τ) (aW K))))) (V := V) (W := W) (a := 167) (hT.of fun a x y => e_u_n _ _ (by omega)) si_167 (by omega)
    refine ⟨e_u (e_u M 165 (upd (M 165) 4 (iI (mX (scE K τ) (aW K))))) 167 g, ?_, ⟨hT.of fun a x y => by rw [e_u_n _ _ (by omega), e_u_n _ _ (by omega)], fun m x y => by rw [e_u_n _ _ (by decide), e_u_n _ _ (by decide)]; exact hL m x y, ⟨mX (scE K τ) (aW K), by rw [e_u_n _ _ (by decide), e_u_s, upd_s], he0, by omega⟩, by rw [e_u_n _ _ (by decide), e_u_s, upd_n _ _ (by decide)]; exact hgo, fun a x => by rw [e_u_n _ _ (by omega), e_u_n _ _ (by omega)]; exact hfr a x⟩, fun hP => ?_, fun hQ hB => ?_, fun hQ hX => ?_⟩
    · simp (disch := first | assumption | exact e_nk_i _ | exact e_nk_n | exact e_nk_r _ | exact e_bo_0 | exact e_bo_1 | exact e_bo_b _ | omega) only [e_cl_v, e_cl_x, e_add_0, e_add_s, Option.toList_some, Option.toList_none, List.cons_append, List.nil_append, iI_add, iI_sub, iI_mul, iI_lt, iI_eq, iI_le, r9_0, r9_1, r9_2, r9_5, r9_8, r9_10, r9_11, r9_14, r9_17, r9_18, r9_20, r9_23, r9_24, r9_25, r9_28, r9_31, c1, hb, e2]
      rw [if_neg (by omega)]
      first | rw [if_pos (by omega)] | rw [if_neg (by omega)]
    · exfalso
      have h1 := hP.1
      rw [hb, iI_eq (by omega) (by omega)] at h1
      omega
    · obtain ⟨j, j0, j1, j2, j3⟩ := hB
      have h1 := lsE_lt hr ha.1 l4.2 τ hok ⟨j, j0, j1, j2, j3⟩
      exact ⟨mX (scE K τ) (aW K), by rw [e_u_n _ _ (by decide), e_u_s, upd_s], by omega, by omega⟩
    · obtain ⟨b', hb', q1, q2⟩ := hQ
      obtain ⟨k1, k2, k3, k4⟩ := l2 (by omega)
      have h1 : mX (scE K τ) (aW K) = lsE K := by
        rw [k2, ← hen]
        exact enR_cg ha.1 hX
      refine ⟨by rw [e_u_n _ _ (by decide), e_u_s, upd_s, h1], fun _ => ?_⟩
      rw [e_u_s]
      exact hA.cong fun z x y => hX z x y
  · refine ⟨M, ?_, ⟨hT, hL, ⟨b, hb, hb0, hb1⟩, hgo, hfr⟩, bST.rf fun hQ hX => ?_⟩
    · simp (disch := first | assumption | exact e_nk_i _ | exact e_nk_n | exact e_nk_r _ | exact e_bo_0 | exact e_bo_1 | exact e_bo_b _ | omega) only [e_cl_v, e_cl_x, e_add_0, e_add_s, Option.toList_some, Option.toList_none, List.cons_append, List.nil_append, iI_add, iI_sub, iI_mul, iI_lt, iI_eq, iI_le, r9_0, r9_1, r9_2, r9_5, r9_8, r9_10, r9_11, r9_14, r9_17, r9_18, r9_20, r9_23, r9_24, r9_25, r9_28, r9_31, c1, hb]
      rw [if_neg (by omega)]
      first | rw [if_neg (by omega)] | rw [if_pos (by omega)]
    · exfalso
      obtain ⟨b', hb', q1, q2⟩ := hQ
      rw [hb, iI_eq (by omega) (by omega)] at hb'
      obtain ⟨k1, k2, k3, k4⟩ := l2 (by omega)
      have h1 : mX (scE K τ) (aW K) = lsE K := by
        rw [k2, ← hen]
        exact enR_cg ha.1 hX
      omega
/-- the first best row has no places that change -/
theorem nX_noSwap (hr : kR K) (hp : kP K) (hn : 0 ≤ aW K) (hl : lsE K < 2001) (hk : k < aW K) (hX : nX K τ k) : ¬ csP K τ k ((lsR K).2 k) := by
  rintro ⟨s1, s2, s3, s4, s5⟩
  obtain ⟨l1, l2, l3⟩ := lsE_rg hr hp hn
  obtain ⟨k1, k2, k3, k4⟩ := l2 hl
  have hne : (lsR K).1 ≠ -1 := (l3 _ k1).2
  have e1 : τ (k - 1) = (lsR K).2 (k - 1) := hX _ (by omega) (by omega)
  have e2 : scW τ (k - 1) = scW (lsR K).2 (k - 1) := scW_tau (fun q a b => hX q a (by omega)) (by omega)
  have e3 : cnt τ ((lsR K).2 k) k = scW (lsR K).2 k := cnt_cong fun p a b => hX p a b
  have m1 : mcA K τ (scW τ) (k - 1) = mcA K (lsR K).2 (scW (lsR K).2) (k - 1) := by
    unfold mcA
    rw [e1, e2]
  have m2 : tlA K τ (scW τ) (k - 1) = tlA K (lsR K).2 (scW (lsR K).2) (k - 1) := by
    unfold tlA
    rw [e1, e2]
  rw [e1] at s3
  rw [m1, e3] at s4
  rw [m2, e3] at s5
  obtain ⟨g1, g2, g3⟩ := sw_ok (j := k) s1 hr hp ⟨s2, hk⟩ k1 ⟨by omega, s4, s5⟩
  have := lsE_lt hr hn hne _ g1 (g3 s3)
  omega
/-- what one order more at a place brings -/
theorem k_exOrder {j : Nat} (hsub : ∀ (τ' : Int → Int) (M : e_MI), SH M 1 K → pfx K τ' (k + 1) → (∀ p, 0 ≤ p → p < k + 1 → scB K τ' p ≠ 2001) → ES M0 M K τ' (k + 1) → ∃ M2 : e_MI, e_lim L xs (d + 6) 9 0 [some (.ref 165), some (.ref 1), some (.ref 149), some (.int (iI (k + 1))), some (.int (iI (mX (scE K τ') (k + 1)))), none] [] (e_hp M V W) = some (.inl none, e_hp M2 V W, 0, 0) ∧ ES M0 M2 K τ' (k + 1) ∧ bST M M2 K τ' (k + 1)) (H0 : SH M0 1 K) (hg : kG K) (hk : 0 ≤ k ∧ k < aW K) (hp : pfx K τ k) (hf : ∀ p, 0 ≤ p → p < k → scB K τ p ≠ 2001) (hE : ES M0 M K τ k) (ho : 0 ≤ o ∧ o < K 310) (hw2 : cnt τ o k < K (40 + o)) : ∃ M2 : e_MI, e_lim L xs (d + 7) 10 0 [some (.ref 165), some (.ref 1), some (.ref 149), some (.int (iI k)), some (.int (iI (mX (scE K τ) k))), some (.int (iI o)), none, none, none, none, none, none, none, none] [] (e_hp M V W) = some (.inl none, e_hp M2 V W, 0, 0) ∧ ES M0 M2 K τ k ∧ bST M M2 K (uI τ k o) (k + 1) := by
  obtain ⟨hr, ⟨ha, -⟩, hkp, hk9, hd⟩ := hg
  obtain ⟨hT, hL, ⟨b, hb, hb0, hb1⟩, hgo, hfr⟩ := id hE
  have H : SH M 1 K := H0.of fun a x y => hfr a (by omega)
  have hn8 := hr.n
  have hwk := hr.wk (o := o) ho.1 (by omega)
  have hc0 := cnt_rg τ o hk.1
  have hx2 := hp.up hk.1 ho hw2
  have hv2 := hx2.vp
  have hwk2 := tk2 (o := o) hp hk.1
  have e1 := tt_placedOf (L := L) (xs := xs) (d := d + 5) (V := V) (W := W) e_isT_1 hT (o := o) ⟨ho.1, by omega⟩
  have e2 := s_workCell (L := L) (xs := xs) (d := d + 5) (V := V) (W := W) H hr ho.1 ho.2 (w := cnt τ o k) hc0.1 hw2 (j := 0) (by omega) (by omega)
  rw [show 48 + 32 * 0 + 4 * o + cnt τ o k = 48 + 4 * o + cnt τ o k by omega] at e2
  have e3 := s_timeOf (L := L) (xs := xs) (d := d + 4) (V := V) (W := W) H hr ho.1 ho.2 (w := cnt τ o k) hc0.1 hw2
  have e5 := s_timeFrom (L := L) (xs := xs) (d := d + 4) (V := V) (W := W) H hr ho.1 ho.2 (f := cnt τ o k + 1) (by omega)
  have e6 := tt_ready (L := L) (xs := xs) (d := d + 3) (V := V) (W := W) H hr hd hp hT ⟨hk.1, by omega⟩ ho hw2
  have e7 := tt_firstFree (L := L) (xs := xs) (d := d + 3) (V := V) (W := W) H hr hd hkp hp hT ⟨hk.1, by omega⟩ ho hw2
  have r1 := hr.mc (i := 4 * o + cnt τ o k) (by omega) (by omega)
  rw [show 48 + (4 * o + cnt τ o k) = 48 + 4 * o + cnt τ o k by omega] at r1
  have r2 := tk_pos hr hkp ho (w := cnt τ o k) ⟨hc0.1, hw2⟩
  have r3 := tF_rg hr (o := o) (f := cnt τ o k + 1) (by omega)
  have r4 := (lo_spI hr hkp hv2 (p := k) hk.1 (by omega)).1
  have r5 := sc_spI hr hkp hv2 (p := k) hk.1 (by omega)
  rw [uI_s, hwk2] at r5
  have r6 := lO_rg hr (m := K (48 + 4 * o + cnt τ o k))
  have r7 := mcS_rg hr hp.vp (by omega : 0 ≤ k ∧ k ≤ 16) (K (48 + 4 * o + cnt τ o k))
  have e4 := m_atI (L := L) (xs := xs) (d := d + 6) (M := M) (V := V) (W := W) (a := 168) (n := 4) si_168 (z := K (48 + 4 * o + cnt τ o k)) r1.1 (by omega) (hL _ r1.1 (by omega))
  have r8 : 0 ≤ mX (scE K τ) k ∧ mX (scE K τ) k ≤ 2001 := mX_rg hk.1 (by omega) (fun p a c => (sc_spI hr hkp hp.vp a c).1.2.2)
  have hmc : mcA K (uI τ k o) (scW (uI τ k o)) k = K (48 + 4 * o + cnt τ o k) := by
    unfold mcA
    rw [uI_s, hwk2]
  have hmS : ∀ m, mcS K (uI τ k o) m (k + 1) = mcS K τ m k + if K (48 + 4 * o + cnt τ o k) = m then tk K o (cnt τ o k) else 0 := fun m => by
    rw [mcS_s hk.1, hmc, uI_s, hwk2, mcS_tau (τ2 := τ) hk.1 (fun p a b => uI_n _ _ (by omega))]
  -- what it cannot be below, on the way to the first best row
  obtain ⟨l1, l2, l3⟩ := lsE_rg hr hkp ha.1
  have way : nX K (uI τ k o) (k + 1) → lsE K < 2001 → scB K (uI τ k o) k ≠ 2001 ∧ loW K (uI τ k o) (scW (uI τ k o)) (scE K (uI τ k o)) k ≤ scB K (uI τ k o) k ∧ scB K (uI τ k o) k + tk K o (cnt τ o k) + (lO K (K (48 + 4 * o + cnt τ o k)) - mcS K τ (K (48 + 4 * o + cnt τ o k)) k - tk K o (cnt τ o k)) ≤ lsE K ∧ scB K (uI τ k o) k + tk K o (cnt τ o k) + tF K o (cnt τ o k + 1) ≤ lsE K ∧ mX (scE K τ) k ≤ lsE K := by
    intro hX hl
    obtain ⟨k1, k2, k3, k4⟩ := l2 hl
    have s1 := sc_tauI (K := K) (τ := uI τ k o) (τ2 := (lsR K).2) hX hk.1 (by omega)
    have hRk : (lsR K).2 k = o := by
      have := hX k hk.1 (by omega)
      rw [uI_s] at this
      exact this.symm
    have s2 := k1.en hr hkp hk.1 hk.2
    have s3 := lb_machine hr hkp k1 ha.1 hk.1 hk.2
    have s4 := lb_order hr hkp k1 ha.1 hk.1 hk.2
    have hwR : scW (lsR K).2 k = cnt τ o k := by rw [← s1.2.2, hwk2]
    have hmR : mcA K (lsR K).2 (scW (lsR K).2) k = K (48 + 4 * o + cnt τ o k) := by
      unfold mcA
      rw [hRk, hwR]
    have hmcR := mcS_tau (K := K) (τ := uI τ k o) (τ2 := (lsR K).2) (k := k + 1) (by omega) hX (K (48 + 4 * o + cnt τ o k))
    rw [hmS, if_pos rfl] at hmcR
    rw [hmR, ← hmcR] at s3
    rw [hRk, hwR] at s4 s2
    have hb2 : scB K (uI τ k o) k ≠ 2001 := by
      rw [s1.1]
      exact k1.2 k hk.1 hk.2
    have hlo : loW K (uI τ k o) (scW (uI τ k o)) (scE K (uI τ k o)) k ≤ scB K (uI τ k o) k := by
      rcases r5.2.2 with z | z
      · exact absurd z hb2
      · exact z.1
    have hmx : mX (scE K τ) k ≤ lsE K := by
      rw [k2]
      refine mX_le hk.1 (mX_0 ha.1) (fun p a c => ?_)
      have hX2 : ∀ p, 0 ≤ p → p < k → τ p = (lsR K).2 p := fun p a c => by
        have := hX p a (by omega)
        rw [uI_n _ _ (by omega)] at this
        exact this
      rw [(sc_tauI (K := K) hX2 a c).2.1]
      exact (k1.en hr hkp a (by omega)).2.2.2
    rw [s1.1] at hlo ⊢
    exact ⟨by rw [← s1.1]; exact hb2, hlo, by omega, by omega, hmx⟩
  -- the way back where nothing is laid
  have stay : (nX K (uI τ k o) (k + 1) → lsE K < 2001 → lsE K < b → False) → ES M0 M K τ k ∧ bST M M K (uI τ k o) (k + 1) := fun hno => ⟨hE, bST.rf fun hQ hX => by
    obtain ⟨b', hb', q1, q2⟩ := hQ
    rw [hb, iI_eq (by omega) (by omega)] at hb'
    exact absurd (hno hX (by omega) (by omega)) (fun y => y)⟩
  generalize hmcv : K (48 + 4 * o + cnt τ o k) = mv at *
  generalize hlev : lO K mv - mcS K τ mv k = lev at *
  generalize hlow : loW K (uI τ k o) (scW (uI τ k o)) (scE K (uI τ k o)) k = low at *
  have head : ∀ R : e_R, (low + tk K o (cnt τ o k) + max (lev - tk K o (cnt τ o k)) (tF K o (cnt τ o k + 1)) < b → e_lim L xs (d + 7) 10 85 [some (.ref 165), some (.ref 1), some (.ref 149), some (.int (iI k)), some (.int (iI (mX (scE K τ) k))), some (.int (iI o)), some (.int (iI (cnt τ o k))), some (.int (iI mv)), some (.int (iI (tk K o (cnt τ o k)))), some (.int (iI (lev - tk K o (cnt τ o k)))), some (.int (iI (max (lev - tk K o (cnt τ o k)) (tF K o (cnt τ o k + 1))))), some (.int (iI low)), none, none] [] (e_hp M V W) = some R) → (¬(low + tk K o (cnt τ o k) + max (lev - tk K o (cnt τ o k)) (tF K o (cnt τ o k + 1)) < b) → R = (.inl none, e_hp M V W, 0, 0)) → e_lim L xs (d + 7) 10 0 [some (.ref 165), some (.ref 1), some (.ref 149), some (.int (iI k)), some (.int (iI (mX (scE K τ) k))), some (.int (iI o)), none, none, none, none, none, none, none, none] [] (e_hp M V W) = some R := fun R q1 q2 => by
    simp (disch := first | assumption | exact e_nk_i _ | exact e_nk_n | exact e_nk_r _ | exact e_bo_0 | exact e_bo_1 | exact e_bo_b _ | omega) only [e_cl_v, e_cl_x, e_add_0, e_add_s, Option.toList_some, Option.toList_none, List.cons_append, List.nil_append, iI_add, iI_sub, iI_mul, iI_lt, iI_eq, iI_le, r10_0, r10_1, r10_3, r10_6, r10_8, r10_9, r10_11, r10_13, r10_14, r10_17, r10_19, r10_20, r10_22, r10_24, r10_27, r10_29, r10_30, r10_33, r10_35, r10_38, r10_40, r10_41, r10_43, r10_45, r10_46, r10_48, r10_50, r10_51, r10_52, r10_55, r10_58, r10_60, r10_61, r10_62, r10_64, r10_67, r10_69, r10_71, r10_73, r10_74, r10_76, r10_77, r10_78, r10_81, r10_84, e1, e2, e3, e4, e5, e6, hb, iI_mx]
    by_cases hq : low + tk K o (cnt τ o k) + max (lev - tk K o (cnt τ o k)) (tF K o (cnt τ o k + 1)) < b
    · rw [if_pos hq]
      exact q1 hq
    · rw [if_neg hq, q2 hq]
  by_cases hq : low + tk K o (cnt τ o k) + max (lev - tk K o (cnt τ o k)) (tF K o (cnt τ o k + 1)) < b
  · by_cases hq2 : scB K (uI τ k o) k = 2001
    · refine ⟨M, head _ (fun _ => ?_) (fun y => absurd hq y), stay fun hX hl _ => (way hX hl).1 hq2⟩
      rw [hq2] at e7
      simp (disch := first | assumption | exact e_nk_i _ | exact e_nk_n | exact e_nk_r _ | exact e_bo_0 | exact e_bo_1 | exact e_bo_b _ | omega) only [e_cl_v, e_cl_x, e_add_0, e_add_s, Option.toList_some, Option.toList_none, List.cons_append, List.nil_append, iI_add, iI_sub, iI_mul, iI_lt, iI_eq, iI_le, r10_85, r10_86, r10_87, r10_89, r10_91, r10_93, r10_96, r10_98, r10_100, r10_102, r10_103, r10_105, r10_107, r10_110, r10_113, r10_115, r10_117, r10_119, r10_120, r10_123, r10_124, r10_127, r10_130, e7, hb, iI_mx]
      first | rw [if_pos rfl] | simp
    · by_cases hq3 : max (mX (scE K τ) k) (scB K (uI τ k o) k + tk K o (cnt τ o k) + max (lev - tk K o (cnt τ o k)) (tF K o (cnt τ o k + 1))) < b
      · have hsE : scE K (uI τ k o) k = scB K (uI τ k o) k + tk K o (cnt τ o k) := by
          have := r5.2.1
          rw [if_neg hq2] at this
          exact this
        have hmx : mX (scE K (uI τ k o)) (k + 1) = max (mX (scE K τ) k) (scB K (uI τ k o) k + tk K o (cnt τ o k)) := by
          rw [mX_s _ hk.1, mx_if, hsE, mX_cong (g := scE K τ) hk.1 (fun p a c => (sc_tauI (K := K) (τ := uI τ k o) (τ2 := τ) (n := k) (fun p a b => uI_n _ _ (by omega)) a c).2.1)]
        obtain ⟨M4, e8, hT4, f4, z4⟩ := tg_layE (L := L) (xs := xs) (d := d + 3) (V := V) (W := W) e_isT_1 (by omega) H hr hkp hp hT ⟨hk.1, by omega⟩ (o := o) ho hw2
        have e9 := m_putI (L := L) (xs := xs) (d := d + 6) (M := M4) (V := V) (W := W) (v := iI (lev - tk K o (cnt τ o k))) si_168 (z := mv) r1.1 (by omega)
        obtain ⟨M5, hM5⟩ : ∃ M5 : e_MI, M5 = e_u M4 168 (upd (M4 168) mv.toNat (iI (lev - tk K o (cnt τ o k)))) := ⟨_, rfl⟩
        rw [← hM5] at e9
        have f5 : ∀ a, a ≠ 168 → a < 149 ∨ 164 < a → M5 a = M a := fun a x y => by rw [hM5, e_u_n _ _ x, f4 a (by omega)]
        have L5 : LO M5 K (uI τ k o) (k + 1) := fun m x y => by
          rw [hM5, e_u_s, hmS]
          by_cases hm : mv = m
          · rw [if_pos hm, ← hm, upd_s]
            congr 1
            omega
          · rw [if_neg hm, upd_n _ _ (by omega), f4 168 (by omega), Int.add_zero]
            exact hL m x y
        have E5 : ES M0 M5 K (uI τ k o) (k + 1) := ⟨hT4.of fun a x y => by rw [hM5, e_u_n _ _ (by omega)], L5, ⟨b, by rw [f5 165 (by decide) (by omega)]; exact hb, hb0, hb1⟩, by rw [f5 165 (by decide) (by omega)]; exact hgo, fun a x => by rw [f5 a (by omega) (by omega)]; exact hfr a x⟩
        have hf5 : ∀ p, 0 ≤ p → p < k + 1 → scB K (uI τ k o) p ≠ 2001 := fun p a c => by
          by_cases hpk : p = k
          · rw [hpk]
            exact hq2
          · rw [(sc_tauI (K := K) (τ := uI τ k o) (τ2 := τ) (n := k) (fun p a b => uI_n _ _ (by omega)) a (by omega)).1]
            exact hf p a (by omega)
        obtain ⟨M6, e10, E6, B6⟩ := hsub (uI τ k o) M5 (H0.of fun a x y => E5.2.2.2.2 a (by omega)) hx2 hf5 E5
        rw [hmx] at e10
        obtain ⟨hT6, hL6, ⟨b6, hb6, hb60, hb61⟩, hgo6, hfr6⟩ := E6
        have e11 := m_putI (L := L) (xs := xs) (d := d + 6) (M := M6) (V := V) (W := W) (v := iI (lev - tk K o (cnt τ o k) + tk K o (cnt τ o k))) si_168 (z := mv) r1.1 (by omega)
        obtain ⟨M7, hM7⟩ : ∃ M7 : e_MI, M7 = e_u M6 168 (upd (M6 168) mv.toNat (iI (lev - tk K o (cnt τ o k) + tk K o (cnt τ o k)))) := ⟨_, rfl⟩
        rw [← hM7] at e11
        have f7 : ∀ a, a ≠ 168 → M7 a = M6 a := fun a x => by rw [hM7, e_u_n _ _ x]
        obtain ⟨M8, e12, hT8, f8⟩ := tt_takeBack (L := L) (xs := xs) (d := d + 4) (M := M7) (V := V) (W := W) (hT6.of fun a x y => f7 a (by omega)) hk.1
        have f9 : ∀ a, a ≠ 168 → a < 149 ∨ 164 < a → M8 a = M6 a := fun a x y => by rw [f8 a y, f7 a x]
        have L8 : LO M8 K τ k := fun m x y => by
          rw [f8 168 (by omega), hM7, e_u_s]
          by_cases hm : mv = m
          · rw [← hm, upd_s]
            congr 1
            omega
          · rw [upd_n _ _ (by omega)]
            have := hL6 m x y
            rw [hmS, if_neg hm, Int.add_zero] at this
            exact this
        have tr : ∀ (A B : e_MI), A 165 = B 165 → A 167 = B 167 → (bP A K → bP B K) ∧ (bQ A K → bQ B K) := fun A B h1 h2 => by
          unfold bP bQ
          rw [h1, h2]
          exact ⟨fun y => y, fun y => y⟩
        have t1 := tr M M5 (f5 165 (by decide) (by omega)).symm (f5 167 (by decide) (by omega)).symm
        have t2 := tr M6 M8 (f9 165 (by decide) (by omega)).symm (f9 167 (by decide) (by omega)).symm
        refine ⟨M8, head _ (fun _ => ?_) (fun y => absurd hq y), ⟨hT8, L8, ⟨b6, by rw [f9 165 (by decide) (by omega)]; exact hb6, hb60, hb61⟩, by rw [f9 165 (by decide) (by omega)]; exact hgo6, fun a x => by rw [f9 a (by omega) (by omega)]; exact hfr6 a x⟩, fun y => t2.1 (B6.1 (t1.1 y)), fun y z => t2.2 (B6.2.1 (t1.2 y) z), fun y z => t2.1 (B6.2.2 (t1.2 y) z)⟩
        have e8' : e_lim L xs (d + 6) 73 0 [some (.ref 149), some (.ref 1), some (.int (iI o)), some (.int (iI (scB K (uI τ k o) k))), none, none, none, none] [] (e_hp M V W) = some (.inl none, e_hp M4 V W, 0, 0) := e8
        generalize scB K (uI τ k o) k = bg at *
        simp (disch := first | assumption | exact e_nk_i _ | exact e_nk_n | exact e_nk_r _ | exact e_bo_0 | exact e_bo_1 | exact e_bo_b _ | omega) only [e_cl_v, e_cl_x, e_add_0, e_add_s, Option.toList_some, Option.toList_none, List.cons_append, List.nil_append, iI_add, iI_sub, iI_mul, iI_lt, iI_eq, iI_le, r10_85, r10_86, r10_87, r10_89, r10_91, r10_93, r10_96, r10_98, r10_100, r10_102, r10_103, r10_105, r10_107, r10_110, r10_113, r10_115, r10_117, r10_119, r10_120, r10_123, r10_124, r10_127, r10_130, r10_131, r10_132, r10_133, r10_135, r10_137, r10_140, r10_141, r10_144, r10_146, r10_148, r10_151, r10_152, r10_153, r10_154, r10_155, r10_156, r10_157, r10_159, r10_161, r10_164, r10_167, r10_168, r10_171, r10_173, r10_175, r10_177, r10_178, r10_181, r10_182, r10_185, e7, hb, iI_mx, e8', e9, e10, e11, e12]
        first | rw [if_neg hq2, if_pos hq3] | (simp [hq2, hq3])
      · refine ⟨M, head _ (fun _ => ?_) (fun y => absurd hq y), stay fun hX hl hlb => ?_⟩
        · generalize scB K (uI τ k o) k = bg at *
          simp (disch := first | assumption | exact e_nk_i _ | exact e_nk_n | exact e_nk_r _ | exact e_bo_0 | exact e_bo_1 | exact e_bo_b _ | omega) only [e_cl_v, e_cl_x, e_add_0, e_add_s, Option.toList_some, Option.toList_none, List.cons_append, List.nil_append, iI_add, iI_sub, iI_mul, iI_lt, iI_eq, iI_le, r10_85, r10_86, r10_87, r10_89, r10_91, r10_93, r10_96, r10_98, r10_100, r10_102, r10_103, r10_105, r10_107, r10_110, r10_113, r10_115, r10_117, r10_119, r10_120, r10_123, r10_124, r10_127, r10_130, e7, hb, iI_mx]
          first | rw [if_neg hq2, if_neg hq3] | (simp [hq2, hq3])
        · have := way hX hl
          omega
  · refine ⟨M, head _ (fun y => absurd y hq) (fun _ => rfl), stay fun hX hl hlb => ?_⟩
    have := way hX hl
    omega
end Ec60
