section Ec61
variable {L : Nat} {xs : Nat → Int32} {d : Nat} {M M0 M2 M3 : e_MI} {V V2 : e_ML} {W : e_MD} {K K1 K2 : e_St} {S : Int → e_St} {h : e_H} {t t2 b2 : Nat} {c o w z m k q p i f e mc tl T x y v N n : Int} {sc bb : Bool} {ρ ν μ χ β ε τ τ2 u : Int → Int}
/-! the least end, in the class -/
theorem k_exLoop (H0 : SH M0 1 K) (hg : kG K) (hk : 0 ≤ k ∧ k < aW K) (h8 : aW K ≤ 8) (hp : pfx K τ k) (hf : ∀ p, 0 ≤ p → p < k → scB K τ p ≠ 2001) (hE : ES M0 M K τ k) (hsub : ∀ (τ' : Int → Int) (M : e_MI), SH M 1 K → pfx K τ' (k + 1) → (∀ p, 0 ≤ p → p < k + 1 → scB K τ' p ≠ 2001) → ES M0 M K τ' (k + 1) → ∃ M2 : e_MI, e_lim L xs (d + 6) 9 0 [some (.ref 165), some (.ref 1), some (.ref 149), some (.int (iI (k + 1))), some (.int (iI (mX (scE K τ') (k + 1)))), none] [] (e_hp M V W) = some (.inl none, e_hp M2 V W, 0, 0) ∧ ES M0 M2 K τ' (k + 1) ∧ bST M M2 K τ' (k + 1)) : ∃ M2 : e_MI, e_lim L xs (d + 8) 9 0 [some (.ref 165), some (.ref 1), some (.ref 149), some (.int (iI k)), some (.int (iI (mX (scE K τ) k))), none] [] (e_hp M V W) = some (.inl none, e_hp M2 V W, 0, 0) ∧ ES M0 M2 K τ k ∧ bST M M2 K τ k := by
  obtain ⟨hr, ⟨ha, hvr⟩, hkp, hk9, hd⟩ := id hg
  have hn8 := hr.n
  obtain ⟨l1, l2, l3⟩ := lsE_rg hr hkp ha.1
  have bo := boM_rg hr 4
  have c1 : M 1 1 = iI (aW K) := by
    rw [hE.2.2.2.2 1 (by omega)]
    exact H0.cw
  have hQl : ∀ M' : e_MI, bQ M' K → lsE K < 2001 := fun M' ⟨b, x, y, z⟩ => by omega
  have key := G_lp (i := 0) (n := K 310) (I := fun i M' => ES M0 M' K τ k ∧ (bP M K → bP M' K) ∧ (bQ M K → nBf K τ k → bQ M' K) ∧ (bQ M K → nX K τ k → ((lsR K).2 k < i → bP M' K) ∧ (¬(lsR K).2 k < i → bQ M' K))) (P := fun i M' => ∃ M2 : e_MI, e_lim L xs (d + 8) 9 42 [some (.ref 165), some (.ref 1), some (.ref 149), some (.int (iI k)), some (.int (iI (mX (scE K τ) k))), some (.int (iI i))] [] (e_hp M' V W) = some (.inl none, e_hp M2 V W, 0, 0) ∧ ES M0 M2 K τ k ∧ bST M M2 K τ k) (fun o M' x y hI hc => ?_) (fun M' hI => ?_) hn8.1 M ⟨hE, fun h => h, fun h _ => h, fun h hX => ⟨fun y => by
      have := (l2 (hQl M h)).1.1.1 k hk.1 hk.2
      omega, fun _ => h⟩⟩
  · obtain ⟨M2, e, r⟩ := key
    refine ⟨M2, ?_, r⟩
    rw [← e]
    simp (disch := first | assumption | exact e_nk_i _ | exact e_nk_n | exact e_nk_r _ | exact e_bo_0 | exact e_bo_1 | exact e_bo_b _ | omega) only [e_cl_v, e_cl_x, e_add_0, e_add_s, Option.toList_some, Option.toList_none, List.cons_append, List.nil_append, iI_add, iI_sub, iI_mul, iI_lt, iI_eq, iI_le, r9_0, r9_1, r9_2, r9_5, r9_8, r9_10, r9_11, r9_14, r9_17, r9_18, r9_20, r9_23, r9_24, r9_25, r9_28, r9_31, r9_32, r9_33, r9_35, r9_38, r9_39, r9_40, c1]
    rw [if_pos (by omega), if_pos (by omega)]
  · obtain ⟨i1, i2, i3, i4⟩ := hI
    obtain ⟨hT, hL, ⟨b, hb, hb0, hb1⟩, hgo, hfr⟩ := id i1
    have H : SH M' 1 K := H0.of fun a x y => hfr a (by omega)
    have c2 := H.cn
    have hbo : boW K = boM K 4 := rfl
    by_cases hbg : b ≤ boW K
    · refine ⟨M', ?_, i1, i2, i3, fun hQ hX => ?_⟩
      · rw [r9_42]
        simp (disch := first | assumption | exact e_nk_i _ | exact e_nk_n | exact e_nk_r _ | exact e_bo_0 | exact e_bo_1 | exact e_bo_b _ | omega) only [e_cl_v, e_cl_x, e_add_0, e_add_s, Option.toList_some, Option.toList_none, List.cons_append, List.nil_append, iI_add, iI_sub, iI_mul, iI_lt, iI_eq, iI_le, r9_44, r9_45, r9_48, r9_51, r9_52, r9_55, r9_56, r9_59, r9_104, c2, hb, hgo]
        rw [if_pos y]
        first | rw [if_neg (by omega)] | rw [if_pos (by omega)]
      · have hl := hQl M hQ
        obtain ⟨j1, j2⟩ := i4 hQ hX
        by_cases hR : (lsR K).2 k < o
        · exact j1 hR
        · exfalso
          obtain ⟨b', hb', q1, q2⟩ := j2 hR
          rw [hb, iI_eq (by omega) (by omega)] at hb'
          have := (l2 hl).2.2.2
          omega
    · have e1 := tt_placedOf (L := L) (xs := xs) (d := d + 6) (V := V) (W := W) e_isT_1 hT (o := o) ⟨x, by omega⟩
      have e2 := s_worksIn (L := L) (xs := xs) (d := d + 6) (V := V) (W := W) H hn8.2 x y
      have hwk := hr.wk (o := o) x (by omega)
      have hco := hp.2 o x y
      have hc0 := cnt_rg τ o hk.1
      have head : ∀ R : e_R, (¬cnt τ o k < K (40 + o) → e_lim L xs (d + 8) 9 42 [some (.ref 165), some (.ref 1), some (.ref 149), some (.int (iI k)), some (.int (iI (mX (scE K τ) k))), some (.int (iI (o + 1)))] [] (e_hp M' V W) = some R) → (cnt τ o k < K (40 + o) → e_lim L xs (d + 8) 9 77 [some (.ref 165), some (.ref 1), some (.ref 149), some (.int (iI k)), some (.int (iI (mX (scE K τ) k))), some (.int (iI o))] [] (e_hp M' V W) = some R) → e_lim L xs (d + 8) 9 42 [some (.ref 165), some (.ref 1), some (.ref 149), some (.int (iI k)), some (.int (iI (mX (scE K τ) k))), some (.int (iI o))] [] (e_hp M' V W) = some R := fun R q1 q2 => by
        rw [r9_42]
        simp (disch := first | assumption | exact e_nk_i _ | exact e_nk_n | exact e_nk_r _ | exact e_bo_0 | exact e_bo_1 | exact e_bo_b _ | omega) only [e_cl_v, e_cl_x, e_add_0, e_add_s, Option.toList_some, Option.toList_none, List.cons_append, List.nil_append, iI_add, iI_sub, iI_mul, iI_lt, iI_eq, iI_le, r9_44, r9_45, r9_48, r9_51, r9_52, r9_55, r9_56, r9_59, r9_62, r9_63, r9_65, r9_68, r9_69, r9_71, r9_74, r9_98, r9_101, c2, hb, hgo, e1, e2]
        rw [if_pos y]
        first | rw [if_pos (show boW K < b by omega)] | rw [if_neg (show ¬ b ≤ boW K by omega)]
        by_cases hq : cnt τ o k < K (40 + o)
        · rw [if_pos hq]
          exact q2 hq
        · rw [if_neg hq]
          exact q1 hq
      have skip : ((bQ M K → nX K τ k → (lsR K).2 k ≠ o)) → ES M0 M' K τ k ∧ (bP M K → bP M' K) ∧ (bQ M K → nBf K τ k → bQ M' K) ∧ (bQ M K → nX K τ k → ((lsR K).2 k < o + 1 → bP M' K) ∧ (¬(lsR K).2 k < o + 1 → bQ M' K)) := fun hne => ⟨i1, i2, i3, fun hQ hX => by
        have hn := hne hQ hX
        obtain ⟨j1, j2⟩ := i4 hQ hX
        exact ⟨fun z => j1 (by omega), fun z => j2 (by omega)⟩⟩
      by_cases hq : cnt τ o k < K (40 + o)
      · obtain ⟨cb, e3, e3b⟩ := tt_canSwap (L := L) (xs := xs) (d := d + 5) (V := V) (W := W) H hr hp hT (o := o) ⟨x, y⟩ hq
        cases cb with
        | true =>
          have hcs := e3b rfl
          rw [bI_t] at e3
          obtain ⟨M2, e, r⟩ := hc M' (skip fun hQ hX hR => by
            rw [← hR] at hcs
            exact nX_noSwap hr hkp ha.1 (hQl M hQ) hk.2 hX hcs)
          refine ⟨M2, head _ (fun z => absurd hq z) (fun _ => ?_), r⟩
          rw [← e]
          simp (disch := first | assumption | exact e_nk_i _ | exact e_nk_n | exact e_nk_r _ | exact e_bo_0 | exact e_bo_1 | exact e_bo_b _ | omega) only [e_cl_v, e_cl_x, e_add_0, e_add_s, Option.toList_some, Option.toList_none, List.cons_append, List.nil_append, iI_add, iI_sub, iI_mul, iI_lt, iI_eq, iI_le, r9_77, r9_78, r9_79, r9_81, r9_84, r9_87, r9_88, r9_89, r9_90, r9_91, r9_93, r9_95, r9_98, r9_101, e3]
          simp
        | false =>
          rw [bI_f] at e3
          obtain ⟨M4, e4, E4, B4⟩ := k_exOrder (L := L) (xs := xs) (d := d) (V := V) (W := W) (j := 0) hsub H0 hg hk hp hf i1 (o := o) ⟨x, y⟩ hq
          obtain ⟨M2, e, r⟩ := hc M4 ⟨E4, fun h => B4.1 (i2 h), fun hQ hB => B4.2.1 (i3 hQ hB) (by
            obtain ⟨j, a, b, c, d⟩ := hB
            exact ⟨j, a, by omega, fun p u v => by rw [uI_n _ _ (by omega)]; exact c p u v, by rw [uI_n _ _ (by omega)]; exact d⟩), fun hQ hX => by
            obtain ⟨j1, j2⟩ := i4 hQ hX
            refine ⟨fun z => ?_, fun z => ?_⟩
            · by_cases hR : (lsR K).2 k < o
              · exact B4.1 (j1 hR)
              · refine B4.2.2 (j2 hR) (fun p u v => ?_)
                by_cases hpk : p = k
                · rw [hpk, uI_s]
                  omega
                · rw [uI_n _ _ hpk]
                  exact hX p u (by omega)
            · refine B4.2.1 (j2 (by omega)) ⟨k, hk.1, by omega, fun p u v => ?_, ?_⟩
              · rw [uI_n _ _ (by omega)]
                exact hX p u v
              · rw [uI_s]
                omega⟩
          refine ⟨M2, head _ (fun z => absurd hq z) (fun _ => ?_), r⟩
          rw [← e]
          simp (disch := first | assumption | exact e_nk_i _ | exact e_nk_n | exact e_nk_r _ | exact e_bo_0 | exact e_bo_1 | exact e_bo_b _ | omega) only [e_cl_v, e_cl_x, e_add_0, e_add_s, Option.toList_some, Option.toList_none, List.cons_append, List.nil_append, iI_add, iI_sub, iI_mul, iI_lt, iI_eq, iI_le, r9_77, r9_78, r9_79, r9_81, r9_84, r9_87, r9_88, r9_89, r9_90, r9_91, r9_93, r9_95, r9_98, r9_101, e3, e4]
          simp
      · obtain ⟨M2, e, r⟩ := hc M' (skip fun hQ hX hR => by
          have k1 := (l2 (hQl M hQ)).1.1
          have h1 := cnt_s (lsR K).2 o hk.1
          rw [if_pos hR] at h1
          have h2 := cnt_mono (τ := (lsR K).2) (o := o) (i := k + 1) (n := aW K) (by omega) (by omega)
          have h3 := k1.2 o x y
          have h4 : cnt τ o k = cnt (lsR K).2 o k := cnt_cong fun p a b => hX p a b
          omega)
        exact ⟨M2, head _ (fun _ => e) (fun z => absurd z hq), r⟩
  · obtain ⟨i1, i2, i3, i4⟩ := hI
    have c2 : M' 1 0 = iI (K 310) := by
      rw [i1.2.2.2.2 1 (by omega)]
      exact H0.cn
    refine ⟨M', ?_, i1, i2, i3, fun hQ hX => ?_⟩
    · rw [r9_42]
      simp (disch := first | assumption | exact e_nk_i _ | exact e_nk_n | exact e_nk_r _ | exact e_bo_0 | exact e_bo_1 | exact e_bo_b _ | omega) only [e_cl_v, e_cl_x, e_add_0, e_add_s, Option.toList_some, Option.toList_none, List.cons_append, List.nil_append, iI_add, iI_sub, iI_mul, iI_lt, iI_eq, iI_le, r9_44, r9_45, r9_48, r9_104, c2]
      rw [if_neg (by omega)]
    · refine (i4 hQ hX).1 ?_
      exact ((l2 (hQl M hQ)).1.1.1 k hk.1 hk.2).2
theorem k_explore (H0 : SH M0 1 K) (hg : kG K) (h8 : aW K ≤ 8) : ∀ (m : Nat) (d : Nat) (k : Int) (τ : Int → Int) (M : e_MI), k + m = aW K → 0 ≤ k → pfx K τ k → (∀ p, 0 ≤ p → p < k → scB K τ p ≠ 2001) → ES M0 M K τ k → ∃ M2 : e_MI, e_lim L xs (d + 2 * m + 6) 9 0 [some (.ref 165), some (.ref 1), some (.ref 149), some (.int (iI k)), some (.int (iI (mX (scE K τ) k))), none] [] (e_hp M V W) = some (.inl none, e_hp M2 V W, 0, 0) ∧ ES M0 M2 K τ k ∧ bST M M2 K τ k
  | 0, d, k, τ, M, hk, h0, hp, hf, hE => by
    have e : k = aW K := by omega
    subst e
    exact k_exLeaf (L := L) (xs := xs) (d := d + 3) (V := V) (W := W) (H0.of fun a x y => hE.2.2.2.2 a (by omega)) hg hp hf hE
  | m + 1, d, k, τ, M, hk, h0, hp, hf, hE => by
    have := k_exLoop (L := L) (xs := xs) (d := d + 2 * m) (V := V) (W := W) H0 hg (k := k) ⟨h0, by omega⟩ h8 hp hf hE (fun τ' M' _ hp' hf' hE' => k_explore H0 hg h8 m d (k + 1) τ' M' (by omega) (by omega) hp' hf' hE')
    exact this
theorem k_findLeast (H : SH M 1 K) (hg : kG K) (h8 : aW K ≤ 8) (hT : TG0 M 149) : ∃ M2 : e_MI, e_lim L xs (d + 24) 8 0 [some (.ref 165), some (.ref 1), some (.ref 149), some (.int (iI (boW K))), none] [] (e_hp M V W) = some (.inl (some (.int (bI (decide (lsE K ≠ 2001))))), e_hp M2 V W, 0, 0) ∧ bP M2 K ∧ TG0 M2 149 ∧ ∀ a, a < 149 ∨ 168 < a ∨ a = 166 → M2 a = M a := by
  obtain ⟨hr, ⟨ha, hvr⟩, hkp, hk9, hd⟩ := id hg
  obtain ⟨l1, l2, l3⟩ := lsE_rg hr hkp ha.1
  obtain ⟨M1, e1, hT1, f1, z1⟩ := tg_restart (L := L) (xs := xs) (d := d + 20) (V := V) (W := W) e_isT_1 (by omega) H hr hT (fun _ => 0)
  have key := G_lp (i := 0) (n := 4) (I := fun i M4 => TT M4 149 K (fun _ => 0) 0 ∧ (∀ m, 0 ≤ m → m < i → M4 168 m.toNat = iI (lO K m)) ∧ ∀ a, a < 149 ∨ 168 < a ∨ a = 166 → M4 a = M a) (P := fun i M4 => ∃ M2 : e_MI, e_lim L xs (d + 24) 8 8 [some (.ref 165), some (.ref 1), some (.ref 149), some (.int (iI (boW K))), some (.int (iI i))] [] (e_hp M4 V W) = some (.inl (some (.int (bI (decide (lsE K ≠ 2001))))), e_hp M2 V W, 0, 0) ∧ bP M2 K ∧ TG0 M2 149 ∧ ∀ a, a < 149 ∨ 168 < a ∨ a = 166 → M2 a = M a) (fun j M4 a b hI hc => ?_) (fun M4 hI => ?_) (by omega) M1 ⟨hT1, fun m x y => by omega, fun a y => f1 a (by omega)⟩
  · obtain ⟨M2, e, r⟩ := key
    refine ⟨M2, ?_, r⟩
    rw [← e]
    simp (disch := first | assumption | exact e_nk_i _ | exact e_nk_n | exact e_nk_r _ | exact e_bo_0 | exact e_bo_1 | exact e_bo_b _ | omega) only [e_cl_v, e_cl_x, e_add_0, e_add_s, Option.toList_some, Option.toList_none, List.cons_append, List.nil_append, iI_add, iI_sub, iI_mul, iI_lt, iI_eq, iI_le, r8_0, r8_1, r8_2, r8_5, r8_6, e1]
  · obtain ⟨i1, i2, i3⟩ := hI
    have H4 : SH M4 1 K := H.of fun a x y => i3 a (by omega)
    have e2 := s_timeOnMachine (L := L) (xs := xs) (d := d + 20) (V := V) (W := W) H4 hr (m := j) (by omega)
    obtain ⟨M2, e, r⟩ := hc (e_u M4 168 (upd (M4 168) j.toNat (iI (lO K j)))) ⟨i1.of fun a x y => e_u_n _ _ (by omega), fun m x y => by
      rw [e_u_s]
      by_cases hm : m = j
      · rw [hm, upd_s]
      · rw [upd_n _ _ (by omega)]
        exact i2 m x (by omega), fun a x => by rw [e_u_n _ _ (by omega)]; exact i3 a x⟩
    refine ⟨M2, ?_, r⟩
    rw [← e, r8_8]
    simp (disch := first | assumption | exact e_nk_i _ | exact e_nk_n | exact e_nk_r _ | exact e_bo_0 | exact e_bo_1 | exact e_bo_b _ | omega) only [e_cl_v, e_cl_x, e_add_0, e_add_s, Option.toList_some, Option.toList_none, List.cons_append, List.nil_append, iI_add, iI_sub, iI_mul, iI_lt, iI_eq, iI_le, r8_10, r8_11, r8_14, r8_15, r8_18, r8_20, r8_21, r8_23, r8_26, r8_27, r8_30, iI_vin, iI_nat, if_true, e2]
    rw [if_pos (by omega)]
  · obtain ⟨i1, i2, i3⟩ := hI
    obtain ⟨M5, hM5⟩ : ∃ M5 : e_MI, M5 = e_u M4 165 (upd (upd (M4 165) 3 (iI (boW K))) 4 (iI 2001)) := ⟨_, rfl⟩
    have f5 : ∀ a, a ≠ 165 → M5 a = M4 a := fun a x => by rw [hM5, e_u_n _ _ x]
    have E5 : ES M M5 K (fun _ => 0) 0 := ⟨i1.of fun a x y => f5 a (by omega), fun m x y => by
      rw [f5 168 (by decide), i2 m x y]
      have : mcS K (fun _ => 0) m 0 = 0 := rfl
      rw [this]
      congr 1
      omega, ⟨2001, by rw [hM5, e_u_s, upd_s], by omega, by omega⟩, by rw [hM5, e_u_s, upd_n _ _ (by decide), upd_s], fun a x => by rw [f5 a (by omega)]; exact i3 a x⟩
    obtain ⟨M6, e6, E6, B6⟩ := k_explore (L := L) (xs := xs) (V := V) (W := W) H hg h8 (aW K).toNat (d + 17 - 2 * (aW K).toNat) 0 (fun _ => 0) M5 (by omega) (by omega) (pfx_0 hr) (fun p x y => by omega) E5
    have hbP : bP M6 K := by
      by_cases hl : lsE K = 2001
      · exact B6.1 ⟨by rw [hl, hM5, e_u_s, upd_s], fun y => absurd hl y⟩
      · exact B6.2.2 ⟨2001, by rw [hM5, e_u_s, upd_s], by omega, by omega⟩ (fun p x y => by omega)
    have hdd : d + 17 - 2 * (aW K).toNat + 2 * (aW K).toNat + 6 = d + 23 := by omega
    have hz : mX (scE K (fun _ => 0)) 0 = 0 := rfl
    rw [hdd, hz] at e6
    refine ⟨M6, ?_, hbP, E6.1.g, fun a x => E6.2.2.2.2 a x⟩
    have hb4 := hbP.1
    have eM5 : e_u (e_u M4 165 (upd (M4 165) 3 (iI (boW K)))) 165 (upd (upd (M4 165) 3 (iI (boW K))) 4 (iI 2001)) = M5 := by rw [hM5, e_u_u]
    rw [r8_8]
    simp (disch := first | assumption | exact e_nk_i _ | exact e_nk_n | exact e_nk_r _ | exact e_bo_0 | exact e_bo_1 | exact e_bo_b _ | omega) only [e_cl_v, e_cl_x, e_add_0, e_add_s, Option.toList_some, Option.toList_none, List.cons_append, List.nil_append, iI_add, iI_sub, iI_mul, iI_lt, iI_eq, iI_le, r8_10, r8_11, r8_33, r8_34, r8_35, r8_38, r8_39, r8_42, r8_45, r8_46, r8_47, r8_48, r8_49, r8_50, r8_53, r8_54, r8_57, r8_60, r8_63, r8_64, r8_67, r8_68, e_u_s, eM5, e6, hb4]
    rw [if_neg (by omega)]
    by_cases hl : lsE K = 2001
    · rw [if_pos hl, decide_eq_false (fun y => y hl), bI_f]
    · rw [if_neg hl, decide_eq_true hl, bI_t]
theorem x_least (H : CK M K c S) (hg : kG K) : ∃ M2 : e_MI, e_lim L xs (d + 25) 122 0 [some (.ref 0)] [] (e_hp M V W) = (if aW K ≤ 8 then some (.inl (some (.int (iI (lsR K).1))), e_hp M2 V W, 0, 0) else some (.inr 1, e_hp M2 V W, 1, 6)) ∧ (aW K ≤ 8 → CK M2 (lsK K) (svC c) (svS c S K)) ∧ (¬ aW K ≤ 8 → M2 = M) ∧ ∀ a, 178 < a → M2 a = M a := by
  obtain ⟨hr, ⟨ha, hvr⟩, hkp, hk9, hd⟩ := id hg
  have c1 := H.sh.cw
  have rt := m_requireState (L := L) (xs := xs) (d := d + 24) (h := e_hp M V W) true
  have rf := m_requireState (L := L) (xs := xs) (d := d + 24) (h := e_hp M V W) false
  rw [if_pos rfl, bI_t] at rt
  rw [if_neg (by decide), bI_f] at rf
  by_cases h8 : aW K ≤ 8
  · obtain ⟨M1, e1, k1, k2, k3, k4, hf⟩ := x_rem (L := L) (xs := xs) (d := d + 21) (V := V) (W := W) H hg
    have e2 := s_lowestEnd (L := L) (xs := xs) (d := d + 19) (V := V) (W := W) k1 hr hkp
    obtain ⟨M2, e3, hbP, hT2, hf2⟩ := k_findLeast (L := L) (xs := xs) (d := d) (V := V) (W := W) k1 hg h8 k4
    obtain ⟨l1, l2, l3⟩ := lsE_rg hr hkp ha.1
    by_cases hl : lsE K = 2001
    · have hl1 : (lsR K).1 = -1 := Classical.byContradiction fun y => by
        obtain ⟨g1, g2⟩ := lsR_sp hr ha.1
        rcases g2 with z | ⟨z1, z2, z3⟩
        · exact y z
        · have h1 : enR K (lsR K).2 ≤ 2000 := mX_le ha.1 (by omega) (fun p a b => by
            have := z1.en hr hkp a b
            omega)
          have h2 : lsE K = (lsR K).1 := by
            unfold lsE
            rw [if_neg y]
          omega
      rw [decide_eq_false (fun y => y hl), bI_f] at e3
      refine ⟨M2, ?_, fun _ => ?_, fun y => absurd h8 y, fun a y => by rw [hf2 a (by omega), hf a (by omega)]⟩
      · rw [if_pos h8, hl1]
        simp (disch := first | assumption | exact e_nk_i _ | exact e_nk_n | exact e_nk_r _ | exact e_bo_0 | exact e_bo_1 | exact e_bo_b _ | omega) only [e_cl_v, e_cl_x, e_add_0, e_add_s, Option.toList_some, Option.toList_none, List.cons_append, List.nil_append, iI_add, iI_sub, iI_mul, iI_lt, iI_eq, iI_le, r122_0, r122_1, r122_4, r122_7, r122_9, r122_12, r122_13, r122_16, r122_17, r122_20, r122_21, r122_24, r122_25, r122_28, r122_31, r122_32, r122_35, r122_36, r122_39, r122_40, r122_43, r122_44, r122_47, r122_50, r122_53, r122_56, r122_57, c1, rt, e1, e2, e3]
        rw [if_neg (by omega)]
        simp
      · unfold lsK
        rw [if_pos hl1]
        exact ⟨k1.of fun a x y => hf2 a (by omega), k2.of fun a x y => hf2 a (by omega), k3.of fun a x y => hf2 a (by omega), hT2⟩
    · obtain ⟨q1, q2, q3, q4⟩ := l2 (by omega)
      have hne : ¬ (lsR K).1 = -1 := (l3 _ q1).2
      have hA := hbP.2 hl
      obtain ⟨M3, e4, hS, hP, hf3⟩ := x_takeRow (L := L) (xs := xs) (d := d + 18) (M := M2) (V := V) (W := W) (k1.of fun a x y => hf2 a (by omega)) hg (k3.g.of fun a x y => hf2 a (by omega)) si_167 hA q1.1
      have hft : ft (rtS K (lsR K).2) = true := by
        rw [ft_rt hg q1.1, fiR_iff ha.1]
        exact q1.2
      have hg3 := kG_rt hg q1.1
      have e5 := hP.edN (L := L) (xs := xs) (d := d + 22) (V := V) (W := W) hg3 hft
      have he : edW (rtS K (lsR K).2) = (lsR K).1 := by
        rw [edW_rt hg q1.1, ← q3, q2]
        rfl
      rw [he] at e5
      rw [hft, bI_t] at e4
      rw [decide_eq_true hl, bI_t] at e3
      refine ⟨M3, ?_, fun _ => ?_, fun y => absurd h8 y, fun a y => by rw [hf3 a (by omega) (by omega), hf2 a (by omega), hf a (by omega)]⟩
      · rw [if_pos h8]
        simp (disch := first | assumption | exact e_nk_i _ | exact e_nk_n | exact e_nk_r _ | exact e_bo_0 | exact e_bo_1 | exact e_bo_b _ | omega) only [e_cl_v, e_cl_x, e_add_0, e_add_s, Option.toList_some, Option.toList_none, List.cons_append, List.nil_append, iI_add, iI_sub, iI_mul, iI_lt, iI_eq, iI_le, r122_0, r122_1, r122_4, r122_7, r122_9, r122_12, r122_13, r122_16, r122_17, r122_20, r122_21, r122_24, r122_25, r122_28, r122_31, r122_32, r122_35, r122_36, r122_39, r122_40, r122_43, r122_44, r122_47, r122_50, r122_53, r122_56, r122_57, r122_58, r122_59, r122_60, r122_63, r122_66, r122_69, r122_70, r122_71, r122_74, r122_77, c1, rt, e1, e2, e3, e4, e5]
        rw [if_neg (by omega)]
        simp
      · unfold lsK
        rw [if_neg hne]
        exact ⟨hS, k2.of fun a x y => by rw [hf3 a (by omega) (by omega), hf2 a (by omega)], hP, hT2.of fun a x y => hf3 a (by omega) (by omega)⟩
  · refine ⟨M, ?_, fun y => absurd y h8, fun _ => rfl, fun _ _ => rfl⟩
    rw [if_neg h8]
    simp (disch := first | assumption | exact e_nk_i _ | exact e_nk_n | exact e_nk_r _ | exact e_bo_0 | exact e_bo_1 | exact e_bo_b _ | omega) only [e_cl_v, e_cl_x, e_add_0, e_add_s, Option.toList_some, Option.toList_none, List.cons_append, List.nil_append, iI_add, iI_sub, iI_mul, iI_lt, iI_eq, iI_le, r122_0, r122_1, r122_4, r122_7, r122_9, r122_12, r122_13, r122_16, r122_17, c1, rf]
    rw [if_pos (by omega)]
end Ec61
