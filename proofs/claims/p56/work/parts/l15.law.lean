section El15
variable {L : Nat} {xs : Nat → Int32} {d : Nat} {M M1 M2 M3 : e_MI} {V V2 : e_ML} {W : e_MD} {K K2 : e_St} {S : Int → e_St} {h : e_H} {c o j w z m k q p i f n a b t x B its : Int} {τ β ε : Int → Int}
theorem mbF_s (K : e_St) (τ ω ε : Int → Int) (a o m tl : Int) (lat : Int → Bool) (h0 : 0 ≤ i) : mbF K a τ ω ε o m tl lat (i + 1).toNat = (let y := if mcA K τ ω i = m then max (mbF K a τ ω ε o m tl lat i.toNat) (ε i + if lat i = true then sT K m (K (τ i)) (K o) else 0) else mbF K a τ ω ε o m tl lat i.toNat
    if tl ≠ -1 ∧ tlA K τ ω i = tl then max y (ε i) else y) := by
  rw [show (i + 1).toNat = i.toNat + 1 by omega]
  conv => lhs; unfold mbF
  rw [Int.toNat_of_nonneg h0]
theorem mbF_rg {ω : Int → Int} {tl : Int} {lat : Int → Bool} (ha : 0 ≤ a ∧ a ≤ 2101) (hε : ∀ p, 0 ≤ p → p < k → 0 ≤ ε p ∧ ε p ≤ 2001) (hs : ∀ p, 0 ≤ p → p < k → 0 ≤ sT K m (K (τ p)) (K o) ∧ sT K m (K (τ p)) (K o) ≤ 20) (h0 : 0 ≤ i) (hi : i ≤ k) : 0 ≤ mbF K a τ ω ε o m tl lat i.toNat ∧ mbF K a τ ω ε o m tl lat i.toNat ≤ 2101 := by
  have h1 := mbF_le (K := K) (τ := τ) (ε := ε) (o := o) (m := m) (ω := ω) (tl := tl) (lat := lat) (B := 2101) ha.2 i.toNat (fun p x y _ => by have := hε p x (by omega); have := hs p x (by omega); split <;> omega) (fun p x y _ _ => by have := hε p x (by omega); omega)
  have h2 := (mbF_ge K τ ω ε a o m tl lat i.toNat).1
  omega
theorem l_timedB {r : e_R} {l1 : Option Value} (HA : LA M K) (hr : kR K) (hv : vP K τ k) (hR : LRW M τ k) (hk : 0 ≤ k ∧ k < 16) (hε : ∀ p, 0 ≤ p → p < k → M 202 p.toNat = iI (ε p) ∧ 0 ≤ ε p ∧ ε p ≤ 2001) (ha : 0 ≤ a ∧ a ≤ 2101) (ht : -1 ≤ its ∧ its ≤ 2) (hm : 0 ≤ m ∧ m ≤ 3) (ho : 0 ≤ o ∧ o < K 310)
    (hc : e_lim L xs (d + 1) 170 249 [some (.ref 184), l1, some (.int (iI k)), some (.int (iI o)), some (.int (iI (mbF K a τ (scW τ) ε o m its (latP K τ m k) k.toNat))), some (.int (iI m)), some (.int (iI its)), none, none] [] (e_hp M V W) = some r) :
    e_lim L xs (d + 1) 170 119 [some (.ref 184), l1, some (.int (iI k)), some (.int (iI o)), some (.int (iI a)), some (.int (iI m)), some (.int (iI its)), some (.int (iI 0)), none] [] (e_hp M V W) = some r := by
  have hn := hr.n
  refine G_loopI (C := fun i => e_lim L xs (d + 1) 170 119 [some (.ref 184), l1, some (.int (iI k)), some (.int (iI o)), some (.int (iI (mbF K a τ (scW τ) ε o m its (latP K τ m k) i.toNat))), some (.int (iI m)), some (.int (iI its)), some (.int (iI i)), none] [] (e_hp M V W)) (i := 0) (n := k) hk.1 (fun j x y hc => ?_) ?_
  · have rb := mbF_rg (K := K) (τ := τ) (ε := ε) (o := o) (m := m) (ω := scW τ) (tl := its) (lat := latP K τ m k) (k := k) ha (fun p u v => (hε p u v).2) (fun p u v => by
      have w := wk_at hr hv u v
      exact sT_rg hr hm (hr.kd w.1.1 (by omega)) (hr.kd ho.1 (by omega))) x (by omega)
    rw [mbF_s K τ (scW τ) ε a o m its (latP K τ m k) x] at hc
    exact l_timedM HA hr hv hR hk.2 ⟨x, y⟩ (hε j x y) rb ht hm ho hc
  · rw [r170_119]
    simp (disch := first | assumption | exact e_nk_i _ | exact e_nk_n | exact e_nk_r _ | exact e_bo_0 | exact e_bo_1 | exact e_bo_b _ | omega) only [e_cl_v, e_cl_x, e_add_0, e_add_s, Option.toList_some, Option.toList_none, List.cons_append, List.nil_append, iI_add, iI_sub, iI_mul, iI_lt, iI_eq, iI_le, r170_121, r170_122]
    rw [if_neg (by omega)]
    exact G_less (by repeat (first | exact e_ll.rf | refine e_ll_c ?_ | refine e_ll_x ?_)) hc
/-- one place is timed -/
theorem l_timedP (HA : LA M K) (HB : LB M K) (hr : kR K) (hp : kP K) (hv : vP K τ n) (hn : n ≤ 16) (hk : 0 ≤ k ∧ k < n) (hτ : ∀ p, 0 ≤ p → p < n → M 199 p.toNat = iI (τ p)) (hR : ∀ p, 0 ≤ p → p < k → M 200 p.toNat = iI (scW τ p)) (hE : LE M (scB K τ) (scE K τ) k) :
    ∃ M2 : e_MI, fT M M2 ∧ (scB K τ k = 2001 → e_lim L xs (d + 1) 170 2 [some (.ref 184), some (.int (iI n)), some (.int (iI k)), none, none, none, none, none, none] [] (e_hp M V W) = some (.inl (some (.int (bI false))), e_hp M2 V W, 0, 0)) ∧
      (scB K τ k ≠ 2001 → (∀ p, 0 ≤ p → p < k + 1 → M2 200 p.toNat = iI (scW τ p)) ∧ LE M2 (scB K τ) (scE K τ) (k + 1) ∧ ∀ r, e_lim L xs (d + 1) 170 2 [some (.ref 184), some (.int (iI n)), some (.int (iI (k + 1))), none, none, none, none, none, none] [] (e_hp M2 V W) = some r → e_lim L xs (d + 1) 170 2 [some (.ref 184), some (.int (iI n)), some (.int (iI k)), none, none, none, none, none, none] [] (e_hp M V W) = some r) := by
  have w := wk_at hr hv hk.1 hk.2
  have hw4 : scW τ k = cnt τ (τ k) k := rfl
  have hvk := hv.rg hr hk.1 hk.2
  have hvle : vP K τ k := hv.le (by omega)
  have s1 := sc_spI hr hp hv hk.1 hk.2
  have l1 := lo_spI hr hp hv hk.1 hk.2
  have hre := hr.re (o := τ k) w.1.1 (by omega)
  have htk := tk_pos hr hp (o := τ k) (w := scW τ k) w.1 w.2.1
  -- the memory behind the count
  have key : ∀ r : e_R, (∀ M1 : e_MI, M1 = e_u M 200 (upd (M 200) k.toNat (iI (scW τ k))) → LA M1 K → LB M1 K → LE M1 (scB K τ) (scE K τ) k →
      e_lim L xs (d + 1) 170 262 [some (.ref 184), some (.int (iI n)), some (.int (iI k)), some (.int (iI (τ k))), some (.int (iI (loW K τ (scW τ) (scE K τ) k))), some (.int (iI (mcA K τ (scW τ) k))), some (.int (iI (tlA K τ (scW τ) k))), some (.int (iI (tk K (τ k) (scW τ k)))), none] [] (e_hp M1 V W) = some r) →
      e_lim L xs (d + 1) 170 2 [some (.ref 184), some (.int (iI n)), some (.int (iI k)), none, none, none, none, none, none] [] (e_hp M V W) = some r := by
    intro r hc
    have e1 := hτ k hk.1 hk.2
    have e2 := HA.re w.1.1 w.1.2
    have hfr : fT M (e_u M 200 (upd (M 200) k.toNat (iI (scW τ k)))) := fun a x y z => e_u_n _ _ x
    have HA1 := HA.of hfr.l
    have HB1 := HB.of hfr.l
    have hE1 : LE (e_u M 200 (upd (M 200) k.toNat (iI (scW τ k)))) (scB K τ) (scE K τ) k := fun p x y => by
      rw [e_u_n _ _ (by decide), e_u_n _ _ (by decide)]
      exact hE p x y
    have hc := hc _ rfl HA1 HB1 hE1
    rw [r170_2]
    simp (disch := first | assumption | exact e_nk_i _ | exact e_nk_n | exact e_nk_r _ | exact e_bo_0 | exact e_bo_1 | exact e_bo_b _ | omega) only [e_cl_v, e_cl_x, e_add_0, e_add_s, Option.toList_some, Option.toList_none, List.cons_append, List.nil_append, iI_add, iI_sub, iI_mul, iI_lt, iI_eq, iI_le, r170_3, r170_4, r170_7, r170_8, r170_11, r170_12, r170_13, r170_14, r170_15, r170_18, r170_19, r170_20, r170_22, r170_23, r170_26, r170_27, r170_28, r170_29, r170_30, iI_vin, iI_nat, if_true, e1, e2, if_pos hk.2]
    refine l_timedA (τ := τ) (ε := scE K τ) (o := τ k) (a := K (16 + τ k)) ⟨hk.1, by omega⟩ ⟨w.1.1, by omega⟩ ⟨by omega, by omega⟩ (fun p x y => ⟨hτ p x (by omega), by have := (hv p x (by omega)).1; omega⟩) (fun p x y => ⟨(hE p x y).1.2, (hE p x y).2.2⟩) ?_
    rw [← hw4]
    have e3 := HA1.mc w.1.1 w.1.2 w.2.1.1 w.2.1.2
    have e4 := HA1.tl w.1.1 w.1.2 w.2.1.1 w.2.1.2
    have e5 := l_takes (L := L) (xs := xs) (d := d) (V := V) (W := W) HA1 hr w.1 w.2.1
    have e6 : e_u M 200 (upd (M 200) k.toNat (iI (scW τ k))) 200 k.toNat = iI (scW τ k) := by rw [e_u_s, upd_s]
    have rA := maF_rg (τ := τ) (ε := scE K τ) (o := τ k) (k := k) (i := k) (a := K (16 + τ k)) ⟨by omega, by omega⟩ (fun p x y => (hE p x y).2.2) hk.1 (Int.le_refl _)
    have hlo := lo_max hr hp hv hk.1 hk.2
    have hR1 : LRW (e_u M 200 (upd (M 200) k.toNat (iI (scW τ k)))) τ k := fun p x y => ⟨by rw [e_u_n _ _ (by decide)]; exact hτ p x (by omega), by rw [e_u_s, upd_n _ _ (by omega)]; exact hR p x y⟩
    generalize hM1 : e_u M 200 (upd (M 200) k.toNat (iI (scW τ k))) = M1 at *
    simp (disch := first | assumption | exact e_nk_i _ | exact e_nk_n | exact e_nk_r _ | exact e_bo_0 | exact e_bo_1 | exact e_bo_b _ | omega) only [e_cl_v, e_cl_x, e_add_0, e_add_s, Option.toList_some, Option.toList_none, List.cons_append, List.nil_append, iI_add, iI_sub, iI_mul, iI_lt, iI_eq, iI_le, r170_82, r170_83, r170_86, r170_87, r170_88, r170_89, r170_90, r170_93, r170_94, r170_95, r170_96, r170_97, r170_99, r170_100, r170_103, r170_104, r170_105, r170_106, r170_107, r170_110, r170_111, r170_112, r170_113, r170_114, r170_116, r170_117, iI_vin, iI_nat, if_true, e3, e4, e6]
    refine l_timedB (τ := τ) (ε := scE K τ) (o := τ k) HA1 hr hvle hR1 ⟨hk.1, by omega⟩ (fun p x y => ⟨(hE1 p x y).1.2, (hE1 p x y).2.2⟩) rA (show -1 ≤ K (112 + 4 * τ k + scW τ k) ∧ _ from hvk.2.2.2) (show 0 ≤ K (48 + 4 * τ k + scW τ k) ∧ _ from hvk.2.2.1) w.1 ?_
    have hlo2 : mbF K (maF (K (16 + τ k)) τ (scE K τ) (τ k) k.toNat) τ (scW τ) (scE K τ) (τ k) (K (48 + 4 * τ k + scW τ k)) (K (112 + 4 * τ k + scW τ k)) (latP K τ (K (48 + 4 * τ k + scW τ k)) k) k.toNat = loW K τ (scW τ) (scE K τ) k := hlo
    rw [hlo2]
    simp (disch := first | assumption | exact e_nk_i _ | exact e_nk_n | exact e_nk_r _ | exact e_bo_0 | exact e_bo_1 | exact e_bo_b _ | omega) only [e_cl_v, e_cl_x, e_add_0, e_add_s, Option.toList_some, Option.toList_none, List.cons_append, List.nil_append, iI_add, iI_sub, iI_mul, iI_lt, iI_eq, iI_le, r170_249, r170_250, r170_251, r170_252, r170_255, r170_256, r170_257, r170_260, iI_vin, iI_nat, if_true, e5, e6]
    exact hc
  have hbe : scB K τ k = zFF (blB K (scB K τ) (scE K τ) k (mcA K τ (scW τ) k)) (tk K (τ k) (scW τ k)) (loW K τ (scW τ) (scE K τ) k) := scB_eq K τ hk.1
  by_cases hz : scB K τ k = 2001
  · refine ⟨e_u M 200 (upd (M 200) k.toNat (iI (scW τ k))), fun a x y z => e_u_n _ _ x, fun _ => ?_, fun hne => absurd hz hne⟩
    refine key _ fun M1 hM1 HA1 HB1 hE1 => ?_
    subst hM1
    exact l_search HB1 hr hE1 ⟨hk.1, by omega⟩ hvk.2.2.1 htk (by unfold i32; omega) (by unfold i32; omega) (fun _ => rfl) (fun hq => absurd (hbe.symm.trans hz) hq) _ _ l1.1.1 (by omega) (Nat.le_refl _) rfl
  · have hs2 := s1.2.1
    rw [if_neg hz] at hs2
    refine ⟨e_u (e_u (e_u M 200 (upd (M 200) k.toNat (iI (scW τ k)))) 201 (upd (M 201) k.toNat (iI (scB K τ k)))) 202 (upd (M 202) k.toNat (iI (scE K τ k))), fun a x y z => by rw [e_u_n _ _ z, e_u_n _ _ y, e_u_n _ _ x], fun hq => absurd hq hz, fun _ => ⟨fun p x y => ?_, fun p x y => ?_, fun r hr2 => ?_⟩⟩
    · rw [e_u_n _ _ (by decide), e_u_n _ _ (by decide), e_u_s]
      by_cases hq : p = k
      · rw [hq, upd_s]
      · rw [upd_n _ _ (by omega)]
        exact hR p x (by omega)
    · rw [e_u_n _ _ (by decide), e_u_s, e_u_s]
      by_cases hq : p = k
      · subst hq
        rw [upd_s, upd_s]
        exact ⟨⟨rfl, rfl⟩, s1.1.1, s1.1.2⟩
      · rw [upd_n _ _ (by omega), upd_n _ _ (by omega)]
        exact hE p x (by omega)
    · refine key _ fun M1 hM1 HA1 HB1 hE1 => ?_
      refine l_search HB1 hr hE1 ⟨hk.1, by omega⟩ hvk.2.2.1 htk (by unfold i32; omega) (by unfold i32; omega) (fun hq => absurd (hbe.trans hq) hz) (fun _ => ?_) _ _ l1.1.1 (by omega) (Nat.le_refl _) rfl
      rw [← hbe]
      have m1 : M1 201 = M 201 := by rw [hM1]; exact e_u_n _ _ (by decide)
      have m2 : M1 202 = M 202 := by rw [hM1]; exact e_u_n _ _ (by decide)
      simp (disch := first | assumption | exact e_nk_i _ | exact e_nk_n | exact e_nk_r _ | exact e_bo_0 | exact e_bo_1 | exact e_bo_b _ | omega) only [e_cl_v, e_cl_x, e_add_0, e_add_s, Option.toList_some, Option.toList_none, List.cons_append, List.nil_append, iI_add, iI_sub, iI_mul, iI_lt, iI_eq, iI_le, r170_309, r170_310, r170_313, r170_314, r170_316, r170_317, r170_318, r170_321, r170_322, r170_324, r170_326, r170_327, r170_328, r170_331, iI_vin, iI_nat, if_true]
      rw [← hs2, m1, e_u_n _ _ (show (202 : Nat) ≠ 201 by decide), m2, hM1]
      exact G_less (by repeat (first | exact e_ll.rf | refine e_ll_c ?_ | refine e_ll_x ?_)) hr2
theorem l_isTimed (HA : LA M K) (HB : LB M K) (hr : kR K) (hp : kP K) (hv : vP K τ n) (hn : 0 ≤ n ∧ n ≤ 16) (hτ : ∀ p, 0 ≤ p → p < n → M 199 p.toNat = iI (τ p)) :
    ∃ M2 : e_MI, e_lim L xs (d + 1) 170 0 [some (.ref 184), some (.int (iI n)), none, none, none, none, none, none, none] [] (e_hp M V W) = some (.inl (some (.int (bI (fiR K τ n)))), e_hp M2 V W, 0, 0) ∧ fT M M2 ∧ (fiR K τ n = true → LRW M2 τ n ∧ LE M2 (scB K τ) (scE K τ) n) := by
  have key := G_lp (i := 0) (n := n) (I := fun j M1 => fT M M1 ∧ (∀ p, 0 ≤ p → p < j → M1 200 p.toNat = iI (scW τ p)) ∧ LE M1 (scB K τ) (scE K τ) j ∧ ∀ p, 0 ≤ p → p < j → scB K τ p ≠ 2001)
    (P := fun j M1 => ∃ M2 : e_MI, e_lim L xs (d + 1) 170 2 [some (.ref 184), some (.int (iI n)), some (.int (iI j)), none, none, none, none, none, none] [] (e_hp M1 V W) = some (.inl (some (.int (bI (fiR K τ n)))), e_hp M2 V W, 0, 0) ∧ fT M M2 ∧ (fiR K τ n = true → LRW M2 τ n ∧ LE M2 (scB K τ) (scE K τ) n)) (fun j M1 x y hI hc => ?_) (fun M1 hI => ?_) hn.1 M ⟨fT.rf M, fun p x y => by omega, fun p x y => by omega, fun p x y => by omega⟩
  · obtain ⟨M2, e, r⟩ := key
    refine ⟨M2, ?_, r⟩
    rw [← e]
    simp (disch := first | assumption | exact e_nk_i _ | exact e_nk_n | exact e_nk_r _ | exact e_bo_0 | exact e_bo_1 | exact e_bo_b _ | omega) only [e_cl_v, e_cl_x, e_add_0, e_add_s, Option.toList_some, Option.toList_none, List.cons_append, List.nil_append, iI_add, iI_sub, iI_mul, iI_lt, iI_eq, iI_le, r170_0, r170_1]
  · obtain ⟨i1, i2, i3, i4⟩ := hI
    obtain ⟨M2, f1, f2, f3⟩ := l_timedP (L := L) (xs := xs) (d := d) (V := V) (W := W) (HA.of i1.l) (HB.of i1.l) hr hp hv hn.2 ⟨x, y⟩ (fun p u v => by rw [i1 199 (by decide) (by decide) (by decide)]; exact hτ p u v) i2 i3
    by_cases hz : scB K τ j = 2001
    · have hf : fiR K τ n = false := fiR_f x y hz
      refine ⟨M2, ?_, i1.tr f1, fun h => by rw [hf] at h; cases h⟩
      rw [hf]
      exact f2 hz
    · obtain ⟨g1, g2, g3⟩ := f3 hz
      obtain ⟨M3, e, r⟩ := hc M2 ⟨i1.tr f1, g1, g2, fun p u v => by
        by_cases hq : p = j
        · rw [hq]; exact hz
        · exact i4 p u (by omega)⟩
      exact ⟨M3, g3 _ e, r⟩
  · obtain ⟨i1, i2, i3, i4⟩ := hI
    have hf : fiR K τ n = true := fiR_t hn.1 i4
    refine ⟨M1, ?_, i1, fun _ => ⟨fun p u v => ⟨by rw [i1 199 (by decide) (by decide) (by decide)]; exact hτ p u v, i2 p u v⟩, i3⟩⟩
    rw [hf, r170_2]
    simp (disch := first | assumption | exact e_nk_i _ | exact e_nk_n | exact e_nk_r _ | exact e_bo_0 | exact e_bo_1 | exact e_bo_b _ | omega) only [e_cl_v, e_cl_x, e_add_0, e_add_s, Option.toList_some, Option.toList_none, List.cons_append, List.nil_append, iI_add, iI_sub, iI_mul, iI_lt, iI_eq, iI_le, r170_3, r170_4, r170_334, r170_335]
    rw [if_neg (by omega)]
    rfl
end El15
