section El22
variable {L : Nat} {xs : Nat → Int32} {d : Nat} {M M1 M2 M3 : e_MI} {V V2 : e_ML} {W : e_MD} {K K2 : e_St} {S : Int → e_St} {h : e_H} {c o j w z k q p i n a b t x B its u v : Int} {τ β ε : Int → Int} {s : exT}
theorem exO_s (K : e_St) (f : (Int → Int) → Int → exT → exT) (τ : Int → Int) (k : Int) (s : exT) (h0 : 0 ≤ t) : exO K f τ k s (t + 1).toNat = if cnt τ t k = K (40 + t) ∨ scB K (uI τ k t) k = 2001 then exO K f τ k s t.toNat else f (uI τ k t) (k + 1) (exO K f τ k s t.toNat) := by
  rw [show (t + 1).toNat = t.toNat + 1 by omega]
  conv => lhs; unfold exO
  rw [Int.toNat_of_nonneg h0]
theorem fiR_up (h0 : 0 ≤ k) : fiR K (uI τ k t) (k + 1) = true ↔ fiR K τ k = true ∧ scB K (uI τ k t) k ≠ 2001 := by
  have hc : ∀ p, 0 ≤ p → p < k → scB K (uI τ k t) p = scB K τ p := fun p x y => (sc_tauI (K := K) (n := k) (fun q u v => uI_n τ t (by omega)) x y).1
  rw [fiR_iff (by omega), fiR_iff h0]
  constructor
  · intro hh
    exact ⟨fun p x y => by rw [← hc p x y]; exact hh p x (by omega), hh k h0 (by omega)⟩
  · rintro ⟨h1, h2⟩ p x y
    by_cases hq : p = k
    · rw [hq]; exact h2
    · rw [hc p x (by omega)]
      exact h1 p x (by omega)
theorem TS.rg (H : TS M K s) : -1 ≤ s.1 ∧ s.1 ≤ 2001 := H.2.1
theorem l_triesRows (hr : kR K) (hp : kP K) (ha : 0 ≤ aW K ∧ aW K ≤ 16) : ∀ (m : Nat) (k : Int) (τ : Int → Int) (s : exT) (M : e_MI), k + m = aW K → 0 ≤ k → pfx K τ k → LA M K → LB M K → (∀ p, 0 ≤ p → p < k → M 199 p.toNat = iI (τ p)) → TS M K s →
    ∃ M2 : e_MI, e_lim L xs (d + m + 2) 179 0 [some (.ref 184), some (.int (iI k)), none, none, none] [] (e_hp M V W) = some (.inl none, e_hp M2 V W, 0, 0) ∧ fQ M M2 ∧ (∀ p, 0 ≤ p → p < k → M2 199 p.toNat = iI (τ p)) ∧ TS M2 K (if fiR K τ k = true then exR K m τ k s else s)
  | 0, k, τ, s, M, hk, h0, hv, HA, HB, hτ, HS => by
    have e : k = aW K := by omega
    subst e
    exact l_leaf HA HB hr hp ha hv hτ HS
  | m + 1, k, τ, s, M, hk, h0, hv, HA, HB, hτ, HS => by
    have hn := hr.n
    have e0 := HA.ws
    have hne : ¬ k = aW K := by omega
    have hsO : ∀ t, 0 ≤ t → (if fiR K τ k = true then exR K (m + 1) τ k s else s) = (if fiR K τ k = true then exO K (exR K m) τ k s (K 310).toNat else s) := fun _ _ => rfl
    rw [hsO 0 (by omega)]
    rw [show d + (m + 1) + 2 = d + m + 2 + 1 by omega]
    have key := G_lp (i := 0) (n := K 310) (I := fun t M3 => fQ M M3 ∧ (∀ p, 0 ≤ p → p < k → M3 199 p.toNat = iI (τ p)) ∧ TS M3 K (if fiR K τ k = true then exO K (exR K m) τ k s t.toNat else s)) (P := fun t M3 => ∃ M2 : e_MI, e_lim L xs (d + m + 2 + 1) 179 78 [some (.ref 184), some (.int (iI k)), some (.int (iI t)), none, none] [] (e_hp M3 V W) = some (.inl none, e_hp M2 V W, 0, 0) ∧ fQ M M2 ∧ (∀ p, 0 ≤ p → p < k → M2 199 p.toNat = iI (τ p)) ∧ TS M2 K (if fiR K τ k = true then exO K (exR K m) τ k s (K 310).toNat else s)) (fun t M3 x y hI hc => ?_) (fun M3 hI => ?_) hn.1 M ⟨fQ.rf M, hτ, by
      have : (if fiR K τ k = true then exO K (exR K m) τ k s (0 : Int).toNat else s) = s := by split <;> rfl
      rw [this]
      exact HS⟩
    · obtain ⟨M2, e, r⟩ := key
      refine ⟨M2, ?_, r⟩
      rw [← e]
      simp (disch := first | assumption | exact e_nk_i _ | exact e_nk_n | exact e_nk_r _ | exact e_bo_0 | exact e_bo_1 | exact e_bo_b _ | omega) only [e_cl_v, e_cl_x, e_add_0, e_add_s, Option.toList_some, Option.toList_none, List.cons_append, List.nil_append, iI_add, iI_sub, iI_mul, iI_lt, iI_eq, iI_le, r179_0, r179_1, r179_2, r179_5, r179_76, r179_77, e0]
      rw [if_neg hne]
    · obtain ⟨i1, i2, i3⟩ := hI
      have HA3 := HA.of i1.l
      have HB3 := HB.of i1.l
      have en := HA3.nn
      have em := HA3.mn x y
      have hct := hv.2 t x y
      have r4 := hr.wk (o := t) x (by omega)
      have rc := cnt_rg τ t h0
      have count : ∀ r : e_R, e_lim L xs (d + m + 2 + 1) 179 122 [some (.ref 184), some (.int (iI k)), some (.int (iI t)), some (.int (iI (cnt τ t k))), some (.int (iI k))] [] (e_hp M3 V W) = some r → e_lim L xs (d + m + 2 + 1) 179 78 [some (.ref 184), some (.int (iI k)), some (.int (iI t)), none, none] [] (e_hp M3 V W) = some r := by
        intro r hr1
        rw [r179_78]
        simp (disch := first | assumption | exact e_nk_i _ | exact e_nk_n | exact e_nk_r _ | exact e_bo_0 | exact e_bo_1 | exact e_bo_b _ | omega) only [e_cl_v, e_cl_x, e_add_0, e_add_s, Option.toList_some, Option.toList_none, List.cons_append, List.nil_append, iI_add, iI_sub, iI_mul, iI_lt, iI_eq, iI_le, r179_79, r179_80, r179_83, r179_86, r179_87, r179_88, r179_89, en]
        rw [if_pos y, show iI 0 = iI (cnt τ t 0) from rfl]
        refine G_loopI (C := fun j => e_lim L xs (d + m + 2 + 1) 179 91 [some (.ref 184), some (.int (iI k)), some (.int (iI t)), some (.int (iI (cnt τ t j))), some (.int (iI j))] [] (e_hp M3 V W)) (i := 0) (n := k) h0 (fun j u v hc2 => ?_) ?_
        · have e5 := i2 j u v
          have rj := (hv.1 j u v)
          have rc2 := cnt_rg τ t u
          rw [cnt_s τ t u] at hc2
          rw [r179_91]
          by_cases hq : τ j = t
          · rw [if_pos hq] at hc2
            simp (disch := first | assumption | exact e_nk_i _ | exact e_nk_n | exact e_nk_r _ | exact e_bo_0 | exact e_bo_1 | exact e_bo_b _ | omega) only [e_cl_v, e_cl_x, e_add_0, e_add_s, Option.toList_some, Option.toList_none, List.cons_append, List.nil_append, iI_add, iI_sub, iI_mul, iI_lt, iI_eq, iI_le, r179_93, r179_94, r179_97, r179_98, r179_99, r179_102, r179_104, r179_105, r179_106, r179_109, r179_110, r179_113, r179_114, r179_115, r179_116, r179_119, iI_vin, iI_nat, if_true, e5, if_pos v, if_pos hq]
            exact hc2
          · rw [if_neg hq] at hc2
            simp (disch := first | assumption | exact e_nk_i _ | exact e_nk_n | exact e_nk_r _ | exact e_bo_0 | exact e_bo_1 | exact e_bo_b _ | omega) only [e_cl_v, e_cl_x, e_add_0, e_add_s, Option.toList_some, Option.toList_none, List.cons_append, List.nil_append, iI_add, iI_sub, iI_mul, iI_lt, iI_eq, iI_le, r179_93, r179_94, r179_97, r179_98, r179_99, r179_102, r179_104, r179_105, r179_106, r179_109, r179_110, r179_113, r179_114, r179_115, r179_116, r179_119, iI_vin, iI_nat, if_true, e5, if_pos v, if_neg hq]
            exact hc2
        · rw [r179_91]
          simp (disch := first | assumption | exact e_nk_i _ | exact e_nk_n | exact e_nk_r _ | exact e_bo_0 | exact e_bo_1 | exact e_bo_b _ | omega) only [e_cl_v, e_cl_x, e_add_0, e_add_s, Option.toList_some, Option.toList_none, List.cons_append, List.nil_append, iI_add, iI_sub, iI_mul, iI_lt, iI_eq, iI_le, r179_93, r179_94]
          rw [if_neg (by omega)]
          exact hr1
      have hM4 : fQ M3 (e_u M3 199 (upd (M3 199) k.toNat (iI t))) := ⟨fun a _ w _ _ _ _ => e_u_n _ _ w, fun j _ => by rw [e_u_n _ _ (by decide)]⟩
      have hτ4 : ∀ p, 0 ≤ p → p < k + 1 → e_u M3 199 (upd (M3 199) k.toNat (iI t)) 199 p.toNat = iI (uI τ k t p) := fun p u v => by
        rw [e_u_s]
        by_cases hq : p = k
        · rw [hq, upd_s, uI_s]
        · rw [upd_n _ _ (by omega), uI_n _ _ hq]
          exact i2 p u (by omega)
      have HS4 : TS (e_u M3 199 (upd (M3 199) k.toNat (iI t))) K (if fiR K τ k = true then exO K (exR K m) τ k s t.toNat else s) := i3.of (by rw [e_u_n _ _ (by decide)]) (by rw [e_u_n _ _ (by decide)])
      have em4 : (e_u M3 199 (upd (M3 199) k.toNat (iI t))) 190 t.toNat = iI (K (40 + t)) := by rw [e_u_n _ _ (by decide)]; exact em
      by_cases c1 : cnt τ t k < K (40 + t)
      · obtain ⟨M5, e6, f6, g6, s6⟩ := l_triesRows hr hp ha m (k + 1) (uI τ k t) _ _ (by omega) (by omega) (hv.up h0 ⟨x, y⟩ c1) (HA3.of hM4.l) (HB3.of hM4.l) hτ4 HS4
        have hs5 : (if fiR K (uI τ k t) (k + 1) = true then exR K m (uI τ k t) (k + 1) (if fiR K τ k = true then exO K (exR K m) τ k s t.toNat else s) else (if fiR K τ k = true then exO K (exR K m) τ k s t.toNat else s)) = (if fiR K τ k = true then exO K (exR K m) τ k s (t + 1).toNat else s) := by
          by_cases c2 : fiR K τ k = true
          · rw [if_pos c2, if_pos c2, exO_s _ _ _ _ _ x]
            by_cases c3 : scB K (uI τ k t) k = 2001
            · rw [if_neg (fun hh => ((fiR_up h0).mp hh).2 c3), if_pos (Or.inr c3)]
            · rw [if_pos ((fiR_up h0).mpr ⟨c2, c3⟩), if_neg (by omega)]
          · rw [if_neg c2, if_neg c2, if_neg (fun hh => c2 ((fiR_up h0).mp hh).1)]
        rw [hs5] at s6
        obtain ⟨M2, e, r⟩ := hc M5 ⟨(i1.tr hM4).tr f6, fun p u v => by
          have := g6 p u (by omega)
          rw [uI_n _ _ (by omega)] at this
          exact this, s6⟩
        refine ⟨M2, ?_, r⟩
        refine count _ ?_
        simp (disch := first | assumption | exact e_nk_i _ | exact e_nk_n | exact e_nk_r _ | exact e_bo_0 | exact e_bo_1 | exact e_bo_b _ | omega) only [e_cl_v, e_cl_x, e_add_0, e_add_s, Option.toList_some, Option.toList_none, List.cons_append, List.nil_append, iI_add, iI_sub, iI_mul, iI_lt, iI_eq, iI_le, r179_122, r179_123, r179_126, r179_127, r179_128, r179_129, r179_130, r179_131, r179_134, r179_135, r179_136, r179_139, r179_140, r179_141, r179_142, r179_143, r179_146, r179_149, iI_vin, iI_nat, if_true, em4, e6, if_pos c1]
        exact G_less (by repeat (first | exact e_ll.rf | refine e_ll_c ?_ | refine e_ll_x ?_)) e
      · have hs5 : (if fiR K τ k = true then exO K (exR K m) τ k s (t + 1).toNat else s) = (if fiR K τ k = true then exO K (exR K m) τ k s t.toNat else s) := by
          by_cases c2 : fiR K τ k = true
          · rw [if_pos c2, if_pos c2, exO_s _ _ _ _ _ x, if_pos (Or.inl (by omega))]
          · rw [if_neg c2, if_neg c2]
        obtain ⟨M2, e, r⟩ := hc (e_u M3 199 (upd (M3 199) k.toNat (iI t))) ⟨i1.tr hM4, fun p u v => by
          have := hτ4 p u (by omega)
          rw [uI_n _ _ (by omega)] at this
          exact this, by rw [hs5]; exact HS4⟩
        refine ⟨M2, ?_, r⟩
        refine count _ ?_
        simp (disch := first | assumption | exact e_nk_i _ | exact e_nk_n | exact e_nk_r _ | exact e_bo_0 | exact e_bo_1 | exact e_bo_b _ | omega) only [e_cl_v, e_cl_x, e_add_0, e_add_s, Option.toList_some, Option.toList_none, List.cons_append, List.nil_append, iI_add, iI_sub, iI_mul, iI_lt, iI_eq, iI_le, r179_122, r179_123, r179_126, r179_127, r179_128, r179_129, r179_130, r179_131, r179_134, r179_135, r179_136, r179_139, r179_140, r179_141, r179_142, r179_143, r179_146, r179_149, iI_vin, iI_nat, if_true, em4, if_neg c1]
        exact G_less (by repeat (first | exact e_ll.rf | refine e_ll_c ?_ | refine e_ll_x ?_)) e
    · obtain ⟨i1, i2, i3⟩ := hI
      have en := (HA.of i1.l).nn
      refine ⟨M3, ?_, i1, i2, i3⟩
      rw [r179_78]
      simp (disch := first | assumption | exact e_nk_i _ | exact e_nk_n | exact e_nk_r _ | exact e_bo_0 | exact e_bo_1 | exact e_bo_b _ | omega) only [e_cl_v, e_cl_x, e_add_0, e_add_s, Option.toList_some, Option.toList_none, List.cons_append, List.nil_append, iI_add, iI_sub, iI_mul, iI_lt, iI_eq, iI_le, r179_79, r179_80, r179_83, r179_152, en]
      rw [if_neg (by omega)]
end El22
