section E92
variable {L : Nat} {xs : Nat → Int32} {d : Nat} {M M2 M3 : e_MI} {V : e_ML} {W : e_MD} {K K2 : e_St} {h : e_H} {S : Int → e_St} {c cd n er w f t o m q : Int} {s : Int × (Int → Int)} {ρ ω β ε τ T U : Int → Int} {r : Option e_R} {an : Int32}
theorem rf_timesTried (H : RK M K c S) {n : Int} (hn0 : 0 ≤ n) (hn : n ≤ 16) (ht : e_ar (M 192) n τ) (hτ : ∀ p, 0 ≤ p → p < n → (0 ≤ τ p ∧ τ p ≤ 7) ∧ cnt τ (τ p) p ≤ 3) : ∃ (M2 : e_MI) (ρ ω β ε : Int → Int), e_lim L xs (d + 4) 219 0 [some (.ref 184), some (.int (iI n)), none] [] (e_hp M V W) = some (.inl (some (.int (bI (fiR K τ n)))), e_hp M2 V W, 0, 0) ∧ RK M2 K c S ∧ frQ M M2 ∧ e_SC M2 ρ ω β ε ∧ (fiR K τ n = true → agR K τ n ρ ω β ε) ∧ M2 184 9 = iI n ∧ M2 184 0 = M 184 0 ∧ M2 187 = M 187 := by
  obtain ⟨ρ, ω, β, ε, hS⟩ := H.s
  obtain ⟨M2, ρ2, ω2, β2, ε2, e1, hS2, hg, hF, hz, hc⟩ := mm_timesTried (L := L) (xs := xs) (d := d) (V := V) (W := W) H.km H.r hS hn0 hn ht hτ
  exact ⟨M2, ρ2, ω2, β2, ε2, e1, H.q hF.q ⟨_, _, _, _, hS2⟩, hF.q, hS2, hg, hz, hc, hF.1 187 (by decide) (by decide) (by decide) (by decide) (by decide) (by decide)⟩
theorem cdTk_sp (h : cdTk K q = 0) : (0 ≤ q ∧ q ≤ 2) ∧ K (305 + q) = 1 := by
  unfold cdTk at h
  by_cases h1 : 0 ≤ q ∧ q ≤ 2
  · rw [if_pos h1] at h
    by_cases h2 : K (305 + q) = 1
    · exact ⟨h1, h2⟩
    · rw [if_neg h2] at h
      omega
  · rw [if_neg h1] at h
    omega
def cdDi (K : e_St) (q : Int) : Int := if cdTk K q = 0 then (if fiR K (kpR K q) (aW K) = true ∧ ft K = true then 0 else 3) else cdTk K q
theorem rf_differ (H : RK M K c S) (hq : i32 q) : AQ (e_lim L xs (d + 6) 275 0 [some (.ref 184), some (.int (iI q)), none, none] [] (e_hp M V W)) M V W K c S (cdDi K q) (iI (otW K K (kpR K q))) := by
  have h0 := mT_0 M
  have hv := H.v.1
  unfold cdDi
  by_cases hc : cdTk K q = 0
  · obtain ⟨h1, h2⟩ := cdTk_sp hc
    have hkv : vR K (kpR K q) := H.g.2.2.2.1.2.1 q h1.1 (by omega) h2
    have e1 := mm_isNotKeptT (L := L) (xs := xs) (d := d + 3) (V := V) (W := W) H.mT.km H.r h0 h1 h2
    obtain ⟨M2, ρ, ω, β, ε, e2, H2, F2, hS2, hg2, hz2, z2⟩ := rf_times (L := L) (xs := xs) (d := d) (V := V) (W := W) H.mT
    obtain ⟨M3, e3, f3, H3, hk3⟩ := rf_keepsBegins (L := L) (xs := xs) (d := d + 5) (V := V) (W := W) H2 hS2 hz2 hg2
    have F3 : frQ M M3 := ((frQ_mT M).t F2).t (frQ.mk (fun a x y => f3 a (by omega)) (fun j x => by rw [f3 184 (by decide)]))
    have z3 : M3 184 0 = iI 0 := by rw [f3 184 (by decide), z2, h0]
    rw [if_pos hc]
    have key := G_lp (i := 0) (n := aW K) (I := fun i M4 => e_ar (M4 192) i (kpR K q) ∧ frY M3 M4) (P := fun i M4 => ∃ M5 : e_MI, e_lim L xs (d + 6) 275 26 [some (.ref 184), some (.int (iI q)), some (.int (bI (ft K))), some (.int (iI i))] [] (e_hp M4 V W) = e_lim L xs (d + 6) 275 61 [some (.ref 184), some (.int (iI q)), some (.int (bI (ft K))), some (.int (iI (aW K)))] [] (e_hp M5 V W) ∧ e_ar (M5 192) (aW K) (kpR K q) ∧ frY M3 M5) (fun j M4 a b hI hc => ?_) (fun M4 hI => ?_) hv.1 M3 ⟨fun z a b => by omega, fun _ _ => rfl⟩
    · obtain ⟨M5, e5, ha5, f5⟩ := key
      have H5 : RK M5 K c S := H3.q f5.q (H3.s.of fun a x y => f5 a (by omega))
      have e6 := mm_all2 (L := L) (xs := xs) (d := d + 4) (V := V) (W := W) H5.km H.r.n
      obtain ⟨M6, ρ6, ω6, β6, ε6, e7, H6, F6, hS6, hg6, hz6, z6, w6⟩ := rf_timesTried (L := L) (xs := xs) (d := d + 1) (V := V) (W := W) H5 (n := aW K) hv.1 hv.2 ha5 (fun p a b => ⟨(hkv.c H.r a b).1, (hkv.c H.r a b).2.2⟩)
      have z6' : M6 184 0 = iI 0 := by rw [z6, f5 184 (by decide), z3]
      have F6' : frQ M M6 := (F3.t f5.q).t F6
      have head : e_lim L xs (d + 6) 275 0 [some (.ref 184), some (.int (iI q)), none, none] [] (e_hp M V W) = e_lim L xs (d + 6) 275 61 [some (.ref 184), some (.int (iI q)), some (.int (bI (ft K))), some (.int (iI (aW K)))] [] (e_hp M5 V W) := by
        rw [← e5]
        simp (disch := first | assumption | exact e_nk_i _ | exact e_nk_n | exact e_nk_r _ | exact e_bo_0 | exact e_bo_1 | exact e_bo_b _ | omega) only [e_cl_v, e_cl_x, e_add_0, e_add_s, Option.toList_some, Option.toList_none, List.cons_append, List.nil_append, iI_add, iI_sub, iI_mul, iI_lt, iI_eq, iI_le, r275_0, r275_1, r275_2, r275_5, r275_6, r275_7, r275_10, r275_13, r275_14, r275_15, r275_16, r275_19, r275_20, r275_21, r275_24, r275_25, e1, e2, e3]
        simp
      rw [head]
      cases hb6 : fiR K (kpR K q) (aW K) with
      | true =>
        cases hb2 : ft K with
        | true =>
          rw [hb6, bI_t] at e7
          have e8 := mm_failsT (L := L) (xs := xs) (d := d + 5) (V := V) (W := W) (e := 3) z6' (by omega)
          have e9 := rf_others (L := L) (xs := xs) (d := d + 5) (M := M6) (V := V) (W := W) (K := K) (K2 := K) (τ := kpR K q) (ρ := ρ6) (ω := ω6) (β := β6) (ε := ε6) H.r hkv hv hS6 hz6 (hg6 hb6) (fun o w a b x y => by
            rw [w6, f5 187 (by decide)]
            exact hk3 hb2 o w a b x y) (fun p a b => (eT_rg hS2 hv.2 (hg2 hb2) a b).1) H.v.2
          rw [if_pos ⟨rfl, rfl⟩]
          refine ⟨M6, _, ?_, H6, F6', z6', fun _ => rfl⟩
          simp (disch := first | assumption | exact e_nk_i _ | exact e_nk_n | exact e_nk_r _ | exact e_bo_0 | exact e_bo_1 | exact e_bo_b _ | omega) only [e_cl_v, e_cl_x, e_add_0, e_add_s, Option.toList_some, Option.toList_none, List.cons_append, List.nil_append, iI_add, iI_sub, iI_mul, iI_lt, iI_eq, iI_le, r275_61, r275_62, r275_63, r275_64, r275_67, r275_70, r275_73, r275_74, r275_77, r275_78, r275_81, r275_82, r275_83, r275_86, r275_89, r275_90, r275_93, r275_94, r275_97, e6, e7, e8, e9, bI_t]
          all_goals first | (simp; done) | rfl | (simp; rfl)
        | false =>
          rw [hb6, bI_t] at e7
          have e8 := mm_failsF (L := L) (xs := xs) (d := d + 5) (V := V) (W := W) (e := 3) z6' (by omega)
          rw [if_neg (fun a => by cases a.2)]
          refine ⟨mF M6 false 3, iI 0, ?_, H6.mF false 3, F6'.t (frQ_mF _ false 3), mF_0 _ false 3 z6', fun a => by omega⟩
          simp (disch := first | assumption | exact e_nk_i _ | exact e_nk_n | exact e_nk_r _ | exact e_bo_0 | exact e_bo_1 | exact e_bo_b _ | omega) only [e_cl_v, e_cl_x, e_add_0, e_add_s, Option.toList_some, Option.toList_none, List.cons_append, List.nil_append, iI_add, iI_sub, iI_mul, iI_lt, iI_eq, iI_le, r275_61, r275_62, r275_63, r275_64, r275_67, r275_70, r275_73, r275_74, r275_77, r275_78, r275_81, r275_82, r275_83, r275_86, r275_89, r275_90, r275_93, r275_94, r275_97, e6, e7, e8, bI_f]
          all_goals first | (simp; done) | rfl | (simp; rfl)
      | false =>
        rw [hb6, bI_f] at e7
        have e8 := mm_failsF (L := L) (xs := xs) (d := d + 5) (V := V) (W := W) (e := 3) z6' (by omega)
        rw [if_neg (fun a => by cases a.1)]
        refine ⟨mF M6 false 3, iI 0, ?_, H6.mF false 3, F6'.t (frQ_mF _ false 3), mF_0 _ false 3 z6', fun a => by omega⟩
        simp (disch := first | assumption | exact e_nk_i _ | exact e_nk_n | exact e_nk_r _ | exact e_bo_0 | exact e_bo_1 | exact e_bo_b _ | omega) only [e_cl_v, e_cl_x, e_add_0, e_add_s, Option.toList_some, Option.toList_none, List.cons_append, List.nil_append, iI_add, iI_sub, iI_mul, iI_lt, iI_eq, iI_le, r275_61, r275_62, r275_63, r275_64, r275_67, r275_70, r275_73, r275_74, r275_77, r275_78, r275_81, r275_82, r275_83, r275_86, r275_89, r275_90, r275_93, r275_94, r275_97, e6, e7, e8]
        all_goals first | (simp; done) | rfl | (simp; rfl)
    · have H4 : RK M4 K c S := H3.q hI.2.q (H3.s.of fun a x y => hI.2 a (by omega))
      have e6 := mm_all2 (L := L) (xs := xs) (d := d + 4) (V := V) (W := W) H4.km H.r.n
      have e7 := H4.km (257 + 16 * q + j) (by omega) (by omega)
      obtain ⟨M5, e, r⟩ := hc (e_u M4 192 (upd (M4 192) j.toNat (iI (kpR K q j)))) ⟨by rw [e_u_s]; exact hI.1.mr a, hI.2.t (fun a x => e_u_n _ _ x)⟩
      refine ⟨M5, ?_, r⟩
      rw [← e, r275_26]
      simp (disch := first | assumption | exact e_nk_i _ | exact e_nk_n | exact e_nk_r _ | exact e_bo_0 | exact e_bo_1 | exact e_bo_b _ | omega) only [e_cl_v, e_cl_x, e_add_0, e_add_s, Option.toList_some, Option.toList_none, List.cons_append, List.nil_append, iI_add, iI_sub, iI_mul, iI_lt, iI_eq, iI_le, r275_27, r275_28, r275_31, r275_34, r275_35, r275_38, r275_39, r275_40, r275_43, r275_46, r275_48, r275_49, r275_50, r275_51, r275_52, r275_53, r275_54, r275_55, r275_58, iI_vin, iI_nat, if_true, e6, e7]
      rw [if_pos b]
      rfl
    · have H4 : RK M4 K c S := H3.q hI.2.q (H3.s.of fun a x y => hI.2 a (by omega))
      have e6 := mm_all2 (L := L) (xs := xs) (d := d + 4) (V := V) (W := W) H4.km H.r.n
      refine ⟨M4, ?_, hI⟩
      rw [r275_26]
      simp (disch := first | assumption | exact e_nk_i _ | exact e_nk_n | exact e_nk_r _ | exact e_bo_0 | exact e_bo_1 | exact e_bo_b _ | omega) only [e_cl_v, e_cl_x, e_add_0, e_add_s, Option.toList_some, Option.toList_none, List.cons_append, List.nil_append, iI_add, iI_sub, iI_mul, iI_lt, iI_eq, iI_le, r275_27, r275_28, r275_31, e6]
      rw [if_neg (by omega)]
  · have e1 := mm_isNotKeptF (L := L) (xs := xs) (d := d + 3) (V := V) (W := W) H.mT.km H.r h0 hq hc
    rw [if_neg hc]
    refine AQ.bad H (cdTk K q) (iI 0) hc rfl ?_
    simp (disch := first | assumption | exact e_nk_i _ | exact e_nk_n | exact e_nk_r _ | exact e_bo_0 | exact e_bo_1 | exact e_bo_b _ | omega) only [e_cl_v, e_cl_x, e_add_0, e_add_s, Option.toList_some, Option.toList_none, List.cons_append, List.nil_append, iI_add, iI_sub, iI_mul, iI_lt, iI_eq, iI_le, r275_0, r275_1, r275_2, r275_5, r275_6, r275_7, r275_10, r275_13, r275_14, r275_15, e1]
    all_goals first | (simp; done) | rfl | (simp; rfl)
/-- the row without an order -/
def wiT (r : Int → Int) (o : Int) : Nat → Int × (Int → Int)
  | 0 => (0, fun _ => 0)
  | k + 1 => if r k = o then wiT r o k else ((wiT r o k).1 + 1, uI (wiT r o k).2 (wiT r o k).1 (r k))
theorem wiT_sp (r : Int → Int) (o : Int) : ∀ k : Nat, (0 ≤ (wiT r o k).1 ∧ (wiT r o k).1 ≤ k) ∧ (∀ x, cnt (wiT r o k).2 x (wiT r o k).1 = if x = o then 0 else cnt r x k)
  | 0 => ⟨⟨Int.le_refl _, Int.le_refl _⟩, fun x => by split <;> rfl⟩
  | k + 1 => by
    obtain ⟨h1, h2⟩ := wiT_sp r o k
    unfold wiT
    by_cases hq : r k = o
    · rw [if_pos hq]
      refine ⟨by omega, fun x => ?_⟩
      rw [h2 x, show ((k + 1 : Nat) : Int) = k + 1 by omega, cnt_s r x (by omega)]
      by_cases hx : x = o
      · rw [if_pos hx, if_pos hx]
      · rw [if_neg hx, if_neg hx, if_neg (by omega)]
        omega
    · rw [if_neg hq]
      refine ⟨by simp only; omega, fun x => ?_⟩
      simp only
      rw [cnt_s _ _ h1.1, uI_s, cnt_cong (ρ2 := (wiT r o k).2) (fun p a b => uI_n _ _ (by omega)), h2 x, show ((k + 1 : Nat) : Int) = k + 1 by omega, cnt_s r x (by omega)]
      by_cases hx : x = o
      · rw [if_pos hx, if_pos hx, if_neg (by omega)]
        omega
      · rw [if_neg hx, if_neg hx]
theorem wiT_mem (r : Int → Int) (o : Int) : ∀ k : Nat, ∀ p, 0 ≤ p → p < (wiT r o k).1 → ∃ i : Int, 0 ≤ i ∧ i < k ∧ (wiT r o k).2 p = r i ∧ r i ≠ o
  | 0, p, a, b => by
    have : p < 0 := b
    omega
  | k + 1, p, a, b => by
    unfold wiT at b ⊢
    by_cases hq : r k = o
    · rw [if_pos hq] at b ⊢
      obtain ⟨i, x, y, z⟩ := wiT_mem r o k p a b
      exact ⟨i, x, by omega, z⟩
    · rw [if_neg hq] at b ⊢
      simp only at b ⊢
      unfold uI
      split
      · exact ⟨k, by omega, by omega, rfl, hq⟩
      · obtain ⟨i, x, y, z⟩ := wiT_mem r o k p a (by omega)
        exact ⟨i, x, by omega, z⟩
theorem wi_row (hr : kR K) (hv : vR K (rwK K)) (hn : 0 ≤ aW K) : ∀ p, 0 ≤ p → p < (wiT (rwK K) o (aW K).toNat).1 → (0 ≤ (wiT (rwK K) o (aW K).toNat).2 p ∧ (wiT (rwK K) o (aW K).toNat).2 p < K 310) ∧ cnt (wiT (rwK K) o (aW K).toNat).2 ((wiT (rwK K) o (aW K).toNat).2 p) p ≤ 3 := fun p a b => by
  obtain ⟨i, x, y, z1, z2⟩ := wiT_mem (rwK K) o (aW K).toNat p a b
  obtain ⟨h1, h2⟩ := wiT_sp (rwK K) o (aW K).toNat
  have hi := hv.1 i x (by omega)
  have hn8 := hr.n
  have hw := hr.wk (o := rwK K i) hi.1 (by omega)
  have hc := hv.2 (rwK K i) hi.1 hi.2
  have h3 := h2 (rwK K i)
  rw [if_neg z2, Int.toNat_of_nonneg hn, hc] at h3
  have h4 := cnt_s (wiT (rwK K) o (aW K).toNat).2 (rwK K i) a
  rw [if_pos z1] at h4
  have h5 := cnt_mono (τ := (wiT (rwK K) o (aW K).toNat).2) (o := rwK K i) (i := p + 1) (n := (wiT (rwK K) o (aW K).toNat).1) (by omega) (by omega)
  rw [z1]
  omega
def cdOn (K : e_St) (o : Int) : Int := if 0 ≤ o ∧ o ≤ K 310 - 1 then 0 else 1
def wiW (K : e_St) (o : Int) : Int := if fiR K (wiT (rwK K) o (aW K).toNat).2 (wiT (rwK K) o (aW K).toNat).1 = true then mX (scE K (wiT (rwK K) o (aW K).toNat).2) (wiT (rwK K) o (aW K).toNat).1 else -1
theorem rf_without (H : RK M K c S) (ho : i32 o) : AQ (e_lim L xs (d + 5) 270 0 [some (.ref 184), some (.int (iI o)), none, none] [] (e_hp M V W)) M V W K c S (cdOn K o) (iI (wiW K o)) := by
  have h0 := mT_0 M
  have hv := H.v.1
  have hn := H.r.n
  unfold cdOn
  by_cases h1 : 0 ≤ o ∧ o ≤ K 310 - 1
  · have e1 := mm_noOrderT (L := L) (xs := xs) (d := d + 3) (V := V) (W := W) H.mT.km H.r h0 h1
    rw [if_pos h1]
    have key := G_lp (i := 0) (n := aW K) (I := fun i M4 => e_ar (M4 192) (wiT (rwK K) o i.toNat).1 (wiT (rwK K) o i.toNat).2 ∧ frY (mT M) M4) (P := fun i M4 => ∃ M5 : e_MI, e_lim L xs (d + 5) 270 19 [some (.ref 184), some (.int (iI o)), some (.int (iI (wiT (rwK K) o i.toNat).1)), some (.int (iI i))] [] (e_hp M4 V W) = e_lim L xs (d + 5) 270 69 [some (.ref 184), some (.int (iI o)), some (.int (iI (wiT (rwK K) o (aW K).toNat).1)), some (.int (iI (aW K)))] [] (e_hp M5 V W) ∧ e_ar (M5 192) (wiT (rwK K) o (aW K).toNat).1 (wiT (rwK K) o (aW K).toNat).2 ∧ frY (mT M) M5) (fun j M4 a b hI hc => ?_) (fun M4 hI => ?_) hv.1 (mT M) ⟨fun z a b => by have : z < 0 := b; omega, fun _ _ => rfl⟩
    · obtain ⟨M5, e5, ha5, f5⟩ := key
      have H5 : RK M5 K c S := H.mT.q f5.q (H.mT.s.of fun a x y => f5 a (by omega))
      obtain ⟨g1, g2⟩ := wiT_sp (rwK K) o (aW K).toNat
      have g3 := wi_row (o := o) H.r H.v.2 hv.1
      obtain ⟨M6, ρ6, ω6, β6, ε6, e7, H6, F6, hS6, hg6, hz6, z6, w6⟩ := rf_timesTried (L := L) (xs := xs) (d := d) (V := V) (W := W) H5 (n := (wiT (rwK K) o (aW K).toNat).1) (by omega) (by omega) ha5 (fun p a b => by have := g3 p a b; exact ⟨by omega, this.2⟩)
      have z6' : M6 184 0 = iI 0 := by rw [z6, f5 184 (by decide), h0]
      have F6' : frQ M M6 := ((frQ_mT M).t f5.q).t F6
      have head : e_lim L xs (d + 5) 270 0 [some (.ref 184), some (.int (iI o)), none, none] [] (e_hp M V W) = e_lim L xs (d + 5) 270 69 [some (.ref 184), some (.int (iI o)), some (.int (iI (wiT (rwK K) o (aW K).toNat).1)), some (.int (iI (aW K)))] [] (e_hp M5 V W) := by
        rw [← e5]
        simp (disch := first | assumption | exact e_nk_i _ | exact e_nk_n | exact e_nk_r _ | exact e_bo_0 | exact e_bo_1 | exact e_bo_b _ | omega) only [e_cl_v, e_cl_x, e_add_0, e_add_s, Option.toList_some, Option.toList_none, List.cons_append, List.nil_append, iI_add, iI_sub, iI_mul, iI_lt, iI_eq, iI_le, r270_0, r270_1, r270_2, r270_5, r270_6, r270_7, r270_10, r270_13, r270_14, r270_15, r270_16, r270_17, r270_18, e1]
        all_goals first | (simp; done) | rfl | (simp; rfl)
      rw [head]
      unfold wiW
      generalize hN : (wiT (rwK K) o (aW K).toNat).1 = N at *
      generalize hX : (wiT (rwK K) o (aW K).toNat).2 = X at *
      cases hb : fiR K X N with
      | true =>
        rw [hb, bI_t] at e7
        have e8 := mm_endNow (L := L) (xs := xs) (d := d + 4) (V := V) (W := W) (n := N) (by omega) hz6 hS6
        rw [mX_cong g1.1 (fun p a b => (hg6 hb p a b).2.2.2)] at e8
        refine ⟨M6, _, ?_, H6, F6', z6', fun _ => rfl⟩
        simp (disch := first | assumption | exact e_nk_i _ | exact e_nk_n | exact e_nk_r _ | exact e_bo_0 | exact e_bo_1 | exact e_bo_b _ | omega) only [e_cl_v, e_cl_x, e_add_0, e_add_s, Option.toList_some, Option.toList_none, List.cons_append, List.nil_append, iI_add, iI_sub, iI_mul, iI_lt, iI_eq, iI_le, r270_69, r270_70, r270_71, r270_74, r270_77, r270_78, r270_81, r270_84, r270_85, e7, e8]
        all_goals first | (simp; done) | rfl | (simp; rfl)
      | false =>
        rw [hb, bI_f] at e7
        refine ⟨M6, _, ?_, H6, F6', z6', fun _ => rfl⟩
        simp (disch := first | assumption | exact e_nk_i _ | exact e_nk_n | exact e_nk_r _ | exact e_bo_0 | exact e_bo_1 | exact e_bo_b _ | omega) only [e_cl_v, e_cl_x, e_add_0, e_add_s, Option.toList_some, Option.toList_none, List.cons_append, List.nil_append, iI_add, iI_sub, iI_mul, iI_lt, iI_eq, iI_le, r270_69, r270_70, r270_71, r270_74, r270_77, r270_78, r270_81, r270_84, r270_85, e7]
        all_goals first | (simp; done) | rfl | (simp; rfl)
    · have H4 : RK M4 K c S := H.mT.q hI.2.q (H.mT.s.of fun a x y => hI.2 a (by omega))
      have e6 := mm_all2 (L := L) (xs := xs) (d := d + 3) (V := V) (W := W) H4.km H.r.n
      have e7 := H4.km (241 + j) (by omega) (by omega)
      have r7 := H.r.ro (i := j) a (by omega)
      obtain ⟨g1, g2⟩ := wiT_sp (rwK K) o j.toNat
      have hst : wiT (rwK K) o (j + 1).toNat = if rwK K j = o then wiT (rwK K) o j.toNat else ((wiT (rwK K) o j.toNat).1 + 1, uI (wiT (rwK K) o j.toNat).2 (wiT (rwK K) o j.toNat).1 (rwK K j)) := by
        rw [show (j + 1).toNat = j.toNat + 1 by omega]
        show (if rwK K (j.toNat : Int) = o then _ else (_, uI _ _ (rwK K (j.toNat : Int)))) = _
        rw [Int.toNat_of_nonneg a]
      rw [hst] at hc
      have er : rwK K j = K (241 + j) := rfl
      by_cases hq : rwK K j = o
      · rw [if_pos hq] at hc
        obtain ⟨M5, e, r⟩ := hc M4 hI
        refine ⟨M5, ?_, r⟩
        rw [er] at hq
        rw [← e, r270_19]
        simp (disch := first | assumption | exact e_nk_i _ | exact e_nk_n | exact e_nk_r _ | exact e_bo_0 | exact e_bo_1 | exact e_bo_b _ | omega) only [e_cl_v, e_cl_x, e_add_0, e_add_s, Option.toList_some, Option.toList_none, List.cons_append, List.nil_append, iI_add, iI_sub, iI_mul, iI_lt, iI_eq, iI_le, r270_20, r270_21, r270_24, r270_27, r270_28, r270_31, r270_34, r270_35, r270_36, r270_37, r270_38, r270_41, r270_44, r270_45, r270_48, r270_49, r270_50, r270_53, r270_56, r270_57, r270_58, r270_59, r270_60, r270_63, r270_66, iI_vin, iI_nat, if_true, e6, e7]
        simp [b, hq]
      · rw [if_neg hq] at hc
        obtain ⟨M5, e, r⟩ := hc (e_u M4 192 (upd (M4 192) (wiT (rwK K) o j.toNat).1.toNat (iI (rwK K j)))) ⟨by rw [e_u_s]; exact hI.1.more g1.1, hI.2.t (fun a x => e_u_n _ _ x)⟩
        refine ⟨M5, ?_, r⟩
        rw [er] at hq e
        rw [← e, r270_19]
        simp (disch := first | assumption | exact e_nk_i _ | exact e_nk_n | exact e_nk_r _ | exact e_bo_0 | exact e_bo_1 | exact e_bo_b _ | omega) only [e_cl_v, e_cl_x, e_add_0, e_add_s, Option.toList_some, Option.toList_none, List.cons_append, List.nil_append, iI_add, iI_sub, iI_mul, iI_lt, iI_eq, iI_le, r270_20, r270_21, r270_24, r270_27, r270_28, r270_31, r270_34, r270_35, r270_36, r270_37, r270_38, r270_41, r270_44, r270_45, r270_48, r270_49, r270_50, r270_53, r270_56, r270_57, r270_58, r270_59, r270_60, r270_63, r270_66, iI_vin, iI_nat, if_true, e6, e7]
        simp [b, hq]
    · have H4 : RK M4 K c S := H.mT.q hI.2.q (H.mT.s.of fun a x y => hI.2 a (by omega))
      have e6 := mm_all2 (L := L) (xs := xs) (d := d + 3) (V := V) (W := W) H4.km H.r.n
      refine ⟨M4, ?_, hI⟩
      rw [r270_19]
      simp (disch := first | assumption | exact e_nk_i _ | exact e_nk_n | exact e_nk_r _ | exact e_bo_0 | exact e_bo_1 | exact e_bo_b _ | omega) only [e_cl_v, e_cl_x, e_add_0, e_add_s, Option.toList_some, Option.toList_none, List.cons_append, List.nil_append, iI_add, iI_sub, iI_mul, iI_lt, iI_eq, iI_le, r270_20, r270_21, r270_24, e6]
      rw [if_neg (by omega)]
  · have e1 := mm_noOrderF (L := L) (xs := xs) (d := d + 3) (V := V) (W := W) H.mT.km H.r h0 ho h1
    rw [if_neg h1]
    refine AQ.bad H 1 (iI 0) (by omega) rfl ?_
    simp (disch := first | assumption | exact e_nk_i _ | exact e_nk_n | exact e_nk_r _ | exact e_bo_0 | exact e_bo_1 | exact e_bo_b _ | omega) only [e_cl_v, e_cl_x, e_add_0, e_add_s, Option.toList_some, Option.toList_none, List.cons_append, List.nil_append, iI_add, iI_sub, iI_mul, iI_lt, iI_eq, iI_le, r270_0, r270_1, r270_2, r270_5, r270_6, r270_7, r270_10, r270_13, r270_14, r270_15, e1]
    all_goals first | (simp; done) | rfl | (simp; rfl)
end E92
