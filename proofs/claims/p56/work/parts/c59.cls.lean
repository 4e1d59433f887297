section Ec59
variable {L : Nat} {xs : Nat → Int32} {d : Nat} {M M2 M3 : e_MI} {V V2 : e_ML} {W : e_MD} {K K1 K2 : e_St} {S : Int → e_St} {h : e_H} {t t2 b2 : Nat} {c o w z m k q p i f e mc tl T x y v N n : Int} {sc bb : Bool} {ρ ν μ χ β ε τ τ2 u : Int → Int}
/-! steps of the search, in the class -/
theorem tk2 (hx : pfx K τ k) (hk : 0 ≤ k) : scW (uI τ k o) k = cnt τ o k := by
  unfold scW
  rw [uI_s]
  exact cnt_cong fun p a b => uI_n _ _ (by omega)
theorem tt_ready (H : SH M 1 K) (hr : kR K) (hd : kD K) (hx : pfx K τ k) (hT : TT M 149 K τ k) (hk : 0 ≤ k ∧ k < 16) (ho : 0 ≤ o ∧ o < K 310) (hw2 : cnt τ o k < K (40 + o)) : e_lim L xs (d + 3) 66 0 [some (.ref 149), some (.ref 1), some (.int (iI o)), none, none, none, none] [] (e_hp M V W) = some (.inl (some (.int (iI (loW K (uI τ k o) (scW (uI τ k o)) (scE K (uI τ k o)) k)))), e_hp M V W, 0, 0) := by
  obtain ⟨ρ, ν, μ, χ, β, ε, G, hg⟩ := hT
  have hcr : cnt ρ o k = cnt τ o k := cnt_cong fun p a b => (hg p a b).1.1
  have hg2 : agT K (uI τ k o) k ρ ν μ χ β ε := hg.tau (fun p a b => (uI_n _ _ (by omega)).symm)
  have hwk2 := tk2 (o := o) hx hk.1
  have hmc2 : K (48 + 4 * o + cnt ρ o k) = mcA K (uI τ k o) (scW (uI τ k o)) k := by
    unfold mcA
    rw [uI_s, hwk2, hcr]
  have htl2 : K (112 + 4 * o + cnt ρ o k) = tlA K (uI τ k o) (scW (uI τ k o)) k := by
    unfold tlA
    rw [uI_s, hwk2, hcr]
  have e0 := tg_ready (L := L) (xs := xs) (d := d) (V := V) (W := W) e_isT_1 H hr hd G ho rfl (by rw [hcr]; exact hw2) rfl rfl (fun p a b => by rw [(hg p a b).1.1]; exact (hx.1 p a b).2)
  rw [loT_eq hr hg2 hk.1 ho (uI_s τ k o) hmc2 htl2] at e0
  exact e0
theorem tt_firstFree (H : SH M 1 K) (hr : kR K) (hd : kD K) (hp : kP K) (hx : pfx K τ k) (hT : TT M 149 K τ k) (hk : 0 ≤ k ∧ k < 16) (ho : 0 ≤ o ∧ o < K 310) (hw2 : cnt τ o k < K (40 + o)) : e_lim L xs (d + 3) 70 0 [some (.ref 149), some (.ref 1), some (.int (iI (K (48 + 4 * o + cnt τ o k)))), some (.int (iI (loW K (uI τ k o) (scW (uI τ k o)) (scE K (uI τ k o)) k))), some (.int (iI (tk K o (cnt τ o k)))), none, none, none] [] (e_hp M V W) = some (.inl (some (.int (iI (scB K (uI τ k o) k)))), e_hp M V W, 0, 0) := by
  obtain ⟨ρ, ν, μ, χ, β, ε, G, hg⟩ := hT
  have hc0 := cnt_rg τ o hk.1
  have hx2 := hx.up hk.1 ho hw2
  have hv := hx2.vp
  have hg2 : agT K (uI τ k o) k ρ ν μ χ β ε := hg.tau (fun p a b => (uI_n _ _ (by omega)).symm)
  have hwk2 := tk2 (o := o) hx hk.1
  have hmc2 : K (48 + 4 * o + cnt τ o k) = mcA K (uI τ k o) (scW (uI τ k o)) k := by
    unfold mcA
    rw [uI_s, hwk2]
  have hls := lo_spI hr hp hv (p := k) hk.1 (by omega)
  have hmr := hv.rg hr (p := k) hk.1 (by omega)
  rw [← hmc2] at hmr
  have htk := tk_pos hr hp ho (w := cnt τ o k) ⟨hc0.1, hw2⟩
  have e4 := tg_firstFree (L := L) (xs := xs) (d := d) (V := V) (W := W) e_isT_1 H hr hd G.1.1 (k := k) (by omega) G.2.2.2.2.1 (m := K (48 + 4 * o + cnt τ o k)) hmr.2.2.1 (T := tk K o (cnt τ o k)) htk (b0 := loW K (uI τ k o) (scW (uI τ k o)) (scE K (uI τ k o)) k) ⟨hls.1.1, hls.1.2⟩ (fun x a => bz3 hr hp hv hk.1 hg2 a)
  have hbl : blB K β ε k (K (48 + 4 * o + cnt τ o k)) = blB K (scB K (uI τ k o)) (scE K (uI τ k o)) k (K (48 + 4 * o + cnt τ o k)) := blB_cong (fun p a b => ⟨(hg2 p a b).2.2.1, (hg2 p a b).2.2.2⟩)
  have hsc : scB K (uI τ k o) k = zFF (blB K β ε k (K (48 + 4 * o + cnt τ o k))) (tk K o (cnt τ o k)) (loW K (uI τ k o) (scW (uI τ k o)) (scE K (uI τ k o)) k) := by
    rw [scB_eq K _ hk.1]
    unfold bgW
    rw [uI_s, hwk2, ← hmc2, hbl]
  rw [← hsc] at e4
  exact e4
theorem tt_takeBack (hT : TT M 149 K (uI τ k o) (k + 1)) (hk : 0 ≤ k) : ∃ M2 : e_MI, e_lim L xs (d + 2) 74 0 [some (.ref 149), none, none] [] (e_hp M V W) = some (.inl none, e_hp M2 V W, 0, 0) ∧ TT M2 149 K τ k ∧ ∀ a, a < 149 ∨ 164 < a → M2 a = M a := by
  obtain ⟨ρ, ν, μ, χ, β, ε, G, hg⟩ := hT
  obtain ⟨M2, e, G2, f, z⟩ := tg_takeBack (L := L) (xs := xs) (d := d) (V := V) (W := W) e_isT_1 (by omega) G hk
  refine ⟨M2, e, ⟨ρ, ν, μ, χ, β, ε, G2, ?_⟩, fun a x => f a (by omega)⟩
  have hg1 : agT K (uI τ k o) k ρ ν μ χ β ε := fun p a b => hg p a (by omega)
  exact hg1.tau (fun p a b => uI_n _ _ (by omega))
/-- whether an order could have stood ahead of the latest place -/
def csP (K : e_St) (τ : Int → Int) (k o : Int) : Prop := scK K = false ∧ 1 ≤ k ∧ o < τ (k - 1) ∧ K (48 + 4 * o + cnt τ o k) ≠ mcA K τ (scW τ) (k - 1) ∧ (K (112 + 4 * o + cnt τ o k) = -1 ∨ K (112 + 4 * o + cnt τ o k) ≠ tlA K τ (scW τ) (k - 1))
theorem tt_canSwap (H : SH M 1 K) (hr : kR K) (hx : pfx K τ k) (hT : TT M 149 K τ k) (ho : 0 ≤ o ∧ o < K 310) (hw2 : cnt τ o k < K (40 + o)) : ∃ b : Bool, e_lim L xs (d + 2) 67 0 [some (.ref 149), some (.ref 1), some (.int (iI o)), none, none, none] [] (e_hp M V W) = some (.inl (some (.int (bI b))), e_hp M V W, 0, 0) ∧ (b = true → csP K τ k o) := by
  have ht : e_isT 149 := e_isT_1
  have hn := hr.n
  have hs : M 149 1 = bI (scK K) := by
    obtain ⟨ρ, ν, μ, χ, β, ε, G, hg⟩ := hT
    exact G.1.1
  obtain ⟨⟨t2, k0, k16⟩, a1, a2, a3, a4, a5, a6⟩ := hT.a1
  obtain ⟨-, -, -, -, -, b14⟩ := hT.a2
  cases hsc : scK K with
  | true =>
    rw [hsc, bI_t] at hs
    refine ⟨false, ?_, fun y => by cases y⟩
    simp (disch := first | assumption | exact e_nk_i _ | exact e_nk_n | exact e_nk_r _ | exact e_bo_0 | exact e_bo_1 | exact e_bo_b _ | omega) only [e_cl_v, e_cl_x, e_add_0, e_add_s, Option.toList_some, Option.toList_none, List.cons_append, List.nil_append, iI_add, iI_sub, iI_mul, iI_lt, iI_eq, iI_le, r67_0, r67_1, r67_4, r67_5, r67_6, r67_7, r67_8, r67_11, r67_14, r67_15, r67_18, r67_19, r67_20, r67_23, r67_24, r67_27, r67_30, r67_31, t2, hs]
    simp [bI_f]
  | false =>
    rw [hsc, bI_f] at hs
    by_cases hk : k = 0
    · subst hk
      refine ⟨false, ?_, fun y => by cases y⟩
      simp (disch := first | assumption | exact e_nk_i _ | exact e_nk_n | exact e_nk_r _ | exact e_bo_0 | exact e_bo_1 | exact e_bo_b _ | omega) only [e_cl_v, e_cl_x, e_add_0, e_add_s, Option.toList_some, Option.toList_none, List.cons_append, List.nil_append, iI_add, iI_sub, iI_mul, iI_lt, iI_eq, iI_le, r67_0, r67_1, r67_4, r67_5, r67_6, r67_7, r67_8, r67_11, r67_14, r67_15, r67_18, r67_19, r67_20, r67_23, r67_24, r67_27, r67_30, r67_31, t2, hs]
      simp [bI_f]
    · have hv := hx.vp
      have w1 := hv.rg hr (p := k - 1) (by omega) (by omega)
      have e1 := m_atI (L := L) (xs := xs) (d := d + 1) (M := M) (V := V) (W := W) (a := 150) (n := 16) si_150 (z := k - 1) (by omega) (by omega) (a1 _ (by omega) (by omega))
      by_cases ho2 : o < τ (k - 1)
      · have hwk := hr.wk (o := o) ho.1 (by omega)
        have hc0 := cnt_rg τ o k0
        have e2 := m_atI (L := L) (xs := xs) (d := d + 1) (M := M) (V := V) (W := W) (a := 163) (n := 8) si_163 (z := o) ho.1 (by omega) (b14 o ho.1 (by omega))
        have e3 := s_workCell (L := L) (xs := xs) (d := d) (V := V) (W := W) H hr ho.1 ho.2 (w := cnt τ o k) hc0.1 hw2 (j := 2) (by omega) (by omega)
        have e4 := s_workCell (L := L) (xs := xs) (d := d) (V := V) (W := W) H hr ho.1 ho.2 (w := cnt τ o k) hc0.1 hw2 (j := 0) (by omega) (by omega)
        rw [show 48 + 32 * 2 + 4 * o + cnt τ o k = 112 + 4 * o + cnt τ o k by omega] at e3
        rw [show 48 + 32 * 0 + 4 * o + cnt τ o k = 48 + 4 * o + cnt τ o k by omega] at e4
        have e5 := m_atI (L := L) (xs := xs) (d := d + 1) (M := M) (V := V) (W := W) (a := 152) (n := 16) si_152 (z := k - 1) (by omega) (by omega) (a3 _ (by omega) (by omega))
        have e6 := m_atI (L := L) (xs := xs) (d := d + 1) (M := M) (V := V) (W := W) (a := 153) (n := 16) si_153 (z := k - 1) (by omega) (by omega) (a4 _ (by omega) (by omega))
        have r1 := hr.mc (i := 4 * o + cnt τ o k) (by omega) (by omega)
        have r2 := hr.tl (i := 4 * o + cnt τ o k) (by omega) (by omega)
        rw [show 48 + (4 * o + cnt τ o k) = 48 + 4 * o + cnt τ o k by omega] at r1
        rw [show 112 + (4 * o + cnt τ o k) = 112 + 4 * o + cnt τ o k by omega] at r2
        have head : ∀ R : e_R, e_lim L xs (d + 2) 67 52 [some (.ref 149), some (.ref 1), some (.int (iI o)), some (.int (iI (k - 1))), some (.int (iI (cnt τ o k))), some (.int (iI (K (112 + 4 * o + cnt τ o k))))] [] (e_hp M V W) = some R → e_lim L xs (d + 2) 67 0 [some (.ref 149), some (.ref 1), some (.int (iI o)), none, none, none] [] (e_hp M V W) = some R := fun R hR => by
          rw [← hR]
          simp (disch := first | assumption | exact e_nk_i _ | exact e_nk_n | exact e_nk_r _ | exact e_bo_0 | exact e_bo_1 | exact e_bo_b _ | omega) only [e_cl_v, e_cl_x, e_add_0, e_add_s, Option.toList_some, Option.toList_none, List.cons_append, List.nil_append, iI_add, iI_sub, iI_mul, iI_lt, iI_eq, iI_le, r67_0, r67_1, r67_4, r67_5, r67_6, r67_7, r67_8, r67_11, r67_14, r67_15, r67_18, r67_19, r67_20, r67_23, r67_24, r67_27, r67_30, r67_31, r67_32, r67_33, r67_36, r67_37, r67_40, r67_42, r67_43, r67_44, r67_46, r67_47, r67_50, t2, hs, e1, e2, e3]
          simp
          rw [if_neg (by omega), if_pos ho2]
        by_cases h1 : K (48 + 4 * o + cnt τ o k) = mcA K τ (scW τ) (k - 1)
        · refine ⟨false, head _ ?_, fun y => by cases y⟩
          simp (disch := first | assumption | exact e_nk_i _ | exact e_nk_n | exact e_nk_r _ | exact e_bo_0 | exact e_bo_1 | exact e_bo_b _ | omega) only [e_cl_v, e_cl_x, e_add_0, e_add_s, Option.toList_some, Option.toList_none, List.cons_append, List.nil_append, iI_add, iI_sub, iI_mul, iI_lt, iI_eq, iI_le, r67_52, r67_53, r67_54, r67_56, r67_57, r67_60, r67_61, r67_64, r67_65, r67_68, r67_71, r67_73, r67_74, r67_77, r67_79, r67_80, r67_83, r67_84, r67_87, r67_90, r67_91, r67_94, r67_95, e4, e5]
          rw [if_pos h1, bI_f]
        · by_cases h2 : K (112 + 4 * o + cnt τ o k) = -1
          · refine ⟨true, head _ ?_, fun _ => ⟨hsc, by omega, ho2, h1, Or.inl h2⟩⟩
            simp (disch := first | assumption | exact e_nk_i _ | exact e_nk_n | exact e_nk_r _ | exact e_bo_0 | exact e_bo_1 | exact e_bo_b _ | omega) only [e_cl_v, e_cl_x, e_add_0, e_add_s, Option.toList_some, Option.toList_none, List.cons_append, List.nil_append, iI_add, iI_sub, iI_mul, iI_lt, iI_eq, iI_le, r67_52, r67_53, r67_54, r67_56, r67_57, r67_60, r67_61, r67_64, r67_65, r67_68, r67_71, r67_73, r67_74, r67_77, r67_79, r67_80, r67_83, r67_84, r67_87, r67_90, r67_91, r67_94, r67_95, e4, e5]
            rw [if_neg h1, if_pos h2, bI_t]
          · by_cases h3 : K (112 + 4 * o + cnt τ o k) = tlA K τ (scW τ) (k - 1)
            · refine ⟨false, head _ ?_, fun y => by cases y⟩
              simp (disch := first | assumption | exact e_nk_i _ | exact e_nk_n | exact e_nk_r _ | exact e_bo_0 | exact e_bo_1 | exact e_bo_b _ | omega) only [e_cl_v, e_cl_x, e_add_0, e_add_s, Option.toList_some, Option.toList_none, List.cons_append, List.nil_append, iI_add, iI_sub, iI_mul, iI_lt, iI_eq, iI_le, r67_52, r67_53, r67_54, r67_56, r67_57, r67_60, r67_61, r67_64, r67_65, r67_68, r67_71, r67_73, r67_74, r67_77, r67_79, r67_80, r67_83, r67_84, r67_87, r67_90, r67_91, r67_94, r67_95, e4, e5, e6]
              rw [if_neg h1, if_neg h2, if_pos h3, bI_f]
            · refine ⟨true, head _ ?_, fun _ => ⟨hsc, by omega, ho2, h1, Or.inr h3⟩⟩
              simp (disch := first | assumption | exact e_nk_i _ | exact e_nk_n | exact e_nk_r _ | exact e_bo_0 | exact e_bo_1 | exact e_bo_b _ | omega) only [e_cl_v, e_cl_x, e_add_0, e_add_s, Option.toList_some, Option.toList_none, List.cons_append, List.nil_append, iI_add, iI_sub, iI_mul, iI_lt, iI_eq, iI_le, r67_52, r67_53, r67_54, r67_56, r67_57, r67_60, r67_61, r67_64, r67_65, r67_68, r67_71, r67_73, r67_74, r67_77, r67_79, r67_80, r67_83, r67_84, r67_87, r67_90, r67_91, r67_94, r67_95, e4, e5, e6]
              rw [if_neg h1, if_neg h2, if_neg h3, bI_t]
      · refine ⟨false, ?_, fun y => by cases y⟩
        simp (disch := first | assumption | exact e_nk_i _ | exact e_nk_n | exact e_nk_r _ | exact e_bo_0 | exact e_bo_1 | exact e_bo_b _ | omega) only [e_cl_v, e_cl_x, e_add_0, e_add_s, Option.toList_some, Option.toList_none, List.cons_append, List.nil_append, iI_add, iI_sub, iI_mul, iI_lt, iI_eq, iI_le, r67_0, r67_1, r67_4, r67_5, r67_6, r67_7, r67_8, r67_11, r67_14, r67_15, r67_18, r67_19, r67_20, r67_23, r67_24, r67_27, r67_30, r67_31, t2, hs, e1]
        simp [bI_f]
        intro _ _
        omega
/-! what the search has found so far -/
def lsE (K : e_St) : Int := if (lsR K).1 = -1 then 2001 else (lsR K).1
def LO (M : e_MI) (K : e_St) (τ : Int → Int) (k : Int) : Prop := ∀ m, 0 ≤ m → m < 4 → M 168 m.toNat = iI (lO K m - mcS K τ m k)
def bP (M : e_MI) (K : e_St) : Prop := M 165 4 = iI (lsE K) ∧ (lsE K ≠ 2001 → e_ar (M 167) (aW K) (lsR K).2)
def bQ (M : e_MI) (K : e_St) : Prop := ∃ b, M 165 4 = iI b ∧ lsE K < b ∧ b ≤ 2001
def nBf (K : e_St) (τ : Int → Int) (k : Int) : Prop := ∃ j, 0 ≤ j ∧ j < k ∧ (∀ p, 0 ≤ p → p < j → τ p = (lsR K).2 p) ∧ τ j < (lsR K).2 j
def nX (K : e_St) (τ : Int → Int) (k : Int) : Prop := ∀ p, 0 ≤ p → p < k → τ p = (lsR K).2 p
def bST (M M2 : e_MI) (K : e_St) (τ : Int → Int) (k : Int) : Prop := (bP M K → bP M2 K) ∧ (bQ M K → nBf K τ k → bQ M2 K) ∧ (bQ M K → nX K τ k → bP M2 K)
def ES (M0 M : e_MI) (K : e_St) (τ : Int → Int) (k : Int) : Prop := TT M 149 K τ k ∧ LO M K τ k ∧ (∃ b, M 165 4 = iI b ∧ 0 ≤ b ∧ b ≤ 2001) ∧ M 165 3 = iI (boW K) ∧ ∀ a, a < 149 ∨ 168 < a ∨ a = 166 → M a = M0 a
theorem lsE_rg (hr : kR K) (hp : kP K) (hn : 0 ≤ aW K) : (0 ≤ lsE K ∧ lsE K ≤ 2001) ∧ (lsE K < 2001 → okR K (lsR K).2 ∧ lsE K = enR K (lsR K).2 ∧ lsE K = (lsR K).1 ∧ boW K ≤ lsE K) ∧ (∀ u, okR K u → lsE K ≤ enR K u ∧ (lsR K).1 ≠ -1) := by
  obtain ⟨g1, g2⟩ := lsR_sp hr hn
  unfold lsE
  by_cases hq : (lsR K).1 = -1
  · rw [if_pos hq]
    exact ⟨by omega, fun y => by omega, fun u hu => absurd hq (g1 u hu).1⟩
  · rw [if_neg hq]
    rcases g2 with z | ⟨z1, z2, z3⟩
    · exact absurd z hq
    · have h1 : enR K (lsR K).2 ≤ 2001 := mX_le hn (by omega) (fun p a b => (sc_spI hr hp (vR.vp hr z1.1) a b).1.2.2)
      have h0 : 0 ≤ enR K (lsR K).2 := mX_0 hn
      have h2 := boW_le hr hp z1 hn
      exact ⟨by omega, fun _ => ⟨z1, z2, rfl, by omega⟩, fun u hu => ⟨(g1 u hu).2, hq⟩⟩
theorem lsE_lt (hr : kR K) (hn : 0 ≤ aW K) (h : (lsR K).1 ≠ -1) : ∀ u, okR K u → ltR K u (lsR K).2 → lsE K < enR K u := fun u hu hl => by
  obtain ⟨g1, g2⟩ := lsR_sp hr hn
  unfold lsE
  rw [if_neg h]
  rcases g2 with z | ⟨z1, z2, z3⟩
  · exact absurd z h
  · exact z3 u hu hl
theorem mcS_tau (hk : 0 ≤ k) (h : ∀ p, 0 ≤ p → p < k → τ p = τ2 p) (m : Int) : mcS K τ m k = mcS K τ2 m k := SU_cong fun p a b => by
  have hw : scW τ p = scW τ2 p := scW_tau (fun q c d => h q c (by omega)) a
  unfold mcA
  rw [h p a b, hw]
theorem mcS_rg (hr : kR K) (hv : vP K τ k) (hk : 0 ≤ k ∧ k ≤ 16) (m : Int) : 0 ≤ mcS K τ m k ∧ mcS K τ m k ≤ 1296 := by
  have := SU_le (f := fun q => if mcA K τ (scW τ) q = m then tk K (τ q) (scW τ q) else 0) (n := k) (c := 81) (fun i a b => by
    have := hv.rg hr a b
    have := tk_rg hr (o := τ i) (w := scW τ i) (by omega) (by omega)
    split <;> omega) hk.1
  unfold mcS
  omega
end Ec59
