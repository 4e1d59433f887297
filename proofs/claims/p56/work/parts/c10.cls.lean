section Ec10
variable {L : Nat} {xs : Nat → Int32} {d : Nat} {M M2 M3 : e_MI} {V : e_ML} {W : e_MD} {K : e_St} {h : e_H} {s t a n : Nat} {o j w z m k q p i f l b e mc tl v T x : Int} {sc : Bool} {ρ ν μ χ β ε τ u : Int → Int}
def agT (K : e_St) (τ : Int → Int) (k : Int) (ρ ν μ χ β ε : Int → Int) : Prop := ∀ p, 0 ≤ p → p < k → (ρ p = τ p ∧ ν p = scW τ p) ∧ (μ p = mcA K τ (scW τ) p ∧ χ p = tlA K τ (scW τ) p) ∧ β p = scB K τ p ∧ ε p = scE K τ p
/-- the timing at t has the times of the first k places of a row -/
def TT (M : e_MI) (t : Nat) (K : e_St) (τ : Int → Int) (k : Int) : Prop := ∃ ρ ν μ χ β ε : Int → Int, TG M t (scK K) k ρ ν μ χ β ε ∧ agT K τ k ρ ν μ χ β ε
/-- the timing at t is whole -/
def TG0 (M : e_MI) (t : Nat) : Prop := ∃ (sc : Bool) (k : Int) (ρ ν μ χ β ε : Int → Int), TG M t sc k ρ ν μ χ β ε
theorem TT.g (h : TT M t K τ k) : TG0 M t := by
  obtain ⟨ρ, ν, μ, χ, β, ε, hG, -⟩ := h
  exact ⟨_, _, _, _, _, _, _, _, hG⟩
theorem scW_tau {τ2 : Int → Int} (h : ∀ q, 0 ≤ q → q ≤ p → τ q = τ2 q) (h0 : 0 ≤ p) : scW τ p = scW τ2 p := by
  unfold scW
  rw [h p h0 (Int.le_refl _)]
  exact cnt_cong fun q a b => h q a (by omega)
theorem agT.tau {τ2 : Int → Int} (hg : agT K τ k ρ ν μ χ β ε) (h : ∀ p, 0 ≤ p → p < k → τ p = τ2 p) : agT K τ2 k ρ ν μ χ β ε := fun p a b => by
  obtain ⟨⟨g1, g2⟩, ⟨g3, g4⟩, g5, g6⟩ := hg p a b
  obtain ⟨e1, e2, e3⟩ := sc_tauI (K := K) h a b
  have em : mcA K τ (scW τ) p = mcA K τ2 (scW τ2) p := mcA_cong ⟨h p a b, e3⟩
  have et : tlA K τ (scW τ) p = tlA K τ2 (scW τ2) p := tlA_cong ⟨h p a b, e3⟩
  exact ⟨⟨by rw [g1, h p a b], by rw [g2, e3]⟩, ⟨by rw [g3, em], by rw [g4, et]⟩, by rw [g5, e1], by rw [g6, e2]⟩
theorem mx_if (a e : Int) : (if a < e then e else a) = max a e := by
  by_cases h : a < e
  · rw [if_pos h]; omega
  · rw [if_neg h]; omega
/-- what the next work waits for -/
theorem loT_eq (hr : kR K) (hg : agT K τ k ρ ν μ χ β ε) (hk : 0 ≤ k) (ho : 0 ≤ o ∧ o < K 310) (hτ : τ k = o) (hmc : mc = mcA K τ (scW τ) k) (htl : tl = tlA K τ (scW τ) k) : loT K ρ μ χ ε k o mc tl = loW K τ (scW τ) (scE K τ) k := by
  have hn := hr.n
  have r0 := hr.re (o := o) ho.1 (by omega)
  have e1 : laF ρ k o = oAh τ k := by
    rw [oAh_laF, hτ]
    exact laF_cong o (fun p a b => (hg p a b).1.1)
  have e2 : laF μ k mc = mAh K τ (scW τ) k := by
    unfold laF mAh
    exact zLP_cong fun p a b => by rw [(hg p a b).2.1.1, hmc]
  have e3 : tl ≠ -1 → laF χ k tl = tAh K τ (scW τ) k := fun h => by
    unfold laF tAh
    rw [if_neg (by rw [← htl]; exact h)]
    exact zLP_cong fun p a b => by rw [(hg p a b).2.1.2, htl]
  have c1 := oAh_rg τ hk
  have c2 := mAh_rg K τ (scW τ) hk
  have c3 := tAh_rg K τ (scW τ) hk
  have hA : loA K τ (scE K τ) k = max (K (16 + o)) (enZ ε (laF ρ k o)) := by
    unfold loA enZ
    rw [e1, hτ]
    rcases c1 with z | z
    · rw [z]
      simp
      omega
    · rw [if_neg (show ¬ oAh τ k = -1 by omega), (hg _ z.1 z.2).2.2.2, ← mx_if]
      by_cases y : K (16 + o) < scE K τ (oAh τ k)
      · rw [if_pos ⟨by omega, y⟩, if_pos y]
      · rw [if_neg (fun q => y q.2), if_neg y]
  have hS : loS K τ (scW τ) (scE K τ) k = rdZ K ρ ε mc o (laF μ k mc) := by
    unfold loS rdZ
    rw [e2, hτ, ← hmc]
    rcases c2 with z | z
    · rw [if_pos z, if_pos z]
    · rw [if_neg (by omega), if_neg (by omega), (hg _ z.1 z.2).2.2.2, (hg _ z.1 z.2).1.1]
  have hB : loB K τ (scW τ) (scE K τ) k = max (max (K (16 + o)) (enZ ε (laF ρ k o))) (rdZ K ρ ε mc o (laF μ k mc)) := by
    unfold loB
    rw [hA, hS, mx_if]
  rw [loW_eq, hB]
  unfold loT
  by_cases hl : tl = -1
  · rw [if_pos hl]
    have : tAh K τ (scW τ) k = -1 := by
      unfold tAh
      rw [if_pos (by rw [← htl]; exact hl)]
    rw [this]
    simp
  · rw [if_neg hl, e3 hl]
    unfold enZ
    rcases c3 with z | z
    · rw [z]
      simp
      omega
    · rw [if_neg (show ¬ tAh K τ (scW τ) k = -1 by omega), (hg _ z.1 z.2).2.2.2, ← mx_if]
      generalize max (max (K (16 + o)) (if laF ρ k o = -1 then 0 else ε (laF ρ k o))) (rdZ K ρ ε mc o (laF μ k mc)) = y
      by_cases y2 : y < scE K τ (tAh K τ (scW τ) k)
      · rw [if_pos y2, if_pos ⟨by omega, y2⟩]
      · rw [if_neg y2, if_neg (fun q => y2 q.2)]
/-- no more than three other works are done from the begin on -/
theorem bz3 (hr : kR K) (hp : kP K) (hv : vP K τ (k + 1)) (hk : 0 ≤ k) (hg : agT K τ k ρ ν μ χ β ε) (hx : loW K τ (scW τ) (scE K τ) k ≤ x) : bz β ε k x ≤ 3 := by
  have hmk := hv.rg hr (p := k) hk (by omega)
  refine bz_le3 (μ := μ) (m := mcA K τ (scW τ) k) hk (fun p a b => ?_) hmk.2.2.1 (fun p a b c => ?_) (fun p q a b c e => ?_)
  · rw [(hg p a b).2.1.1]
    exact (hv.rg hr a (by omega)).2.2.1
  · have := sc_machI hr hp hv (p := p) (q := k) a b (by omega) (by rw [← (hg p a b).2.1.1, c])
    rw [(hg p a b).2.2.2]
    omega
  · have h1 := sc_machI hr hp hv (p := p) (q := q) a b (by omega) (by rw [← (hg p a (by omega)).2.1.1, ← (hg q (by omega) c).2.1.1, e])
    have h2 := sc_spI hr hp hv (p := q) (by omega) (by omega)
    have h3 := sc_spI hr hp hv (p := p) a (by omega)
    rw [(hg p a (by omega)).2.2.2, (hg q (by omega) c).2.2.1]
    rcases h2.2.2 with z | z
    · omega
    · omega
/-- when an order's next work begins -/
theorem tg_earliest (ht : e_isT t) (H : SH M 1 K) (hr : kR K) (hd : kD K) (hp : kP K) (hx : pfx K τ k) (hT : TT M t K τ k) (hk : 0 ≤ k ∧ k < 16) (ho : 0 ≤ o ∧ o < K 310) (hw2 : cnt τ o k < K (40 + o)) : e_lim L xs (d + 4) 65 0 [some (.ref t), some (.ref 1), some (.int (iI o)), none, none] [] (e_hp M V W) = some (.inl (some (.int (iI (scB K (uI τ k o) k)))), e_hp M V W, 0, 0) := by
  obtain ⟨ρ, ν, μ, χ, β, ε, G, hg⟩ := hT
  have hn := hr.n
  have hwk := hr.wk (o := o) ho.1 (by omega)
  have hcr : cnt ρ o k = cnt τ o k := cnt_cong fun p a b => (hg p a b).1.1
  obtain ⟨w, hw⟩ : ∃ w, w = cnt ρ o k := ⟨_, rfl⟩
  have hw0 := cnt_rg ρ o hk.1
  rw [← hw] at hw0
  have hw3 : w < K (40 + o) := by omega
  -- the row with the order at the next place
  have hx2 := hx.up hk.1 ho hw2
  have hv := hx2.vp
  have hg2 : agT K (uI τ k o) k ρ ν μ χ β ε := hg.tau (fun p a b => (uI_n _ _ (by omega)).symm)
  have hwk2 : scW (uI τ k o) k = w := by
    unfold scW
    rw [uI_s, hw, hcr]
    exact cnt_cong fun p a b => uI_n _ _ (by omega)
  obtain ⟨mc, hmc⟩ : ∃ mc, mc = K (48 + 4 * o + w) := ⟨_, rfl⟩
  obtain ⟨tl, htl⟩ : ∃ tl, tl = K (112 + 4 * o + w) := ⟨_, rfl⟩
  have hmc2 : mc = mcA K (uI τ k o) (scW (uI τ k o)) k := by
    unfold mcA
    rw [uI_s, hwk2]
    exact hmc
  have htl2 : tl = tlA K (uI τ k o) (scW (uI τ k o)) k := by
    unfold tlA
    rw [uI_s, hwk2]
    exact htl
  have hlo := loT_eq hr hg2 hk.1 ho (uI_s τ k o) hmc2 htl2
  have e0 := tg_ready (L := L) (xs := xs) (d := d) (V := V) (W := W) ht H hr hd G ho hw hw3 hmc htl (fun p a b => by rw [(hg p a b).1.1]; exact (hx.1 p a b).2)
  rw [hlo] at e0
  have hls := lo_spI hr hp hv (p := k) hk.1 (by omega)
  have hmr := hv.rg hr (p := k) hk.1 (by omega)
  rw [← hmc2] at hmr
  have htk := tk_pos hr hp ho (w := w) ⟨hw0.1, hw3⟩
  have e1 := m_atI (L := L) (xs := xs) (d := d + 3) (M := M) (V := V) (W := W) ht.i14 (z := o) ho.1 (by omega) (G.2.2.2.1.2.2.2 o ho.1 (by omega))
  simp only [← hw] at e1
  have e2 := s_workCell (L := L) (xs := xs) (d := d + 2) (V := V) (W := W) H hr ho.1 ho.2 (w := w) hw0.1 hw3 (j := 0) (by omega) (by omega)
  have e2' : e_lim L xs (d + 3) 30 0 [some (.ref 1), some (.int (iI o)), some (.int (iI w)), some (.int (iI 0))] [] (e_hp M V W) = some (.inl (some (.int (iI mc))), e_hp M V W, 0, 0) := by rw [hmc]; exact e2
  have e3 := s_timeOf (L := L) (xs := xs) (d := d + 1) (V := V) (W := W) H hr ho.1 ho.2 (w := w) hw0.1 hw3
  have e4 := tg_firstFree (L := L) (xs := xs) (d := d) (V := V) (W := W) ht H hr hd G.1.1 (k := k) (by omega) G.2.2.2.2.1 (m := mc) hmr.2.2.1 (T := tk K o w) htk (b0 := loW K (uI τ k o) (scW (uI τ k o)) (scE K (uI τ k o)) k) ⟨hls.1.1, hls.1.2⟩ (fun x a => bz3 hr hp hv hk.1 hg2 a)
  have hbl : blB K β ε k mc = blB K (scB K (uI τ k o)) (scE K (uI τ k o)) k mc := blB_cong (fun p a b => ⟨(hg2 p a b).2.2.1, (hg2 p a b).2.2.2⟩)
  have hsc : scB K (uI τ k o) k = zFF (blB K β ε k mc) (tk K o w) (loW K (uI τ k o) (scW (uI τ k o)) (scE K (uI τ k o)) k) := by
    rw [scB_eq K _ hk.1]
    unfold bgW
    rw [uI_s, hwk2, ← hmc2, hbl]
  rw [← hsc] at e4
  simp (disch := first | assumption | exact e_nk_i _ | exact e_nk_n | exact e_nk_r _ | exact e_bo_0 | exact e_bo_1 | exact e_bo_b _ | omega) only [e_cl_v, e_cl_x, e_add_0, e_add_s, Option.toList_some, Option.toList_none, List.cons_append, List.nil_append, iI_add, iI_sub, iI_mul, iI_lt, iI_eq, iI_le, r65_0, r65_1, r65_4, r65_5, r65_8, r65_9, r65_10, r65_11, r65_12, r65_13, r65_16, r65_18, r65_19, r65_20, r65_22, r65_23, r65_24, r65_25, r65_28, r65_29, r65_30, r65_31, r65_34, r65_37, e0, e1, e2', e3, e4]
/-- an order is laid at the next place, at its begin -/
theorem tg_layE (ht : e_isT t) (h11 : 11 ≤ t) (H : SH M 1 K) (hr : kR K) (hp : kP K) (hx : pfx K τ k) (hT : TT M t K τ k) (hk : 0 ≤ k ∧ k < 16) (ho : 0 ≤ o ∧ o < K 310) (hw2 : cnt τ o k < K (40 + o)) : ∃ M2 : e_MI, e_lim L xs (d + 3) 73 0 [some (.ref t), some (.ref 1), some (.int (iI o)), some (.int (iI (scB K (uI τ k o) k))), none, none, none, none] [] (e_hp M V W) = some (.inl none, e_hp M2 V W, 0, 0) ∧ TT M2 t K (uI τ k o) (k + 1) ∧ (∀ a, a < t ∨ t + 15 < a → M2 a = M a) ∧ M2 t 0 = M t 0 := by
  obtain ⟨ρ, ν, μ, χ, β, ε, G, hg⟩ := hT
  have hcr : cnt ρ o k = cnt τ o k := cnt_cong fun p a b => (hg p a b).1.1
  have hx2 := hx.up hk.1 ho hw2
  have hv := hx2.vp
  have hsp := sc_spI hr hp hv (p := k) hk.1 (by omega)
  have hwk2 : scW (uI τ k o) k = cnt ρ o k := by
    unfold scW
    rw [uI_s, hcr]
    exact cnt_cong fun p a b => uI_n _ _ (by omega)
  rw [uI_s, hwk2] at hsp
  obtain ⟨M2, e, G2, f, z⟩ := tg_lay (L := L) (xs := xs) (d := d) (V := V) (W := W) ht h11 H hr G hk.2 ho rfl (by omega) rfl rfl hsp.1.1 rfl (by rw [← hsp.2.1]; exact hsp.1.2)
  refine ⟨M2, e, ⟨_, _, _, _, _, _, G2, fun p a b => ?_⟩, f, z⟩
  by_cases hpk : p = k
  · subst hpk
    simp only [uI_s]
    refine ⟨⟨trivial, hwk2.symm⟩, ⟨?_, ?_⟩, trivial, hsp.2.1.symm⟩
    · unfold mcA
      rw [uI_s, hwk2]
    · unfold tlA
      rw [uI_s, hwk2]
  · have hg2 : agT K (uI τ k o) k ρ ν μ χ β ε := hg.tau (fun p a b => (uI_n _ _ (by omega)).symm)
    have := hg2 p a (by omega)
    rw [uI_n ρ _ hpk, uI_n ν _ hpk, uI_n μ _ hpk, uI_n χ _ hpk, uI_n β _ hpk, uI_n ε _ hpk]
    exact this
end Ec10
