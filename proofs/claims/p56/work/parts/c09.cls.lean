section Ec09
variable {K : e_St} {o j w z m k q p i x : Int} {ρ ν μ χ ω β ε τ u : Int → Int}
/-! the times of a row: what holds of them -/
def vP (K : e_St) (τ : Int → Int) (k : Int) : Prop := ∀ p, 0 ≤ p → p < k → (0 ≤ τ p ∧ τ p < K 310) ∧ cnt τ (τ p) p < K (40 + τ p)
theorem pfx.vp (h : pfx K τ k) : vP K τ k := fun p a b => by
  have h1 := h.1 p a b
  have h2 := h.2 (τ p) h1.1 h1.2
  have h3 := cnt_mono (τ := τ) (o := τ p) (i := p + 1) (n := k) (by omega) (by omega)
  have h4 := cnt_s τ (τ p) a
  rw [if_pos rfl] at h4
  exact ⟨h1, by omega⟩
theorem vR.vp (hr : kR K) (h : vR K τ) : vP K τ (aW K) := fun p a b => ⟨h.1 p a b, (h.c hr a b).2.1⟩
theorem vP.le (h : vP K τ k) (hm : m ≤ k) : vP K τ m := fun p a b => h p a (by omega)
theorem vP.rg (hr : kR K) (h : vP K τ k) (h0 : 0 ≤ p) (h1 : p < k) : (0 ≤ τ p ∧ τ p ≤ 7) ∧ (0 ≤ scW τ p ∧ scW τ p ≤ 3) ∧ (0 ≤ mcA K τ (scW τ) p ∧ mcA K τ (scW τ) p ≤ 3) ∧ (-1 ≤ tlA K τ (scW τ) p ∧ tlA K τ (scW τ) p ≤ 2) := by
  have a := h p h0 h1
  have hn := hr.n
  have hw := hr.wk (o := τ p) a.1.1 (by omega)
  have hc := cnt_rg τ (τ p) h0
  have e : scW τ p = cnt τ (τ p) p := rfl
  have r1 := hr.mc (i := 4 * τ p + scW τ p) (by omega) (by omega)
  have r2 := hr.tl (i := 4 * τ p + scW τ p) (by omega) (by omega)
  rw [show 48 + (4 * τ p + scW τ p) = 48 + 4 * τ p + scW τ p by omega] at r1
  rw [show 112 + (4 * τ p + scW τ p) = 112 + 4 * τ p + scW τ p by omega] at r2
  exact ⟨by omega, by omega, r1, r2⟩
/-- what the begin of a work waits for -/
theorem lo_sp (hr : kR K) (h0 : 0 ≤ p) (hρ : ∀ q, 0 ≤ q → q ≤ p → 0 ≤ ρ q ∧ ρ q ≤ 7) (hm : 0 ≤ mcA K ρ ω p ∧ mcA K ρ ω p ≤ 3) (he : ∀ q, 0 ≤ q → q < p → 0 ≤ ε q ∧ ε q ≤ 2001) : (0 ≤ loW K ρ ω ε p ∧ loW K ρ ω ε p ≤ 2100) ∧ K (16 + ρ p) ≤ loW K ρ ω ε p ∧ (oAh ρ p ≠ -1 → ε (oAh ρ p) ≤ loW K ρ ω ε p) ∧ (mAh K ρ ω p ≠ -1 → ε (mAh K ρ ω p) + sT K (mcA K ρ ω p) (K (ρ (mAh K ρ ω p))) (K (ρ p)) ≤ loW K ρ ω ε p ∧ 0 ≤ sT K (mcA K ρ ω p) (K (ρ (mAh K ρ ω p))) (K (ρ p))) ∧ (tAh K ρ ω p ≠ -1 → ε (tAh K ρ ω p) ≤ loW K ρ ω ε p) := by
  have c1 := oAh_rg ρ h0
  have c2 := mAh_rg K ρ ω h0
  have c3 := tAh_rg K ρ ω h0
  have q1 := hρ p h0 (Int.le_refl _)
  have r0 := hr.re (o := ρ p) q1.1 (by omega)
  have k1 := hr.kd (o := ρ p) q1.1 (by omega)
  have rA : (K (16 + ρ p) ≤ loA K ρ ε p ∧ loA K ρ ε p ≤ 2001) ∧ (oAh ρ p ≠ -1 → ε (oAh ρ p) ≤ loA K ρ ε p) := by
    unfold loA
    rcases c1 with z | z
    · rw [z]
      simp
      omega
    · have e1 := he _ z.1 z.2
      split <;> omega
  have rS : (0 ≤ loS K ρ ω ε p ∧ loS K ρ ω ε p ≤ 2021) ∧ (mAh K ρ ω p ≠ -1 → ε (mAh K ρ ω p) + sT K (mcA K ρ ω p) (K (ρ (mAh K ρ ω p))) (K (ρ p)) ≤ loS K ρ ω ε p ∧ 0 ≤ sT K (mcA K ρ ω p) (K (ρ (mAh K ρ ω p))) (K (ρ p))) := by
    unfold loS
    rcases c2 with z | z
    · rw [z]
      simp
    · have e1 := he _ z.1 z.2
      have q2 := hρ _ z.1 (by omega)
      have k2 := hr.kd (o := ρ (mAh K ρ ω p)) q2.1 (by omega)
      have e2 := sT_rg hr (m := mcA K ρ ω p) (f := K (ρ (mAh K ρ ω p))) (t := K (ρ p)) hm (by omega) (by omega)
      rw [if_neg (by omega)]
      omega
  have rB : (loA K ρ ε p ≤ loB K ρ ω ε p ∧ loS K ρ ω ε p ≤ loB K ρ ω ε p) ∧ loB K ρ ω ε p ≤ 2021 := by
    unfold loB
    split <;> omega
  have rW : loB K ρ ω ε p ≤ loW K ρ ω ε p ∧ loW K ρ ω ε p ≤ 2100 ∧ (tAh K ρ ω p ≠ -1 → ε (tAh K ρ ω p) ≤ loW K ρ ω ε p) := by
    rw [loW_eq]
    rcases c3 with z | z
    · rw [z]
      simp
      omega
    · have e1 := he _ z.1 z.2
      split <;> omega
  refine ⟨by omega, by omega, fun a => ?_, fun a => ?_, rW.2.2⟩
  · have := rA.2 a
    omega
  · have := rS.2 a
    omega
theorem tk_pos (hr : kR K) (hp : kP K) (ho : 0 ≤ o ∧ o < K 310) (hw : 0 ≤ w ∧ w < K (40 + o)) : 1 ≤ tk K o w ∧ tk K o w ≤ 81 := by
  have hn := hr.n
  have hwk := hr.wk (o := o) ho.1 (by omega)
  have a := hp.1 o ho.1 ho.2
  have b := hp.2 o w ho.1 ho.2 hw.1 hw.2
  have h4 := tk_rg hr (o := o) (w := w) (by omega) (by omega)
  refine ⟨?_, h4.2⟩
  unfold tk
  have := Int.mul_le_mul a b (by omega) (by omega)
  omega
theorem sc_sp (hr : kR K) (hp : kP K) (hv : vP K τ k) : ∀ b p : Nat, p ≤ b → (p : Int) < k → ((0 ≤ scB K τ p ∧ scB K τ p ≤ 2001) ∧ (0 ≤ scE K τ p ∧ scE K τ p ≤ 2001)) ∧ (scE K τ p = if scB K τ p = 2001 then 2001 else scB K τ p + tk K (τ p) (scW τ p)) ∧ (scB K τ p = 2001 ∨ (loW K τ (scW τ) (scE K τ) p ≤ scB K τ p ∧ scB K τ p + tk K (τ p) (scW τ p) ≤ 2000))
  | b, p, hb, hk => by
    have he : ∀ q, 0 ≤ q → q < (p : Int) → 0 ≤ scE K τ q ∧ scE K τ q ≤ 2001 := fun q a c => by
      match b, hb with
      | 0, hb => omega
      | b + 1, hb =>
        have := sc_sp hr hp hv b q.toNat (by omega) (by omega)
        rw [Int.toNat_of_nonneg a] at this
        exact this.1.2
    have w := hv.rg hr (p := p) (by omega) hk
    have l := lo_sp hr (ρ := τ) (ω := scW τ) (ε := scE K τ) (p := p) (by omega) (fun q a c => (hv.rg hr a (by omega)).1) w.2.2.1 he
    have v := hv p (by omega) hk
    have hw : scW τ p = cnt τ (τ p) p := rfl
    have t := tk_pos hr hp (o := τ p) (w := scW τ p) v.1 (by omega)
    have hB : scB K τ p = zFF (blB K (scB K τ) (scE K τ) p (mcA K τ (scW τ) p)) (tk K (τ p) (scW τ p)) (loW K τ (scW τ) (scE K τ) p) := scB_eq K τ (by omega)
    have hE : scE K τ p = if scB K τ p = 2001 then 2001 else scB K τ p + tk K (τ p) (scW τ p) := by
      rw [scE_eq K τ (by omega)]
      unfold enW
      rw [← scB_eq K τ (by omega)]
    have sp := zFF_spec (p := blB K (scB K τ) (scE K τ) p (mcA K τ (scW τ) p)) (time := tk K (τ p) (scW τ p)) (by omega) (2001 - loW K τ (scW τ) (scE K τ) p).toNat (loW K τ (scW τ) (scE K τ) p) l.1.1 (Nat.le_refl _)
    rw [← hB] at sp
    refine ⟨?_, hE, ?_⟩
    · rw [hE]
      rcases sp with ⟨a, c⟩ | ⟨a, c, e, g⟩
      · rw [if_pos a]
        omega
      · split <;> omega
    · rcases sp with ⟨a, c⟩ | ⟨a, c, e, g⟩
      · exact Or.inl a
      · exact Or.inr ⟨a, c⟩
theorem sc_spI (hr : kR K) (hp : kP K) (hv : vP K τ k) (h0 : 0 ≤ p) (h1 : p < k) : ((0 ≤ scB K τ p ∧ scB K τ p ≤ 2001) ∧ (0 ≤ scE K τ p ∧ scE K τ p ≤ 2001)) ∧ (scE K τ p = if scB K τ p = 2001 then 2001 else scB K τ p + tk K (τ p) (scW τ p)) ∧ (scB K τ p = 2001 ∨ (loW K τ (scW τ) (scE K τ) p ≤ scB K τ p ∧ scB K τ p + tk K (τ p) (scW τ p) ≤ 2000)) := by
  have := sc_sp hr hp hv p.toNat p.toNat (Nat.le_refl _) (by omega)
  rw [Int.toNat_of_nonneg h0] at this
  exact this
theorem lo_spI (hr : kR K) (hp : kP K) (hv : vP K τ k) (h0 : 0 ≤ p) (h1 : p < k) : (0 ≤ loW K τ (scW τ) (scE K τ) p ∧ loW K τ (scW τ) (scE K τ) p ≤ 2100) ∧ K (16 + τ p) ≤ loW K τ (scW τ) (scE K τ) p ∧ (oAh τ p ≠ -1 → scE K τ (oAh τ p) ≤ loW K τ (scW τ) (scE K τ) p) ∧ (mAh K τ (scW τ) p ≠ -1 → scE K τ (mAh K τ (scW τ) p) + sT K (mcA K τ (scW τ) p) (K (τ (mAh K τ (scW τ) p))) (K (τ p)) ≤ loW K τ (scW τ) (scE K τ) p ∧ 0 ≤ sT K (mcA K τ (scW τ) p) (K (τ (mAh K τ (scW τ) p))) (K (τ p))) ∧ (tAh K τ (scW τ) p ≠ -1 → scE K τ (tAh K τ (scW τ) p) ≤ loW K τ (scW τ) (scE K τ) p) :=
  lo_sp hr h0 (fun q a c => (hv.rg hr a (by omega)).1) (hv.rg hr h0 h1).2.2.1 (fun q a c => (sc_spI hr hp hv a (by omega)).1.2)
/-- a machine does one work at a time -/
theorem sc_mach (hr : kR K) (hp : kP K) (hv : vP K τ k) : ∀ b q : Nat, (q : Int) ≤ b → (q : Int) < k → ∀ p, 0 ≤ p → p < (q : Int) → mcA K τ (scW τ) p = mcA K τ (scW τ) q → scE K τ p ≤ loW K τ (scW τ) (scE K τ) q
  | b, q, hb, hk, p, h0, h1, he => by
    have l := lo_spI hr hp hv (p := q) (by omega) hk
    have hc := zLP_cases (fun r => decide (mcA K τ (scW τ) r = mcA K τ (scW τ) q)) q (by omega)
    have e : zLP (fun r => decide (mcA K τ (scW τ) r = mcA K τ (scW τ) q)) q = mAh K τ (scW τ) q := rfl
    rw [e] at hc
    rcases hc with ⟨a, c⟩ | ⟨a, c, g, f⟩
    · have := c p h0 h1
      rw [decide_eq_false_iff_not] at this
      exact absurd he this
    · have m1 := l.2.2.2.1 (by omega)
      by_cases hpq : p = mAh K τ (scW τ) q
      · rw [hpq]
        omega
      · by_cases hlt : mAh K τ (scW τ) q < p
        · have := f p hlt h1
          rw [decide_eq_false_iff_not] at this
          exact absurd he this
        · match b, hb with
          | 0, hb => omega
          | b + 1, hb =>
            have ih := sc_mach hr hp hv b (mAh K τ (scW τ) q).toNat (by omega) (by omega) p h0 (by omega) (by
              rw [Int.toNat_of_nonneg a]
              rw [decide_eq_true_eq] at g
              rw [g]
              exact he)
            rw [Int.toNat_of_nonneg a] at ih
            have s1 := sc_spI hr hp hv a (show mAh K τ (scW τ) q < k by omega)
            have s2 := sc_spI hr hp hv h0 (show p < k by omega)
            have v := hv (mAh K τ (scW τ) q) a (by omega)
            have hw := hv.rg hr (p := mAh K τ (scW τ) q) a (by omega)
            have hsw : scW τ (mAh K τ (scW τ) q) = cnt τ (τ (mAh K τ (scW τ) q)) (mAh K τ (scW τ) q) := rfl
            have t := tk_pos hr hp (o := τ (mAh K τ (scW τ) q)) (w := scW τ (mAh K τ (scW τ) q)) v.1 (by omega)
            rcases s1.2.2 with z | z
            · have := s1.2.1
              rw [if_pos z] at this
              omega
            · have := s1.2.1
              rw [if_neg (by omega)] at this
              omega
theorem sc_machI (hr : kR K) (hp : kP K) (hv : vP K τ k) (h0 : 0 ≤ p) (h1 : p < q) (h2 : q < k) (he : mcA K τ (scW τ) p = mcA K τ (scW τ) q) : scE K τ p ≤ loW K τ (scW τ) (scE K τ) q := by
  have := sc_mach hr hp hv q.toNat q.toNat (by omega) (by omega) p h0 (by omega) (by rw [Int.toNat_of_nonneg (by omega)]; exact he)
  rw [Int.toNat_of_nonneg (by omega)] at this
  exact this
theorem SU_one_le {f : Int → Int} : ∀ n : Nat, (∀ i, 0 ≤ i → i < (n : Int) → f i = 0 ∨ f i = 1) → (∀ i j, 0 ≤ i → i < j → j < (n : Int) → f i = 1 → f j = 0) → SU f n ≤ 1
  | 0, _, _ => by show (0 : Int) ≤ 1; omega
  | n + 1, h1, h2 => by
    have ih := SU_one_le n (fun i a b => h1 i a (by omega)) (fun i j a b c => h2 i j a b (by omega))
    rw [show ((n + 1 : Nat) : Int) = n + 1 by omega, SU_s _ (by omega)]
    rcases h1 n (by omega) (by omega) with z | z
    · omega
    · have : SU f n = SU (fun _ => 0) n := SU_cong (fun i a b => by
        rcases h1 i a (by omega) with y | y
        · exact y
        · have := h2 i n a b (by omega) y
          omega)
      have h0 := SU_le (f := fun _ => 0) (n := (n : Int)) (c := 0) (fun i a b => by omega) (by omega)
      omega
/-- works of one machine that are done at x -/
def bzM (μ β ε : Int → Int) (m k x : Int) : Int := SU (fun p => if μ p = m ∧ β p ≤ x ∧ x ≤ ε p - 1 then 1 else 0) k
theorem bz_split (hk : 0 ≤ k) (hμ : ∀ p, 0 ≤ p → p < k → 0 ≤ μ p ∧ μ p ≤ 3) : bz β ε k x = bzM μ β ε 0 k x + bzM μ β ε 1 k x + bzM μ β ε 2 k x + bzM μ β ε 3 k x := by
  unfold bz bzM
  rw [← SU_add _ _ hk, ← SU_add _ _ hk, ← SU_add _ _ hk]
  refine SU_cong fun p a b => ?_
  have := hμ p a b
  by_cases hq : β p ≤ x ∧ x ≤ ε p - 1
  · rw [if_pos hq]
    rcases (show μ p = 0 ∨ μ p = 1 ∨ μ p = 2 ∨ μ p = 3 by omega) with z | z | z | z <;> simp [z, hq]
  · rw [if_neg hq, if_neg (fun z => hq z.2), if_neg (fun z => hq z.2), if_neg (fun z => hq z.2), if_neg (fun z => hq z.2)]
    rfl
theorem bzM_0 (hk : 0 ≤ k) (h : ∀ p, 0 ≤ p → p < k → μ p = m → ε p ≤ x) : bzM μ β ε m k x = 0 := by
  unfold bzM
  rw [SU_cong (g := fun _ => 0) (fun p a b => if_neg (fun z => by
    have := h p a b z.1
    omega))]
  have := SU_le (f := fun _ => 0) (n := k) (c := 0) (fun i a b => by omega) hk
  omega
theorem bzM_1 (hk : 0 ≤ k) (h : ∀ p q, 0 ≤ p → p < q → q < k → μ p = m → μ q = m → ε p ≤ β q) : 0 ≤ bzM μ β ε m k x ∧ bzM μ β ε m k x ≤ 1 := by
  unfold bzM
  refine ⟨(SU_le (c := 1) (fun i a b => by split <;> omega) hk).1, ?_⟩
  have := SU_one_le (f := fun p => if μ p = m ∧ β p ≤ x ∧ x ≤ ε p - 1 then 1 else 0) k.toNat (fun i a b => by split <;> omega) (fun i j a b c y => by
    split at y
    · next z =>
      refine if_neg (fun v => ?_)
      have := h i j a b (by omega) z.1 v.1
      omega
    · omega)
  rw [Int.toNat_of_nonneg hk] at this
  exact this
/-- a machine that has come to rest leaves at most three others -/
theorem bz_le3 (hk : 0 ≤ k) (hμ : ∀ p, 0 ≤ p → p < k → 0 ≤ μ p ∧ μ p ≤ 3) (hm : 0 ≤ m ∧ m ≤ 3) (h0 : ∀ p, 0 ≤ p → p < k → μ p = m → ε p ≤ x) (h1 : ∀ p q, 0 ≤ p → p < q → q < k → μ p = μ q → ε p ≤ β q) : bz β ε k x ≤ 3 := by
  rw [bz_split hk hμ]
  have b0 := bzM_1 (μ := μ) (β := β) (ε := ε) (m := 0) (x := x) hk (fun p q a b c y z => h1 p q a b c (by omega))
  have b1 := bzM_1 (μ := μ) (β := β) (ε := ε) (m := 1) (x := x) hk (fun p q a b c y z => h1 p q a b c (by omega))
  have b2 := bzM_1 (μ := μ) (β := β) (ε := ε) (m := 2) (x := x) hk (fun p q a b c y z => h1 p q a b c (by omega))
  have b3 := bzM_1 (μ := μ) (β := β) (ε := ε) (m := 3) (x := x) hk (fun p q a b c y z => h1 p q a b c (by omega))
  have z := bzM_0 (μ := μ) (β := β) (ε := ε) (m := m) (x := x) hk h0
  rcases (show m = 0 ∨ m = 1 ∨ m = 2 ∨ m = 3 by omega) with y | y | y | y <;> subst y <;> omega
end Ec09
