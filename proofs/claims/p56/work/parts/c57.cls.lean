section Ec57
variable {K : e_St} {o w z m k q p i f e x y v n c : Int} {τ τ2 u : Int → Int} {s : Int × Int}
/-! what the end of a row is not below -/
theorem okR.en (hr : kR K) (hp : kP K) (h : okR K u) (h0 : 0 ≤ p) (h1 : p < aW K) : scE K u p = scB K u p + tk K (u p) (scW u p) ∧ loW K u (scW u) (scE K u) p ≤ scB K u p ∧ (0 ≤ scB K u p ∧ scB K u p + tk K (u p) (scW u p) ≤ 2000) ∧ scE K u p ≤ enR K u := by
  have a := sc_spI hr hp (vR.vp hr h.1) h0 h1
  have b := h.2 p h0 h1
  have e : scE K u p ≤ enR K u := mX_ge (by omega) p h0 h1
  rw [if_neg b] at a
  refine ⟨a.2.1, ?_, ⟨a.1.1.1, ?_⟩, e⟩
  · rcases a.2.2 with z | z
    · exact absurd z b
    · exact z.1
  · rcases a.2.2 with z | z
    · exact absurd z b
    · exact z.2
theorem plO_prev (hr : kR K) (hv : vR K u) (hn : 0 ≤ aW K) (ho : 0 ≤ o ∧ o < K 310) (hx : 1 ≤ x ∧ x < K (40 + o)) : oAh u (plO K u o x) = plO K u o (x - 1) ∧ plO K u o (x - 1) < plO K u o x := by
  obtain ⟨⟨a1, a2⟩, ⟨b1, b2⟩, -⟩ := plO_sp hr hv hn ho (w := x) (by omega)
  obtain ⟨⟨d1, d2⟩, ⟨f1, f2⟩, un⟩ := plO_sp hr hv hn ho (w := x - 1) (by omega)
  generalize plO K u o x = p at *
  have hc : cnt u o p = x := by
    have : scW u p = cnt u (u p) p := rfl
    rw [b1] at this
    omega
  have hz := zLP_cases (fun r => decide (u r = u p)) p a1
  have e : zLP (fun r => decide (u r = u p)) p = oAh u p := rfl
  rw [e] at hz
  rcases hz with ⟨y, g⟩ | ⟨y, g, g2, g3⟩
  · exfalso
    have h1 := cnt_ext (ρ := u) (o := o) (a := 0) (Int.le_refl _) p.toNat (fun q c d => by
      have := g q c (by omega)
      rw [decide_eq_false_iff_not, b1] at this
      exact this)
    rw [show (0 : Int) + (p.toNat : Int) = p by omega] at h1
    have h0 : cnt u o 0 = 0 := rfl
    omega
  · rw [decide_eq_true_eq, b1] at g2
    have h1 := cnt_ext (ρ := u) (o := o) (a := oAh u p + 1) (by omega) (p - (oAh u p + 1)).toNat (fun q c d => by
      have := g3 q (by omega) (by omega)
      rw [decide_eq_false_iff_not, b1] at this
      exact this)
    rw [show oAh u p + 1 + ((p - (oAh u p + 1)).toNat : Int) = p by omega] at h1
    have h2 := cnt_s u o y
    rw [if_pos g2] at h2
    have h3 : scW u (oAh u p) = x - 1 := by
      show cnt u (u (oAh u p)) (oAh u p) = x - 1
      rw [g2]
      omega
    have h4 := un _ y g2 h3
    exact ⟨h4, by omega⟩
theorem lb_ord (hr : kR K) (hp : kP K) (h : okR K u) (hn : 0 ≤ aW K) (ho : 0 ≤ o ∧ o < K 310) (hx : 1 ≤ x ∧ x < K (40 + o)) : scE K u (plO K u o (x - 1)) ≤ scB K u (plO K u o x) := by
  obtain ⟨⟨a1, a2⟩, -, -⟩ := plO_sp hr h.1 hn ho (w := x) (by omega)
  obtain ⟨⟨d1, d2⟩, -, -⟩ := plO_sp hr h.1 hn ho (w := x - 1) (by omega)
  obtain ⟨b1, b2⟩ := plO_prev hr h.1 hn ho hx
  have l := (lo_spI hr hp (vR.vp hr h.1) a1 a2).2.2.1
  rw [b1] at l
  have := (h.en hr hp a1 a2).2.1
  have := l (by omega)
  omega
theorem lb_rel (hr : kR K) (hp : kP K) (h : okR K u) (hn : 0 ≤ aW K) (ho : 0 ≤ o ∧ o < K 310) : ∀ x, 0 ≤ x → x < K (40 + o) → K (16 + o) + SU (tk K o) x ≤ scB K u (plO K u o x) := by
  refine SU_ind (P := fun x => x < K (40 + o) → K (16 + o) + SU (tk K o) x ≤ scB K u (plO K u o x)) (fun hx => ?_) (fun x hx ih hl => ?_)
  · obtain ⟨⟨a1, a2⟩, ⟨b1, b2⟩, -⟩ := plO_sp hr h.1 hn ho (w := 0) (by omega)
    have l := (lo_spI hr hp (vR.vp hr h.1) a1 a2).2.1
    rw [b1] at l
    have := (h.en hr hp a1 a2).2.1
    rw [SU_0]
    omega
  · have i1 := ih (by omega)
    have l := lb_ord hr hp h hn ho (x := x + 1) (by omega)
    rw [show x + 1 - 1 = x by omega] at l
    obtain ⟨⟨a1, a2⟩, ⟨b1, b2⟩, -⟩ := plO_sp hr h.1 hn ho (w := x) (by omega)
    have e := (h.en hr hp a1 a2).1
    rw [b1, b2] at e
    rw [SU_s _ hx]
    omega
theorem lb_tail (hr : kR K) (hp : kP K) (h : okR K u) (hn : 0 ≤ aW K) (ho : 0 ≤ o ∧ o < K 310) (hw : 0 ≤ w) : ∀ d : Nat, w + d < K (40 + o) → scE K u (plO K u o w) + (SU (tk K o) (w + d + 1) - SU (tk K o) (w + 1)) ≤ scE K u (plO K u o (w + d))
  | 0, hd => by
    rw [show w + ((0 : Nat) : Int) = w by omega]
    omega
  | d + 1, hd => by
    have ih := lb_tail hr hp h hn ho hw d (by omega)
    have l := lb_ord hr hp h hn ho (x := w + d + 1) (by omega)
    rw [show w + (d : Int) + 1 - 1 = w + d by omega] at l
    obtain ⟨⟨a1, a2⟩, ⟨b1, b2⟩, -⟩ := plO_sp hr h.1 hn ho (w := w + d + 1) (by omega)
    have e := (h.en hr hp a1 a2).1
    rw [b1, b2] at e
    have s := SU_s (tk K o) (n := w + d + 1) (by omega)
    rw [show w + ((d + 1 : Nat) : Int) = w + d + 1 by omega]
    omega
theorem SU_tail {g : Int → Int} (hk : 0 ≤ k) : ∀ d : Nat, SU (fun q => if k ≤ q then g q else 0) (k + d) = SU g (k + d) - SU g k
  | 0 => by
    rw [show k + ((0 : Nat) : Int) = k by omega]
    have : SU (fun q => if k ≤ q then g q else 0) k = SU (fun _ => 0) k := SU_cong fun i a b => by rw [if_neg (by omega)]
    rw [this, SU_z hk]
    omega
  | d + 1 => by
    have ih := SU_tail (g := g) hk d
    rw [show k + ((d + 1 : Nat) : Int) = k + d + 1 by omega, SU_s _ (by omega), SU_s _ (by omega), if_pos (by omega), ih]
    omega
theorem tF_SU (hw : 0 ≤ f ∧ f ≤ K (40 + o)) : tF K o f = SU (tk K o) (K (40 + o)) - SU (tk K o) f := by
  have := SU_tail (g := tk K o) hw.1 (K (40 + o) - f).toNat
  rw [show f + ((K (40 + o) - f).toNat : Int) = K (40 + o) by omega] at this
  exact this
/-- an order's works behind -/
theorem lb_order (hr : kR K) (hp : kP K) (h : okR K u) (hn : 0 ≤ aW K) (h0 : 0 ≤ p) (h1 : p < aW K) : scE K u p + tF K (u p) (scW u p + 1) ≤ enR K u := by
  have v := vR.vp hr h.1 p h0 h1
  have hsw : scW u p = cnt u (u p) p := rfl
  have hc := cnt_rg u (u p) h0
  have l := lb_tail hr hp h hn (o := u p) v.1 (w := scW u p) (by omega) (K (40 + u p) - 1 - scW u p).toNat (by omega)
  rw [plO_self hr h.1 hn h0 h1, show scW u p + ((K (40 + u p) - 1 - scW u p).toNat : Int) = K (40 + u p) - 1 by omega] at l
  obtain ⟨⟨a1, a2⟩, -, -⟩ := plO_sp hr h.1 hn (o := u p) v.1 (w := K (40 + u p) - 1) (by omega)
  have e := (h.en hr hp a1 a2).2.2.2
  rw [tF_SU (by omega)]
  rw [show K (40 + u p) - 1 + 1 = K (40 + u p) by omega] at l
  omega
/-- the time of a row's works on a machine, up to a place -/
def mcS (K : e_St) (u : Int → Int) (m k : Int) : Int := SU (fun q => if mcA K u (scW u) q = m then tk K (u q) (scW u q) else 0) k
theorem mcS_all (hr : kR K) (hv : vR K u) (hn : 0 ≤ aW K) : mcS K u m (aW K) = lO K m := by
  have := SU_row (τ := u) (fun o w => if K (48 + 4 * o + w) = m then tk K o w else 0) hr.n.1 _ hn hv.1
  unfold lO tO
  have e : mcS K u m (aW K) = SU (fun p => (fun o w => if K (48 + 4 * o + w) = m then tk K o w else 0) (u p) (scW u p)) (aW K) := rfl
  rw [e, this]
  exact SU_cong fun o a b => by rw [hv.2 o a b]
theorem mcS_s (hk : 0 ≤ k) : mcS K u m (k + 1) = mcS K u m k + if mcA K u (scW u) k = m then tk K (u k) (scW u k) else 0 := SU_s _ hk
theorem lb_next (hr : kR K) (hp : kP K) (h : okR K u) (h0 : 0 ≤ p) (h1 : p < q) (h2 : q < aW K) (he : mcA K u (scW u) p = mcA K u (scW u) q) : scE K u p ≤ scB K u q := by
  have a := sc_machI hr hp (vR.vp hr h.1) h0 h1 h2 he
  have b := (h.en hr hp (p := q) (by omega) h2).2.1
  omega
/-- a machine's works behind -/
theorem lb_mach (hr : kR K) (hp : kP K) (h : okR K u) (h0 : 0 ≤ p) : ∀ d : Nat, p + d < aW K → ∃ l, p ≤ l ∧ l ≤ p + d ∧ mcA K u (scW u) l = mcA K u (scW u) p ∧ scE K u p + (mcS K u (mcA K u (scW u) p) (p + d + 1) - mcS K u (mcA K u (scW u) p) (p + 1)) ≤ scE K u l
  | 0, hd => ⟨p, by omega, by omega, rfl, by
    rw [show p + ((0 : Nat) : Int) = p by omega]
    omega⟩
  | d + 1, hd => by
    obtain ⟨l, a, b, c, e⟩ := lb_mach hr hp h h0 d (by omega)
    have s := mcS_s (K := K) (u := u) (m := mcA K u (scW u) p) (k := p + d + 1) (by omega)
    rw [show p + ((d + 1 : Nat) : Int) = p + d + 1 by omega]
    by_cases hq : mcA K u (scW u) (p + d + 1) = mcA K u (scW u) p
    · rw [if_pos hq] at s
      have g := lb_next hr hp h (p := l) (q := p + d + 1) (by omega) (by omega) (by omega) (by rw [c, hq])
      have t := (h.en hr hp (p := p + d + 1) (by omega) (by omega)).1
      exact ⟨p + d + 1, by omega, by omega, hq, by omega⟩
    · rw [if_neg hq] at s
      exact ⟨l, a, by omega, c, by omega⟩
theorem lb_machine (hr : kR K) (hp : kP K) (h : okR K u) (hn : 0 ≤ aW K) (h0 : 0 ≤ p) (h1 : p < aW K) : scE K u p + (lO K (mcA K u (scW u) p) - mcS K u (mcA K u (scW u) p) (p + 1)) ≤ enR K u := by
  obtain ⟨l, a, b, c, e⟩ := lb_mach hr hp h h0 (aW K - 1 - p).toNat (by omega)
  rw [show p + ((aW K - 1 - p).toNat : Int) + 1 = aW K by omega, mcS_all hr h.1 hn] at e
  have := (h.en hr hp (p := l) (by omega) (by omega)).2.2.2
  omega
/-- a machine's first and last work -/
theorem lb_whole (hr : kR K) (hp : kP K) (h : okR K u) : ∀ n, 0 ≤ n → n ≤ aW K → (mcS K u m n = 0 ∧ ∀ q, 0 ≤ q → q < n → mcA K u (scW u) q ≠ m) ∨ ∃ p l, 0 ≤ p ∧ p ≤ l ∧ l < n ∧ mcA K u (scW u) p = m ∧ mcA K u (scW u) l = m ∧ scB K u p + mcS K u m n ≤ scE K u l := by
  refine SU_ind (P := fun n => n ≤ aW K → (mcS K u m n = 0 ∧ ∀ q, 0 ≤ q → q < n → mcA K u (scW u) q ≠ m) ∨ ∃ p l, 0 ≤ p ∧ p ≤ l ∧ l < n ∧ mcA K u (scW u) p = m ∧ mcA K u (scW u) l = m ∧ scB K u p + mcS K u m n ≤ scE K u l) (fun _ => Or.inl ⟨rfl, fun q a b => by omega⟩) (fun n hn ih hl => ?_)
  rw [mcS_s hn]
  have e := (h.en hr hp hn (by omega)).1
  by_cases hq : mcA K u (scW u) n = m
  · rw [if_pos hq]
    rcases ih (by omega) with ⟨a, b⟩ | ⟨p, l, a, b, c, d, f, g⟩
    · exact Or.inr ⟨n, n, hn, Int.le_refl _, by omega, hq, hq, by omega⟩
    · have := lb_next hr hp h (p := l) (q := n) (by omega) c (by omega) (by rw [f, hq])
      exact Or.inr ⟨p, n, a, by omega, by omega, d, hq, by omega⟩
  · rw [if_neg hq, Int.add_zero]
    rcases ih (by omega) with ⟨a, b⟩ | ⟨p, l, a, b, c, d, f, g⟩
    · refine Or.inl ⟨a, fun q x y => ?_⟩
      by_cases hqn : q = n
      · rw [hqn]; exact hq
      · exact b q x (by omega)
    · exact Or.inr ⟨p, l, a, b, by omega, d, f, g⟩
theorem bdS_min (hr : kR K) (ho : 0 ≤ o ∧ o < K 310) : ∀ j : Nat, (j : Int) ≤ K (40 + o) → (s.1 ≠ -1 → (bdS K m o s j).1 ≠ -1 ∧ (bdS K m o s j).1 ≤ s.1) ∧ (s.2 ≠ -1 → (bdS K m o s j).2 ≠ -1 ∧ (bdS K m o s j).2 ≤ s.2) ∧ ∀ w, 0 ≤ w → w < (j : Int) → K (48 + 4 * o + w) = m → ((bdS K m o s j).1 ≠ -1 ∧ (bdS K m o s j).1 ≤ K (16 + o) + tF K o 0 - tF K o w) ∧ (bdS K m o s j).2 ≠ -1 ∧ (bdS K m o s j).2 ≤ tF K o (w + 1)
  | 0, _ => ⟨fun h => ⟨h, Int.le_refl _⟩, fun h => ⟨h, Int.le_refl _⟩, fun w a b => by omega⟩
  | j + 1, hj => by
    obtain ⟨i1, i2, i3⟩ := bdS_min hr ho j (by omega)
    have hn := hr.n
    have r1 := hr.re (o := o) ho.1 (by omega)
    have r5 := tF_mono hr (o := o) (f := 0) (f2 := (j : Int)) (by omega) (by omega)
    have r4 := tF_rg hr (o := o) (f := (j : Int) + 1) (by omega)
    unfold bdS
    by_cases hq : K (48 + 4 * o + (j : Int)) = m
    · rw [if_pos hq]
      simp only
      refine ⟨fun h => ?_, fun h => ?_, fun w a b c => ?_⟩
      · have := i1 h
        split <;> omega
      · have := i2 h
        split <;> omega
      · by_cases hw : w = (j : Int)
        · subst hw
          constructor
          · split <;> omega
          · split <;> omega
        · have := i3 w a (by omega) c
          constructor
          · split <;> omega
          · split <;> omega
    · rw [if_neg hq]
      refine ⟨i1, i2, fun w a b c => ?_⟩
      by_cases hw : w = (j : Int)
      · subst hw
        exact absurd c hq
      · exact i3 w a (by omega) c
theorem bdO_min (hr : kR K) : ∀ n : Nat, (n : Int) ≤ K 310 → ∀ o w, 0 ≤ o → o < (n : Int) → 0 ≤ w → w < K (40 + o) → K (48 + 4 * o + w) = m → ((bdO K m n).1 ≠ -1 ∧ (bdO K m n).1 ≤ K (16 + o) + tF K o 0 - tF K o w) ∧ (bdO K m n).2 ≠ -1 ∧ (bdO K m n).2 ≤ tF K o (w + 1)
  | 0, _, o, w, a, b, _, _, _ => by omega
  | n + 1, hn, o, w, a, b, c, d, e => by
    have hw := hr.wk (o := (n : Int)) (by omega) (by have := hr.n; omega)
    obtain ⟨g1, g2, g3⟩ := bdS_min (m := m) (s := bdO K m n) hr (o := (n : Int)) ⟨by omega, by omega⟩ (K (40 + (n : Int))).toNat (by omega)
    unfold bdO
    by_cases ho : o = (n : Int)
    · subst ho
      exact g3 w c (by omega) e
    · have ih := bdO_min hr n (by omega) o w a (by omega) c d e
      have k1 := g1 ih.1.1
      have k2 := g2 ih.2.1
      exact ⟨⟨k1.1, by omega⟩, k2.1, by omega⟩
theorem bdW_le (hr : kR K) (hp : kP K) (h : okR K u) (hn : 0 ≤ aW K) (hm : 0 ≤ m ∧ m ≤ 3) : bdW K m ≤ enR K u := by
  have hn8 := hr.n
  have h0 : 0 ≤ enR K u := mX_0 hn
  have be := bdO_e (m := m) hr hp (K 310).toNat (by omega)
  rw [show (((K 310).toNat : Nat) : Int) = K 310 by omega] at be
  have hlo : SU (fun o => tO K o m) (K 310) = lO K m := rfl
  rw [hlo] at be
  rcases lb_whole (m := m) hr hp h (aW K) hn (Int.le_refl _) with ⟨a, b⟩ | ⟨p, l, a, b, c, d, f, g⟩
  · rw [mcS_all hr h.1 hn] at a
    unfold bdW
    rw [if_pos (be.1.mpr a)]
    exact h0
  · rw [mcS_all hr h.1 hn] at g
    have vp := vR.vp hr h.1 p a (by omega)
    have vl := vR.vp hr h.1 l (by omega) c
    have sp : scW u p = cnt u (u p) p := rfl
    have sl : scW u l = cnt u (u l) l := rfl
    have cp := cnt_rg u (u p) a
    have cl := cnt_rg u (u l) (show 0 ≤ l by omega)
    have k1 := (bdO_min (m := m) hr (K 310).toNat (by omega) (u p) (scW u p) vp.1.1 (by omega) (by omega) (by omega) d).1
    have k2 := (bdO_min (m := m) hr (K 310).toNat (by omega) (u l) (scW u l) vl.1.1 (by omega) (by omega) (by omega) f).2
    have k3 := lb_order hr hp h hn (p := l) (by omega) c
    have k4 := lb_rel hr hp h hn (o := u p) vp.1 (scW u p) (by omega) (by omega)
    rw [plO_self hr h.1 hn a (by omega)] at k4
    have t1 := tF_SU (K := K) (o := u p) (f := 0) ⟨by omega, by omega⟩
    have t2 := tF_SU (K := K) (o := u p) (f := scW u p) ⟨by omega, by omega⟩
    have t3 : SU (tk K (u p)) 0 = 0 := rfl
    unfold bdW
    rw [if_neg k1.1]
    omega
theorem boF_le (hr : kR K) (hp : kP K) (h : okR K u) (hn : 0 ≤ aW K) (ho : 0 ≤ o ∧ o < K 310) : boF K o ≤ enR K u := by
  have h0 : 0 ≤ enR K u := mX_0 hn
  unfold boF
  by_cases hw : 0 < K (40 + o)
  · rw [if_pos hw]
    obtain ⟨⟨a1, a2⟩, ⟨b1, b2⟩, -⟩ := plO_sp hr h.1 hn ho (w := 0) (by omega)
    have k1 := lb_order hr hp h hn a1 a2
    have k2 := lb_rel hr hp h hn ho 0 (by omega) hw
    have e := (h.en hr hp a1 a2).1
    rw [b1, b2] at k1 e
    have t1 := tF_SU (K := K) (o := o) (f := 0) ⟨by omega, by omega⟩
    have t2 := tF_SU (K := K) (o := o) (f := 0 + 1) ⟨by omega, by omega⟩
    have s := SU_s (tk K o) (n := 0) (by omega)
    have t3 : SU (tk K o) 0 = 0 := rfl
    omega
  · rw [if_neg hw]
    exact h0
theorem boW_le (hr : kR K) (hp : kP K) (h : okR K u) (hn : 0 ≤ aW K) : boW K ≤ enR K u := by
  have h0 : 0 ≤ enR K u := mX_0 hn
  have b0 : mX (boF K) (K 310) ≤ enR K u := mX_le hr.n.1 h0 (fun o a b => boF_le hr hp h hn ⟨a, b⟩)
  have gen : ∀ j : Nat, j ≤ 4 → boM K j ≤ enR K u := by
    intro j
    induction j with
    | zero => intro _; exact b0
    | succ j ih =>
      intro hj
      have := ih (by omega)
      have := bdW_le hr hp h hn (m := (j : Int)) (by omega)
      unfold boM
      split <;> omega
  exact gen 4 (Nat.le_refl _)
end Ec57
