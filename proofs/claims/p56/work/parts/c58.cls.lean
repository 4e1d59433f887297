section Ec58
variable {K : e_St} {o w z m k q p i j f e x y n c : Int} {τ τ2 u v : Int → Int}
/-! two places side by side that do not touch each other -/
def sw (j p : Int) : Int := if p = j - 1 then j else if p = j then j - 1 else p
theorem sw_sw (j p : Int) : sw j (sw j p) = p := by
  unfold sw
  by_cases h1 : p = j - 1
  · rw [if_pos h1, if_neg (by omega), if_pos rfl, h1]
  · rw [if_neg h1]
    by_cases h2 : p = j
    · rw [if_pos h2, if_pos rfl, h2]
    · rw [if_neg h2, if_neg h1, if_neg h2]
theorem sw_lo (h : p < j - 1) : sw j p = p := by
  unfold sw
  rw [if_neg (by omega), if_neg (by omega)]
theorem sw_hi (h : j < p) : sw j p = p := by
  unfold sw
  rw [if_neg (by omega), if_neg (by omega)]
theorem sw_1 : sw j (j - 1) = j := by
  unfold sw
  rw [if_pos rfl]
theorem sw_0 : sw j j = j - 1 := by
  unfold sw
  rw [if_neg (by omega), if_pos rfl]
theorem sw_rg (hj : 1 ≤ j ∧ j < n) (h0 : 0 ≤ p) (h1 : p < n) : 0 ≤ sw j p ∧ sw j p < n := by
  unfold sw
  split
  · omega
  · split <;> omega
theorem cnt_swL (u : Int → Int) (x : Int) (h : p ≤ j - 1) : cnt (fun p => u (sw j p)) x p = cnt u x p := cnt_cong fun q a b => by
  rw [sw_lo (by omega)]
theorem cnt_swR (u : Int → Int) (x : Int) (hj : 1 ≤ j) : ∀ d : Nat, cnt (fun p => u (sw j p)) x (j + 1 + d) = cnt u x (j + 1 + d)
  | 0 => by
    rw [show j + 1 + ((0 : Nat) : Int) = j + 1 by omega]
    have a1 := cnt_s (fun p => u (sw j p)) x (k := j) (by omega)
    have a2 := cnt_s (fun p => u (sw j p)) x (k := j - 1) (by omega)
    have a3 := cnt_s u x (k := j) (by omega)
    have a4 := cnt_s u x (k := j - 1) (by omega)
    have a5 := cnt_swL u x (p := j - 1) (j := j) (Int.le_refl _)
    rw [show j - 1 + 1 = j by omega] at a2 a4
    simp only [sw_1, sw_0] at a1 a2
    omega
  | d + 1 => by
    have ih := cnt_swR u x hj d
    rw [show j + 1 + ((d + 1 : Nat) : Int) = j + 1 + d + 1 by omega, cnt_s _ _ (by omega), cnt_s _ _ (by omega), ih]
    simp only [sw_hi (show j < j + 1 + (d : Int) by omega)]
theorem cnt_swA (u : Int → Int) (x : Int) (hj : 1 ≤ j) (h : j < p) : cnt (fun p => u (sw j p)) x p = cnt u x p := by
  have := cnt_swR u x hj (p - (j + 1)).toNat
  rw [show j + 1 + ((p - (j + 1)).toNat : Int) = p by omega] at this
  exact this
theorem scW_sw (hj : 1 ≤ j) (hne : u j ≠ u (j - 1)) (h0 : 0 ≤ p) : scW (fun p => u (sw j p)) p = scW u (sw j p) := by
  show cnt (fun p => u (sw j p)) (u (sw j p)) p = cnt u (u (sw j p)) (sw j p)
  by_cases h1 : p < j - 1
  · rw [sw_lo h1]
    exact cnt_swL u _ (by omega)
  · by_cases h2 : p = j - 1
    · subst h2
      rw [sw_1, cnt_swL u _ (Int.le_refl _)]
      have a := cnt_s u (u j) (k := j - 1) (by omega)
      rw [show j - 1 + 1 = j by omega, if_neg (fun y => hne y.symm), Int.add_zero] at a
      exact a.symm
    · by_cases h3 : p = j
      · rw [h3, sw_0]
        have a := cnt_s (fun p => u (sw j p)) (u (j - 1)) (k := j - 1) (by omega)
        rw [show j - 1 + 1 = j by omega] at a
        simp only [sw_1] at a
        rw [if_neg hne, Int.add_zero, cnt_swL u _ (Int.le_refl _)] at a
        exact a
      · rw [sw_hi (by omega)]
        exact cnt_swA u _ hj (by omega)
theorem zLP_lt (P : Int → Bool) (hp : 0 ≤ p) : -1 ≤ zLP P p ∧ (zLP P p < p ∨ zLP P p = -1) := by
  rcases zLP_cases P p hp with ⟨a, b⟩ | ⟨a, b, -⟩
  · omega
  · omega
theorem zLP_sw {P : Int → Bool} (hj : 1 ≤ j) (h0 : 0 ≤ p) (h1 : p = j - 1 → P (j - 1) = false) (h2 : p = j → P j = false) (h3 : j < p → ¬(P (j - 1) = true ∧ P j = true)) : zLP (fun q => P (sw j q)) p = sw j (zLP P (sw j p)) := by
  have low : ∀ p, 0 ≤ p → p ≤ j - 1 → zLP (fun q => P (sw j q)) p = zLP P p ∧ sw j (zLP P p) = zLP P p := fun p a b => by
    refine ⟨zLP_cong fun q c d => by rw [sw_lo (by omega)], sw_lo ?_⟩
    have := zLP_lt P a
    omega
  by_cases c1 : p < j - 1
  · rw [sw_lo c1, (low p h0 (by omega)).1, (low p h0 (by omega)).2]
  · have g := low (j - 1) (by omega) (Int.le_refl _)
    have s1 := zLP_s P (n := j - 1) (by omega)
    have s2 := zLP_s (fun q => P (sw j q)) (n := j - 1) (by omega)
    rw [show j - 1 + 1 = j by omega] at s1 s2
    simp only [sw_1] at s2
    rw [g.1] at s2
    by_cases c2 : p = j - 1
    · have hf := h1 c2
      subst c2
      rw [sw_1, s1, if_neg (by rw [hf]; exact Bool.false_ne_true), g.1, g.2]
    · by_cases c3 : p = j
      · have hf := h2 c3
        subst c3
        rw [sw_0, s2, if_neg (by rw [hf]; exact Bool.false_ne_true), g.2]
      · have hb := h3 (by omega)
        have gen : ∀ d : Nat, zLP (fun q => P (sw j q)) (j + 1 + d) = sw j (zLP P (j + 1 + d)) := by
          intro d
          induction d with
          | zero =>
            rw [show j + 1 + ((0 : Nat) : Int) = j + 1 by omega, zLP_s _ (by omega), zLP_s _ (by omega), s1, s2]
            simp only [sw_0]
            by_cases b1 : P (j - 1) = true
            · have b2 : ¬ P j = true := fun y => hb ⟨b1, y⟩
              rw [if_pos b1, if_neg b2, if_pos b1, sw_1]
            · rw [if_neg b1, if_neg b1]
              by_cases b2 : P j = true
              · rw [if_pos b2, if_pos b2, sw_0]
              · rw [if_neg b2, if_neg b2, g.2]
          | succ d ih =>
            rw [show j + 1 + ((d + 1 : Nat) : Int) = j + 1 + d + 1 by omega, zLP_s _ (by omega), zLP_s _ (by omega), ih]
            simp only [sw_hi (show j < j + 1 + (d : Int) by omega)]
            split
            · rw [sw_hi (by omega)]
            · rfl
        have := gen (p - (j + 1)).toNat
        rw [show j + 1 + ((p - (j + 1)).toNat : Int) = p by omega] at this
        rw [this, sw_hi (show j < p by omega)]
theorem zFF_cg {p q : Int → Bool} {time : Int} : ∀ (f : Nat) (low : Int), (∀ t, low ≤ t → p t = q t) → zff p time f low = zff q time f low
  | 0, low, h => rfl
  | f + 1, low, h => by
    unfold zff
    rw [lB_cong (p := p) (q := q) (fun t a b => h t a), zFF_cg f (low + 1) (fun t a => h t (by omega))]
/-- with workers enough, rests alone put a begin off -/
theorem scB_ns (hns : scK K = false) (hr : kR K) (hp : kP K) (hv : vP K τ k) (h0 : 0 ≤ p) (h1 : p < k) : scB K τ p = zFF (rsB K (mcA K τ (scW τ) p)) (tk K (τ p) (scW τ p)) (loW K τ (scW τ) (scE K τ) p) := by
  rw [scB_eq K τ h0]
  unfold bgW zFF
  refine zFF_cg _ _ (fun t ht => ?_)
  have hb := bz3 (ρ := τ) (ν := scW τ) (μ := mcA K τ (scW τ)) (χ := tlA K τ (scW τ)) (β := scB K τ) (ε := scE K τ) hr hp (hv.le (by omega : p + 1 ≤ k)) h0 (fun q a b => ⟨⟨rfl, rfl⟩, ⟨rfl, rfl⟩, rfl, rfl⟩) ht
  have hs := scK_f hns (i := t % 24 / 8) (by omega) (by omega)
  unfold blB hwB
  rw [decide_eq_true (show bz (scB K τ) (scE K τ) p t < K (238 + t % 24 / 8) by omega)]
  simp
/-- what must hold where two places change -/
def swH (K : e_St) (u : Int → Int) (j : Int) : Prop := u j ≠ u (j - 1) ∧ mcA K u (scW u) j ≠ mcA K u (scW u) (j - 1) ∧ (tlA K u (scW u) j = -1 ∨ tlA K u (scW u) j ≠ tlA K u (scW u) (j - 1))
theorem sw_vR (hj : 1 ≤ j ∧ j < aW K) (hv : vR K u) : vR K (fun p => u (sw j p)) :=
  ⟨fun p a b => by
    have := sw_rg hj a b
    exact hv.1 _ this.1 this.2, fun o a b => by rw [cnt_swA u o hj.1 hj.2]; exact hv.2 o a b⟩
theorem sw_mc (hj : 1 ≤ j) (hne : u j ≠ u (j - 1)) (h0 : 0 ≤ p) : mcA K (fun p => u (sw j p)) (scW (fun p => u (sw j p))) p = mcA K u (scW u) (sw j p) := by
  unfold mcA
  rw [scW_sw hj hne h0]
theorem sw_tl (hj : 1 ≤ j) (hne : u j ≠ u (j - 1)) (h0 : 0 ≤ p) : tlA K (fun p => u (sw j p)) (scW (fun p => u (sw j p))) p = tlA K u (scW u) (sw j p) := by
  unfold tlA
  rw [scW_sw hj hne h0]
theorem sw_oAh (hj : 1 ≤ j) (hne : u j ≠ u (j - 1)) (h0 : 0 ≤ p) : oAh (fun p => u (sw j p)) p = sw j (oAh u (sw j p)) := by
  refine zLP_sw (P := fun q => decide (u q = u (sw j p))) hj h0 (fun h => ?_) (fun h => ?_) (fun h => ?_)
  · subst h
    rw [sw_1]
    exact decide_eq_false fun y => hne y.symm
  · subst h
    rw [sw_0]
    exact decide_eq_false hne
  · rw [decide_eq_true_eq, decide_eq_true_eq]
    rintro ⟨a, b⟩
    exact hne (by rw [a, b])
theorem sw_mAh (hj : 1 ≤ j) (hs : swH K u j) (h0 : 0 ≤ p) : mAh K (fun p => u (sw j p)) (scW (fun p => u (sw j p))) p = sw j (mAh K u (scW u) (sw j p)) := by
  have e : mAh K (fun p => u (sw j p)) (scW (fun p => u (sw j p))) p = zLP (fun q => (fun r => decide (mcA K u (scW u) r = mcA K u (scW u) (sw j p))) (sw j q)) p := zLP_cong fun q a b => by rw [sw_mc hj hs.1 a, sw_mc hj hs.1 h0]
  rw [e]
  refine zLP_sw (P := fun r => decide (mcA K u (scW u) r = mcA K u (scW u) (sw j p))) hj h0 (fun h => ?_) (fun h => ?_) (fun h => ?_)
  · subst h
    rw [sw_1]
    exact decide_eq_false fun y => hs.2.1 y.symm
  · subst h
    rw [sw_0]
    exact decide_eq_false hs.2.1
  · rw [decide_eq_true_eq, decide_eq_true_eq]
    rintro ⟨a, b⟩
    exact hs.2.1 (by rw [a, b])
theorem sw_tAh (hj : 1 ≤ j) (hs : swH K u j) (h0 : 0 ≤ p) : tAh K (fun p => u (sw j p)) (scW (fun p => u (sw j p))) p = sw j (tAh K u (scW u) (sw j p)) := by
  unfold tAh
  rw [sw_tl hj hs.1 h0]
  by_cases hq : tlA K u (scW u) (sw j p) = -1
  · rw [if_pos hq, if_pos hq, sw_lo (by omega)]
  · rw [if_neg hq, if_neg hq]
    have e : zLP (fun q => decide (tlA K (fun p => u (sw j p)) (scW (fun p => u (sw j p))) q = tlA K u (scW u) (sw j p))) p = zLP (fun q => (fun r => decide (tlA K u (scW u) r = tlA K u (scW u) (sw j p))) (sw j q)) p := zLP_cong fun q a b => by rw [sw_tl hj hs.1 a]
    rw [e]
    refine zLP_sw (P := fun r => decide (tlA K u (scW u) r = tlA K u (scW u) (sw j p))) hj h0 (fun h => ?_) (fun h => ?_) (fun h => ?_)
    · subst h
      rw [sw_1] at hq ⊢
      refine decide_eq_false fun y => ?_
      rcases hs.2.2 with z | z
      · exact hq z
      · exact z y.symm
    · subst h
      rw [sw_0] at hq ⊢
      refine decide_eq_false fun y => ?_
      rcases hs.2.2 with z | z
      · exact hq (by rw [← y, z])
      · exact z y
    · rw [decide_eq_true_eq, decide_eq_true_eq]
      rintro ⟨a, b⟩
      rcases hs.2.2 with z | z
      · exact hq (by rw [← b, z])
      · exact z (by rw [a, b])
theorem sw_sc (hns : scK K = false) (hr : kR K) (hp : kP K) (hj : 1 ≤ j ∧ j < aW K) (hv : vR K u) (hs : swH K u j) : ∀ b p : Nat, p ≤ b → (p : Int) < aW K → scB K (fun p => u (sw j p)) p = scB K u (sw j p) ∧ scE K (fun p => u (sw j p)) p = scE K u (sw j p)
  | b, p, hb, hk => by
    have ih : ∀ q, 0 ≤ q → q < (p : Int) → scE K (fun p => u (sw j p)) q = scE K u (sw j q) := fun q a c => by
      match b, hb with
      | 0, hb => omega
      | b + 1, hb =>
        have := (sw_sc hns hr hp hj hv hs b q.toNat (by omega) (by omega)).2
        rw [Int.toNat_of_nonneg a] at this
        exact this
    have hvv := sw_vR hj hv
    have h0 : (0 : Int) ≤ p := by omega
    have hrg := sw_rg hj h0 hk
    have val : ∀ x : Int, -1 ≤ x → (sw j x = -1 ∨ (0 ≤ sw j x ∧ sw j x < (p : Int))) → (sw j x = -1 ∧ x = -1) ∨ (sw j x ≠ -1 ∧ x ≠ -1 ∧ scE K (fun p => u (sw j p)) (sw j x) = scE K u x) := fun x hx hl => by
      by_cases hq : x = -1
      · exact Or.inl ⟨by rw [hq, sw_lo (by omega)], hq⟩
      · have hne : sw j x ≠ -1 := fun y => hq (by rw [← sw_sw j x, y, sw_lo (by omega)])
        refine Or.inr ⟨hne, hq, ?_⟩
        rw [ih (sw j x) (by omega) (by omega), sw_sw]
    have eo := sw_oAh (u := u) hj.1 hs.1 h0
    have em := sw_mAh (K := K) (u := u) hj.1 hs h0
    have et := sw_tAh (K := K) (u := u) hj.1 hs h0
    have emc := sw_mc (K := K) (u := u) hj.1 hs.1 h0
    have ewk := scW_sw (u := u) hj.1 hs.1 h0
    have ro := oAh_rg (fun p => u (sw j p)) h0
    have rm := mAh_rg K (fun p => u (sw j p)) (scW (fun p => u (sw j p))) h0
    have rt := tAh_rg K (fun p => u (sw j p)) (scW (fun p => u (sw j p))) h0
    have ro2 := oAh_rg u hrg.1
    have rm2 := mAh_rg K u (scW u) hrg.1
    have rt2 := tAh_rg K u (scW u) hrg.1
    have hlo : loW K (fun p => u (sw j p)) (scW (fun p => u (sw j p))) (scE K (fun p => u (sw j p))) p = loW K u (scW u) (scE K u) (sw j p) := by
      unfold loW
      rw [eo] at ro
      rw [em] at rm
      rw [et] at rt
      rw [eo, em, et, emc]
      have vo := val (oAh u (sw j p)) (by omega) ro
      have vm := val (mAh K u (scW u) (sw j p)) (by omega) rm
      have vt := val (tAh K u (scW u) (sw j p)) (by omega) rt
      simp only [sw_sw]
      generalize oAh u (sw j ↑p) = xo at vo ⊢
      generalize mAh K u (scW u) (sw j ↑p) = xm at vm ⊢
      generalize tAh K u (scW u) (sw j ↑p) = xt at vt ⊢
      generalize sw j xo = yo at vo ⊢
      generalize sw j xm = ym at vm ⊢
      generalize sw j xt = yt at vt ⊢
      rcases vo with ⟨a1, a2⟩ | ⟨a1, a2, a3⟩ <;> rcases vm with ⟨b1, b2⟩ | ⟨b1, b2, b3⟩ <;> rcases vt with ⟨c1, c2⟩ | ⟨c1, c2, c3⟩ <;> simp only [a1, a2, b1, b2, c1, c2, ne_eq, not_true_eq_false, not_false_eq_true, true_and, false_and, if_true, if_false] <;> (try simp only [a3]) <;> (try simp only [b3]) <;> (try simp only [c3])
    have hB : scB K (fun p => u (sw j p)) p = scB K u (sw j p) := by
      rw [scB_ns hns hr hp (vR.vp hr hvv) h0 hk, scB_ns hns hr hp (vR.vp hr hv) hrg.1 hrg.2, hlo, emc, ewk]
    refine ⟨hB, ?_⟩
    rw [(sc_spI hr hp (vR.vp hr hvv) h0 hk).2.1, (sc_spI hr hp (vR.vp hr hv) hrg.1 hrg.2).2.1, hB, ewk]
/-- the row ahead has the same end -/
theorem sw_ok (hns : scK K = false) (hr : kR K) (hp : kP K) (hj : 1 ≤ j ∧ j < aW K) (h : okR K u) (hs : swH K u j) : okR K (fun p => u (sw j p)) ∧ enR K (fun p => u (sw j p)) = enR K u ∧ (u j < u (j - 1) → ltR K (fun p => u (sw j p)) u) := by
  have hn : 0 ≤ aW K := by omega
  have sc : ∀ p, 0 ≤ p → p < aW K → scB K (fun p => u (sw j p)) p = scB K u (sw j p) ∧ scE K (fun p => u (sw j p)) p = scE K u (sw j p) := fun p a b => by
    have := sw_sc hns hr hp hj h.1 hs p.toNat p.toNat (Nat.le_refl _) (by omega)
    rw [Int.toNat_of_nonneg a] at this
    exact this
  refine ⟨⟨sw_vR hj h.1, fun p a b => ?_⟩, ?_, fun hl => ⟨j - 1, by omega, by omega, fun p a b => by show u (sw j p) = u p; rw [sw_lo b], by show u (sw j (j - 1)) < u (j - 1); rw [sw_1]; exact hl⟩⟩
  · rw [(sc p a b).1]
    have := sw_rg hj a b
    exact h.2 _ this.1 this.2
  · apply Int.le_antisymm
    · refine mX_le hn (mX_0 hn) (fun p a b => ?_)
      rw [(sc p a b).2]
      have := sw_rg hj a b
      exact mX_ge hn _ this.1 this.2
    · refine mX_le hn (mX_0 hn) (fun p a b => ?_)
      have g := sw_rg hj a b
      have e := (sc (sw j p) g.1 g.2).2
      rw [sw_sw] at e
      rw [← e]
      exact mX_ge hn _ g.1 g.2
end Ec58
