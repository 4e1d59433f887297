section Ec41
variable {K K2 : e_St} {c o w z m k q p i f l b e mc tl T x y v N : Int} {ρ ω β ε τ u : Int → Int}
/-! the times depend on the first cells alone, on -/
theorem eqK.cm (h : eqK K K2) (hr : kR K) (hv : vP K τ k) (h0 : 0 ≤ p) (h1 : p < k) : mcA K2 τ (scW τ) p = mcA K τ (scW τ) p := by
  have := hv.rg hr h0 h1
  exact h _ (by omega)
theorem eqK.ct (h : eqK K K2) (hr : kR K) (hv : vP K τ k) (h0 : 0 ≤ p) (h1 : p < k) : tlA K2 τ (scW τ) p = tlA K τ (scW τ) p := by
  have := hv.rg hr h0 h1
  exact h _ (by omega)
theorem eqK.mA (h : eqK K K2) (hr : kR K) (hv : vP K τ k) (h0 : 0 ≤ p) (h1 : p < k) : mAh K2 τ (scW τ) p = mAh K τ (scW τ) p := by
  unfold mAh
  exact zLP_cong fun q a b => by rw [h.cm hr hv a (by omega), h.cm hr hv h0 h1]
theorem eqK.tA (h : eqK K K2) (hr : kR K) (hv : vP K τ k) (h0 : 0 ≤ p) (h1 : p < k) : tAh K2 τ (scW τ) p = tAh K τ (scW τ) p := by
  unfold tAh
  rw [h.ct hr hv h0 h1]
  split
  · rfl
  · exact zLP_cong fun q a b => by rw [h.ct hr hv a (by omega)]
theorem eqK.lo (h : eqK K K2) (hr : kR K) (hv : vP K τ k) (h0 : 0 ≤ p) (h1 : p < k) (ε : Int → Int) : loW K2 τ (scW τ) ε p = loW K τ (scW τ) ε p := by
  have g := hv.rg hr h0 h1
  have k1 := hr.kd (o := τ p) (by omega) (by omega)
  unfold loW
  rw [h.mA hr hv h0 h1, h.tA hr hv h0 h1, h.cm hr hv h0 h1, h (16 + τ p) (by omega), h (τ p) (by omega)]
  have c2 := mAh_rg K τ (scW τ) h0
  rcases c2 with c | c
  · rw [if_pos c, if_pos c]
  · have g2 := hv.rg hr (p := mAh K τ (scW τ) p) (by omega) (by omega)
    have k2 := hr.kd (o := τ (mAh K τ (scW τ) p)) (by omega) (by omega)
    rw [h (τ (mAh K τ (scW τ) p)) (by omega)]
    have es : sT K2 (mcA K τ (scW τ) p) (K (τ (mAh K τ (scW τ) p))) (K (τ p)) = sT K (mcA K τ (scW τ) p) (K (τ (mAh K τ (scW τ) p))) (K (τ p)) := by
      unfold sT
      split
      · rfl
      · exact h _ (by omega)
    rw [es]
theorem eqK.sc (h : eqK K K2) (hr : kR K) (hv : vP K τ k) : ∀ b p : Nat, p ≤ b → (p : Int) < k → scB K2 τ p = scB K τ p ∧ scE K2 τ p = scE K τ p
  | b, p, hb, hk => by
    have ih : ∀ q, 0 ≤ q → q < (p : Int) → scB K2 τ q = scB K τ q ∧ scE K2 τ q = scE K τ q := fun q a c => by
      match b, hb with
      | 0, hb => omega
      | b + 1, hb =>
        have := eqK.sc h hr hv b q.toNat (by omega) (by omega)
        rw [Int.toNat_of_nonneg a] at this
        exact this
    have g := hv.rg hr (p := (p : Int)) (by omega) hk
    have eB : bgW K2 τ (scW τ) (scB K τ) (scE K τ) p = bgW K τ (scW τ) (scB K τ) (scE K τ) p := by
      unfold bgW
      rw [h.bl hr.rm, h.cm hr hv (by omega) hk, h.tq g.1 g.2.1, h.lo hr hv (by omega) hk]
    have e1 : scB K2 τ p = scB K τ p := by
      rw [scB_eq K2 τ (by omega), scB_eq K τ (by omega), bgW_cong (by omega) (fun _ _ _ => ⟨rfl, rfl⟩) ih]
      exact eB
    refine ⟨e1, ?_⟩
    rw [scE_eq K2 τ (by omega), scE_eq K τ (by omega), enW_cong (by omega) (fun _ _ _ => ⟨rfl, rfl⟩) ih]
    unfold enW
    rw [eB, h.tq g.1 g.2.1]
end Ec41
