section El12
variable {L : Nat} {xs : Nat → Int32} {d : Nat} {M M1 M2 M3 : e_MI} {V V2 : e_ML} {W : e_MD} {K K2 : e_St} {S : Int → e_St} {h : e_H} {c o w z m k q p i f n a b t x B : Int} {τ β ε : Int → Int}
/-! from when on a work can begin: the greatest of what is ahead -/
theorem sc_ord (hr : kR K) (hp : kP K) (hv : vP K τ k) : ∀ b q : Nat, (q : Int) ≤ b → (q : Int) < k → ∀ p, 0 ≤ p → p < (q : Int) → τ p = τ q → scE K τ p ≤ loW K τ (scW τ) (scE K τ) q
  | b, q, hb, hk, p, h0, h1, he => by
    have l := lo_spI hr hp hv (p := q) (by omega) hk
    have hc := zLP_cases (fun r => decide (τ r = τ q)) q (by omega)
    have e : zLP (fun r => decide (τ r = τ q)) q = oAh τ q := rfl
    rw [e] at hc
    rcases hc with ⟨a, c⟩ | ⟨a, c, g, f⟩
    · have := c p h0 h1
      rw [decide_eq_false_iff_not] at this
      exact absurd he this
    · have m1 := l.2.2.1 (by omega)
      by_cases hpq : p = oAh τ q
      · rw [hpq]
        omega
      · by_cases hlt : oAh τ q < p
        · have := f p hlt h1
          rw [decide_eq_false_iff_not] at this
          exact absurd he this
        · match b, hb with
          | 0, hb => omega
          | b + 1, hb =>
            rw [decide_eq_true_eq] at g
            have ih := sc_ord hr hp hv b (oAh τ q).toNat (by omega) (by omega) p h0 (by omega) (by
              rw [Int.toNat_of_nonneg a, g]
              exact he)
            rw [Int.toNat_of_nonneg a] at ih
            have s1 := sc_spI hr hp hv a (show oAh τ q < k by omega)
            have s2 := sc_spI hr hp hv h0 (show p < k by omega)
            have v := hv (oAh τ q) a (by omega)
            have hw := hv.rg hr (p := oAh τ q) a (by omega)
            have hsw : scW τ (oAh τ q) = cnt τ (τ (oAh τ q)) (oAh τ q) := rfl
            have t := tk_pos hr hp (o := τ (oAh τ q)) (w := scW τ (oAh τ q)) v.1 (by omega)
            rcases s1.2.2 with y | y
            · have := s1.2.1
              rw [if_pos y] at this
              omega
            · have h2 := s1.2.1
              rw [if_neg (by omega)] at h2
              omega
theorem sc_ordI (hr : kR K) (hp : kP K) (hv : vP K τ k) (h0 : 0 ≤ p) (h1 : p < q) (h2 : q < k) (he : τ p = τ q) : scE K τ p ≤ loW K τ (scW τ) (scE K τ) q := by
  have := sc_ord hr hp hv q.toNat q.toNat (by omega) (by omega) p h0 (by omega) (by rw [Int.toNat_of_nonneg (by omega)]; exact he)
  rw [Int.toNat_of_nonneg (by omega)] at this
  exact this
/-- the ends of the works ahead in the order -/
def maF (a : Int) (τ ε : Int → Int) (o : Int) : Nat → Int
  | 0 => a
  | p + 1 => if τ p = o then max (maF a τ ε o p) (ε p) else maF a τ ε o p
/-- with those of its machine and its tool -/
def mbF (K : e_St) (a : Int) (τ ω ε : Int → Int) (o m tl : Int) (lat : Int → Bool) : Nat → Int
  | 0 => a
  | p + 1 =>
    let y := if mcA K τ ω p = m then max (mbF K a τ ω ε o m tl lat p) (ε p + if lat p = true then sT K m (K (τ p)) (K o) else 0) else mbF K a τ ω ε o m tl lat p
    if tl ≠ -1 ∧ tlA K τ ω p = tl then max y (ε p) else y
theorem maF_le (ha : a ≤ B) : ∀ n : Nat, (∀ p, 0 ≤ p → p < (n : Int) → τ p = o → ε p ≤ B) → maF a τ ε o n ≤ B
  | 0, _ => ha
  | n + 1, h => by
    have ih := maF_le ha n (fun p x y => h p x (by omega))
    unfold maF
    split
    · next hq =>
      have := h n (by omega) (by omega) hq
      omega
    · exact ih
theorem maF_ge (τ ε : Int → Int) (a o : Int) : ∀ n : Nat, a ≤ maF a τ ε o n ∧ ∀ p, 0 ≤ p → p < (n : Int) → τ p = o → ε p ≤ maF a τ ε o n
  | 0 => ⟨Int.le_refl _, fun p x y => by omega⟩
  | n + 1 => by
    obtain ⟨h1, h2⟩ := maF_ge τ ε a o n
    unfold maF
    refine ⟨by split <;> omega, fun p x y e => ?_⟩
    by_cases hq : p = n
    · subst hq
      rw [if_pos e]
      omega
    · have := h2 p x (by omega) e
      split <;> omega
theorem mbF_le {ω : Int → Int} {tl : Int} {lat : Int → Bool} (ha : a ≤ B) : ∀ n : Nat, (∀ p, 0 ≤ p → p < (n : Int) → mcA K τ ω p = m → ε p + (if lat p = true then sT K m (K (τ p)) (K o) else 0) ≤ B) → (∀ p, 0 ≤ p → p < (n : Int) → tl ≠ -1 → tlA K τ ω p = tl → ε p ≤ B) → mbF K a τ ω ε o m tl lat n ≤ B
  | 0, _, _ => ha
  | n + 1, h, g => by
    have ih := mbF_le ha n (fun p x y => h p x (by omega)) (fun p x y => g p x (by omega))
    have hy : (if mcA K τ ω n = m then max (mbF K a τ ω ε o m tl lat n) (ε n + if lat n = true then sT K m (K (τ n)) (K o) else 0) else mbF K a τ ω ε o m tl lat n) ≤ B := by
      by_cases hq : mcA K τ ω n = m
      · rw [if_pos hq]
        have := h n (by omega) (by omega) hq
        omega
      · rw [if_neg hq]
        exact ih
    unfold mbF
    simp only
    generalize (if mcA K τ ω n = m then max (mbF K a τ ω ε o m tl lat n) (ε n + if lat n = true then sT K m (K (τ n)) (K o) else 0) else mbF K a τ ω ε o m tl lat n) = y at *
    by_cases hq : tl ≠ -1 ∧ tlA K τ ω n = tl
    · rw [if_pos hq]
      have := g n (by omega) (by omega) hq.1 hq.2
      omega
    · rw [if_neg hq]
      exact hy
theorem mbF_ge (K : e_St) (τ ω ε : Int → Int) (a o m tl : Int) (lat : Int → Bool) : ∀ n : Nat, a ≤ mbF K a τ ω ε o m tl lat n ∧ (∀ p, 0 ≤ p → p < (n : Int) → mcA K τ ω p = m → ε p + (if lat p = true then sT K m (K (τ p)) (K o) else 0) ≤ mbF K a τ ω ε o m tl lat n) ∧ ∀ p, 0 ≤ p → p < (n : Int) → tl ≠ -1 → tlA K τ ω p = tl → ε p ≤ mbF K a τ ω ε o m tl lat n
  | 0 => ⟨Int.le_refl _, fun p x y => by omega, fun p x y => by omega⟩
  | n + 1 => by
    obtain ⟨h1, h2, h3⟩ := mbF_ge K τ ω ε a o m tl lat n
    have hy : mbF K a τ ω ε o m tl lat n ≤ (if mcA K τ ω n = m then max (mbF K a τ ω ε o m tl lat n) (ε n + if lat n = true then sT K m (K (τ n)) (K o) else 0) else mbF K a τ ω ε o m tl lat n) := by split <;> omega
    have hz : mcA K τ ω n = m → ε n + (if lat n = true then sT K m (K (τ n)) (K o) else 0) ≤ (if mcA K τ ω n = m then max (mbF K a τ ω ε o m tl lat n) (ε n + if lat n = true then sT K m (K (τ n)) (K o) else 0) else mbF K a τ ω ε o m tl lat n) := fun hq => by
      rw [if_pos hq]
      omega
    unfold mbF
    simp only
    generalize (if mcA K τ ω n = m then max (mbF K a τ ω ε o m tl lat n) (ε n + if lat n = true then sT K m (K (τ n)) (K o) else 0) else mbF K a τ ω ε o m tl lat n) = y at *
    have hx : y ≤ (if tl ≠ -1 ∧ tlA K τ ω n = tl then max y (ε n) else y) := by split <;> omega
    refine ⟨by omega, fun p x2 y2 e => ?_, fun p x2 y2 e1 e2 => ?_⟩
    · by_cases hq : p = n
      · subst hq
        have := hz e
        omega
      · have := h2 p x2 (by omega) e
        omega
    · by_cases hq : p = n
      · subst hq
        rw [if_pos ⟨e1, e2⟩]
        omega
      · have := h3 p x2 (by omega) e1 e2
        omega
/-- the greatest of them is where the search begins -/
theorem lo_max (hr : kR K) (hp : kP K) (hv : vP K τ n) (h0 : 0 ≤ k) (h1 : k < n) : mbF K (maF (K (16 + τ k)) τ (scE K τ) (τ k) k.toNat) τ (scW τ) (scE K τ) (τ k) (mcA K τ (scW τ) k) (tlA K τ (scW τ) k) (fun p => decide (zLP (fun q => decide (mcA K τ (scW τ) q = mcA K τ (scW τ) k)) k ≤ p)) k.toNat = loW K τ (scW τ) (scE K τ) k := by
  have l := lo_spI hr hp hv h0 h1
  have hm := mAh_rg K τ (scW τ) h0
  have ho := oAh_rg τ h0
  have ht := tAh_rg K τ (scW τ) h0
  have hmz : zLP (fun q => decide (mcA K τ (scW τ) q = mcA K τ (scW τ) k)) k = mAh K τ (scW τ) k := rfl
  rw [hmz]
  apply Int.le_antisymm
  · refine mbF_le (maF_le l.2.1 _ fun p x y e => sc_ordI hr hp hv x (by omega) h1 e) _ (fun p x y e => ?_) (fun p x y e1 e2 => sc_toolI hr hp hv x (by omega) h1 e2 e1)
    have h2 := sc_machI hr hp hv x (show p < k by omega) h1 e
    by_cases hq : mAh K τ (scW τ) k ≤ p
    · rw [if_pos (decide_eq_true hq)]
      have hpm : p = mAh K τ (scW τ) k := by
        rcases zLP_cases (fun q => decide (mcA K τ (scW τ) q = mcA K τ (scW τ) k)) k h0 with ⟨y1, y2⟩ | ⟨y1, y2, y3, y4⟩
        · have := y2 p x (by omega)
          rw [decide_eq_false_iff_not] at this
          exact absurd e this
        · rw [hmz] at y4
          by_cases hlt : mAh K τ (scW τ) k < p
          · have := y4 p hlt (by omega)
            rw [decide_eq_false_iff_not] at this
            exact absurd e this
          · omega
      have := l.2.2.2.1 (by omega)
      rw [hpm]
      exact this.1
    · rw [if_neg (by rw [decide_eq_true_eq]; exact hq)]
      omega
  · obtain ⟨g1, g2, g3⟩ := mbF_ge K τ (scW τ) (scE K τ) (maF (K (16 + τ k)) τ (scE K τ) (τ k) k.toNat) (τ k) (mcA K τ (scW τ) k) (tlA K τ (scW τ) k) (fun p => decide (mAh K τ (scW τ) k ≤ p)) k.toNat
    obtain ⟨f1, f2⟩ := maF_ge τ (scE K τ) (K (16 + τ k)) (τ k) k.toNat
    generalize mbF K (maF (K (16 + τ k)) τ (scE K τ) (τ k) k.toNat) τ (scW τ) (scE K τ) (τ k) (mcA K τ (scW τ) k) (tlA K τ (scW τ) k) (fun p => decide (mAh K τ (scW τ) k ≤ p)) k.toNat = G at *
    generalize maF (K (16 + τ k)) τ (scE K τ) (τ k) k.toNat = A at *
    have b1 : oAh τ k ≠ -1 → scE K τ (oAh τ k) ≤ G := fun hq => by
      have := f2 (oAh τ k) (by omega) (by omega) (by
        rcases zLP_cases (fun p => decide (τ p = τ k)) k h0 with ⟨y1, y2⟩ | ⟨y1, y2, y3, y4⟩
        · exact absurd y1 hq
        · exact of_decide_eq_true y3)
      omega
    have b2 : mAh K τ (scW τ) k ≠ -1 → scE K τ (mAh K τ (scW τ) k) + sT K (mcA K τ (scW τ) k) (K (τ (mAh K τ (scW τ) k))) (K (τ k)) ≤ G := fun hq => by
      have := g2 (mAh K τ (scW τ) k) (by omega) (by omega) (by
        rcases zLP_cases (fun q => decide (mcA K τ (scW τ) q = mcA K τ (scW τ) k)) k h0 with ⟨y1, y2⟩ | ⟨y1, y2, y3, y4⟩
        · exact absurd y1 hq
        · exact of_decide_eq_true y3)
      rw [if_pos (decide_eq_true (Int.le_refl _))] at this
      exact this
    have b3 : tAh K τ (scW τ) k ≠ -1 → scE K τ (tAh K τ (scW τ) k) ≤ G := fun hq => by
      have hne : tlA K τ (scW τ) k ≠ -1 := fun e => hq (by unfold tAh; rw [if_pos e])
      have he : tAh K τ (scW τ) k = zLP (fun p => decide (tlA K τ (scW τ) p = tlA K τ (scW τ) k)) k := by unfold tAh; rw [if_neg hne]
      refine g3 (tAh K τ (scW τ) k) (by omega) (by omega) hne ?_
      rcases zLP_cases (fun p => decide (tlA K τ (scW τ) p = tlA K τ (scW τ) k)) k h0 with ⟨y1, y2⟩ | ⟨y1, y2, y3, y4⟩
      · rw [he] at hq
        exact absurd y1 hq
      · rw [he]
        exact of_decide_eq_true y3
    have hb : 0 ≤ G := by
      have := l.1
      have h8 := hr.re (o := τ k) (hv k h0 h1).1.1 (by have := (hv k h0 h1).1.2; have := hr.n; omega)
      omega
    have q1 : (if oAh τ k ≠ -1 ∧ K (16 + τ k) < scE K τ (oAh τ k) then scE K τ (oAh τ k) else K (16 + τ k)) ≤ G := by
      by_cases c1 : oAh τ k ≠ -1 ∧ K (16 + τ k) < scE K τ (oAh τ k)
      · rw [if_pos c1]
        exact b1 c1.1
      · rw [if_neg c1]
        omega
    have q2 : (if mAh K τ (scW τ) k = -1 then 0 else scE K τ (mAh K τ (scW τ) k) + sT K (mcA K τ (scW τ) k) (K (τ (mAh K τ (scW τ) k))) (K (τ k))) ≤ G := by
      by_cases c1 : mAh K τ (scW τ) k = -1
      · rw [if_pos c1]
        exact hb
      · rw [if_neg c1]
        exact b2 c1
    unfold loW
    simp only
    generalize (if oAh τ k ≠ -1 ∧ K (16 + τ k) < scE K τ (oAh τ k) then scE K τ (oAh τ k) else K (16 + τ k)) = B1 at *
    generalize (if mAh K τ (scW τ) k = -1 then 0 else scE K τ (mAh K τ (scW τ) k) + sT K (mcA K τ (scW τ) k) (K (τ (mAh K τ (scW τ) k))) (K (τ k))) = B2 at *
    have q3 : (if B1 < B2 then B2 else B1) ≤ G := by split <;> assumption
    generalize (if B1 < B2 then B2 else B1) = B3 at *
    by_cases c1 : tAh K τ (scW τ) k ≠ -1 ∧ B3 < scE K τ (tAh K τ (scW τ) k)
    · rw [if_pos c1]
      exact b3 c1.1
    · rw [if_neg c1]
      exact q3
end El12
