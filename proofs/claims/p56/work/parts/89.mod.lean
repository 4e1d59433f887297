section E89
variable {L : Nat} {xs : Nat → Int32} {d : Nat} {M M2 M3 : e_MI} {V : e_ML} {W : e_MD} {K K2 : e_St} {h : e_H} {S : Int → e_St} {c cd n er w f t o : Int} {s : Int × (Int → Int)} {ρ ω β ε τ T U : Int → Int} {r : Option e_R} {an : Int32}
/-- the state with another row of all works -/
def rtS (K : e_St) (τ : Int → Int) : e_St := rwS K (fun p => if p < aW K then τ p else K (241 + p))
theorem rtS_row {p : Int} (hn : aW K ≤ 16) (h0 : 0 ≤ p) (h1 : p < aW K) : rwK (rtS K τ) p = τ p := by
  unfold rwK rtS
  rw [rwS_r h0 (by omega), if_pos h1]
theorem rtS_aW (hr : kR K) : aW (rtS K τ) = aW K := aW_rwS K _ hr.n.2
theorem kG_rt (hg : kG K) (hv : vR K τ) : kG (rtS K τ) := by
  have hn := hg.1.n
  refine kG_row hg (fun p a b => ?_) ⟨fun p a b => ?_, fun o a b => ?_⟩
  · show 0 ≤ (if p < aW K then τ p else K (241 + p)) ∧ (if p < aW K then τ p else K (241 + p)) ≤ 7
    split
    · next q => have := hv.1 p a q; omega
    · exact hg.1.ro a b
  · show 0 ≤ (if p < aW K then τ p else K (241 + p)) ∧ (if p < aW K then τ p else K (241 + p)) < K 310
    rw [if_pos b]
    exact hv.1 p a b
  · rw [cnt_cong (ρ2 := τ) (fun p x y => if_pos y)]
    exact hv.2 o a b
/-! a place moved -/
theorem mvW_cnt {r : Int → Int} (hf : 0 ≤ f) : ∀ k : Nat, cnt (mvW r f) o (f + k) + (if r f = o then 1 else 0) = cnt r o (f + k + 1)
  | 0 => by
    rw [show f + ((0 : Nat) : Int) = f by omega, cnt_s r o hf, cnt_cong (ρ2 := r) (fun p a b => by unfold mvW; rw [if_pos b])]
  | k + 1 => by
    have ih := mvW_cnt (r := r) hf k
    rw [show f + ((k + 1 : Nat) : Int) = f + k + 1 by omega, cnt_s _ _ (by omega), cnt_s r o (by omega : 0 ≤ f + (k : Int) + 1), ← ih]
    have : mvW r f (f + k) = r (f + k + 1) := by
      unfold mvW
      rw [if_neg (by omega)]
    rw [this]
    omega
theorem insP_cnt {w : Int → Int} {v : Int} (ht : 0 ≤ t) : ∀ k : Nat, cnt (fun p => if p = t then v else if p < t then w p else w (p - 1)) o (t + k + 1) = cnt w o (t + k) + if v = o then 1 else 0
  | 0 => by
    rw [show t + ((0 : Nat) : Int) = t by omega, cnt_s _ _ ht, if_pos rfl, cnt_cong (ρ2 := w) (fun p a b => by rw [if_neg (by omega), if_pos b])]
  | k + 1 => by
    have ih := insP_cnt (w := w) (v := v) ht k
    rw [show t + ((k + 1 : Nat) : Int) + 1 = (t + k + 1) + 1 by omega, cnt_s _ _ (by omega), ih, show t + ((k + 1 : Nat) : Int) = t + k + 1 by omega, cnt_s w o (by omega), if_neg (show ¬ t + (k : Int) + 1 = t by omega), if_neg (show ¬ t + (k : Int) + 1 < t by omega), show t + (k : Int) + 1 - 1 = t + k by omega]
    omega
theorem mvR_v {τ : Int → Int} (hv : vR K τ) (hf : 0 ≤ f ∧ f < aW K) (ht : 0 ≤ t ∧ t < aW K) : vR K (mvR τ f t) := by
  refine ⟨fun p a b => ?_, fun o a b => ?_⟩
  · unfold mvR mvW
    split
    · exact hv.1 f hf.1 hf.2
    · split
      · split
        · exact hv.1 p a b
        · exact hv.1 (p + 1) (by omega) (by omega)
      · split
        · exact hv.1 (p - 1) (by omega) (by omega)
        · rw [show p - 1 + 1 = p by omega]
          exact hv.1 p a b
  · rw [← hv.2 o a b]
    have h1 := mvW_cnt (r := τ) (o := o) hf.1 (aW K - 1 - f).toNat
    have h2 := insP_cnt (w := mvW τ f) (v := τ f) (o := o) ht.1 (aW K - 1 - t).toNat
    rw [show f + ((aW K - 1 - f).toNat : Int) = aW K - 1 by omega] at h1
    rw [show t + ((aW K - 1 - t).toNat : Int) = aW K - 1 by omega] at h2
    rw [show aW K - 1 + 1 = aW K by omega] at h1 h2
    rw [← h1, ← h2]
    rfl
def mvK (K : e_St) (f t : Int) : e_St := rtS K (mvR (rwK K) f t)
theorem frY.q (hF : frY M M2) : frQ M M2 := frQ.mk (fun a x y => hF a (by omega)) (fun j x => by rw [hF 184 (by decide)])
/-! kept plans -/
/-- the end, or -1 without times -/
def edN (K : e_St) : Int := if ft K = true then edW K else -1
def kpK (K : e_St) (q : Int) : e_St := fun z => if 257 + 16 * q ≤ z ∧ z < 257 + 16 * q + 16 then K (241 + (z - (257 + 16 * q))) else if z = 305 + q then 1 else K z
theorem kpK_n {q z : Int} (h : z < 257 + 16 * q ∨ 257 + 16 * q + 16 ≤ z) (h2 : z ≠ 305 + q) : kpK K q z = K z := by
  unfold kpK
  rw [if_neg (by omega), if_neg h2]
theorem kG_kp {q : Int} (hg : kG K) (hq : 0 ≤ q ∧ q ≤ 2) : kG (kpK K q) := by
  obtain ⟨g1, g2, g3, g4, g5⟩ := hg
  have hn := g1.n
  have h16 := g2.1
  have hn1 : ∀ z, z < 257 ∨ 308 ≤ z → kpK K q z = K z := fun z a => kpK_n (by omega) (by omega)
  have e310 : kpK K q 310 = K 310 := hn1 _ (by omega)
  have e40 : ∀ o, 0 ≤ o → o < K 310 → kpK K q (40 + o) = K (40 + o) := fun o a b => hn1 _ (by omega)
  have eA : aW (kpK K q) = aW K := aW_cong e310 e40
  refine ⟨kR.mk fun z a b => ?_, ⟨by rw [eA]; exact g2.1, vR_cong e310 e40 (fun p a b => hn1 _ (by omega)) g2.2⟩, kP_cong e310 (fun z a b => hn1 _ (by omega)) (fun z a b => hn1 _ (by omega)) (fun z a b => hn1 _ (by omega)) hn.2 (fun o a b => (g1.wk a b).2) g3, ⟨fun s a b => ?_, fun s a b x => ?_, fun i a b => ?_⟩, kD_cong (fun z a => hn1 _ (by omega)) g1 g5⟩
  · unfold kpK
    split
    · next u =>
      have := kb13 (z := z) (by omega)
      have := g1.ro (i := z - (257 + 16 * q)) (by omega) (by omega)
      omega
    · split
      · next u =>
        have := kb13 (z := z) (by omega)
        omega
      · exact g1.b a b
  · by_cases u : s = q
    · subst u
      unfold kpK
      rw [if_neg (by omega), if_pos rfl]
      exact Or.inr rfl
    · rw [kpK_n (by omega) (by omega)]
      exact g4.1 s a b
  · by_cases u : s = q
    · subst u
      refine vR_cong e310 e40 (τ := fun p => K (241 + p)) (fun p y z => ?_) g2.2
      unfold kpK
      rw [if_pos (by omega)]
      congr 1
      omega
    · rw [kpK_n (by omega) (by omega)] at x
      exact vR_cong e310 e40 (fun p y z => kpK_n (by omega) (by omega)) (g4.2.1 s a b x)
  · unfold kpK
    split
    · exact g1.ro (by omega) (by omega)
    · rw [if_neg (by omega)]
      exact g4.2.2 i a b
def kpR (K : e_St) (q : Int) : Int → Int := fun p => K (257 + 16 * q + p)
def tkK (K : e_St) (q : Int) : e_St := rwS K (kpR K q)
end E89
