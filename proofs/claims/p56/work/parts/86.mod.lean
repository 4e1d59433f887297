section E86
variable {K K2 : e_St} {ρ ω β ε τ : Int → Int} {z v o : Int}
/-! states that runs of calls reach: what changes keep -/
def kLo (z : Int) : Int := if z < 112 then 0 else if z < 144 then -1 else if z < 208 then 0 else if z < 238 then -1 else if z < 257 then 0 else if z < 308 then -1 else 0
def kHi (z : Int) : Int := if z < 8 then 3 else if z < 16 then 9 else if z < 24 then 200 else if z < 32 then 500 else if z < 40 then 9 else if z < 48 then 4 else if z < 80 then 3 else if z < 112 then 9 else if z < 144 then 2 else if z < 208 then 20 else if z < 238 then 2000 else if z < 241 then 4 else if z < 257 then 7 else if z < 308 then 2000 else if z < 310 then 1000 else if z < 311 then 8 else 10
theorem kb0 (h : 0 ≤ z ∧ z < 8) : kLo z = 0 ∧ kHi z = 3 := by unfold kLo kHi; exact ⟨by (repeat' split) <;> omega, by (repeat' split) <;> omega⟩
theorem kb1 (h : 8 ≤ z ∧ z < 16) : kLo z = 0 ∧ kHi z = 9 := by unfold kLo kHi; exact ⟨by (repeat' split) <;> omega, by (repeat' split) <;> omega⟩
theorem kb2 (h : 16 ≤ z ∧ z < 24) : kLo z = 0 ∧ kHi z = 200 := by unfold kLo kHi; exact ⟨by (repeat' split) <;> omega, by (repeat' split) <;> omega⟩
theorem kb3 (h : 24 ≤ z ∧ z < 32) : kLo z = 0 ∧ kHi z = 500 := by unfold kLo kHi; exact ⟨by (repeat' split) <;> omega, by (repeat' split) <;> omega⟩
theorem kb4 (h : 32 ≤ z ∧ z < 40) : kLo z = 0 ∧ kHi z = 9 := by unfold kLo kHi; exact ⟨by (repeat' split) <;> omega, by (repeat' split) <;> omega⟩
theorem kb5 (h : 40 ≤ z ∧ z < 48) : kLo z = 0 ∧ kHi z = 4 := by unfold kLo kHi; exact ⟨by (repeat' split) <;> omega, by (repeat' split) <;> omega⟩
theorem kb6 (h : 48 ≤ z ∧ z < 80) : kLo z = 0 ∧ kHi z = 3 := by unfold kLo kHi; exact ⟨by (repeat' split) <;> omega, by (repeat' split) <;> omega⟩
theorem kb7 (h : 80 ≤ z ∧ z < 112) : kLo z = 0 ∧ kHi z = 9 := by unfold kLo kHi; exact ⟨by (repeat' split) <;> omega, by (repeat' split) <;> omega⟩
theorem kb8 (h : 112 ≤ z ∧ z < 144) : kLo z = -1 ∧ kHi z = 2 := by unfold kLo kHi; exact ⟨by (repeat' split) <;> omega, by (repeat' split) <;> omega⟩
theorem kb9 (h : 144 ≤ z ∧ z < 208) : kLo z = 0 ∧ kHi z = 20 := by unfold kLo kHi; exact ⟨by (repeat' split) <;> omega, by (repeat' split) <;> omega⟩
theorem kb10 (h : 208 ≤ z ∧ z < 238) : kLo z = -1 ∧ kHi z = 2000 := by unfold kLo kHi; exact ⟨by (repeat' split) <;> omega, by (repeat' split) <;> omega⟩
theorem kb11 (h : 238 ≤ z ∧ z < 241) : kLo z = 0 ∧ kHi z = 4 := by unfold kLo kHi; exact ⟨by (repeat' split) <;> omega, by (repeat' split) <;> omega⟩
theorem kb12 (h : 241 ≤ z ∧ z < 257) : kLo z = 0 ∧ kHi z = 7 := by unfold kLo kHi; exact ⟨by (repeat' split) <;> omega, by (repeat' split) <;> omega⟩
theorem kb13 (h : 257 ≤ z ∧ z < 308) : kLo z = -1 ∧ kHi z = 2000 := by unfold kLo kHi; exact ⟨by (repeat' split) <;> omega, by (repeat' split) <;> omega⟩
theorem kb14 (h : 308 ≤ z ∧ z < 310) : kLo z = 0 ∧ kHi z = 1000 := by unfold kLo kHi; exact ⟨by (repeat' split) <;> omega, by (repeat' split) <;> omega⟩
theorem kb15 : kLo 310 = 0 ∧ kHi 310 = 8 := by decide
theorem kb16 : kLo 311 = 0 ∧ kHi 311 = 10 := by decide
theorem kb_all (h : 0 ≤ z ∧ z < 312) : -1 ≤ kLo z ∧ kHi z ≤ 2000 := by unfold kLo kHi; exact ⟨by (repeat' split) <;> omega, by (repeat' split) <;> omega⟩
theorem kR.b (h : kR K) (h0 : 0 ≤ z) (h1 : z < 312) : kLo z ≤ K z ∧ K z ≤ kHi z := by
  rcases (show z < 8 ∨ (8 ≤ z ∧ z < 16) ∨ (16 ≤ z ∧ z < 24) ∨ (24 ≤ z ∧ z < 32) ∨ (32 ≤ z ∧ z < 40) ∨ (40 ≤ z ∧ z < 48) ∨ (48 ≤ z ∧ z < 80) ∨ (80 ≤ z ∧ z < 112) ∨ (112 ≤ z ∧ z < 144) ∨ (144 ≤ z ∧ z < 208) ∨ (208 ≤ z ∧ z < 238) ∨ (238 ≤ z ∧ z < 241) ∨ (241 ≤ z ∧ z < 257) ∨ (257 ≤ z ∧ z < 308) ∨ z = 308 ∨ z = 309 ∨ z = 310 ∨ z = 311 by omega) with q | q | q | q | q | q | q | q | q | q | q | q | q | q | q | q | q | q
  · have e := kb0 (z := z) (by omega); have a := h.kd (o := z) (by omega) q; omega
  · have e := kb1 q; have a := h.am (o := z - 8) (by omega) (by omega); rw [show 8 + (z - 8) = z by omega] at a; omega
  · have e := kb2 q; have a := h.re (o := z - 16) (by omega) (by omega); rw [show 16 + (z - 16) = z by omega] at a; omega
  · have e := kb3 q; have a := h.du (o := z - 24) (by omega) (by omega); rw [show 24 + (z - 24) = z by omega] at a; omega
  · have e := kb4 q; have a := h.we (o := z - 32) (by omega) (by omega); rw [show 32 + (z - 32) = z by omega] at a; omega
  · have e := kb5 q; have a := h.wk (o := z - 40) (by omega) (by omega); rw [show 40 + (z - 40) = z by omega] at a; omega
  · have e := kb6 q; have a := h.mc (i := z - 48) (by omega) (by omega); rw [show 48 + (z - 48) = z by omega] at a; omega
  · have e := kb7 q; have a := h.tm (i := z - 80) (by omega) (by omega); rw [show 80 + (z - 80) = z by omega] at a; omega
  · have e := kb8 q; have a := h.tl (i := z - 112) (by omega) (by omega); rw [show 112 + (z - 112) = z by omega] at a; omega
  · have e := kb9 q; have a := h.se (i := z - 144) (by omega) (by omega); rw [show 144 + (z - 144) = z by omega] at a; omega
  · have e := kb10 q; have a := h.a (i := z) (by omega) (by omega); omega
  · have e := kb11 q; have a := h.wo (i := z - 238) (by omega) (by omega); rw [show 238 + (z - 238) = z by omega] at a; omega
  · have e := kb12 q; have a := h.ro (i := z - 241) (by omega) (by omega); rw [show 241 + (z - 241) = z by omega] at a; omega
  · have e := kb13 q; have a := h.a (i := z) (by omega) (by omega); omega
  · subst q; have e := kb14 (z := 308) (by omega); have a := h.r0; omega
  · subst q; have e := kb14 (z := 309) (by omega); have a := h.r1; omega
  · subst q; have e := kb15; have a := h.n; omega
  · subst q; have e := kb16; have a := h.rm; omega
theorem kR.mk (h : ∀ z, 0 ≤ z → z < 312 → kLo z ≤ K z ∧ K z ≤ kHi z) : kR K := by
  refine ⟨?_, ?_, fun i a b => ?_, fun o a b => ?_, fun o a b => ?_, fun o a b => ?_, fun o a b => ?_, fun o a b => ?_, fun o a b => ?_, fun o a b => ?_, fun o a b => ?_, fun o a b => ?_, fun o a b => ?_, fun o a b => ?_, fun o a b => ?_, ?_, ?_⟩
  · have e := kb15; have q := h 310 (by omega) (by omega); omega
  · have e := kb16; have q := h 311 (by omega) (by omega); omega
  · have e := kb_all (z := i) ⟨a, b⟩; have q := h i a b; omega
  · have e := kb0 (z := o) ⟨a, b⟩; have q := h o a (by omega); omega
  · have e := kb1 (z := 8 + o) (by omega); have q := h (8 + o) (by omega) (by omega); omega
  · have e := kb2 (z := 16 + o) (by omega); have q := h (16 + o) (by omega) (by omega); omega
  · have e := kb3 (z := 24 + o) (by omega); have q := h (24 + o) (by omega) (by omega); omega
  · have e := kb4 (z := 32 + o) (by omega); have q := h (32 + o) (by omega) (by omega); omega
  · have e := kb5 (z := 40 + o) (by omega); have q := h (40 + o) (by omega) (by omega); omega
  · have e := kb6 (z := 48 + o) (by omega); have q := h (48 + o) (by omega) (by omega); omega
  · have e := kb7 (z := 80 + o) (by omega); have q := h (80 + o) (by omega) (by omega); omega
  · have e := kb8 (z := 112 + o) (by omega); have q := h (112 + o) (by omega) (by omega); omega
  · have e := kb9 (z := 144 + o) (by omega); have q := h (144 + o) (by omega) (by omega); omega
  · have e := kb11 (z := 238 + o) (by omega); have q := h (238 + o) (by omega) (by omega); omega
  · have e := kb12 (z := 241 + o) (by omega); have q := h (241 + o) (by omega) (by omega); omega
  · have e := kb14 (z := 308) (by omega); have q := h 308 (by omega) (by omega); omega
  · have e := kb14 (z := 309) (by omega); have q := h 309 (by omega) (by omega); omega
theorem kR.up (h : kR K) (hv : kLo z ≤ v ∧ v ≤ kHi z) : kR (uI K z v) := kR.mk fun i a b => by
  unfold uI
  split
  · next q => rw [q]; exact hv
  · exact h.b a b
theorem kR.rw (h : kR K) {r : Int → Int} (hr : ∀ p, 0 ≤ p → p < 16 → 0 ≤ r p ∧ r p ≤ 7) : kR (rwS K r) := kR.mk fun i a b => by
  unfold rwS
  split
  · next q =>
    have e := kb12 q
    have := hr (i - 241) (by omega) (by omega)
    omega
  · exact h.b a b
theorem kR.gk (h : kR K) : kR (gkK K) := kR.mk fun i a b => by
  unfold gkK
  split
  · next q =>
    have e := kb13 (z := i) (by omega)
    omega
  · exact h.b a b
/-- the row of all works, anew -/
def raK (K : e_St) : e_St := rwS K (anR K (rwK K))
def nwK (K : e_St) : e_St := raK (gkK K)
theorem raK_n (h : z < 241 ∨ 257 ≤ z) : raK K z = K z := rwS_n h
theorem gkK_n (h : z < 305 ∨ 308 ≤ z) : gkK K z = K z := by unfold gkK; rw [if_neg (by omega)]
theorem aW_cong (h : K2 310 = K 310) (h2 : ∀ o, 0 ≤ o → o < K 310 → K2 (40 + o) = K (40 + o)) : aW K2 = aW K := by
  unfold aW
  rw [h]
  exact SU_cong h2
theorem vR_cong (h : K2 310 = K 310) (h2 : ∀ o, 0 ≤ o → o < K 310 → K2 (40 + o) = K (40 + o)) {τ2 : Int → Int} (h3 : ∀ p, 0 ≤ p → p < aW K → τ2 p = τ p) (hv : vR K τ) : vR K2 τ2 := by
  have e := aW_cong h h2
  refine ⟨fun p a b => ?_, fun o a b => ?_⟩
  · rw [e] at b
    rw [h3 p a b, h]
    exact hv.1 p a b
  · rw [h] at b
    rw [e, h2 o a b, cnt_cong h3]
    exact hv.2 o a b
theorem kP_cong (h : K2 310 = K 310) (h1 : ∀ z, 8 ≤ z → z < 16 → K2 z = K z) (h2 : ∀ z, 40 ≤ z → z < 48 → K2 z = K z) (h3 : ∀ z, 80 ≤ z → z < 112 → K2 z = K z) (hn : K 310 ≤ 8) (hw : ∀ o, 0 ≤ o → o < 8 → K (40 + o) ≤ 4) (hp : kP K) : kP K2 := by
  refine ⟨fun o a b => ?_, fun o w a b x y => ?_⟩
  · rw [h] at b
    rw [h1 _ (by omega) (by omega)]
    exact hp.1 o a b
  · rw [h] at b
    rw [h2 _ (by omega) (by omega)] at y
    have := hw o a (by omega)
    rw [h3 _ (by omega) (by omega)]
    exact hp.2 o w a b x y
theorem kD_cong (h : ∀ z, (144 ≤ z ∧ z < 238) ∨ z = 311 → K2 z = K z) (hr : kR K) (hd : kD K) : kD K2 := by
  have hm := hr.rm
  refine ⟨fun k a b => ?_, fun m f a b x y => ?_⟩
  · rw [h 311 (by omega)] at b
    rw [h (208 + k) (by omega), h (218 + k) (by omega), h (228 + k) (by omega)]
    exact hd.1 k a b
  · rw [h _ (by omega)]
    exact hd.2 m f a b x y
theorem kK_cong (h : K2 310 = K 310) (h2 : ∀ o, 0 ≤ o → o < K 310 → K2 (40 + o) = K (40 + o)) (h3 : ∀ z, 257 ≤ z → z < 308 → K2 z = K z) (ha : aW K ≤ 16) (hk : kK K) : kK K2 := by
  refine ⟨fun s a b => ?_, fun s a b x => ?_, fun i a b => ?_⟩
  · rw [h3 _ (by omega) (by omega)]
    exact hk.1 s a b
  · rw [h3 _ (by omega) (by omega)] at x
    exact vR_cong h h2 (fun p y z => h3 _ (by omega) (by omega)) (hk.2.1 s a b x)
  · rw [h3 _ (by omega) (by omega)]
    exact hk.2.2 i a b
theorem anR_sp (hr : kR K) (ha : aW K ≤ 16) : (∀ p, 0 ≤ p → p < 16 → 0 ≤ anR K (rwK K) p ∧ anR K (rwK K) p ≤ 7) ∧ vR K (anR K (rwK K)) := by
  have hn := hr.n
  have hw0 : ∀ o, 0 ≤ o → o < 8 → 0 ≤ K (40 + o) := fun o a b => (hr.wk a b).1
  have e1 : (anO K (rwK K) (K 310).toNat).1 = aW K := by
    rw [anO_1 K _ hw0 _ (by omega), Int.toNat_of_nonneg hn.1]
    rfl
  obtain ⟨h1, h2, h3⟩ := anO_sp K (rwK K) hw0 (K 310).toNat (by omega)
  rw [e1] at h1 h2 h3
  refine ⟨fun p a b => ?_, fun p a b => ?_, fun o a b => ?_⟩
  · unfold anR
    by_cases hp : p < aW K
    · have := h1 p a hp
      omega
    · rw [h3 p (by omega)]
      exact hr.ro a b
  · have := h1 p a b
    unfold anR
    omega
  · have := h2 o.toNat (by omega) (by omega)
    rw [Int.toNat_of_nonneg a] at this
    exact this
theorem kG_ra (hr : kR K) (ha : 0 ≤ aW K ∧ aW K ≤ 16) (hp : kP K) (hk : kK K) (hd : kD K) : kG (raK K) := by
  have hn := hr.n
  obtain ⟨h1, h2⟩ := anR_sp hr ha.2
  have e310 : raK K 310 = K 310 := raK_n (by omega)
  have e40 : ∀ o, 0 ≤ o → o < K 310 → raK K (40 + o) = K (40 + o) := fun o a b => raK_n (by omega)
  have eA : aW (raK K) = aW K := aW_cong e310 e40
  refine ⟨hr.rw h1, ⟨by rw [eA]; exact ha, ?_⟩, kP_cong e310 (fun z a b => raK_n (by omega)) (fun z a b => raK_n (by omega)) (fun z a b => raK_n (by omega)) hn.2 (fun o a b => (hr.wk a b).2) hp, kK_cong e310 e40 (fun z a b => raK_n (by omega)) ha.2 hk, kD_cong (fun z a => raK_n (by omega)) hr hd⟩
  exact vR_cong e310 e40 (fun p a b => rwS_r a (by omega)) h2
theorem kK_gk (hk : ∀ i, 0 ≤ i → i < 48 → 0 ≤ K (257 + i) ∧ K (257 + i) ≤ 7) : kK (gkK K) := by
  have e0 : ∀ s, 0 ≤ s → s < 3 → gkK K (305 + s) = 0 := fun s a b => by
    unfold gkK
    rw [if_pos (by omega)]
  refine ⟨fun s a b => Or.inl (e0 s a b), fun s a b x => ?_, fun i a b => ?_⟩
  · rw [e0 s a b] at x
    omega
  · rw [gkK_n (by omega)]
    exact hk i a b
theorem kG_nw (hr : kR K) (ha : 0 ≤ aW K ∧ aW K ≤ 16) (hp : kP K) (hk : ∀ i, 0 ≤ i → i < 48 → 0 ≤ K (257 + i) ∧ K (257 + i) ≤ 7) (hd : kD K) : kG (nwK K) := by
  have e : aW (gkK K) = aW K := aW_cong (gkK_n (by omega)) (fun o a b => by
    have := hr.n
    exact gkK_n (by omega))
  refine kG_ra hr.gk (by rw [e]; exact ha) (kP_cong (gkK_n (by omega)) (fun z a b => gkK_n (by omega)) (fun z a b => gkK_n (by omega)) (fun z a b => gkK_n (by omega)) hr.n.2 (fun o a b => (hr.wk a b).2) hp) (kK_gk hk) (kD_cong (fun z a => gkK_n (by omega)) hr hd)
/-- a change of times alone: the rows stay -/
theorem kG_t (hg : kG K) (hr : kR K2) (h : K2 310 = K 310) (h2 : ∀ z, (8 ≤ z ∧ z < 16) ∨ (40 ≤ z ∧ z < 48) ∨ (80 ≤ z ∧ z < 112) ∨ (241 ≤ z ∧ z < 308) → K2 z = K z) (hd : kD K2) : kG K2 := by
  obtain ⟨g1, g2, g3, g4, g5⟩ := hg
  have hn := g1.n
  have h40 : ∀ o, 0 ≤ o → o < K 310 → K2 (40 + o) = K (40 + o) := fun o a b => h2 _ (by omega)
  have eA : aW K2 = aW K := aW_cong h h40
  have hv := g2.1
  exact ⟨hr, ⟨by rw [eA]; exact g2.1, vR_cong h h40 (fun p a b => h2 _ (by omega)) g2.2⟩, kP_cong h (fun z a b => h2 z (by omega)) (fun z a b => h2 z (by omega)) (fun z a b => h2 z (by omega)) hn.2 (fun o a b => (g1.wk a b).2) g3, kK_cong h h40 (fun z a b => h2 z (by omega)) g2.1.2 g4, hd⟩
/-- another row -/
theorem kG_row (hg : kG K) {r : Int → Int} (hr : ∀ p, 0 ≤ p → p < 16 → 0 ≤ r p ∧ r p ≤ 7) (hv : vR K r) : kG (rwS K r) := by
  obtain ⟨g1, g2, g3, g4, g5⟩ := hg
  have hn := g1.n
  have e310 : rwS K r 310 = K 310 := rwS_n (by omega)
  have e40 : ∀ o, 0 ≤ o → o < K 310 → rwS K r (40 + o) = K (40 + o) := fun o a b => rwS_n (by omega)
  have eA : aW (rwS K r) = aW K := aW_cong e310 e40
  have h16 := g2.1
  exact ⟨g1.rw hr, ⟨by rw [eA]; exact g2.1, vR_cong e310 e40 (fun p a b => rwS_r a (by omega)) hv⟩, kP_cong e310 (fun z a b => rwS_n (by omega)) (fun z a b => rwS_n (by omega)) (fun z a b => rwS_n (by omega)) hn.2 (fun o a b => (g1.wk a b).2) g3, kK_cong e310 e40 (fun z a b => rwS_n (by omega)) g2.1.2 g4, kD_cong (fun z a => rwS_n (by omega)) g1 g5⟩
end E86
