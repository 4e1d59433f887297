section El33
variable {K K2 : e_St} {S : Int → e_St} {c o j w z m k q p i f a b t x B its u v : Int} {τ ρ : Int → Int} {s : imT}
/-! what moves, texts, kept plans and undo leave -/
/-- the best move, where there is one, is better -/
def imOK (K : e_St) (s : imT) : Prop := (s.2.2.1 = -1 ∧ s.1 = edW K ∧ s.2.1 = ctW K (enO K (rwK K))) ∨ ((0 ≤ s.2.2.1 ∧ s.2.2.1 < aW K) ∧ (0 ≤ s.2.2.2 ∧ s.2.2.2 < aW K) ∧ fiR K (mvR (rwK K) s.2.2.1 s.2.2.2) (aW K) = true ∧ s.1 = mX (scE K (mvR (rwK K) s.2.2.1 s.2.2.2)) (aW K) ∧ s.2.1 = ctW K (enO K (mvR (rwK K) s.2.2.1 s.2.2.2)) ∧ (s.1 < edW K ∨ (s.1 = edW K ∧ s.2.1 < ctW K (enO K (rwK K)))))
theorem imS_ok (h : imOK K s) (ha : 0 ≤ a ∧ a < aW K) (hb : 0 ≤ b ∧ b < aW K) : imOK K (imS K a b s) := by
  unfold imS
  by_cases c1 : a = b ∨ fiR K (mvR (rwK K) a b) (aW K) = false
  · rw [if_pos c1]; exact h
  · rw [if_neg c1]
    by_cases c2 : s.1 < mX (scE K (mvR (rwK K) a b)) (aW K) ∨ (mX (scE K (mvR (rwK K) a b)) (aW K) = s.1 ∧ s.2.1 ≤ ctW K (enO K (mvR (rwK K) a b)))
    · rw [if_pos c2]; exact h
    · rw [if_neg c2]
      have hf : fiR K (mvR (rwK K) a b) (aW K) = true := by
        cases hx : fiR K (mvR (rwK K) a b) (aW K) with
        | true => rfl
        | false => exact absurd (Or.inr hx) c1
      refine Or.inr ⟨ha, hb, hf, rfl, rfl, ?_⟩
      simp only
      rcases h with ⟨-, h1, h2⟩ | ⟨-, -, -, -, -, h1⟩
      · omega
      · omega
theorem imB_ok (h : imOK K s) (ha : 0 ≤ a ∧ a < aW K) : ∀ n : Nat, (n : Int) ≤ aW K → imOK K (imB K a s n)
  | 0, _ => h
  | n + 1, hn => imS_ok (imB_ok h ha n (by omega)) ha ⟨by omega, by omega⟩
theorem imA_ok (h : imOK K s) (hw : 0 ≤ aW K) : ∀ n : Nat, (n : Int) ≤ aW K → imOK K (imA K s n)
  | 0, _ => h
  | n + 1, hn => imB_ok (imA_ok h hw n (by omega)) ⟨by omega, by omega⟩ _ (by omega)
theorem imX_ok (hw : 0 ≤ aW K) : imOK K (imX K) := imA_ok (Or.inl ⟨rfl, rfl, rfl⟩) hw _ (by omega)
/-- the same numbers of the same row -/
theorem row_cg (hg : kG K) (he : eqL K K2) (hv : vR K τ) (hρ : ∀ p, 0 ≤ p → p < aW K → ρ p = τ p) : (∀ p, 0 ≤ p → p < aW K → scB K2 ρ p = scB K τ p ∧ scE K2 ρ p = scE K τ p ∧ scW ρ p = scW τ p) ∧ fiR K2 ρ (aW K) = fiR K τ (aW K) := by
  have hr := hg.1
  have ha := hg.2.1.1
  have hvp := vR.vp hr hv
  have h1 : ∀ p, 0 ≤ p → p < aW K → scB K2 ρ p = scB K τ p ∧ scE K2 ρ p = scE K τ p ∧ scW ρ p = scW τ p := fun p x y => by
    have h2 := sc_tauI (K := K2) (n := aW K) hρ x y
    have h3 := he.sc hr hvp x y
    exact ⟨h2.1.trans h3.1, h2.2.1.trans h3.2, h2.2.2⟩
  refine ⟨h1, ?_⟩
  have h4 : fiR K2 ρ (aW K) = true ↔ fiR K τ (aW K) = true := by
    rw [fiR_iff ha.1, fiR_iff ha.1]
    exact ⟨fun h p x y => by rw [← (h1 p x y).1]; exact h p x y, fun h p x y => by rw [(h1 p x y).1]; exact h p x y⟩
  cases hx : fiR K2 ρ (aW K) with
  | true => exact (h4.mp hx).symm
  | false =>
    cases hy : fiR K τ (aW K) with
    | true => rw [h4.mpr hy] at hx; cases hx
    | false => rfl
theorem en_cg (hg : kG K) (he : eqL K K2) (hv : vR K τ) (hρ : ∀ p, 0 ≤ p → p < aW K → ρ p = τ p) (ho : 0 ≤ o ∧ o < K 310) : enO K2 ρ o = enO K τ o := by
  have hr := hg.1
  have hn := hr.n
  have ha := hg.2.1.1
  obtain ⟨h1, -⟩ := row_cg hg he hv hρ
  have hw := he.kk.ww hn.2
  have hwk := hr.wk (o := o) ho.1 (by omega)
  have hpl : plO K2 ρ o (K (40 + o) - 1) = plO K τ o (K (40 + o) - 1) := by
    unfold plO
    rw [hw]
    refine zLP_cong fun i x y => ?_
    rw [hρ i x y, (h1 i x y).2.2]
  unfold enO
  rw [he (40 + o) (by omega), he (16 + o) (by omega), hpl]
  by_cases c1 : K (40 + o) = 0
  · rw [if_pos c1, if_pos c1]
  · rw [if_neg c1, if_neg c1]
    have hs := (plO_sp hr hv ha.1 ho (w := K (40 + o) - 1) (by omega)).1
    exact (h1 _ hs.1 hs.2).2.1
theorem ct_cg (hg : kG K) (he : eqL K K2) (hv : vR K τ) (hρ : ∀ p, 0 ≤ p → p < aW K → ρ p = τ p) : ctW K2 (enO K2 ρ) = ctW K (enO K τ) := by
  have hn := hg.1.n
  unfold ctW
  rw [he 310 (by omega)]
  refine SU_cong fun o x y => ?_
  unfold ctO
  rw [en_cg hg he hv hρ ⟨x, y⟩, he (24 + o) (by omega), he 309 (by omega), he 308 (by omega), he (32 + o) (by omega)]
theorem now_cg (hg : kG K) (he : eqL K K2) (hrow : ∀ p, 0 ≤ p → p < aW K → rwK K2 p = rwK K p) : ft K2 = ft K ∧ edW K2 = edW K ∧ csW K2 = csW K := by
  have hr := hg.1
  obtain ⟨ha, hv0⟩ := hg.2.1
  have hv : vR K (rwK K) := hv0
  obtain ⟨h1, h2⟩ := row_cg hg he hv hrow
  have hw := he.kk.ww hr.n.2
  have hft : ft K2 = ft K := by
    unfold ft
    rw [hw]
    exact h2
  refine ⟨hft, ?_, ?_⟩
  · unfold edW
    rw [hw]
    exact mX_cong ha.1 fun p x y => (h1 p x y).2.1
  · unfold csW
    rw [hw]
    have : ∀ n : Nat, (n : Int) ≤ aW K → csF K2 n = csF K n := by
      intro n
      induction n with
      | zero => intro _; rfl
      | succ n ih =>
        intro hn
        unfold csF
        rw [ih (by omega), hrow n (by omega) (by omega), hft]
        have hb : bT K2 n = bT K n := (h1 n (by omega) (by omega)).1
        rw [hb]
    exact this _ (by omega)
theorem eqL_kp (hq : 0 ≤ q ∧ q ≤ 2) : eqL K (kpK K q) := fun z hz => kpK_n (by omega) (by omega)
theorem kp_row (hq : 0 ≤ q ∧ q ≤ 2) (ha : aW K ≤ 16) (h0 : 0 ≤ p) (h1 : p < aW K) : rwK (kpK K q) p = rwK K p := kpK_n (by omega) (by omega)
theorem kp_k (q : Int) (hq : 0 ≤ q ∧ q ≤ 2) : kpK K q (305 + q) = 1 := by
  unfold kpK
  rw [if_neg (by omega), if_pos rfl]
/-- a kept plan that is taken again is the plan -/
theorem tk_kp (τ : Int → Int) : tkK (rtS (kpK K 1) τ) 1 = kpK K 1 := by
  funext z
  unfold tkK
  by_cases hz : 241 ≤ z ∧ z < 257
  · have e : rwS (rtS (kpK K 1) τ) (kpR (rtS (kpK K 1) τ) 1) z = kpR (rtS (kpK K 1) τ) 1 (z - 241) := by
      unfold rwS
      rw [if_pos hz]
    rw [e]
    unfold kpR
    have h2 : rtS (kpK K 1) τ (257 + 16 * 1 + (z - 241)) = kpK K 1 (257 + 16 * 1 + (z - 241)) := rwS_n (by omega)
    rw [h2, kpK_n (z := z) (by omega) (by omega)]
    unfold kpK
    rw [if_pos (by omega)]
    congr 1
    omega
  · rw [rwS_n (by omega)]
    exact rwS_n (by omega)
theorem rt_self (hτ : ∀ p, 0 ≤ p → p < aW K → τ p = rwK K p) : rtS K τ = K := by
  funext z
  unfold rtS rwS
  by_cases hz : 241 ≤ z ∧ z < 257
  · rw [if_pos hz]
    simp only
    by_cases hp : z - 241 < aW K
    · rw [if_pos hp, hτ _ (by omega) hp]
      unfold rwK
      congr 1
      omega
    · rw [if_neg hp]
      congr 1
      omega
  · rw [if_neg hz]
theorem sv_last (hc : 0 ≤ c ∧ c ≤ 12) : svS c S K (svC c - 1) = K ∧ 1 ≤ svC c ∧ svC c ≤ 12 := by
  unfold svS svC
  by_cases hq : c = 12
  · rw [if_pos hq, if_pos hq]
    exact ⟨by simp, by omega⟩
  · rw [if_neg hq, if_neg hq]
    refine ⟨?_, by omega⟩
    rw [if_pos (by omega)]
theorem sv_last2 (hc : 1 ≤ c ∧ c ≤ 12) : svS c S K (svC c - 1 - 1) = S (c - 1) ∧ 2 ≤ svC c := by
  unfold svS svC
  by_cases hq : c = 12
  · rw [if_pos hq, if_pos hq, hq]
    refine ⟨?_, by omega⟩
    rw [if_neg (by omega)]
    rfl
  · rw [if_neg hq, if_neg hq]
    refine ⟨?_, by omega⟩
    rw [if_neg (by omega)]
    congr 1
    omega
/-! the text -/
theorem tbX_d : ∀ s : Int × (Int → Int), ∀ o : Int, 0 ≤ o → o < 8 → tbX (iI (48 + o)) s = (s.1 + 1, uI s.2 s.1 (48 + o)) := by
  intro s o h0 h1
  have key : ∀ o : Int, 0 ≤ o → o < 8 → (bC (iI (48 + o)) 24 = 0 ∧ bC (iI (48 + o)) 16 = 0 ∧ bC (iI (48 + o)) 8 = 0 ∧ bC (iI (48 + o)) 0 = 1) ∧ bV (iI (48 + o)) 0 = 48 + o := by
    intro o h0 h1
    rcases (show o = 0 ∨ o = 1 ∨ o = 2 ∨ o = 3 ∨ o = 4 ∨ o = 5 ∨ o = 6 ∨ o = 7 by omega) with e | e | e | e | e | e | e | e <;> subst e <;> decide +kernel
  obtain ⟨⟨k1, k2, k3, k4⟩, k5⟩ := key o h0 h1
  unfold tbX tb1
  rw [k1, k2, k3, k4, k5]
  simp
theorem tbX_32 (s : Int × (Int → Int)) : tbX (iI 32) s = (s.1 + 1, uI s.2 s.1 32) := by
  have k : (bC (iI 32) 24 = 0 ∧ bC (iI 32) 16 = 0 ∧ bC (iI 32) 8 = 0 ∧ bC (iI 32) 0 = 1) ∧ bV (iI 32) 0 = 32 := by decide +kernel
  obtain ⟨⟨k1, k2, k3, k4⟩, k5⟩ := k
  unfold tbX tb1
  rw [k1, k2, k3, k4, k5]
  simp
theorem tbX_0 (s : Int × (Int → Int)) : tbX (iI 0) s = s := by
  have k : bC (iI 0) 24 = 0 ∧ bC (iI 0) 16 = 0 ∧ bC (iI 0) 8 = 0 ∧ bC (iI 0) 0 = 0 := by decide +kernel
  obtain ⟨k1, k2, k3, k4⟩ := k
  unfold tbX tb1
  rw [k1, k2, k3, k4]
  simp
theorem rdS_cg {T U : Int → Int} : ∀ k : Nat, (∀ j, 0 ≤ j → j < (k : Int) → T j = U j) → rdS T k = rdS U k
  | 0, _ => rfl
  | k + 1, h => by
    have ih := rdS_cg k (fun j x y => h j x (by omega))
    unfold rdS
    rw [ih, h k (by omega) (by omega)]
theorem rdE_cg {T U : Int → Int} (h0 : 0 ≤ j) (h : ∀ i, 0 ≤ i → i ≤ j → T i = U i) : rdE K T j = rdE K U j := by
  unfold rdE
  rw [h j h0 (Int.le_refl _), rdS_cg j.toNat (fun i x y => h i x (by omega))]
/-- the tape holds the row's first k digits -/
def TI (K : e_St) (s : Int × (Int → Int)) (k : Int) : Prop := (k ≤ s.1 ∧ s.1 ≤ 2 * k) ∧ (∀ j, 0 ≤ j → j < s.1 → rdE K s.2 j = false) ∧ (rdS s.2 s.1.toNat).1 = k ∧ ∀ p, 0 ≤ p → p < k → (rdS s.2 s.1.toNat).2 p = rwK K p
theorem TI_app {s : Int × (Int → Int)} {y : Int} (h0 : 0 ≤ s.1) : rdS (uI s.2 s.1 y) (s.1 + 1).toNat = (if y = 32 ∨ y = 10 then rdS s.2 s.1.toNat else ((rdS s.2 s.1.toNat).1 + 1, uI (rdS s.2 s.1.toNat).2 (rdS s.2 s.1.toNat).1 (y - 48))) ∧ (∀ j, 0 ≤ j → j < s.1 → rdE K (uI s.2 s.1 y) j = rdE K s.2 j) ∧ rdE K (uI s.2 s.1 y) s.1 = decide (¬(y = 32 ∨ y = 10) ∧ (¬(0 ≤ y - 48 ∧ y - 48 ≤ K 310 - 1) ∨ cnt (rdS s.2 s.1.toNat).2 (y - 48) (rdS s.2 s.1.toNat).1 = K (40 + (y - 48)))) := by
  have hc : rdS (uI s.2 s.1 y) s.1.toNat = rdS s.2 s.1.toNat := rdS_cg _ (fun j x z => uI_n _ _ (by omega))
  refine ⟨?_, fun j x z => rdE_cg x (fun i u v => uI_n _ _ (by omega)), ?_⟩
  · rw [show (s.1 + 1).toNat = s.1.toNat + 1 by omega]
    conv => lhs; unfold rdS
    rw [hc, Int.toNat_of_nonneg h0, uI_s]
  · unfold rdE
    rw [uI_s, hc]
theorem TI_sp {s : Int × (Int → Int)} (H : TI K s k) (hk : 0 ≤ k) (hb : s.1 + 1 ≤ 2 * k) : TI K (s.1 + 1, uI s.2 s.1 32) k := by
  obtain ⟨⟨h1, h2⟩, h3, h4, h5⟩ := H
  obtain ⟨g1, g2, g3⟩ := TI_app (K := K) (s := s) (y := 32) (by omega)
  rw [if_pos (Or.inl rfl)] at g1
  refine ⟨⟨by simp only; omega, by simp only; omega⟩, fun j x y => ?_, ?_, fun p x y => ?_⟩
  · simp only at y ⊢
    by_cases hj : j = s.1
    · rw [hj, g3]
      exact decide_eq_false (fun h => h.1 (Or.inl rfl))
    · rw [g2 j x (by omega)]
      exact h3 j x (by omega)
  · simp only
    rw [g1, h4]
  · simp only
    rw [g1]
    exact h5 p x y
theorem TI_dg {s : Int × (Int → Int)} (hg : kG K) (H : TI K s k) (hk : 0 ≤ k ∧ k < aW K) : TI K (s.1 + 1, uI s.2 s.1 (48 + rwK K k)) (k + 1) := by
  obtain ⟨⟨h1, h2⟩, h3, h4, h5⟩ := H
  obtain ⟨ha, hv0⟩ := hg.2.1
  have hv : vR K (rwK K) := hv0
  have hn := hg.1.n
  have hr := hv.1 k hk.1 hk.2
  obtain ⟨g1, g2, g3⟩ := TI_app (K := K) (s := s) (y := 48 + rwK K k) (by omega)
  rw [if_neg (by omega), h4, show 48 + rwK K k - 48 = rwK K k by omega] at g1
  rw [h4, show 48 + rwK K k - 48 = rwK K k by omega] at g3
  have hcn : cnt (rdS s.2 s.1.toNat).2 (rwK K k) k = cnt (rwK K) (rwK K k) k := cnt_cong h5
  have hlt : cnt (rwK K) (rwK K k) k < K (40 + rwK K k) := by
    have e1 := hv.2 (rwK K k) hr.1 hr.2
    have e2 := cnt_s (rwK K) (rwK K k) hk.1
    rw [if_pos rfl] at e2
    have e3 := cnt_mono (τ := rwK K) (o := rwK K k) (i := k + 1) (n := aW K) (by omega) (by omega)
    omega
  refine ⟨⟨by simp only; omega, by simp only; omega⟩, fun j x y => ?_, ?_, fun p x y => ?_⟩
  · simp only at y ⊢
    by_cases hj : j = s.1
    · rw [hj, g3]
      refine decide_eq_false (fun h => ?_)
      rw [hcn] at h
      omega
    · rw [g2 j x (by omega)]
      exact h3 j x (by omega)
  · simp only
    rw [g1]
  · simp only
    rw [g1]
    simp only
    by_cases hp : p = k
    · rw [hp, uI_s]
    · rw [uI_n _ _ hp]
      exact h5 p x (by omega)
theorem TI_read {s : Int × (Int → Int)} (hw : 0 ≤ aW K) (H : TI K s (aW K)) : reW K s.2 s.1 = -1 ∧ rdK K s = K := by
  obtain ⟨⟨h1, h2⟩, h3, h4, h5⟩ := H
  refine ⟨?_, rt_self h5⟩
  unfold reW
  have hn : fsP (rdE K s.2) s.1.toNat = s.1 := by
    rw [fsP_none s.1.toNat (fun j x y => h3 j x (by omega)), Int.toNat_of_nonneg (by omega)]
  rw [hn, if_neg (by omega), if_pos h4]
end El33
