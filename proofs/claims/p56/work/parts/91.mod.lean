section E91
variable {L : Nat} {xs : Nat → Int32} {d : Nat} {M M2 M3 : e_MI} {V : e_ML} {W : e_MD} {K K2 : e_St} {h : e_H} {S : Int → e_St} {c cd n er w f t o m : Int} {s : Int × (Int → Int)} {ρ ω β ε τ T U : Int → Int} {r : Option e_R} {an : Int32}
theorem sc_tau {n : Int} {τ2 : Int → Int} (h : ∀ p, 0 ≤ p → p < n → τ p = τ2 p) : ∀ (b k : Nat), k ≤ b → (k : Int) < n → scB K τ k = scB K τ2 k ∧ scE K τ k = scE K τ2 k
  | 0, k, hb, hk => by
    have hw : ∀ p : Int, 0 ≤ p → p ≤ k → τ p = τ2 p ∧ scW τ p = scW τ2 p := fun p a b => ⟨h p a (by omega), by
      unfold scW
      rw [h p a (by omega)]
      exact cnt_cong fun q x y => h q x (by omega)⟩
    rw [scB_eq K τ (by omega), scB_eq K τ2 (by omega), scE_eq K τ (by omega), scE_eq K τ2 (by omega)]
    exact ⟨bgW_cong (by omega) hw (fun p a b => by omega), enW_cong (by omega) hw (fun p a b => by omega)⟩
  | b + 1, k, hb, hk => by
    have hw : ∀ p : Int, 0 ≤ p → p ≤ k → τ p = τ2 p ∧ scW τ p = scW τ2 p := fun p a b => ⟨h p a (by omega), by
      unfold scW
      rw [h p a (by omega)]
      exact cnt_cong fun q x y => h q x (by omega)⟩
    have hi : ∀ p : Int, 0 ≤ p → p < k → scB K τ p = scB K τ2 p ∧ scE K τ p = scE K τ2 p := fun p a c => by
      have := sc_tau h b p.toNat (by omega) (by omega)
      rw [Int.toNat_of_nonneg a] at this
      exact this
    rw [scB_eq K τ (by omega), scB_eq K τ2 (by omega), scE_eq K τ (by omega), scE_eq K τ2 (by omega)]
    exact ⟨bgW_cong (by omega) hw hi, enW_cong (by omega) hw hi⟩
theorem sc_tauI {n p : Int} {τ2 : Int → Int} (h : ∀ p, 0 ≤ p → p < n → τ p = τ2 p) (h0 : 0 ≤ p) (h1 : p < n) : scB K τ p = scB K τ2 p ∧ scE K τ p = scE K τ2 p ∧ scW τ p = scW τ2 p := by
  have := sc_tau (K := K) h p.toNat p.toNat (Nat.le_refl _) (by omega)
  rw [Int.toNat_of_nonneg h0] at this
  refine ⟨this.1, this.2, ?_⟩
  unfold scW
  rw [h p h0 h1]
  exact cnt_cong fun q x y => h q x (by omega)
def reK (K : e_St) (m f t : Int) : e_St := uI (uI (uI (uI K (208 + K 311) m) (218 + K 311) f) (228 + K 311) t) 311 (K 311 + 1)
theorem reK_n {z : Int} (hm : 0 ≤ K 311 ∧ K 311 < 10) (hz : z < 208 ∨ 238 ≤ z) (h2 : z ≠ 311) : reK K m f t z = K z := by
  unfold reK
  rw [uI_n _ _ (by omega), uI_n _ _ (by omega), uI_n _ _ (by omega), uI_n _ _ (by omega)]
theorem kG_re (hg : kG K) (hm : K 311 < 10) (h1 : 0 ≤ m ∧ m ≤ 3) (h2 : 0 ≤ f ∧ f ≤ 1999) (h3 : f + 1 ≤ t ∧ t ≤ 2000) : kG (reK K m f t) := by
  have hr := hg.1
  have hrm := hr.rm
  have hmm : 0 ≤ K 311 ∧ K 311 < 10 := ⟨hrm.1, hm⟩
  refine kG_t hg ?_ (reK_n hmm (by omega) (by omega)) (fun z a => reK_n hmm (by omega) (by omega)) ⟨fun k a b => ?_, fun m2 f2 a b x y => ?_⟩
  · unfold reK
    refine (((hr.up (z := 208 + K 311) (v := m) ?_).up (z := 218 + K 311) (v := f) ?_).up (z := 228 + K 311) (v := t) ?_).up (z := 311) (v := K 311 + 1) ?_
    · have := kb10 (z := 208 + K 311) (by omega); omega
    · have := kb10 (z := 218 + K 311) (by omega); omega
    · have := kb10 (z := 228 + K 311) (by omega); omega
    · have := kb16; omega
  · have e311 : reK K m f t 311 = K 311 + 1 := uI_s _ _ _
    rw [e311] at b
    by_cases hk : k = K 311
    · have e1 : reK K m f t (208 + k) = m := by
        unfold reK
        rw [uI_n _ _ (by omega), uI_n _ _ (by omega), uI_n _ _ (by omega), hk, uI_s]
      have e2 : reK K m f t (218 + k) = f := by
        unfold reK
        rw [uI_n _ _ (by omega), uI_n _ _ (by omega), hk, uI_s]
      have e3 : reK K m f t (228 + k) = t := by
        unfold reK
        rw [uI_n _ _ (by omega), hk, uI_s]
      rw [e1, e2, e3]
      omega
    · have e1 : ∀ z, z = 208 + k ∨ z = 218 + k ∨ z = 228 + k → reK K m f t z = K z := fun z u => by
        unfold reK
        rw [uI_n _ _ (by omega), uI_n _ _ (by omega), uI_n _ _ (by omega), uI_n _ _ (by omega)]
      rw [e1 _ (by omega), e1 _ (by omega), e1 _ (by omega)]
      exact hg.2.2.2.2.1 k a (by omega)
  · rw [reK_n hmm (by omega) (by omega)]
    exact hg.2.2.2.2.2 m2 f2 a b x y
def anRe (K : e_St) (m f t : Int) : Int := if ft (reK K m f t) = true ∧ ft K = true then otW K (reK K m f t) (rwK K) else -1
end E91
