section E87
variable {L : Nat} {xs : Nat → Int32} {d : Nat} {M M2 M3 : e_MI} {V : e_ML} {W : e_MD} {K K2 : e_St} {h : e_H} {S : Int → e_St} {c cd : Int} {ρ ω β ε τ T U : Int → Int} {r : Option e_R} {an : Int32} {o z v : Int}
/-! changes of the reference -/
theorem RK.n (H : RK M K c S) (hK : e_KM M2 K2) (hg : kG K2) (hF : frN M M2) : RK M2 K2 c S := by
  obtain ⟨a1, a2, a3, a4, a5⟩ := H
  refine ⟨hK, hg, ?_, a4, a5.of fun a x y => hF a (by omega)⟩
  unfold e_SV
  rw [hF 184 (by decide), hF 186 (by decide)]
  exact a3
theorem AC.ok (hcd : cd = 0) (hr : r = some (.inl (some (.int an)), e_hp M3 V W, 0, 0)) (H3 : RK M3 K2 (svC c) (svS c S K)) (hF : frP (mT M) M3) (h0 : M3 184 0 = iI 0) : AC r M V W K c S K2 cd an := by
  subst hcd
  exact ⟨M3, an, hr, (frQ_mT M).p.t hF, h0, fun _ => ⟨rfl, H3⟩, fun a => absurd rfl a⟩
theorem coK_n {a b e f g : Int} (hn : 0 ≤ K 310 ∧ K 310 < 8) (hz : z ≠ K 310 ∧ z ≠ 8 + K 310 ∧ z ≠ 16 + K 310 ∧ z ≠ 24 + K 310 ∧ z ≠ 32 + K 310 ∧ z ≠ 40 + K 310 ∧ z ≠ 310) : coK K a b e f g z = K z := by
  unfold coK
  rw [uI_n _ _ (by omega), uI_n _ _ (by omega), uI_n _ _ (by omega), uI_n _ _ (by omega), uI_n _ _ (by omega), uI_n _ _ (by omega), uI_n _ _ (by omega)]
theorem coK_310 {a b e f g : Int} : coK K a b e f g 310 = K 310 + 1 := uI_s _ _ _
theorem coK_40 {a b e f g : Int} (hn : 0 ≤ K 310 ∧ K 310 < 8) : coK K a b e f g (40 + K 310) = 0 := by
  unfold coK
  rw [uI_n _ _ (by omega), uI_s]
theorem coK_8 {a b e f g : Int} (hn : 0 ≤ K 310 ∧ K 310 < 8) : coK K a b e f g (8 + K 310) = b := by
  unfold coK
  rw [uI_n _ _ (by omega), uI_n _ _ (by omega), uI_n _ _ (by omega), uI_n _ _ (by omega), uI_n _ _ (by omega), uI_s]
theorem coK_sp {a b e f g : Int} (hr : kR K) (hp : kP K) (hd : kD K) (hn : K 310 < 8) (ha : (0 ≤ a ∧ a ≤ 3) ∧ (1 ≤ b ∧ b ≤ 9) ∧ (0 ≤ e ∧ e ≤ 200) ∧ (0 ≤ f ∧ f ≤ 500) ∧ (0 ≤ g ∧ g ≤ 9)) : kR (coK K a b e f g) ∧ aW (coK K a b e f g) = aW K ∧ kP (coK K a b e f g) ∧ kD (coK K a b e f g) := by
  have hn8 := hr.n
  have hnn : 0 ≤ K 310 ∧ K 310 < 8 := ⟨hn8.1, hn⟩
  refine ⟨?_, ?_, ⟨fun o x y => ?_, fun o w x y p q => ?_⟩, kD_cong (fun z x => coK_n hnn (by omega)) hr hd⟩
  · unfold coK
    refine ((((((hr.up (z := K 310) (v := a) ?_).up (z := 8 + K 310) (v := b) ?_).up (z := 16 + K 310) (v := e) ?_).up (z := 24 + K 310) (v := f) ?_).up (z := 32 + K 310) (v := g) ?_).up (z := 40 + K 310) (v := 0) ?_).up (z := 310) (v := K 310 + 1) ?_
    · have := kb0 (z := K 310) hnn; omega
    · have := kb1 (z := 8 + K 310) (by omega); omega
    · have := kb2 (z := 16 + K 310) (by omega); omega
    · have := kb3 (z := 24 + K 310) (by omega); omega
    · have := kb4 (z := 32 + K 310) (by omega); omega
    · have := kb5 (z := 40 + K 310) (by omega); omega
    · have := kb15; omega
  · unfold aW
    rw [coK_310, SU_s _ hnn.1, coK_40 hnn, Int.add_zero]
    exact SU_cong (fun i x y => coK_n hnn (by omega))
  · rw [coK_310] at y
    by_cases hq : o = K 310
    · rw [hq, coK_8 hnn]
      omega
    · rw [coK_n hnn (by omega)]
      exact hp.1 o x (by omega)
  · rw [coK_310] at y
    by_cases hq : o = K 310
    · rw [hq, coK_40 hnn] at q
      omega
    · rw [coK_n hnn (by omega)] at q
      have hw := hr.wk (o := o) x (by omega)
      rw [coK_n hnn (by omega)]
      exact hp.2 o w x (by omega) p q
theorem adK_n {m t l : Int} (ho : 0 ≤ o ∧ o ≤ 7) (hw : 0 ≤ K (40 + o) ∧ K (40 + o) ≤ 3) (hz : z ≠ 48 + (4 * o + K (40 + o)) ∧ z ≠ 80 + (4 * o + K (40 + o)) ∧ z ≠ 112 + (4 * o + K (40 + o)) ∧ z ≠ 40 + o) : adK K o m t l z = K z := by
  unfold adK
  rw [uI_n _ _ (by omega), uI_n _ _ (by omega), uI_n _ _ (by omega), uI_n _ _ (by omega)]
theorem adK_40 {m t l : Int} : adK K o m t l (40 + o) = K (40 + o) + 1 := uI_s _ _ _
theorem adK_80 {m t l : Int} (ho : 0 ≤ o ∧ o ≤ 7) (hw : 0 ≤ K (40 + o) ∧ K (40 + o) ≤ 3) : adK K o m t l (80 + (4 * o + K (40 + o))) = t := by
  unfold adK
  rw [uI_n _ _ (by omega), uI_n _ _ (by omega), uI_s]
theorem adK_sp {m t l : Int} (hr : kR K) (hp : kP K) (hd : kD K) (ho : 0 ≤ o ∧ o < K 310) (hw : K (40 + o) ≤ 3) (ha : (0 ≤ m ∧ m ≤ 3) ∧ (1 ≤ t ∧ t ≤ 9) ∧ (-1 ≤ l ∧ l ≤ 2)) : kR (adK K o m t l) ∧ aW (adK K o m t l) = aW K + 1 ∧ kP (adK K o m t l) ∧ kD (adK K o m t l) ∧ adK K o m t l 310 = K 310 := by
  have hn8 := hr.n
  have hw0 := hr.wk (o := o) ho.1 (by omega)
  have ho7 : 0 ≤ o ∧ o ≤ 7 := by omega
  have hww : 0 ≤ K (40 + o) ∧ K (40 + o) ≤ 3 := by omega
  have e310 : adK K o m t l 310 = K 310 := adK_n ho7 hww (by omega)
  refine ⟨?_, ?_, ⟨fun q x y => ?_, fun q w x y p u => ?_⟩, kD_cong (fun z x => adK_n ho7 hww (by omega)) hr hd, e310⟩
  · unfold adK
    refine (((hr.up (z := 48 + (4 * o + K (40 + o))) (v := m) ?_).up (z := 80 + (4 * o + K (40 + o))) (v := t) ?_).up (z := 112 + (4 * o + K (40 + o))) (v := l) ?_).up (z := 40 + o) (v := K (40 + o) + 1) ?_
    · have := kb6 (z := 48 + (4 * o + K (40 + o))) (by omega); omega
    · have := kb7 (z := 80 + (4 * o + K (40 + o))) (by omega); omega
    · have := kb8 (z := 112 + (4 * o + K (40 + o))) (by omega); omega
    · have := kb5 (z := 40 + o) (by omega); omega
  · unfold aW
    rw [e310, SU_cong (g := fun q => K (40 + q) + if o = q then 1 else 0) (fun q x y => ?_), SU_add _ _ hn8.1, SU_one ho.1 ho.2]
    by_cases hq : o = q
    · subst hq
      rw [adK_40, if_pos rfl]
    · rw [adK_n ho7 hww (by omega), if_neg hq, Int.add_zero]
  · rw [e310] at y
    rw [adK_n ho7 hww (by omega)]
    exact hp.1 q x y
  · rw [e310] at y
    have hwq := hr.wk (o := q) x (by omega)
    by_cases hq : q = o
    · subst hq
      rw [adK_40] at u
      by_cases hw2 : w = K (40 + q)
      · rw [hw2, show 80 + 4 * q + K (40 + q) = 80 + (4 * q + K (40 + q)) by omega, adK_80 ho7 hww]
        omega
      · rw [adK_n ho7 hww (by omega)]
        exact hp.2 q w x y p (by omega)
    · rw [adK_n ho7 hww (by omega)] at u
      rw [adK_n ho7 hww (by omega)]
      exact hp.2 q w x y p u
/-- a change of one number of the times -/
theorem kG_up (hg : kG K) (hz : (144 ≤ z ∧ z < 208) ∨ (238 ≤ z ∧ z < 241) ∨ z = 308 ∨ z = 309) (hv : kLo z ≤ v ∧ v ≤ kHi z) (hs : 144 ≤ z ∧ z < 208 → ∀ m f, 0 ≤ m → m < 4 → 0 ≤ f → f < 4 → z ≠ 144 + 16 * m + 4 * f + f) : kG (uI K z v) := by
  have hm := hg.1.rm
  refine kG_t hg (hg.1.up hv) (uI_n _ _ (by omega)) (fun i a => uI_n _ _ (by omega)) ⟨fun k a b => ?_, fun m f a b x y => ?_⟩
  · rw [uI_n _ _ (show (311 : Int) ≠ z by omega)] at b
    rw [uI_n _ _ (by omega), uI_n _ _ (by omega), uI_n _ _ (by omega)]
    exact hg.2.2.2.2.1 k a b
  · by_cases hq : 144 ≤ z ∧ z < 208
    · rw [uI_n _ _ (Ne.symm (hs hq m f a b x y))]
      exact hg.2.2.2.2.2 m f a b x y
    · rw [uI_n _ _ (by omega)]
      exact hg.2.2.2.2.2 m f a b x y
end E87
