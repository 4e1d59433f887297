section El18
variable {L : Nat} {xs : Nat → Int32} {d : Nat} {M M1 M2 M3 : e_MI} {V V2 : e_ML} {W : e_MD} {K K2 : e_St} {S : Int → e_St} {h : e_H} {c o j w z m k q p i f n a b t x B its u v : Int} {τ β ε : Int → Int}
/-! what is drawn is small: no plan that has times ends near 2000 -/
def LK (K : e_St) : Prop := aW K ≤ 10 ∧ ∀ k, 0 ≤ k → k < K 311 → K (228 + k) ≤ 200
theorem far_fit {blocked : Int → Bool} (ht : 1 ≤ t) (h0 : 0 ≤ a) (hab : a ≤ B) (hz : zFF blocked t a ≠ 2001) (hfree : ∀ x, B ≤ x → blocked (x + 24) = false → blocked x = false) : zFF blocked t a ≤ B + 23 := by
  rcases zFF_spec (p := blocked) (time := t) (by omega) (2001 - a).toNat a h0 (Nat.le_refl _) with ⟨y, _⟩ | ⟨y1, y2, y3, y4⟩
  · exact absurd y hz
  · by_cases hq : zFF blocked t a ≤ B + 23
    · exact hq
    · exfalso
      refine y4 (zFF blocked t a - 24) (by omega) (by omega) (lB_none (by omega) (by omega) fun x u v => hfree x (by omega) ?_)
      rcases lB_cases blocked (zFF blocked t a) t (by omega) (by omega) with ⟨z1, z2⟩ | ⟨z1, _⟩
      · exact z2 (x + 24) (by omega) (by omega)
      · omega
theorem lo_up (hr : kR K) (hp : kP K) (hv : vP K τ n) (h0 : 0 ≤ k) (h1 : k < n) (hB : 200 ≤ B) (he : ∀ q, 0 ≤ q → q < k → scE K τ q ≤ B) : loW K τ (scW τ) (scE K τ) k ≤ B + 20 := by
  rw [← lo_max hr hp hv h0 h1]
  have w := wk_at hr hv h0 h1
  have g := hv.rg hr h0 h1
  have hre := hr.re (o := τ k) w.1.1 (by omega)
  refine mbF_le (maF_le (by omega) _ fun p x y _ => by have := he p x (by omega); omega) _ (fun p x y _ => ?_) (fun p x y _ _ => by have := he p x (by omega); omega)
  have h2 := he p x (by omega)
  have w2 := wk_at hr hv x (show p < n by omega)
  have rs := sT_rg hr (m := mcA K τ (scW τ) k) (f := K (τ p)) (t := K (τ k)) g.2.2.1 (hr.kd w2.1.1 (by omega)) (hr.kd w.1.1 (by omega))
  split <;> omega
theorem far_end (hr : kR K) (hp : kP K) (hk : LK K) (hv : vP K τ n) : ∀ p : Nat, (p : Int) ≤ n → (∀ q, 0 ≤ q → q < (p : Int) → scB K τ q ≠ 2001) → ∀ q, 0 ≤ q → q < (p : Int) → scE K τ q ≤ 200 + 125 * (p : Int)
  | 0, _, _ => fun q x y => by omega
  | p + 1, hn, hf => fun q x y => by
    have ih := far_end hr hp hk hv p (by omega) (fun q x y => hf q x (by omega))
    by_cases hq : q < (p : Int)
    · have := ih q x hq
      omega
    · have hqp : q = (p : Int) := by omega
      subst hqp
      have hne := hf p (by omega) (by omega)
      have h1 : (p : Int) < n := by omega
      have s1 := sc_spI hr hp hv x h1
      have l1 := lo_spI hr hp hv x h1
      have lu := lo_up hr hp hv x h1 (B := 200 + 125 * (p : Int)) (by omega) ih
      have w := wk_at hr hv x h1
      have htk := tk_pos hr hp w.1 w.2.1
      have hs := s1.2.1
      rw [if_neg hne] at hs
      have hb : scB K τ p = zFF (blB K (scB K τ) (scE K τ) p (mcA K τ (scW τ) p)) (tk K (τ p) (scW τ p)) (loW K τ (scW τ) (scE K τ) p) := scB_eq K τ x
      have hfar := far_fit (blocked := blB K (scB K τ) (scE K τ) p (mcA K τ (scW τ) p)) (t := tk K (τ p) (scW τ p)) (a := loW K τ (scW τ) (scE K τ) p) (B := 200 + 125 * (p : Int) + 20) htk.1 l1.1.1 lu (by rw [← hb]; exact hne) (fun y hy hbl => by
        have hbz : ∀ y2, 200 + 125 * (p : Int) + 20 ≤ y2 → bz (scB K τ) (scE K τ) p y2 = 0 := fun y2 hy2 => by
          unfold bz
          rw [SU_cong (g := fun _ => 0) (fun i u v => by
            have := ih i u v
            rw [if_neg (by omega)])]
          have := SU_le (f := fun _ => 0) (n := (p : Int)) (c := 0) (fun _ _ _ => by omega) (by omega)
          omega
        have hrs : rsB K (mcA K τ (scW τ) p) y = false := by
          unfold rsB
          refine zAN_f hr.rm.1 fun k u v => ?_
          have := hk.2 k u v
          rw [decide_eq_false_iff_not]
          omega
        unfold blB hwB at hbl ⊢
        rw [hrs, hbz y (by omega)]
        rw [hbz (y + 24) (by omega)] at hbl
        simp only [Bool.or_eq_false_iff, Bool.not_eq_false', decide_eq_true_eq] at hbl
        rw [show (y + 24) % 24 = y % 24 by omega] at hbl
        rw [decide_eq_true hbl.2]
        rfl)
      omega
theorem far_edW (hg : kG K) (hk : LK K) (hf : ft K = true) : edW K ≤ 1500 := by
  have hr := hg.1
  have hp := hg.2.2.1
  obtain ⟨ha, hv⟩ := hg.2.1
  have hvp : vP K (rwK K) (aW K) := vR.vp hr hv
  have h1 := far_end hr hp hk hvp (aW K).toNat (by omega) (fun q x y => (fiR_iff ha.1).mp hf q x (by omega))
  have h10 := hk.1
  exact (mX_rg (f := eT K) (n := aW K) (c := 1500) ha.1 (by omega) (fun p x y => by
    have := h1 p x (by omega)
    show scE K (rwK K) p ≤ 1500
    omega)).2
/-- class and law hold the state K, c states can come back -/
def CL (M : e_MI) (K : e_St) (c : Int) (S : Int → e_St) : Prop := CK M K c S ∧ kG K ∧ LK K ∧ (LA M K ∧ LB M K ∧ LC M K) ∧ ∀ j, 0 ≤ j → j < c → kG (S j)
/-- what the law's plan check leaves as it was -/
def fP (M M2 : e_MI) : Prop := (∀ a, a ≠ 184 → a ≠ 199 → a ≠ 200 → a ≠ 201 → a ≠ 202 → M2 a = M a) ∧ ∀ j, j ≠ 0 → M2 184 j = M 184 j
theorem fP.l (h : fP M M2) : fL M M2 := ⟨fun a x => h.1 a (by omega) (by omega) (by omega) (by omega) (by omega), fun a x y => h.1 a (by omega) (by omega) (by omega) (by omega) (by omega), fun j x => h.2 j (by omega)⟩
theorem fP.tr (h : fP M M2) (h2 : fP M2 M3) : fP M M3 := ⟨fun a x y z u v => by rw [h2.1 a x y z u v, h.1 a x y z u v], fun j x => by rw [h2.2 j x, h.2 j x]⟩
theorem fR.pp (h : fR M M2) : fP M M2 := ⟨fun a _ x _ _ _ => h a x, fun j _ => by rw [h 184 (by decide)]⟩
theorem fT.pp (h : fT M M2) : fP M M2 := ⟨fun a _ _ x y z => h a x y z, fun j _ => by rw [h 184 (by decide) (by decide) (by decide)]⟩
theorem fX.pp (h : fX M M2) : fP M M2 := ⟨fun a x _ _ _ _ => h.1 a x, fun j x => h.2 j x⟩
theorem CL.of (H : CL M K c S) (h : fL M M2) : CL M2 K c S := ⟨H.1.of (fun a x y => h.1 a (by omega)), H.2.1, H.2.2.1, ⟨H.2.2.2.1.1.of h, H.2.2.2.1.2.1.of h, H.2.2.2.1.2.2.of h⟩, H.2.2.2.2⟩
theorem CL.ck (H : CL M K c S) : CK M K c S := H.1
theorem CL.g (H : CL M K c S) : kG K := H.2.1
theorem CL.lk (H : CL M K c S) : LK K := H.2.2.1
theorem CL.la (H : CL M K c S) : LA M K := H.2.2.2.1.1
theorem CL.lb (H : CL M K c S) : LB M K := H.2.2.2.1.2.1
theorem CL.lc (H : CL M K c S) : LC M K := H.2.2.2.1.2.2
theorem CL.us (H : CL M K c S) : ∀ j, 0 ≤ j → j < c → kG (S j) := H.2.2.2.2
/-- the tape's cells as they were -/
def fTp (M M2 : e_MI) : Prop := ∀ a, 179 ≤ a → a ≤ 183 → M2 a = M a
theorem fTp.rf (M : e_MI) : fTp M M := fun _ _ _ => rfl
theorem fTp.tr (h : fTp M M2) (h2 : fTp M2 M3) : fTp M M3 := fun a x y => by rw [h2 a x y, h a x y]
theorem fP.fp (h : fP M M2) : fTp M M2 := fun a x y => h.1 a (by omega) (by omega) (by omega) (by omega) (by omega)
theorem fL.fp (h : fL M M2) : fTp M M2 := fun a x y => h.1 a (by omega)
end El18
