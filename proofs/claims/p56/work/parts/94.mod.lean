section E94
variable {L : Nat} {xs : Nat → Int32} {d : Nat} {M M2 M3 : e_MI} {V : e_ML} {W : e_MD} {K K2 : e_St} {h : e_H} {S : Int → e_St} {c cd n er f t o m q j z i : Int} {s : Int × (Int → Int)} {ρ ω β ε τ T U : Int → Int} {r : Option e_R} {an : Int32}
/-! a lot is cut -/
def cu0 (K : e_St) (o a : Int) : e_St := uI K (8 + o) (K (8 + o) - a)
def cuS (K : e_St) (o a : Int) : Nat → e_St
  | 0 => coK (cu0 K o a) (K o) a (K (16 + o)) (K (24 + o)) (K (32 + o))
  | w + 1 => adK (cuS K o a w) (K 310) (K (48 + 4 * o + w)) (K (80 + 4 * o + w)) (K (112 + 4 * o + w))
theorem cu0_sp {a : Int} (hr : kR K) (hp : kP K) (hd : kD K) (ho : 0 ≤ o ∧ o < K 310) (ha : 1 ≤ a ∧ a ≤ K (8 + o) - 1) : kR (cu0 K o a) ∧ aW (cu0 K o a) = aW K ∧ kP (cu0 K o a) ∧ kD (cu0 K o a) ∧ cu0 K o a 310 = K 310 ∧ ∀ z, z ≠ 8 + o → cu0 K o a z = K z := by
  have hn := hr.n
  have h8 := hr.am (o := o) ho.1 (by omega)
  have hz : ∀ z, z ≠ 8 + o → cu0 K o a z = K z := fun z x => uI_n _ _ x
  refine ⟨hr.up (by have := kb1 (z := 8 + o) (by omega); omega), aW_cong (hz _ (by omega)) (fun q x y => hz _ (by omega)), ⟨fun q x y => ?_, fun q w x y u v => ?_⟩, kD_cong (fun z x => hz _ (by omega)) hr hd, hz _ (by omega), hz⟩
  · rw [hz 310 (by omega)] at y
    by_cases hq : q = o
    · subst hq
      unfold cu0
      rw [uI_s]
      omega
    · rw [hz _ (by omega)]
      exact hp.1 q x y
  · rw [hz 310 (by omega)] at y
    have hw := hr.wk (o := q) x (by omega)
    rw [hz _ (by omega)] at v
    rw [hz _ (by omega)]
    exact hp.2 q w x y u v
theorem cuS_sp {a : Int} (hr : kR K) (hp : kP K) (hd : kD K) (ho : 0 ≤ o ∧ o < K 310) (hn : K 310 < 8) (ha : 1 ≤ a ∧ a ≤ K (8 + o) - 1) : ∀ w : Nat, (w : Int) ≤ K (40 + o) → kR (cuS K o a w) ∧ aW (cuS K o a w) = aW K + w ∧ kP (cuS K o a w) ∧ kD (cuS K o a w) ∧ cuS K o a w 310 = K 310 + 1 ∧ cuS K o a w (40 + K 310) = w ∧ (∀ z, z ≠ 8 + o → z ≠ K 310 → z ≠ 8 + K 310 → z ≠ 16 + K 310 → z ≠ 24 + K 310 → z ≠ 32 + K 310 → z ≠ 40 + K 310 → z ≠ 310 → ¬(48 + 4 * K 310 ≤ z ∧ z < 52 + 4 * K 310) → ¬(80 + 4 * K 310 ≤ z ∧ z < 84 + 4 * K 310) → ¬(112 + 4 * K 310 ≤ z ∧ z < 116 + 4 * K 310) → cuS K o a w z = K z)
  | 0, _ => by
    obtain ⟨s1, s2, s3, s4, s5, s6⟩ := cu0_sp (a := a) hr hp hd ho ha
    have hn8 := hr.n
    have h8 := hr.am (o := o) ho.1 (by omega)
    have g1 := hr.kd (o := o) ho.1 (by omega)
    have g2 := hr.re (o := o) ho.1 (by omega)
    have g3 := hr.du (o := o) ho.1 (by omega)
    have g4 := hr.we (o := o) ho.1 (by omega)
    obtain ⟨t1, t2, t3, t4⟩ := coK_sp (K := cu0 K o a) (a := K o) (b := a) (e := K (16 + o)) (f := K (24 + o)) (g := K (32 + o)) s1 s3 s4 (by rw [s5]; exact hn) ⟨g1, by omega, g2, g3, g4⟩
    have hnn : 0 ≤ cu0 K o a 310 ∧ cu0 K o a 310 < 8 := by rw [s5]; omega
    refine ⟨t1, by unfold cuS; rw [t2, s2]; omega, t3, t4, ?_, ?_, fun z x0 x1 x2 x3 x4 x5 x6 x7 _ _ _ => ?_⟩
    · unfold cuS
      rw [coK_310, s5]
    · unfold cuS
      have := coK_40 (K := cu0 K o a) (a := K o) (b := a) (e := K (16 + o)) (f := K (24 + o)) (g := K (32 + o)) hnn
      rw [s5] at this
      rw [this]
      rfl
    · unfold cuS
      rw [coK_n hnn (by rw [s5]; omega)]
      exact s6 z x0
  | w + 1, hw => by
    obtain ⟨s1, s2, s3, s4, s5, s6, s7⟩ := cuS_sp (a := a) hr hp hd ho hn ha w (by omega)
    have hn8 := hr.n
    have hwk := hr.wk (o := o) ho.1 (by omega)
    have g1 := hr.mc (i := 4 * o + w) (by omega) (by omega)
    have g2 := hr.tm (i := 4 * o + w) (by omega) (by omega)
    have g3 := hr.tl (i := 4 * o + w) (by omega) (by omega)
    have g4 := hp.2 o w ho.1 ho.2 (by omega) (by omega)
    rw [show 48 + (4 * o + (w : Int)) = 48 + 4 * o + w by omega] at g1
    rw [show 80 + (4 * o + (w : Int)) = 80 + 4 * o + w by omega] at g2
    rw [show 112 + (4 * o + (w : Int)) = 112 + 4 * o + w by omega] at g3
    obtain ⟨t1, t2, t3, t4, t5⟩ := adK_sp (K := cuS K o a w) (o := K 310) (m := K (48 + 4 * o + w)) (t := K (80 + 4 * o + w)) (l := K (112 + 4 * o + w)) s1 s3 s4 (by rw [s5]; omega) (by rw [s6]; omega) ⟨g1, ⟨g4, g2.2⟩, g3⟩
    refine ⟨t1, by show aW (adK _ _ _ _ _) = _; rw [t2, s2]; push_cast; omega, t3, t4, by show adK _ _ _ _ _ 310 = _; rw [t5, s5], ?_, fun z x0 x1 x2 x3 x4 x5 x6 x7 x8 x9 x10 => ?_⟩
    · show adK _ _ _ _ _ _ = _
      rw [adK_40, s6]
      push_cast
      rfl
    · show adK _ _ _ _ _ z = _
      rw [adK_n (by omega) (by rw [s6]; omega) (by rw [s6]; omega)]
      exact s7 z x0 x1 x2 x3 x4 x5 x6 x7 x8 x9 x10
end E94
