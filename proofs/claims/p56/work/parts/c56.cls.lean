section Ec56
variable {K : e_St} {o w z m k q p i f e x y v n : Int} {τ τ2 u : Int → Int} {s : exT}
/-! the first row with the least end -/
theorem mX_ge {f : Int → Int} (hn : 0 ≤ n) : ∀ p, 0 ≤ p → p < n → f p ≤ mX f n := by
  refine SU_ind (P := fun n => ∀ p, 0 ≤ p → p < n → f p ≤ mX f n) (fun p a b => by omega) (fun i hi ih p a b => ?_) n hn
  rw [mX_s f hi]
  by_cases hp : p = i
  · rw [hp]
    split <;> omega
  · have := ih p a (by omega)
    split <;> omega
theorem mX_le {f : Int → Int} {c : Int} (hn : 0 ≤ n) (hc : 0 ≤ c) (h : ∀ p, 0 ≤ p → p < n → f p ≤ c) : mX f n ≤ c := (mX_rg hn hc h).2
theorem mX_0 {f : Int → Int} (hn : 0 ≤ n) : 0 ≤ mX f n := by
  refine SU_ind (P := fun n => 0 ≤ mX f n) (Int.le_refl _) (fun i hi ih => ?_) n hn
  rw [mX_s f hi]
  split <;> omega
/-- a whole row that has times -/
def okR (K : e_St) (u : Int → Int) : Prop := vR K u ∧ ∀ p, 0 ≤ p → p < aW K → scB K u p ≠ 2001
def enR (K : e_St) (u : Int → Int) : Int := mX (scE K u) (aW K)
def exT2 (τ : Int → Int) (k : Int) (u : Int → Int) : Prop := ∀ p, 0 ≤ p → p < k → u p = τ p
def ltR (K : e_St) (u v : Int → Int) : Prop := ∃ j, 0 ≤ j ∧ j < aW K ∧ (∀ p, 0 ≤ p → p < j → u p = v p) ∧ u j < v j
theorem enR_cg (hn : 0 ≤ aW K) (h : ∀ p, 0 ≤ p → p < aW K → u p = τ p) : enR K u = enR K τ := mX_cong hn fun p a b => (sc_tauI (K := K) h a b).2.1
theorem exR_sp (hr : kR K) (hn : 0 ≤ aW K) : ∀ (m : Nat) (k : Int) (τ : Int → Int) (s : exT), k + m = aW K → 0 ≤ k → pfx K τ k → (∀ p, 0 ≤ p → p < k → scB K τ p ≠ 2001) → (s.1 ≠ -1 → (exR K m τ k s).1 ≠ -1 ∧ (exR K m τ k s).1 ≤ s.1) ∧ (∀ u, okR K u → exT2 τ k u → (exR K m τ k s).1 ≠ -1 ∧ (exR K m τ k s).1 ≤ enR K u) ∧ (exR K m τ k s = s ∨ (okR K (exR K m τ k s).2 ∧ exT2 τ k (exR K m τ k s).2 ∧ (exR K m τ k s).1 = enR K (exR K m τ k s).2 ∧ (s.1 = -1 ∨ (exR K m τ k s).1 < s.1) ∧ ∀ u, okR K u → exT2 τ k u → ltR K u (exR K m τ k s).2 → (exR K m τ k s).1 < enR K u))
  | 0, k, τ, s, hk, h0, hp, hf => by
    have e : k = aW K := by omega
    subst e
    have e0 := mX_0 (f := scE K τ) hn
    unfold exR
    by_cases hc : s.1 ≠ -1 ∧ s.1 ≤ mX (scE K τ) (aW K)
    · rw [if_pos hc]
      refine ⟨fun h => ⟨h, Int.le_refl _⟩, fun u hu hx => ⟨hc.1, ?_⟩, Or.inl rfl⟩
      rw [enR_cg hn hx]
      exact hc.2
    · rw [if_neg hc]
      refine ⟨fun h => ⟨?_, ?_⟩, fun u hu hx => ⟨?_, ?_⟩, Or.inr ⟨⟨hp.v hr hn, hf⟩, fun _ _ _ => rfl, rfl, ?_, fun u hu hx hl => ?_⟩⟩
      · show mX (scE K τ) (aW K) ≠ -1
        omega
      · show mX (scE K τ) (aW K) ≤ s.1
        omega
      · show mX (scE K τ) (aW K) ≠ -1
        omega
      · show mX (scE K τ) (aW K) ≤ enR K u
        rw [enR_cg hn hx]
        exact Int.le_refl _
      · show s.1 = -1 ∨ mX (scE K τ) (aW K) < s.1
        omega
      · obtain ⟨j, a, b, c, d⟩ := hl
        have h1 := hx j a b
        have h2 : u j < τ j := d
        omega
  | m + 1, k, τ, s, hk, h0, hp, hf => by
    have hn8 := hr.n
    have gen : ∀ o : Nat, (o : Int) ≤ K 310 → (s.1 ≠ -1 → (exO K (exR K m) τ k s o).1 ≠ -1 ∧ (exO K (exR K m) τ k s o).1 ≤ s.1) ∧ (∀ u, okR K u → exT2 τ k u → u k < o → (exO K (exR K m) τ k s o).1 ≠ -1 ∧ (exO K (exR K m) τ k s o).1 ≤ enR K u) ∧ (exO K (exR K m) τ k s o = s ∨ (okR K (exO K (exR K m) τ k s o).2 ∧ exT2 τ k (exO K (exR K m) τ k s o).2 ∧ (exO K (exR K m) τ k s o).2 k < o ∧ (exO K (exR K m) τ k s o).1 = enR K (exO K (exR K m) τ k s o).2 ∧ (s.1 = -1 ∨ (exO K (exR K m) τ k s o).1 < s.1) ∧ ∀ u, okR K u → exT2 τ k u → ltR K u (exO K (exR K m) τ k s o).2 → (exO K (exR K m) τ k s o).1 < enR K u)) := by
      intro o
      induction o with
      | zero =>
        intro _
        refine ⟨fun h => ⟨h, Int.le_refl _⟩, fun u hu hx hl => ?_, Or.inl rfl⟩
        have := hu.1.1 k h0 (by omega)
        omega
      | succ o ih =>
        intro ho
        obtain ⟨i1, i2, i3⟩ := ih (by omega)
        unfold exO
        by_cases hc : cnt τ o k = K (40 + o) ∨ scB K (uI τ k o) k = 2001
        · rw [if_pos hc]
          refine ⟨i1, fun u hu hx hl => ?_, ?_⟩
          · by_cases hlo : u k < o
            · exact i2 u hu hx hlo
            · exfalso
              have huk : u k = (o : Int) := by omega
              rcases hc with hc | hc
              · have h1 := cnt_s u o h0
                rw [if_pos huk] at h1
                have h2 := cnt_mono (τ := u) (o := o) (i := k + 1) (n := aW K) (by omega) (by omega)
                have h3 := hu.1.2 o (by omega) (by omega)
                have h4 : cnt u o k = cnt τ o k := cnt_cong fun p a b => hx p a b
                omega
              · have h1 := (sc_tauI (K := K) (τ := uI τ k o) (τ2 := u) (n := k + 1) (fun p a b => by
                  unfold uI
                  by_cases hq : p = k
                  · rw [if_pos hq, hq, huk]
                  · rw [if_neg hq]
                    exact (hx p a (by omega)).symm) h0 (by omega)).1
                rw [hc] at h1
                exact hu.2 k h0 (by omega) h1.symm
          · rcases i3 with z | ⟨z1, z2, z3, z4⟩
            · exact Or.inl z
            · exact Or.inr ⟨z1, z2, by omega, z4⟩
        · rw [if_neg hc]
          have hco := hp.2 o (by omega) (by omega)
          have hp2 := hp.up h0 (o := (o : Int)) ⟨by omega, by omega⟩ (by omega)
          have hf2 : ∀ p, 0 ≤ p → p < k + 1 → scB K (uI τ k o) p ≠ 2001 := fun p a b => by
            by_cases hq : p = k
            · rw [hq]
              exact fun y => hc (Or.inr y)
            · rw [(sc_tauI (K := K) (τ := uI τ k o) (τ2 := τ) (n := k) (fun p a b => uI_n _ _ (by omega)) a (by omega)).1]
              exact hf p a (by omega)
          obtain ⟨j1, j2, j3⟩ := exR_sp hr hn m (k + 1) (uI τ k o) (exO K (exR K m) τ k s o) (by omega) (by omega) hp2 hf2
          have hext : ∀ u, exT2 τ k u → u k = (o : Int) → exT2 (uI τ k o) (k + 1) u := fun u hx huk p a b => by
            unfold uI
            by_cases hq : p = k
            · rw [if_pos hq, hq, huk]
            · rw [if_neg hq]
              exact hx p a (by omega)
          generalize exO K (exR K m) τ k s o = s0 at *
          generalize exR K m (uI τ k o) (k + 1) s0 = r at *
          refine ⟨fun h => ?_, fun u hu hx hl => ?_, ?_⟩
          · have a1 := i1 h
            have a2 := j1 a1.1
            exact ⟨a2.1, by omega⟩
          · by_cases hlo : u k < o
            · have a1 := i2 u hu hx hlo
              have a2 := j1 a1.1
              exact ⟨a2.1, by omega⟩
            · exact j2 u hu (hext u hx (by omega))
          · rcases j3 with z | ⟨z1, z2, z3, z4, z5⟩
            · rw [z]
              rcases i3 with y | ⟨y1, y2, y3, y4⟩
              · exact Or.inl y
              · exact Or.inr ⟨y1, y2, by omega, y4⟩
            · have hrk : r.2 k = (o : Int) := by
                have := z2 k h0 (by omega)
                rw [uI_s] at this
                exact this
              have hrx : exT2 τ k r.2 := fun p a b => by
                have := z2 p a (by omega)
                rw [uI_n _ _ (by omega)] at this
                exact this
              refine Or.inr ⟨z1, hrx, by omega, z3, ?_, fun u hu hx hl => ?_⟩
              · rcases i3 with y | ⟨y1, y2, y3, y4, y5, y6⟩
                · rw [← y]
                  exact z4
                · have := mX_0 (f := scE K s0.2) hn
                  have e0 : s0.1 = mX (scE K s0.2) (aW K) := y4
                  rcases z4 with z4 | z4
                  · omega
                  · rcases y5 with y5 | y5
                    · exact Or.inl y5
                    · exact Or.inr (by omega)
              · obtain ⟨j, a, b, c, d⟩ := hl
                by_cases hjk : j < k
                · have h1 := hx j a hjk
                  have h2 := hrx j a hjk
                  omega
                · by_cases hje : j = k
                  · subst hje
                    have a1 := i2 u hu hx (by omega)
                    rcases z4 with z4 | z4
                    · exact absurd z4 a1.1
                    · omega
                  · have huk : u k = (o : Int) := by
                      rw [c k h0 (by omega)]
                      exact hrk
                    exact z5 u hu (hext u hx huk) ⟨j, a, b, c, d⟩
    obtain ⟨g1, g2, g3⟩ := gen (K 310).toNat (by omega)
    show (s.1 ≠ -1 → (exO K (exR K m) τ k s (K 310).toNat).1 ≠ -1 ∧ _) ∧ _
    refine ⟨g1, fun u hu hx => g2 u hu hx ?_, ?_⟩
    · have := hu.1.1 k h0 (by omega)
      omega
    · rcases g3 with z | ⟨z1, z2, z3, z4⟩
      · exact Or.inl z
      · exact Or.inr ⟨z1, z2, z4⟩
/-- what the least end is -/
theorem lsR_sp (hr : kR K) (hn : 0 ≤ aW K) : (∀ u, okR K u → (lsR K).1 ≠ -1 ∧ (lsR K).1 ≤ enR K u) ∧ ((lsR K).1 = -1 ∨ (okR K (lsR K).2 ∧ (lsR K).1 = enR K (lsR K).2 ∧ ∀ u, okR K u → ltR K u (lsR K).2 → (lsR K).1 < enR K u)) := by
  obtain ⟨-, g2, g3⟩ := exR_sp hr hn (aW K).toNat 0 (fun _ => 0) (-1, fun _ => 0) (by omega) (by omega) (pfx_0 hr) (fun p a b => by omega)
  refine ⟨fun u hu => g2 u hu (fun p a b => by omega), ?_⟩
  rcases g3 with z | ⟨z1, z2, z3, z4, z5⟩
  · exact Or.inl (by unfold lsR; rw [z])
  · exact Or.inr ⟨z1, z3, fun u hu hl => z5 u hu (fun p a b => by omega) hl⟩
end Ec56
