section Ea1
variable {L : Nat} {xs : Nat → Int32} {d : Nat} {M M2 M3 : e_MI} {V : e_ML} {W : e_MD} {K K2 : e_St} {h : e_H} {S : Int → e_St} {c cd n er o q k i : Int} {ρ ω β ε τ : Int → Int} {r : Option e_R} {an : Int32}
/-- the least end of all rows, and the first row that has it -/
def lsR (K : e_St) : exT := exR K (aW K).toNat (fun _ => 0) 0 (-1, fun _ => 0)
theorem exR_v (hr : kR K) : ∀ (m : Nat) (k : Int) (τ : Int → Int) (s : exT), k + m = aW K → 0 ≤ k → pfx K τ k → (s.1 ≠ -1 → vR K s.2) → (exR K m τ k s).1 ≠ -1 → vR K (exR K m τ k s).2
  | 0, k, τ, s, hk, h0, hp, hs => by
    have e : k = aW K := by omega
    subst e
    unfold exR
    split
    · exact hs
    · intro _
      exact hp.v hr h0
  | m + 1, k, τ, s, hk, h0, hp, hs => by
    have gen : ∀ o : Nat, (o : Int) ≤ K 310 → (exO K (exR K m) τ k s o).1 ≠ -1 → vR K (exO K (exR K m) τ k s o).2 := by
      intro o
      induction o with
      | zero => intro _; exact hs
      | succ o ih =>
        intro ho
        unfold exO
        split
        · exact ih (by omega)
        · next z =>
          have hc := hp.2 o (by omega) (by omega)
          exact exR_v hr m (k + 1) (uI τ k o) _ (by omega) (by omega) (hp.up h0 ⟨by omega, by omega⟩ (by omega)) (ih (by omega))
    have hn := hr.n
    exact gen (K 310).toNat (by omega)
theorem pfx_0 (hr : kR K) : pfx K (fun _ => 0) 0 := ⟨fun p a b => by omega, fun o a b => by
  have hn := hr.n
  have hw := hr.wk (o := o) a (by omega)
  have : cnt (fun _ => 0) o 0 = 0 := rfl
  omega⟩
theorem lsR_v (hr : kR K) (hn : 0 ≤ aW K) (h : (lsR K).1 ≠ -1) : vR K (lsR K).2 := exR_v hr (aW K).toNat 0 _ _ (by omega) (by omega) (pfx_0 hr) (fun a => absurd rfl a) h
def lsK (K : e_St) : e_St := if (lsR K).1 = -1 then K else rtS K (lsR K).2
theorem kG_ls (hg : kG K) : kG (lsK K) := by
  unfold lsK
  split
  · exact hg
  · next z => exact kG_rt hg (lsR_v hg.1 hg.2.1.1.1 z)
end Ea1
