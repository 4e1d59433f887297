section E81
variable {L : Nat} {xs : Nat → Int32} {d : Nat} {M M2 M3 : e_MI} {V : e_ML} {W : e_MD} {K K2 : e_St} {h : e_H} {S : Int → e_St} {c cd : Int} {ρ ω β ε τ T U : Int → Int} {r : Option e_R} {an : Int32}
/-- a question's answer -/
def AQ (r : Option e_R) (M : e_MI) (V : e_ML) (W : e_MD) (K : e_St) (c : Int) (S : Int → e_St) (cd : Int) (an : Int32) : Prop := ∃ (M2 : e_MI) (z : Int32), r = some (.inl (some (.int z)), e_hp M2 V W, 0, 0) ∧ RK M2 K c S ∧ frQ M M2 ∧ M2 184 0 = iI cd ∧ (cd = 0 → z = an)
/-- a change's answer -/
def AC (r : Option e_R) (M : e_MI) (V : e_ML) (W : e_MD) (K : e_St) (c : Int) (S : Int → e_St) (K2 : e_St) (cd : Int) (an : Int32) : Prop := ∃ (M2 : e_MI) (z : Int32), r = some (.inl (some (.int z)), e_hp M2 V W, 0, 0) ∧ frP M M2 ∧ M2 184 0 = iI cd ∧ (cd = 0 → z = an ∧ RK M2 K2 (svC c) (svS c S K)) ∧ (cd ≠ 0 → RK M2 K c S)
theorem AQ.mF (H : RK M K c S) (b : Bool) (e : Int) (z : Int32) (hr : r = some (.inl (some (.int z)), e_hp (mF (mT M) b e) V W, 0, 0)) (hcd : cd = if b = true then 0 else e) (hz : cd = 0 → z = an) : AQ r M V W K c S cd an := by
  subst hcd
  exact ⟨_, z, hr, H.mT.mF b e, (frQ_mT M).t (frQ_mF _ b e), mF_0 _ b e (mT_0 M), hz⟩
theorem AQ.ok (H : RK M K c S) (hcd : cd = 0) (hr : r = some (.inl (some (.int an)), e_hp (mT M) V W, 0, 0)) : AQ r M V W K c S cd an := by
  subst hcd
  exact AQ.mF H true 1 an hr rfl (fun _ => rfl)
theorem AQ.of (H : RK M K c S) (hcd : cd = 0) (hr : r = some (.inl (some (.int an)), e_hp M2 V W, 0, 0)) (hF : frQ (mT M) M2) (hs : RS M2) (h0 : M2 184 0 = iI 0) : AQ r M V W K c S cd an := by
  subst hcd
  exact ⟨_, _, hr, H.mT.q hF hs, (frQ_mT M).t hF, h0, fun _ => rfl⟩
/-! questions that need no times -/
end E81
