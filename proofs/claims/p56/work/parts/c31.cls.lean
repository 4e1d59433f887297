section Ec31
variable {L : Nat} {xs : Nat → Int32} {d : Nat} {M M2 M3 : e_MI} {V : e_ML} {W : e_MD} {K K2 : e_St} {S : Int → e_St} {h : e_H} {s s0 s1 t t2 a b2 n : Nat} {c o z m k q p i f l b e mc tl T x y N : Int} {sc : Bool} {ρ ν μ χ β ε τ u : Int → Int}
/-! the class's cells hold state and history, and the present times are those of its row -/
/-- the present times -/
def PR (M : e_MI) (K : e_St) : Prop := fwE M 133 K (rwK K) (aW K)
def CK (M : e_MI) (K : e_St) (c : Int) (S : Int → e_St) : Prop := SH M 1 K ∧ HS M c S ∧ PR M K ∧ TG0 M 149
theorem PR.fits (h : PR M K) : M 133 0 = bI (ft K) := h.1
theorem PR.tt (h : PR M K) (hf : ft K = true) : TT M 133 K (rwK K) (aW K) := by
  obtain ⟨-, c, -, -, hT, he⟩ := h
  rw [he hf] at hT
  exact hT
theorem TT.cg (h : TT M t K τ k) (hf : ∀ a, t ≤ a → a ≤ t + 15 → M2 a = M a) : TT M2 t K τ k := h.of hf
theorem PR.of (h : PR M K) (hf : ∀ a, 133 ≤ a → a ≤ 148 → M2 a = M a) : PR M2 K := by
  obtain ⟨h0, c, c0, c1, hT, he⟩ := h
  exact ⟨by rw [hf 133 (by omega) (by omega)]; exact h0, c, c0, c1, hT.cg hf, he⟩
theorem CK.sh (H : CK M K c S) : SH M 1 K := H.1
theorem CK.hs (H : CK M K c S) : HS M c S := H.2.1
theorem CK.pr (H : CK M K c S) : PR M K := H.2.2.1
theorem CK.tg (H : CK M K c S) : TG0 M 149 := H.2.2.2
theorem CK.of (H : CK M K c S) (hf : ∀ a, 1 ≤ a → a ≤ 164 → M2 a = M a) : CK M2 K c S :=
  ⟨H.sh.of fun a x y => hf a (by omega) (by omega), H.hs.of fun a x y => hf a (by omega) (by omega), H.pr.of fun a x y => hf a (by omega) (by omega), H.tg.of fun a x y => hf a (by omega) (by omega)⟩
theorem x_refresh (H : SH M 1 K) (hg : kG K) (hT : TG0 M 133) : ∃ M2 : e_MI, e_lim L xs (d + 6) 147 0 [some (.ref 0)] [] (e_hp M V W) = some (.inl none, e_hp M2 V W, 0, 0) ∧ PR M2 K ∧ ∀ a, a < 133 ∨ 148 < a → M2 a = M a := by
  obtain ⟨hr, ⟨ha, hv⟩, hp, hk, hd⟩ := hg
  obtain ⟨M2, e, hw, hf⟩ := tg_follow (L := L) (xs := xs) (d := d) (V := V) (W := W) e_isT_0 (by omega) si_8 (by omega) hr hd hp (vR.pf hr hv) ha H (fun p a b => H.ro a b) hT
  have c1 := H.cw
  refine ⟨M2, ?_, hw, fun a x => hf a (by omega)⟩
  simp (disch := first | assumption | exact e_nk_i _ | exact e_nk_n | exact e_nk_r _ | exact e_bo_0 | exact e_bo_1 | exact e_bo_b _ | omega) only [e_cl_v, e_cl_x, e_add_0, e_add_s, Option.toList_some, Option.toList_none, List.cons_append, List.nil_append, iI_add, iI_sub, iI_mul, iI_lt, iI_eq, iI_le, r147_0, r147_1, r147_4, r147_5, r147_8, r147_9, r147_12, r147_15, r147_16, r147_19, r147_22, r147_25, r147_26, c1, e]
theorem x_takeRow (H : SH M 1 K) (hg : kG K) (hT : TG0 M 133) (hA : e_isI a 16) (hτ : e_ar (M a) (aW K) τ) (hv : vR K τ) : ∃ M2 : e_MI, e_lim L xs (d + 6) 148 0 [some (.ref 0), some (.ref a)] [] (e_hp M V W) = some (.inl (some (.int (bI (ft (rtS K τ))))), e_hp M2 V W, 0, 0) ∧ SH M2 1 (rtS K τ) ∧ PR M2 (rtS K τ) ∧ ∀ a, a ≠ 8 → a < 133 ∨ 148 < a → M2 a = M a := by
  have hg2 := kG_rt hg hv
  obtain ⟨hr, ⟨ha, -⟩, hp, hk, hd⟩ := hg
  obtain ⟨hr2, ⟨ha2, hv2⟩, hp2, hk2, hd2⟩ := hg2
  obtain ⟨g, e1, h1⟩ := m_copyN (L := L) (xs := xs) (d := d + 4) (M := M) (V := V) (W := W) hA si_8
  obtain ⟨hB, hAW⟩ := H.sb.kk hr (K2 := rtS K τ) (fun z hz => rwS_n (by omega))
  have H2 : SH (e_u M 8 g) 1 (rtS K τ) := by
    refine SH_mk (hB.of fun q x y => e_u_n _ _ (by omega)) (fun p x y => ?_) (fun i x y => ?_) (fun q p x y c e f => ?_)
    · rw [hAW] at y
      rw [e_u_s, h1 _ (by omega), hτ p x y]
      unfold rtS
      rw [rwS_r x (by omega), if_pos y]
    · rw [e_u_n _ _ (by omega)]
      unfold rtS
      rw [rwS_n (by omega)]
      exact H.kp x y
    · rw [hAW] at f
      unfold rtS at c ⊢
      rw [rwS_n (by omega)] at c
      rw [e_u_n _ _ (by omega), rwS_n (by omega)]
      exact H.kr x y c e f
  have hT2 : TG0 (e_u M 8 g) 133 := hT.of fun q x y => e_u_n _ _ (by omega)
  obtain ⟨M2, e, hw, hf⟩ := tg_follow (L := L) (xs := xs) (d := d) (V := V) (W := W) e_isT_0 (by omega) si_8 (by omega) hr2 hd2 hp2 (vR.pf hr2 hv2) ha2 H2 (fun p a b => H2.ro a b) hT2
  have c1 := H2.cw
  refine ⟨M2, ?_, H2.of fun q x y => hf q (by omega), hw, fun a x y => by rw [hf a (by omega), e_u_n _ _ x]⟩
  simp (disch := first | assumption | exact e_nk_i _ | exact e_nk_n | exact e_nk_r _ | exact e_bo_0 | exact e_bo_1 | exact e_bo_b _ | omega) only [e_cl_v, e_cl_x, e_add_0, e_add_s, Option.toList_some, Option.toList_none, List.cons_append, List.nil_append, iI_add, iI_sub, iI_mul, iI_lt, iI_eq, iI_le, r148_0, r148_1, r148_2, r148_5, r148_8, r148_11, r148_12, r148_15, r148_16, r148_19, r148_20, r148_23, r148_26, r148_27, r148_30, r148_33, r148_36, e1, c1, e]
  rfl
end Ec31
