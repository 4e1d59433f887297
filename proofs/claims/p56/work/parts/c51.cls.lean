section Ec51
variable {L : Nat} {xs : Nat → Int32} {d : Nat} {M M2 M3 : e_MI} {V V2 : e_ML} {W : e_MD} {K K1 K2 : e_St} {S : Int → e_St} {h : e_H} {s0 s1 t t2 a b2 n : Nat} {c o w z m k q p i f l b e mc tl T x y v N e0 c0 : Int} {sc bb : Bool} {s : imT} {ρ ν μ χ β ε τ τ2 u : Int → Int}
/-! the best move, in the class -/
theorem G_lpG {T : Type} {I P : Int → T → Prop} {i n : Int} (hs : ∀ j M, i ≤ j → j < n → I j M → (∀ M2, I (j + 1) M2 → P (j + 1) M2) → P j M) (he : ∀ M, I n M → P n M) (hi : i ≤ n) : ∀ M, I i M → P i M := by
  have : ∀ k : Nat, i + k ≤ n → ∀ M, I (n - k) M → P (n - k) M := by
    intro k
    induction k with
    | zero =>
      intro _ M hM
      rw [show n - ((0 : Nat) : Int) = n by omega] at hM ⊢
      exact he M hM
    | succ k ih =>
      intro hk M hM
      refine hs _ M (by omega) (by omega) hM (fun M2 h2 => ?_)
      rw [show n - ((k + 1 : Nat) : Int) + 1 = n - (k : Int) by omega] at h2 ⊢
      exact ih (by omega) M2 h2
  have h1 := this (n - i).toNat (by omega)
  rw [show n - ((n - i).toNat : Int) = i by omega] at h1
  exact h1
theorem k_isBetter (H : SH M 1 K) (hg : kG K) (hv : vR K τ) (hT : TT M 149 K τ (aW K)) (hA : e_ar (M 166) (aW K) τ) (he : M 165 4 = iI e0) (hc : V 165 5 = lI c0) (re : 0 ≤ e0 ∧ e0 ≤ 2001) (rc : 0 ≤ c0 ∧ c0 ≤ 144072000) : ∃ g : Nat → Int32, e_lim L xs (d + 4) 14 0 [some (.ref 165), some (.ref 1), some (.ref 149), none, none, none] [] (e_hp M V W) = (if e0 < mX (scE K τ) (aW K) ∨ (mX (scE K τ) (aW K) = e0 ∧ c0 ≤ ctW K (enO K τ)) then some (.inl (some (.int (iI 0))), e_hp M V W, 0, 0) else some (.inl (some (.int (iI 1))), e_hp (e_u (e_u M 165 (upd (M 165) 4 (iI (mX (scE K τ) (aW K))))) 167 g) (e_u V 165 (vp_updL (V 165) 5 (lI (ctW K (enO K τ))))) W, 0, 0)) ∧ e_ar g (aW K) τ := by
  obtain ⟨hr, ⟨ha, -⟩, hp, hk9, hd⟩ := hg
  have hvp := vR.vp hr hv
  have e1 := tt_latest (L := L) (xs := xs) (d := d + 1) (V := V) (W := W) e_isT_1 hT hr hp hvp
  have e2 := tt_charge (L := L) (xs := xs) (d := d) (V := V) (W := W) e_isT_1 hT H hr hp hv ha.1
  have r1 := mX_rg (f := scE K τ) (n := aW K) (c := 2001) ha.1 (by omega) (fun p x y => (sc_spI hr hp hvp x y).1.2.2)
  have r2 := ctW_rg hr (e := enO K τ) (fun o u v => eo_rg hr hp hv ha.1 ⟨u, v⟩)
  generalize mX (scE K τ) (aW K) = e at *
  generalize ctW K (enO K τ) = ct at *
  have lt := lg_lt (a := ct) (b := c0) (by omega) (by omega)
  obtain ⟨g, e3, h3⟩ := m_copyN (L := L) (xs := xs) (d := d + 2) (M := e_u M 165 (upd (M 165) 4 (iI e))) (V := e_u V 165 (vp_updL (V 165) 5 (lI ct))) (W := W) (a := 166) (b2 := 167) si_166 si_167
  refine ⟨g, ?_, fun z x y => by rw [h3 _ (by omega), e_u_n _ _ (by decide)]; exact hA z x y⟩
  by_cases h1 : e0 < e
  · rw [if_pos (Or.inl h1)]
    simp (disch := first | assumption | exact e_nk_i _ | exact e_nk_n | exact e_nk_r _ | exact e_bo_0 | exact e_bo_1 | exact e_bo_b _ | omega) only [e_cl_v, e_cl_x, e_add_0, e_add_s, Option.toList_some, Option.toList_none, List.cons_append, List.nil_append, iI_add, iI_sub, iI_mul, iI_lt, iI_eq, iI_le, r14_0, r14_1, r14_4, r14_5, r14_6, r14_7, r14_10, r14_13, r14_14, e1, he]
    first | rw [if_neg (by omega)] | rw [if_pos (by omega)]
  · by_cases h2 : e = e0
    · by_cases h4 : ct < c0
      · rw [if_neg (by omega)]
        simp (disch := first | assumption | exact e_nk_i _ | exact e_nk_n | exact e_nk_r _ | exact e_bo_0 | exact e_bo_1 | exact e_bo_b _ | omega) only [e_cl_v, e_cl_x, e_add_0, e_add_s, Option.toList_some, Option.toList_none, List.cons_append, List.nil_append, iI_add, iI_sub, iI_mul, iI_lt, iI_eq, iI_le, r14_0, r14_1, r14_4, r14_5, r14_6, r14_7, r14_10, r14_13, r14_14, r14_15, r14_16, r14_17, r14_20, r14_22, r14_23, r14_24, r14_27, r14_30, r14_32, r14_33, r14_36, r14_37, r14_40, r14_41, r14_42, r14_43, r14_44, r14_47, r14_48, r14_50, r14_53, r14_54, r14_57, r14_58, r14_61, r14_64, r14_65, e1, he, e2, hc, e3]
        first | rw [if_pos (by omega)] | rw [if_neg (by omega)]
        rw [if_pos h2, if_pos (lt.mpr h4)]
      · rw [if_pos (by omega)]
        simp (disch := first | assumption | exact e_nk_i _ | exact e_nk_n | exact e_nk_r _ | exact e_bo_0 | exact e_bo_1 | exact e_bo_b _ | omega) only [e_cl_v, e_cl_x, e_add_0, e_add_s, Option.toList_some, Option.toList_none, List.cons_append, List.nil_append, iI_add, iI_sub, iI_mul, iI_lt, iI_eq, iI_le, r14_0, r14_1, r14_4, r14_5, r14_6, r14_7, r14_10, r14_13, r14_14, r14_15, r14_16, r14_17, r14_20, r14_22, r14_23, r14_24, r14_27, r14_30, r14_32, r14_33, r14_36, r14_37, r14_40, r14_41, r14_42, r14_43, r14_44, r14_47, r14_48, r14_50, r14_53, r14_54, r14_57, r14_58, r14_61, r14_64, r14_65, e1, he, e2, hc, e3]
        first | rw [if_pos (by omega)] | rw [if_neg (by omega)]
        rw [if_pos h2, if_neg (fun y => h4 (lt.mp y))]
    · rw [if_neg (by omega)]
      simp (disch := first | assumption | exact e_nk_i _ | exact e_nk_n | exact e_nk_r _ | exact e_bo_0 | exact e_bo_1 | exact e_bo_b _ | omega) only [e_cl_v, e_cl_x, e_add_0, e_add_s, Option.toList_some, Option.toList_none, List.cons_append, List.nil_append, iI_add, iI_sub, iI_mul, iI_lt, iI_eq, iI_le, r14_0, r14_1, r14_4, r14_5, r14_6, r14_7, r14_10, r14_13, r14_14, r14_15, r14_16, r14_17, r14_20, r14_22, r14_23, r14_24, r14_27, r14_30, r14_32, r14_33, r14_36, r14_37, r14_40, r14_41, r14_42, r14_43, r14_44, r14_47, r14_48, r14_50, r14_53, r14_54, r14_57, r14_58, r14_61, r14_64, r14_65, e1, he, e2, hc, e3]
      first | rw [if_pos (by omega)] | rw [if_neg (by omega)]
      rw [if_neg h2]
theorem mvR_same (r : Int → Int) (f p : Int) : mvR r f f p = r p := by
  unfold mvR
  by_cases h1 : p = f
  · rw [if_pos h1, h1]
  · rw [if_neg h1]
    unfold mvW
    by_cases h2 : p < f
    · rw [if_pos h2, if_pos h2]
    · rw [if_neg h2, if_neg (by omega), show p - 1 + 1 = p by omega]
theorem plO_tau (hn : 0 ≤ aW K) (h : ∀ p, 0 ≤ p → p < aW K → τ p = τ2 p) (o w : Int) : plO K τ o w = plO K τ2 o w := by
  unfold plO
  exact zLP_cong fun p a b => by rw [h p a b, (sc_tauI (K := K) h a b).2.2]
theorem enO_tau (hr : kR K) (hn : 0 ≤ aW K) (hv : vR K τ) (h : ∀ p, 0 ≤ p → p < aW K → τ p = τ2 p) (ho : 0 ≤ o ∧ o < K 310) : enO K τ o = enO K τ2 o := by
  have hwk := hr.wk (o := o) ho.1 (by have := hr.n; omega)
  unfold enO
  split
  · rfl
  · obtain ⟨⟨x, y⟩, -⟩ := plO_sp hr hv hn ho (w := K (40 + o) - 1) (by omega)
    rw [← plO_tau hn h]
    exact (sc_tauI (K := K) h x y).2.1
theorem ctW_cong {e1 e2 : Int → Int} (h : ∀ o, 0 ≤ o → o < K 310 → e1 o = e2 o) : ctW K e1 = ctW K e2 := by
  unfold ctW
  exact SU_cong fun o a b => by
    unfold ctO
    rw [h o a b]
/-- what a search for a move holds -/
def BM (M0 M : e_MI) (V0 V : e_ML) (K : e_St) (s : imT) : Prop := (M 165 4 = iI s.1 ∧ V 165 5 = lI s.2.1) ∧ (s.2.2.1 ≠ -1 → e_ar (M 167) (aW K) (mvR (rwK K) s.2.2.1 s.2.2.2) ∧ s.1 = mX (scE K (mvR (rwK K) s.2.2.1 s.2.2.2)) (aW K) ∧ fiR K (mvR (rwK K) s.2.2.1 s.2.2.2) (aW K) = true) ∧ imI K s ∧ (s.1 < edW K ∨ (s.1 = edW K ∧ s.2.1 ≤ ctW K (enO K (rwK K)))) ∧ TG0 M 149 ∧ (∀ a, a < 149 ∨ 167 < a → M a = M0 a) ∧ ∀ a, a ≠ 165 → V a = V0 a
def fF (s : imT) : Int := if s.2.2.1 = -1 then 0 else 1
theorem k_moveStep (H : SH M3 1 K) (hg : kG K) (hft : ft K = true) (hB : BM M3 M V2 V K s) (hf : 0 ≤ f ∧ f < aW K) (hx : 0 ≤ x ∧ x < aW K) : ∃ (M2 : e_MI) (V3 : e_ML), e_lim L xs (d + 6) 13 38 [some (.ref 165), some (.ref 1), some (.ref 149), some (.int (iI v)), some (.long (lI y)), none, some (.int (iI (fF s))), some (.int (iI f)), some (.int (iI x))] [] (e_hp M V W) = e_lim L xs (d + 6) 13 75 [some (.ref 165), some (.ref 1), some (.ref 149), some (.int (iI v)), some (.long (lI y)), none, some (.int (iI (fF (imS K f x s)))), some (.int (iI f)), some (.int (iI x))] [] (e_hp M2 V3 W) ∧ BM M3 M2 V2 V3 K (imS K f x s) := by
  obtain ⟨hr, ⟨ha, hvr⟩, hp, hk9, hd⟩ := id hg
  obtain ⟨⟨b1, b2⟩, b3, b4, b5, b6, b7, b8⟩ := hB
  have H4 : SH M 1 K := H.of fun a x y => b7 a (by omega)
  obtain ⟨M4, e1, hA, f4⟩ := k_layMoved (L := L) (xs := xs) (d := d + 4) (V := V) (W := W) H4 ha hf hx
  have hv : vR K (mvR (rwK K) f x) := mvR_v (f := f) (t := x) hvr hf hx
  obtain ⟨M5, e2, hw5, f5⟩ := tg_follow (L := L) (xs := xs) (d := d) (M := M4) (V := V) (W := W) e_isT_1 (by omega) si_166 (by omega) hr hd hp (vR.pf hr hv) ha (H4.of fun a x y => f4 a (by omega)) hA (b6.of fun a x y => f4 a (by omega))
  have c1 : M4 1 1 = iI (aW K) := by rw [f4 1 (by decide)]; exact H4.cw
  have f6 : ∀ a, a ≠ 166 → a < 149 ∨ 164 < a → M5 a = M a := fun a x y => by rw [f5 a (by omega), f4 a x]
  have hB5 : BM M3 M5 V2 V K s := ⟨⟨by rw [f6 165 (by decide) (by omega)]; exact b1, b2⟩, fun y => by rw [f6 167 (by decide) (by omega)]; exact b3 y, b4, b5, hw5.g, fun a y => by rw [f6 a (by omega) (by omega), b7 a y], b8⟩
  by_cases hfi : fiR K (mvR (rwK K) f x) (aW K) = true
  · have hT5 : TT M5 149 K (mvR (rwK K) f x) (aW K) := by
      obtain ⟨-, c, -, -, hT, he⟩ := hw5
      rw [he hfi] at hT
      exact hT
    have H5 : SH M5 1 K := H4.of fun a x y => f6 a (by omega) (by omega)
    obtain ⟨i1, i2, i3⟩ := b4
    obtain ⟨g, e3, hgA⟩ := k_isBetter (L := L) (xs := xs) (d := d + 1) (W := W) H5 hg hv hT5 (by rw [f5 166 (by omega)]; exact hA) hB5.1.1 hB5.1.2 i1 i2
    rw [hfi, bI_t] at e2
    have r1 := mX_rg (f := scE K (mvR (rwK K) f x)) (n := aW K) (c := 2001) ha.1 (by omega) (fun p x y => (sc_spI hr hp (vR.vp hr hv) x y).1.2.2)
    have r2 := ctW_rg hr (e := enO K (mvR (rwK K) f x)) (fun o u v => eo_rg hr hp hv ha.1 ⟨u, v⟩)
    by_cases hc : s.1 < mX (scE K (mvR (rwK K) f x)) (aW K) ∨ (mX (scE K (mvR (rwK K) f x)) (aW K) = s.1 ∧ s.2.1 ≤ ctW K (enO K (mvR (rwK K) f x)))
    · have hi : imS K f x s = s := by
        unfold imS
        split
        · rfl
        · first | rfl | rw [if_pos hc]
      rw [if_pos hc] at e3
      refine ⟨M5, V, ?_, by rw [hi]; exact hB5⟩
      rw [hi]
      simp (disch := first | assumption | exact e_nk_i _ | exact e_nk_n | exact e_nk_r _ | exact e_bo_0 | exact e_bo_1 | exact e_bo_b _ | omega) only [e_cl_v, e_cl_x, e_add_0, e_add_s, Option.toList_some, Option.toList_none, List.cons_append, List.nil_append, iI_add, iI_sub, iI_mul, iI_lt, iI_eq, iI_le, r13_38, r13_39, r13_40, r13_42, r13_44, r13_47, r13_48, r13_49, r13_50, r13_53, r13_54, r13_57, r13_60, r13_63, r13_64, r13_65, r13_66, r13_69, r13_72, r13_73, e1, c1, e2, e3]
      simp
    · have hne : f ≠ x := fun hq => hc (by
        have hs : ∀ p, 0 ≤ p → p < aW K → mvR (rwK K) f x p = rwK K p := fun p _ _ => by rw [← hq, mvR_same]
        have h1 : mX (scE K (mvR (rwK K) f x)) (aW K) = edW K := mX_cong ha.1 fun p a b => (sc_tauI (K := K) hs a b).2.1
        have h2 : ctW K (enO K (mvR (rwK K) f x)) = ctW K (enO K (rwK K)) := ctW_cong fun o a b => enO_tau hr ha.1 hv hs ⟨a, b⟩
        rw [h1, h2]
        rcases b5 with z | z
        · exact Or.inl z
        · exact Or.inr ⟨z.1.symm, z.2⟩)
      have hi : imS K f x s = (mX (scE K (mvR (rwK K) f x)) (aW K), ctW K (enO K (mvR (rwK K) f x)), f, x) := by
        unfold imS
        rw [if_neg (fun z => z.elim hne (fun z => by rw [hfi] at z; cases z)), if_neg hc]
      rw [if_neg hc] at e3
      rw [hi]
      have hf1 : fF (mX (scE K (mvR (rwK K) f x)) (aW K), ctW K (enO K (mvR (rwK K) f x)), f, x) = 1 := by
        unfold fF
        simp only
        rw [if_neg (by omega)]
      rw [hf1]
      refine ⟨e_u (e_u M5 165 (upd (M5 165) 4 (iI (mX (scE K (mvR (rwK K) f x)) (aW K))))) 167 g, e_u V 165 (vp_updL (V 165) 5 (lI (ctW K (enO K (mvR (rwK K) f x))))), ?_, ⟨by rw [e_u_n _ _ (by decide), e_u_s, upd_s], by rw [e_u_s]; simp [vp_updL]⟩, fun _ => ⟨by rw [e_u_s]; exact hgA, rfl, hfi⟩, ⟨r1, r2, Or.inr ⟨hf, hx⟩⟩, ?_, hw5.g.of fun a x y => by rw [e_u_n _ _ (by omega), e_u_n _ _ (by omega)], fun a y => by rw [e_u_n _ _ (by omega), e_u_n _ _ (by omega), f6 a (by omega) (by omega), b7 a y], fun a y => by rw [e_u_n _ _ y, b8 a y]⟩
      · simp (disch := first | assumption | exact e_nk_i _ | exact e_nk_n | exact e_nk_r _ | exact e_bo_0 | exact e_bo_1 | exact e_bo_b _ | omega) only [e_cl_v, e_cl_x, e_add_0, e_add_s, Option.toList_some, Option.toList_none, List.cons_append, List.nil_append, iI_add, iI_sub, iI_mul, iI_lt, iI_eq, iI_le, r13_38, r13_39, r13_40, r13_42, r13_44, r13_47, r13_48, r13_49, r13_50, r13_53, r13_54, r13_57, r13_60, r13_63, r13_64, r13_65, r13_66, r13_69, r13_72, r13_73, e1, c1, e2, e3]
        simp
      · simp only
        rcases b5 with z | z
        · exact Or.inl (by omega)
        · by_cases hq : mX (scE K (mvR (rwK K) f x)) (aW K) < edW K
          · exact Or.inl hq
          · exact Or.inr ⟨by omega, by omega⟩
  · rw [Bool.not_eq_true] at hfi
    have hi : imS K f x s = s := by
      unfold imS
      rw [if_pos (Or.inr hfi)]
    rw [hfi, bI_f] at e2
    refine ⟨M5, V, ?_, by rw [hi]; exact hB5⟩
    rw [hi]
    simp (disch := first | assumption | exact e_nk_i _ | exact e_nk_n | exact e_nk_r _ | exact e_bo_0 | exact e_bo_1 | exact e_bo_b _ | omega) only [e_cl_v, e_cl_x, e_add_0, e_add_s, Option.toList_some, Option.toList_none, List.cons_append, List.nil_append, iI_add, iI_sub, iI_mul, iI_lt, iI_eq, iI_le, r13_38, r13_39, r13_40, r13_42, r13_44, r13_47, r13_48, r13_49, r13_50, r13_53, r13_54, r13_57, r13_60, r13_63, r13_64, r13_65, r13_66, r13_69, r13_72, r13_73, e1, c1, e2]
    simp
theorem k_findMove (H : SH M 1 K) (hg : kG K) (hft : ft K = true) (hT : TG0 M 149) : ∃ (M2 : e_MI) (V3 : e_ML), e_lim L xs (d + 6) 13 0 [some (.ref 165), some (.ref 1), some (.ref 149), some (.int (iI (edW K))), some (.long (lI (ctW K (enO K (rwK K))))), none, none, none, none] [] (e_hp M V W) = some (.inl (some (.int (iI (fF (imX K))))), e_hp M2 V3 W, 0, 0) ∧ BM M M2 V V3 K (imX K) := by
  obtain ⟨hr, ⟨ha, hvr⟩, hp, hk9, hd⟩ := id hg
  have re := edW_rg hg
  have rc := ctW_rg hr (e := enO K (rwK K)) (fun o u v => eo_rg hr hp hvr ha.1 ⟨u, v⟩)
  have key := G_lpG (T := e_MI × e_ML) (i := 0) (n := aW K) (I := fun i X => BM M X.1 V X.2 K (imA K (edW K, ctW K (enO K (rwK K)), -1, -1) i.toNat)) (P := fun i X => ∀ l8 : Option Value, ∃ (M2 : e_MI) (V3 : e_ML), e_lim L xs (d + 6) 13 17 [some (.ref 165), some (.ref 1), some (.ref 149), some (.int (iI (edW K))), some (.long (lI (ctW K (enO K (rwK K))))), none, some (.int (iI (fF (imA K (edW K, ctW K (enO K (rwK K)), -1, -1) i.toNat)))), some (.int (iI i)), l8] [] (e_hp X.1 X.2 W) = some (.inl (some (.int (iI (fF (imX K))))), e_hp M2 V3 W, 0, 0) ∧ BM M M2 V V3 K (imX K)) (fun f X a b hI hc => ?_) (fun X hI => ?_) ha.1 (e_u M 165 (upd (M 165) 4 (iI (edW K))), e_u V 165 (vp_updL (V 165) 5 (lI (ctW K (enO K (rwK K)))))) ⟨⟨by simp only; rw [e_u_s, upd_s]; rfl, by simp only; rw [e_u_s]; simp [vp_updL]; rfl⟩, fun y => absurd rfl y, ⟨re, rc, Or.inl ⟨rfl, rfl⟩⟩, Or.inr ⟨rfl, Int.le_refl _⟩, hT.of fun a x y => e_u_n _ _ (by omega), fun a y => e_u_n _ _ (by omega), fun a y => e_u_n _ _ y⟩ none
  · obtain ⟨M2, V3, e, r⟩ := key
    refine ⟨M2, V3, ?_, r⟩
    have e' : e_lim L xs (d + 6) 13 17 [some (.ref 165), some (.ref 1), some (.ref 149), some (.int (iI (edW K))), some (.long (lI (ctW K (enO K (rwK K))))), none, some (.int (iI 0)), some (.int (iI 0)), none] [] (e_hp (e_u M 165 (upd (M 165) 4 (iI (edW K)))) (e_u V 165 (vp_updL (V 165) 5 (lI (ctW K (enO K (rwK K)))))) W) = some (.inl (some (.int (iI (fF (imX K))))), e_hp M2 V3 W, 0, 0) := e
    simp (disch := first | assumption | exact e_nk_i _ | exact e_nk_n | exact e_nk_r _ | exact e_bo_0 | exact e_bo_1 | exact e_bo_b _ | omega) only [e_cl_v, e_cl_x, e_add_0, e_add_s, Option.toList_some, Option.toList_none, List.cons_append, List.nil_append, iI_add, iI_sub, iI_mul, iI_lt, iI_eq, iI_le, r13_0, r13_1, r13_2, r13_5, r13_6, r13_8, r13_11, r13_12, r13_14, r13_15, e']
  · intro l8
    obtain ⟨M4, V4⟩ := X
    simp only at hI
    have hst : imA K (edW K, ctW K (enO K (rwK K)), -1, -1) (f + 1).toNat = imB K f (imA K (edW K, ctW K (enO K (rwK K)), -1, -1) f.toNat) (aW K).toNat := by
      rw [show (f + 1).toNat = f.toNat + 1 by omega]
      show imB K (f.toNat : Int) _ _ = _
      rw [Int.toNat_of_nonneg a]
    rw [hst] at hc
    generalize imA K (edW K, ctW K (enO K (rwK K)), -1, -1) f.toNat = s at *
    have key2 := G_lpG (T := e_MI × e_ML) (i := 0) (n := aW K) (I := fun i X => BM M X.1 V X.2 K (imB K f s i.toNat)) (P := fun i X => ∃ (M2 : e_MI) (V3 : e_ML), e_lim L xs (d + 6) 13 29 [some (.ref 165), some (.ref 1), some (.ref 149), some (.int (iI (edW K))), some (.long (lI (ctW K (enO K (rwK K))))), none, some (.int (iI (fF (imB K f s i.toNat)))), some (.int (iI f)), some (.int (iI i))] [] (e_hp X.1 X.2 W) = some (.inl (some (.int (iI (fF (imX K))))), e_hp M2 V3 W, 0, 0) ∧ BM M M2 V V3 K (imX K)) (fun j X u w hI2 hc2 => ?_) (fun X hI2 => ?_) ha.1 (M4, V4) hI
    · obtain ⟨M2, V3, e, r⟩ := key2
      refine ⟨M2, V3, ?_, r⟩
      have c1 : M4 1 1 = iI (aW K) := by rw [hI.2.2.2.2.2.1 1 (by omega)]; exact H.cw
      have e' : e_lim L xs (d + 6) 13 29 [some (.ref 165), some (.ref 1), some (.ref 149), some (.int (iI (edW K))), some (.long (lI (ctW K (enO K (rwK K))))), none, some (.int (iI (fF s))), some (.int (iI f)), some (.int (iI 0))] [] (e_hp M4 V4 W) = some (.inl (some (.int (iI (fF (imX K))))), e_hp M2 V3 W, 0, 0) := e
      simp only
      rw [r13_17]
      simp (disch := first | assumption | exact e_nk_i _ | exact e_nk_n | exact e_nk_r _ | exact e_bo_0 | exact e_bo_1 | exact e_bo_b _ | omega) only [e_cl_v, e_cl_x, e_add_0, e_add_s, Option.toList_some, Option.toList_none, List.cons_append, List.nil_append, iI_add, iI_sub, iI_mul, iI_lt, iI_eq, iI_le, r13_19, r13_20, r13_23, r13_26, r13_27, c1, e']
      rw [if_pos b]
    · obtain ⟨M5, V5⟩ := X
      simp only at hI2 ⊢
      have c1 : M5 1 1 = iI (aW K) := by rw [hI2.2.2.2.2.2.1 1 (by omega)]; exact H.cw
      have hst2 : imB K f s (j + 1).toNat = imS K f j (imB K f s j.toNat) := by
        rw [show (j + 1).toNat = j.toNat + 1 by omega]
        show imS K f (j.toNat : Int) _ = _
        rw [Int.toNat_of_nonneg u]
      rw [hst2] at hc2
      obtain ⟨M6, V6, e6, hB6⟩ := k_moveStep (L := L) (xs := xs) (d := d) (W := W) (v := edW K) (y := ctW K (enO K (rwK K))) H hg hft hI2 (f := f) ⟨a, b⟩ (x := j) ⟨u, w⟩
      obtain ⟨M2, V3, e, r⟩ := hc2 (M6, V6) hB6
      refine ⟨M2, V3, ?_, r⟩
      simp only at e
      rw [← e, r13_29]
      simp (disch := first | assumption | exact e_nk_i _ | exact e_nk_n | exact e_nk_r _ | exact e_bo_0 | exact e_bo_1 | exact e_bo_b _ | omega) only [e_cl_v, e_cl_x, e_add_0, e_add_s, Option.toList_some, Option.toList_none, List.cons_append, List.nil_append, iI_add, iI_sub, iI_mul, iI_lt, iI_eq, iI_le, r13_31, r13_32, r13_35, c1]
      rw [if_pos w, e6]
      simp (disch := first | assumption | exact e_nk_i _ | exact e_nk_n | exact e_nk_r _ | exact e_bo_0 | exact e_bo_1 | exact e_bo_b _ | omega) only [e_cl_v, e_cl_x, e_add_0, e_add_s, Option.toList_some, Option.toList_none, List.cons_append, List.nil_append, iI_add, iI_sub, iI_mul, iI_lt, iI_eq, iI_le, r13_75, r13_78]
    · obtain ⟨M5, V5⟩ := X
      simp only at hI2 ⊢
      have c1 : M5 1 1 = iI (aW K) := by rw [hI2.2.2.2.2.2.1 1 (by omega)]; exact H.cw
      obtain ⟨M2, V3, e, r⟩ := hc (M5, V5) hI2 (some (.int (iI (aW K))))
      refine ⟨M2, V3, ?_, r⟩
      simp only at e
      rw [← e, r13_29]
      simp (disch := first | assumption | exact e_nk_i _ | exact e_nk_n | exact e_nk_r _ | exact e_bo_0 | exact e_bo_1 | exact e_bo_b _ | omega) only [e_cl_v, e_cl_x, e_add_0, e_add_s, Option.toList_some, Option.toList_none, List.cons_append, List.nil_append, iI_add, iI_sub, iI_mul, iI_lt, iI_eq, iI_le, r13_31, r13_32, r13_35, r13_81, r13_84, c1]
      rw [if_neg (by omega)]
  · intro l8
    obtain ⟨M5, V5⟩ := X
    simp only at hI ⊢
    have hX : imA K (edW K, ctW K (enO K (rwK K)), -1, -1) (aW K).toNat = imX K := rfl
    rw [hX] at hI ⊢
    have c1 : M5 1 1 = iI (aW K) := by rw [hI.2.2.2.2.2.1 1 (by omega)]; exact H.cw
    refine ⟨M5, V5, ?_, hI⟩
    have hb : fF (imX K) = 0 ∨ fF (imX K) = 1 := by
      unfold fF
      split
      · exact Or.inl rfl
      · exact Or.inr rfl
    rw [r13_17]
    rcases hb with hb | hb <;>
    · rw [hb]
      simp (disch := first | assumption | exact e_nk_i _ | exact e_nk_n | exact e_nk_r _ | exact e_bo_0 | exact e_bo_1 | exact e_bo_b _ | omega) only [e_cl_v, e_cl_x, e_add_0, e_add_s, Option.toList_some, Option.toList_none, List.cons_append, List.nil_append, iI_add, iI_sub, iI_mul, iI_lt, iI_eq, iI_le, r13_19, r13_20, r13_23, r13_87, r13_89, c1]
      rw [if_neg (by omega)]
theorem x_improve (H : CK M K c S) (hg : kG K) : ∃ (M2 : e_MI) (V2 : e_ML), e_lim L xs (d + 7) 134 0 [some (.ref 0), none] [] (e_hp M V W) = (if ft K = true then some (.inl (some (.int (iI (anIm K)))), e_hp M2 V2 W, 0, 0) else some (.inr 1, e_hp M2 V2 W, 1, 6)) ∧ (ft K = true → CK M2 (imK K) (svC c) (svS c S K)) ∧ (¬ft K = true → M2 = M) ∧ (∀ a, 178 < a → M2 a = M a) ∧ ∀ a, a ≠ 165 → V2 a = V a := by
  obtain ⟨hr, ⟨ha, hvr⟩, hp, hk9, hd⟩ := id hg
  have c0 := H.pr.fits
  have e2 := m_requireState (L := L) (xs := xs) (d := d + 6) (h := e_hp M V W) (ft K)
  by_cases h1 : ft K = true
  · rw [if_pos h1] at e2
    simp only [if_pos h1]
    obtain ⟨M1, e3, k1, k2, k3, k4, hf⟩ := x_rem (L := L) (xs := xs) (d := d + 3) (V := V) (W := W) H hg
    have e4 := k3.edN (L := L) (xs := xs) (d := d + 4) (V := V) (W := W) hg h1
    have e5 := tt_charge (L := L) (xs := xs) (d := d + 3) (V := V) (W := W) e_isT_0 (k3.tt h1) k1 hr hp hvr ha.1
    obtain ⟨M2, V2, e6, hB⟩ := k_findMove (L := L) (xs := xs) (d := d) (V := V) (W := W) k1 hg h1 k4
    obtain ⟨⟨b1, b2⟩, b3, b4, b5, b6, b7, b8⟩ := hB
    obtain ⟨i1, i2, i3⟩ := b4
    by_cases hq : (imX K).2.2.1 = -1
    · have hF : fF (imX K) = 0 := by unfold fF; rw [if_pos hq]
      rw [hF] at e6
      refine ⟨M2, V2, ?_, fun _ => ?_, fun y => absurd h1 y, fun a y => by rw [b7 a (by omega), hf a (by omega)], b8⟩
      · unfold anIm
        rw [if_pos hq]
        simp (disch := first | assumption | exact e_nk_i _ | exact e_nk_n | exact e_nk_r _ | exact e_bo_0 | exact e_bo_1 | exact e_bo_b _ | omega) only [e_cl_v, e_cl_x, e_add_0, e_add_s, Option.toList_some, Option.toList_none, List.cons_append, List.nil_append, iI_add, iI_sub, iI_mul, iI_lt, iI_eq, iI_le, r134_0, r134_1, r134_4, r134_7, r134_10, r134_11, r134_14, r134_15, r134_18, r134_21, r134_22, r134_25, r134_28, r134_29, r134_30, r134_33, r134_34, r134_37, r134_38, r134_41, r134_42, r134_43, r134_46, r134_47, r134_50, r134_53, r134_56, r134_59, r134_60, c0, e2, e3, e4, e5, e6]
        simp
      · unfold imK
        rw [if_pos hq]
        exact ⟨k1.of fun a x y => b7 a (by omega), k2.of fun a x y => b7 a (by omega), k3.of fun a x y => b7 a (by omega), b6⟩
    · have hF : fF (imX K) = 1 := by unfold fF; rw [if_neg hq]
      rw [hF] at e6
      have i4 : (0 ≤ (imX K).2.2.1 ∧ (imX K).2.2.1 < aW K) ∧ 0 ≤ (imX K).2.2.2 ∧ (imX K).2.2.2 < aW K := by omega
      obtain ⟨g1, g2, g3⟩ := b3 hq
      have hv : vR K (mvR (rwK K) (imX K).2.2.1 (imX K).2.2.2) := mvR_v (f := (imX K).2.2.1) (t := (imX K).2.2.2) hvr i4.1 i4.2
      obtain ⟨M3, e7, hS, hP, hf3⟩ := x_takeRow (L := L) (xs := xs) (d := d) (M := M2) (V := V2) (W := W) (k1.of fun a x y => b7 a (by omega)) hg (k3.g.of fun a x y => b7 a (by omega)) si_167 g1 hv
      have hg3 := kG_rt hg hv
      have hft3 : ft (rtS K (mvR (rwK K) (imX K).2.2.1 (imX K).2.2.2)) = true := by rw [ft_rt hg hv]; exact g3
      have e8 := hP.edN (L := L) (xs := xs) (d := d + 4) (V := V2) (W := W) hg3 hft3
      rw [edW_rt hg hv, ← g2] at e8
      rw [hft3, bI_t] at e7
      refine ⟨M3, V2, ?_, fun _ => ?_, fun y => absurd h1 y, fun a y => by rw [hf3 a (by omega) (by omega), b7 a (by omega), hf a (by omega)], b8⟩
      · unfold anIm
        rw [if_neg hq]
        simp (disch := first | assumption | exact e_nk_i _ | exact e_nk_n | exact e_nk_r _ | exact e_bo_0 | exact e_bo_1 | exact e_bo_b _ | omega) only [e_cl_v, e_cl_x, e_add_0, e_add_s, Option.toList_some, Option.toList_none, List.cons_append, List.nil_append, iI_add, iI_sub, iI_mul, iI_lt, iI_eq, iI_le, r134_0, r134_1, r134_4, r134_7, r134_10, r134_11, r134_14, r134_15, r134_18, r134_21, r134_22, r134_25, r134_28, r134_29, r134_30, r134_33, r134_34, r134_37, r134_38, r134_41, r134_42, r134_43, r134_46, r134_47, r134_50, r134_53, r134_56, r134_59, r134_60, r134_61, r134_62, r134_63, r134_66, r134_69, r134_72, r134_73, r134_74, r134_75, r134_78, r134_81, r134_82, c0, e2, e3, e4, e5, e6, e7, e8]
        simp
      · unfold imK
        rw [if_neg hq]
        exact ⟨hS, k2.of fun a x y => by rw [hf3 a (by omega) (by omega), b7 a (by omega)], hP, b6.of fun a x y => hf3 a (by omega) (by omega)⟩
  · rw [if_neg h1] at e2
    refine ⟨M, V, ?_, fun y => absurd y h1, fun _ => rfl, fun _ _ => rfl, fun _ _ => rfl⟩
    rw [if_neg h1]
    simp (disch := first | assumption | exact e_nk_i _ | exact e_nk_n | exact e_nk_r _ | exact e_bo_0 | exact e_bo_1 | exact e_bo_b _ | omega) only [e_cl_v, e_cl_x, e_add_0, e_add_s, Option.toList_some, Option.toList_none, List.cons_append, List.nil_append, iI_add, iI_sub, iI_mul, iI_lt, iI_eq, iI_le, r134_0, r134_1, r134_4, r134_7, c0, e2]
end Ec51
