section E90
variable {L : Nat} {xs : Nat → Int32} {d : Nat} {M M2 M3 : e_MI} {V : e_ML} {W : e_MD} {K K2 : e_St} {h : e_H} {S : Int → e_St} {c cd n er w f t o : Int} {s : Int × (Int → Int)} {ρ ω β ε τ T U : Int → Int} {r : Option e_R} {an : Int32}
theorem SU_eq {f g : Int → Int} {n : Int} (hn : 0 ≤ n) (h : ∀ i, 0 ≤ i → i < n → f i ≤ g i) (he : SU f n = SU g n) : ∀ i, 0 ≤ i → i < n → f i = g i := by
  revert h he
  refine SU_ind (P := fun n => (∀ i, 0 ≤ i → i < n → f i ≤ g i) → SU f n = SU g n → ∀ i, 0 ≤ i → i < n → f i = g i) (fun _ _ i a b => by omega) (fun j hj ih h he i a b => ?_) n hn
  rw [SU_s f hj, SU_s g hj] at he
  have h1 := h j hj (by omega)
  have h2 := SU_le2 hj (fun i x y => h i x (by omega))
  by_cases hq : i = j
  · rw [hq]
    omega
  · exact ih (fun i x y => h i x (by omega)) (by omega) i a (by omega)
/-- where no error is on the tape, its row goes -/
theorem rd_v (hg : kG K) {m : Int} (hm : 0 ≤ m) (he : reW K T m = -1) : vR K (rdS T m.toNat).2 := by
  have hr := hg.1
  unfold reW at he
  by_cases h1 : fsP (rdE K T) m.toNat < m
  · rw [if_pos h1] at he
    have : ∀ n : Nat, 0 ≤ fsP (rdE K T) n := by
      intro n
      induction n with
      | zero => exact Int.le_refl _
      | succ n ih =>
        unfold fsP
        split
        · exact ih
        · split <;> omega
    have := this m.toNat
    omega
  · rw [if_neg h1] at he
    have hf : ∀ j, 0 ≤ j → j < m → rdE K T j = false := by
      have gen : ∀ n : Nat, ¬ fsP (rdE K T) n < n → ∀ j : Int, 0 ≤ j → j < n → rdE K T j = false := by
        intro n
        induction n with
        | zero => intro _ j a b; omega
        | succ n ih =>
          intro hn j a b
          unfold fsP at hn
          by_cases c1 : fsP (rdE K T) n < n
          · rw [if_pos c1] at hn
            omega
          · rw [if_neg c1] at hn
            by_cases c2 : rdE K T n = true
            · rw [if_pos c2] at hn
              omega
            · by_cases c3 : j = n
              · rw [c3]
                simpa using c2
              · exact ih c1 j a (by omega)
      intro j a b
      exact gen m.toNat (by omega) j a (by omega)
    obtain ⟨g0, g1, g2⟩ := rdS_sp hr T m.toNat (fun j a b => hf j a (by omega))
    have hl : (rdS T m.toNat).1 = aW K := by
      by_cases c1 : (rdS T m.toNat).1 = aW K
      · exact c1
      · rw [if_neg c1] at he
        omega
    rw [hl] at g1 g2
    have hs := cnt_sum (ρ := (rdS T m.toNat).2) hr.n.1 (aW K) hg.2.1.1.1 g1
    exact ⟨g1, fun o a b => SU_eq (f := fun o => cnt (rdS T m.toNat).2 o (aW K)) (g := fun o => K (40 + o)) hr.n.1 g2 hs o a b⟩
def cdRd (K : e_St) (s : Int × (Int → Int)) : Int := if reW K s.2 s.1 = -1 then 0 else 1
def rdK (K : e_St) (s : Int × (Int → Int)) : e_St := rtS K (rdS s.2 s.1.toNat).2
theorem fsP_rg {p : Int → Bool} : ∀ n : Nat, 0 ≤ fsP p n ∧ fsP p n ≤ n
  | 0 => ⟨Int.le_refl _, Int.le_refl _⟩
  | n + 1 => by
    have ih := fsP_rg (p := p) n
    unfold fsP
    split
    · omega
    · split <;> omega
theorem reW_rg {m : Int} (hm : 0 ≤ m) : -1 ≤ reW K T m ∧ reW K T m ≤ m := by
  have := fsP_rg (p := rdE K T) m.toNat
  unfold reW
  split
  · omega
  · split <;> omega
theorem rf_read (H : RK M K c S) (Ht : TP M s er w U) : ∃ (M2 : e_MI) (z : Int32), e_lim L xs (d + 6) 281 0 [some (.ref 184)] [] (e_hp M V W) = some (.inl (some (.int z)), e_hp M2 V W, 0, 0) ∧ (∀ a, a < 184 → M2 a = M a) ∧ M2 184 0 = iI (cdRd K s) ∧ TP M2 (0, s.2) (reW K s.2 s.1) w U ∧ (cdRd K s = 0 → z = bI (ft (rdK K s)) ∧ RK M2 (rdK K s) (svC c) (svS c S K)) ∧ (cdRd K s ≠ 0 → RK M2 K c S) := by
  have h0 := mT_0 M
  have Ht1 := Ht.p (frQ_mT M).p
  obtain ⟨t1, t2, t3, t4, t5, t6, t7⟩ := Ht1
  have u := t3.1
  have hw := reW_rg (K := K) (T := s.2) u
  obtain ⟨M1, e1, ha, f1⟩ := mm_readsTape (L := L) (xs := xs) (d := d + 3) (V := V) (W := W) H.mT.km H.r H.v.1 ⟨u, t2⟩ t1 t4 (fun j a b => by have := t3.2 j a b; omega)
  -- behind the tape
  obtain ⟨M2, hM2⟩ : ∃ M2, M2 = e_u M1 184 (upd (upd (M1 184) 23 (iI (reW K s.2 s.1))) 22 (iI 0)) := ⟨_, rfl⟩
  have a2 : ∀ a, a ≠ 184 → M2 a = M1 a := fun a x => by rw [hM2, e_u_n _ _ x]
  have j2 : ∀ j, j ≠ 22 → j ≠ 23 → M2 184 j = mT M 184 j := fun j x y => by rw [hM2, e_u_s, upd_n _ _ x, upd_n _ _ y, f1 184 (by decide) (by decide)]
  have j22 : M2 184 22 = iI 0 := by rw [hM2, e_u_s, upd_s]
  have j23 : M2 184 23 = iI (reW K s.2 s.1) := by rw [hM2, e_u_s, upd_n _ _ (by decide), upd_s]
  have H2 : RK M2 K c S := H.mT.of (by rw [a2 _ (by decide), f1 _ (by decide) (by decide)]) (by rw [a2 _ (by decide), f1 _ (by decide) (by decide)]) (j2 3 (by decide) (by decide)) (H.mT.s.of fun a x y => by rw [a2 a (by omega), f1 a (by omega) (by omega)])
  have l2 : ∀ a, a < 184 → M2 a = M a := fun a x => by rw [a2 a (by omega), f1 a (by omega) (by omega), mT_a M (by omega)]
  have h02 : M2 184 0 = iI 0 := by rw [j2 0 (by decide) (by decide), h0]
  have T2 : TP M2 (0, s.2) (reW K s.2 s.1) w U := ⟨j22, by show (0 : Int) ≤ 60; omega, ⟨Int.le_refl _, fun j a b => by have : j < 0 := b; omega⟩, fun j a b => by have : j < 0 := b; omega, ⟨j23, by omega, by omega⟩, by rw [j2 26 (by decide) (by decide)]; exact t6, by rw [a2 201 (by decide), f1 201 (by decide) (by decide)]; exact t7⟩
  have eM2 : e_u (e_u M1 184 (upd (M1 184) 23 (iI (reW K s.2 s.1)))) 184 (upd (upd (M1 184) 23 (iI (reW K s.2 s.1))) 22 (iI 0)) = M2 := by rw [hM2, e_u_u]
  unfold cdRd
  by_cases hq : reW K s.2 s.1 = -1
  · have e2 := mm_failsT (L := L) (xs := xs) (d := d + 5) (V := V) (W := W) (e := 1) h02 (by omega)
    obtain ⟨M3, e3, H3, F3, z3, g3⟩ := rf_saves (L := L) (xs := xs) (d := d + 5) (V := V) (W := W) H2
    have ha3 : e_ar (M3 192) (aW K) (rdS s.2 s.1.toNat).2 := by
      rw [g3 192 (by decide) (by decide), a2 192 (by decide)]
      exact ha hq
    obtain ⟨M4, M5, e4, e5, H5, F5, z5⟩ := rf_taken (L := L) (xs := xs) (d := d) (V := V) (W := W) H3 ha3 (rd_v H.g u hq)
    rw [if_pos hq]
    refine ⟨M5, _, ?_, fun a x => by rw [F5.1 a x, F3.1 a x, l2 a x], by rw [z5, z3, h02], (T2.p F3).p F5, fun _ => ⟨rfl, H5⟩, fun q => absurd rfl q⟩
    unfold rdK
    have hq2 : iI (reW K s.2 s.1) = iI (-1) := by rw [hq]
    rw [hq2] at eM2
    rw [hq] at j23 e1
    simp (disch := first | assumption | exact e_nk_i _ | exact e_nk_n | exact e_nk_r _ | exact e_bo_0 | exact e_bo_1 | exact e_bo_b _ | omega) only [e_cl_v, e_cl_x, e_add_0, e_add_s, Option.toList_some, Option.toList_none, List.cons_append, List.nil_append, iI_add, iI_sub, iI_mul, iI_lt, iI_eq, iI_le, r281_0, r281_1, r281_2, r281_5, r281_6, r281_7, r281_10, r281_13, r281_14, r281_15, r281_18, r281_19, r281_20, r281_23, r281_24, r281_27, r281_28, r281_31, r281_32, r281_33, r281_36, r281_39, r281_40, r281_41, r281_42, r281_45, r281_46, r281_49, r281_50, r281_53, e1, e_u_s, eM2, j23, e2, e3, e4, e5]
    all_goals first | (simp; done) | rfl | (simp; rfl)
  · have e2 := mm_failsF (L := L) (xs := xs) (d := d + 5) (V := V) (W := W) (e := 1) h02 (by omega)
    rw [if_neg hq]
    refine ⟨mF M2 false 1, iI 0, ?_, fun a x => by rw [mF_a _ _ _ (by omega), l2 a x], mF_0 _ false 1 h02, T2.p (frQ_mF _ false 1).p, fun q => by omega, fun _ => H2.mF false 1⟩
    simp (disch := first | assumption | exact e_nk_i _ | exact e_nk_n | exact e_nk_r _ | exact e_bo_0 | exact e_bo_1 | exact e_bo_b _ | omega) only [e_cl_v, e_cl_x, e_add_0, e_add_s, Option.toList_some, Option.toList_none, List.cons_append, List.nil_append, iI_add, iI_sub, iI_mul, iI_lt, iI_eq, iI_le, r281_0, r281_1, r281_2, r281_5, r281_6, r281_7, r281_10, r281_13, r281_14, r281_15, r281_18, r281_19, r281_20, r281_23, r281_24, r281_27, r281_28, r281_31, r281_32, r281_33, r281_36, r281_39, r281_40, r281_41, r281_42, r281_45, r281_46, r281_49, r281_50, r281_53, e1, e_u_s, eM2, j23, e2, if_neg hq]
    all_goals first | (simp; done) | rfl | (simp; rfl)
theorem mm_keepsBegins0 {n : Int} (hn : 0 ≤ n ∧ n ≤ 16) (hz : M 184 9 = iI n) (hS : e_SC M ρ ω β ε) : ∃ f : Nat → Int32, e_lim L xs d 223 0 [some (.ref 184), none] [] (e_hp M V W) = some (.inl none, e_hp (e_u M 187 f) V W, 0, 0) := by
  obtain ⟨h1, h2, h3, h4, g1, g2, g3, g4⟩ := hS
  have key := G_lp (i := 0) (n := n) (I := fun i M1 => ∃ f, M1 = e_u M 187 f) (P := fun i M1 => ∃ f : Nat → Int32, e_lim L xs d 223 2 [some (.ref 184), some (.int (iI i))] [] (e_hp M1 V W) = some (.inl none, e_hp (e_u M 187 f) V W, 0, 0)) (fun j M1 a b hI hc => ?_) (fun M1 hI => ?_) hn.1 M ⟨M 187, (e_u_rf M 187).symm⟩
  · obtain ⟨f, e⟩ := key
    refine ⟨f, ?_⟩
    rw [← e]
    simp (disch := first | assumption | exact e_nk_i _ | exact e_nk_n | exact e_nk_r _ | exact e_bo_0 | exact e_bo_1 | exact e_bo_b _ | omega) only [e_cl_v, e_cl_x, e_add_0, e_add_s, Option.toList_some, Option.toList_none, List.cons_append, List.nil_append, iI_add, iI_sub, iI_mul, iI_lt, iI_eq, iI_le, r223_0, r223_1]
  · obtain ⟨f, hM⟩ := hI
    have q1 := g1 j a (by omega)
    have q2 := g2 j a (by omega)
    have e1 := h1 j a (by omega)
    have e2 := h2 j a (by omega)
    have e3 := h3 j a (by omega)
    obtain ⟨f2, e⟩ := hc (e_u M 187 (upd f (4 * ρ j + ω j).toNat (iI (β j)))) ⟨_, rfl⟩
    refine ⟨f2, ?_⟩
    rw [← e, hM, r223_2]
    simp (disch := first | assumption | exact e_nk_i _ | exact e_nk_n | exact e_nk_r _ | exact e_bo_0 | exact e_bo_1 | exact e_bo_b _ | omega) only [e_cl_v, e_cl_x, e_add_0, e_add_s, Option.toList_some, Option.toList_none, List.cons_append, List.nil_append, iI_add, iI_sub, iI_mul, iI_lt, iI_eq, iI_le, r223_3, r223_4, r223_7, r223_10, r223_11, r223_14, r223_15, r223_16, r223_19, r223_20, r223_21, r223_22, r223_23, r223_26, r223_27, r223_28, r223_29, r223_30, r223_33, r223_34, r223_35, r223_36, r223_39, iI_vin, iI_nat, if_true, e_u_n, e_u_s, e_u_u, hz, e1, e2, e3]
    rw [if_pos b]
  · obtain ⟨f, hM⟩ := hI
    refine ⟨f, ?_⟩
    rw [hM, r223_2]
    simp (disch := first | assumption | exact e_nk_i _ | exact e_nk_n | exact e_nk_r _ | exact e_bo_0 | exact e_bo_1 | exact e_bo_b _ | omega) only [e_cl_v, e_cl_x, e_add_0, e_add_s, Option.toList_some, Option.toList_none, List.cons_append, List.nil_append, iI_add, iI_sub, iI_mul, iI_lt, iI_eq, iI_le, r223_3, r223_4, r223_7, r223_10, r223_11, r223_14, r223_15, r223_16, r223_19, r223_20, r223_21, r223_22, r223_23, r223_26, r223_27, r223_28, r223_29, r223_30, r223_33, r223_34, r223_35, r223_36, r223_39, r223_42, e_u_n, hz]
    rw [if_neg (by omega)]
/-- the begins of a row with times are kept by work -/
theorem rf_keepsBegins (H : RK M K c S) (hS : e_SC M ρ ω β ε) (hz : M 184 9 = iI (aW K)) (hg : ft K = true → agR K (rwK K) (aW K) ρ ω β ε) : ∃ M2 : e_MI, e_lim L xs d 223 0 [some (.ref 184), none] [] (e_hp M V W) = some (.inl none, e_hp M2 V W, 0, 0) ∧ (∀ a, a ≠ 187 → M2 a = M a) ∧ RK M2 K c S ∧ (ft K = true → ∀ o w, 0 ≤ o → o < K 310 → 0 ≤ w → w < K (40 + o) → M2 187 (4 * o + w).toNat = iI (bT K (plO K (rwK K) o w))) := by
  have hv := H.v
  cases hb : ft K with
  | true =>
    have hg2 := hg hb
    have hv16 := hv.1.2
    have hcc : ∀ p, 0 ≤ p → p < aW K → (0 ≤ ρ p ∧ ρ p ≤ 7) ∧ 0 ≤ ω p ∧ ω p ≤ 3 := fun p a b => ⟨hS.2.2.2.2.1 p a (by omega), hS.2.2.2.2.2.1 p a (by omega)⟩
    obtain ⟨f, e, hf⟩ := mm_keepsBegins (L := L) (xs := xs) (d := d) (V := V) (W := W) hv.1 hz hS (fun p q a b x y u => by
      have := hcc p a b
      have := hcc q x y
      have h1 := hg2 p a b
      have h2 := hg2 q x y
      have : ρ p = ρ q ∧ ω p = ω q := by omega
      refine cnt_inj (τ := rwK K) a x (by rw [← h1.1, ← h2.1, this.1]) ?_
      show scW (rwK K) p = scW (rwK K) q
      rw [← h1.2.1, ← h2.2.1, this.2])
    refine ⟨_, e, fun a x => e_u_n _ _ x, H.of (e_u_n _ _ (by decide)) (e_u_n _ _ (by decide)) (by rw [e_u_n _ _ (by decide)]) (H.s.of fun a x y => e_u_n _ _ (by omega)), fun _ o w a b x y => ?_⟩
    obtain ⟨⟨a1, a2⟩, ⟨a3, a4⟩, -⟩ := plO_sp H.r hv.2 hv.1.1 (o := o) (w := w) ⟨a, b⟩ ⟨x, y⟩
    have h1 := hg2 _ a1 a2
    have h2 := hf _ a1 a2
    rw [e_u_s]
    have e3 : ρ (plO K (rwK K) o w) = o := by rw [show plO K (rwK K) o w = plO K (fun p => K (241 + p)) o w from rfl, h1.1]; exact a3
    have e4 : ω (plO K (rwK K) o w) = w := by rw [show plO K (rwK K) o w = plO K (fun p => K (241 + p)) o w from rfl, h1.2.1]; exact a4
    have e5 : β (plO K (rwK K) o w) = bT K (plO K (rwK K) o w) := h1.2.2.1
    have h2' : f (4 * ρ (plO K (rwK K) o w) + ω (plO K (rwK K) o w)).toNat = iI (β (plO K (rwK K) o w)) := h2
    rw [e3, e4, e5] at h2'
    exact h2'
  | false =>
    obtain ⟨f, e⟩ := mm_keepsBegins0 (L := L) (xs := xs) (d := d) (V := V) (W := W) hv.1 hz hS
    exact ⟨_, e, fun a x => e_u_n _ _ x, H.of (e_u_n _ _ (by decide)) (e_u_n _ _ (by decide)) (by rw [e_u_n _ _ (by decide)]) (H.s.of fun a x y => e_u_n _ _ (by omega)), fun q => by cases q⟩
/-- how many works begin at another time in the row τ -/
def otW (K K2 : e_St) (τ : Int → Int) : Int := SU (fun p => if bT K (plO K (rwK K) (τ p) (scW τ p)) = scB K2 τ p then 0 else 1) (aW K)
theorem rf_others (hr : kR K) (hv : vR K τ) (hn : 0 ≤ aW K ∧ aW K ≤ 16) (hS : e_SC M ρ ω β ε) (hz : M 184 9 = iI (aW K)) (hg : agR K2 τ (aW K) ρ ω β ε) (hk : ∀ o w, 0 ≤ o → o < K 310 → 0 ≤ w → w < K (40 + o) → M 187 (4 * o + w).toNat = iI (bT K (plO K (rwK K) o w))) (hb : ∀ p, 0 ≤ p → p < aW K → 0 ≤ bT K p ∧ bT K p ≤ 2001) (hv0 : vR K (rwK K)) : e_lim L xs d 224 0 [some (.ref 184), none, none] [] (e_hp M V W) = some (.inl (some (.int (iI (otW K K2 τ)))), e_hp M V W, 0, 0) := by
  have e := mm_others (L := L) (xs := xs) (d := d) (V := V) (W := W) hn hz hS (g := fun p => bT K (plO K (rwK K) (τ p) (scW τ p))) (fun p a b => by
    have ag := hg p a b
    have c1 := hv.1 p a b
    have c2 := hv.c hr a b
    have c3 := cnt_rg τ (τ p) a
    have c4 : scW τ p = cnt τ (τ p) p := rfl
    rw [ag.1, ag.2.1, hk (τ p) (scW τ p) c1.1 c1.2 (by omega) (by omega)]
    obtain ⟨⟨a1, a2⟩, -, -⟩ := plO_sp hr hv0 hn.1 (o := τ p) (w := scW τ p) c1 (by omega)
    exact ⟨rfl, hb _ a1 a2⟩)
  rw [e]
  unfold otW
  rw [SU_cong (fun p a b => by rw [(hg p a b).2.2.1])]
end E90
