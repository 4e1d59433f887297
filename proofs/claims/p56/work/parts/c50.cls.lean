section Ec50
variable {L : Nat} {xs : Nat → Int32} {d : Nat} {M M2 M3 : e_MI} {V : e_ML} {W : e_MD} {K K1 K2 : e_St} {S : Int → e_St} {h : e_H} {s s0 s1 t t2 a b2 n : Nat} {c o w z m k q p i f l b e mc tl T x y v N : Int} {sc bb : Bool} {ρ ν μ χ β ε τ τ2 u : Int → Int}
/-! rows that are moved, in the class -/
theorem k_layMoved (H : SH M 1 K) (ha : 0 ≤ aW K ∧ aW K ≤ 16) (hf : 0 ≤ f ∧ f < aW K) (hx : 0 ≤ x ∧ x < aW K) : ∃ M2 : e_MI, e_lim L xs (d + 1) 11 0 [some (.ref 165), some (.ref 1), some (.int (iI f)), some (.int (iI x)), none, none] [] (e_hp M V W) = some (.inl none, e_hp M2 V W, 0, 0) ∧ e_ar (M2 166) (aW K) (mvR (rwK K) f x) ∧ ∀ a, a ≠ 166 → M2 a = M a := by
  have c1 := H.cw
  have key := G_lp (i := 0) (n := aW K) (I := fun i M4 => e_ar (M4 166) i (mvR (rwK K) f x) ∧ ∀ a, a ≠ 166 → M4 a = M a) (P := fun i M4 => ∀ o : Int, (o = (if (if x < i then i - 1 else i) < f then (if x < i then i - 1 else i) else (if x < i then i - 1 else i) + 1) ∨ ((if x < i then i - 1 else i) = f ∧ o = f)) → ∃ M2 : e_MI, e_lim L xs (d + 1) 11 6 [some (.ref 165), some (.ref 1), some (.int (iI f)), some (.int (iI x)), some (.int (iI o)), some (.int (iI i))] [] (e_hp M4 V W) = some (.inl none, e_hp M2 V W, 0, 0) ∧ e_ar (M2 166) (aW K) (mvR (rwK K) f x) ∧ ∀ a, a ≠ 166 → M2 a = M a) (fun j M4 a b hI hc => ?_) (fun M4 hI => ?_) ha.1 M ⟨fun z a b => by omega, fun _ _ => rfl⟩ 0 (by
      rw [if_neg (show ¬ x < 0 by omega)]
      by_cases h0 : 0 < f
      · exact Or.inl (by rw [if_pos h0])
      · exact Or.inr ⟨by omega, by omega⟩)
  · obtain ⟨M2, e, r⟩ := key
    refine ⟨M2, ?_, r⟩
    rw [← e]
    simp (disch := first | assumption | exact e_nk_i _ | exact e_nk_n | exact e_nk_r _ | exact e_bo_0 | exact e_bo_1 | exact e_bo_b _ | omega) only [e_cl_v, e_cl_x, e_add_0, e_add_s, Option.toList_some, Option.toList_none, List.cons_append, List.nil_append, iI_add, iI_sub, iI_mul, iI_lt, iI_eq, iI_le, r11_0, r11_1, r11_3, r11_4]
  · intro o ho
    obtain ⟨i1, i2⟩ := hI
    have c1 : M4 1 1 = iI (aW K) := by rw [i2 1 (by decide)]; exact c1
    have g8 : ∀ p, 0 ≤ p → p < aW K → M4 8 p.toNat = iI (K (241 + p)) := fun p y z => by
      rw [i2 8 (by decide)]
      exact H.ro y z
    obtain ⟨o2, ho2⟩ : ∃ o2 : Int, o2 = if (if x < j then j - 1 else j) < f then (if x < j then j - 1 else j) else (if x < j then j - 1 else j) + 1 := ⟨_, rfl⟩
    have hob : (if o = f then o + 1 else o) = o2 := by
      by_cases h1 : x < j
      · simp only [if_pos h1] at ho ho2
        by_cases h2 : j - 1 < f
        · rw [if_pos h2] at ho ho2
          rw [if_neg (by omega)]
          omega
        · rw [if_neg h2] at ho ho2
          by_cases h3 : o = f
          · rw [if_pos h3]
            omega
          · rw [if_neg h3]
            omega
      · simp only [if_neg h1] at ho ho2
        by_cases h2 : j < f
        · rw [if_pos h2] at ho ho2
          rw [if_neg (by omega)]
          omega
        · rw [if_neg h2] at ho ho2
          by_cases h3 : o = f
          · rw [if_pos h3]
            omega
          · rw [if_neg h3]
            omega
    have hor : -1 ≤ o ∧ o ≤ 20 := by
      by_cases h1 : x < j
      · simp only [if_pos h1] at ho
        by_cases h2 : j - 1 < f
        · rw [if_pos h2] at ho
          omega
        · rw [if_neg h2] at ho
          omega
      · simp only [if_neg h1] at ho
        by_cases h2 : j < f
        · rw [if_pos h2] at ho
          omega
        · rw [if_neg h2] at ho
          omega
    have hor2 : -1 ≤ o2 ∧ o2 ≤ 20 := by
      rw [← hob]
      split <;> omega
    -- the step behind the skip
    have step : ∃ M2 : e_MI, e_lim L xs (d + 1) 11 24 [some (.ref 165), some (.ref 1), some (.int (iI f)), some (.int (iI x)), some (.int (iI o2)), some (.int (iI j))] [] (e_hp M4 V W) = some (.inl none, e_hp M2 V W, 0, 0) ∧ e_ar (M2 166) (aW K) (mvR (rwK K) f x) ∧ ∀ a, a ≠ 166 → M2 a = M a := by
      by_cases hjx : j = x
      · have e1 := m_atI (L := L) (xs := xs) (d := d) (M := M4) (V := V) (W := W) si_8 (z := f) hf.1 (by omega) (g8 f hf.1 hf.2)
        have e2 := m_putI (L := L) (xs := xs) (d := d) (M := M4) (V := V) (W := W) (v := iI (K (241 + f))) si_166 (z := j) a (by omega)
        obtain ⟨M2, e, r⟩ := hc (e_u M4 166 (upd (M4 166) j.toNat (iI (K (241 + f))))) ⟨by
          rw [e_u_s]
          refine (i1.more (v := K (241 + f)) a).cong (fun z y w => ?_)
          unfold uI
          by_cases hz : z = j
          · rw [if_pos hz]
            unfold mvR
            rw [if_pos (by omega)]
            rfl
          · rw [if_neg hz], fun a y => by rw [e_u_n _ _ y, i2 a y]⟩ o2 (by
          rw [if_neg (show ¬ x < j by omega)] at ho2
          rw [if_pos (show x < j + 1 by omega), show j + 1 - 1 = j by omega]
          exact Or.inl ho2)
        refine ⟨M2, ?_, r⟩
        rw [← e]
        simp (disch := first | assumption | exact e_nk_i _ | exact e_nk_n | exact e_nk_r _ | exact e_bo_0 | exact e_bo_1 | exact e_bo_b _ | omega) only [e_cl_v, e_cl_x, e_add_0, e_add_s, Option.toList_some, Option.toList_none, List.cons_append, List.nil_append, iI_add, iI_sub, iI_mul, iI_lt, iI_eq, iI_le, r11_24, r11_26, r11_27, r11_30, r11_31, r11_34, r11_36, r11_37, r11_40, r11_41, r11_44, r11_47, r11_50, r11_51, r11_54, r11_56, r11_57, r11_60, r11_62, r11_65, r11_68, r11_71, r11_74, e1, e2]
        rw [if_pos hjx]
      · have hr2 : 0 ≤ o2 ∧ o2 < aW K := by
          by_cases h1 : x < j
          · simp only [if_pos h1] at ho2
            by_cases h2 : j - 1 < f
            · rw [if_pos h2] at ho2
              omega
            · rw [if_neg h2] at ho2
              omega
          · simp only [if_neg h1] at ho2
            by_cases h2 : j < f
            · rw [if_pos h2] at ho2
              omega
            · rw [if_neg h2] at ho2
              omega
        have e1 := m_atI (L := L) (xs := xs) (d := d) (M := M4) (V := V) (W := W) si_8 (z := o2) hr2.1 (by omega) (g8 o2 hr2.1 hr2.2)
        have e2 := m_putI (L := L) (xs := xs) (d := d) (M := M4) (V := V) (W := W) (v := iI (K (241 + o2))) si_166 (z := j) a (by omega)
        have hm : mvR (rwK K) f x j = K (241 + o2) := by
          unfold mvR
          rw [if_neg hjx]
          by_cases h1 : x < j
          · simp only [if_pos h1] at ho2
            rw [if_neg (by omega)]
            unfold mvW
            by_cases h2 : j - 1 < f
            · rw [if_pos h2] at ho2 ⊢
              rw [ho2]
              rfl
            · rw [if_neg h2] at ho2 ⊢
              rw [ho2]
              rfl
          · simp only [if_neg h1] at ho2
            rw [if_pos (by omega)]
            unfold mvW
            by_cases h2 : j < f
            · rw [if_pos h2] at ho2 ⊢
              rw [ho2]
              rfl
            · rw [if_neg h2] at ho2 ⊢
              rw [ho2]
              rfl
        obtain ⟨M2, e, r⟩ := hc (e_u M4 166 (upd (M4 166) j.toNat (iI (K (241 + o2))))) ⟨by
          rw [e_u_s]
          refine (i1.more (v := K (241 + o2)) a).cong (fun z y w => ?_)
          unfold uI
          by_cases hz : z = j
          · rw [if_pos hz, hz, hm]
          · rw [if_neg hz], fun a y => by rw [e_u_n _ _ y, i2 a y]⟩ (o2 + 1) (by
          by_cases h1 : x < j
          · simp only [if_pos h1] at ho2
            simp only [if_pos (show x < j + 1 by omega)]
            by_cases h2 : j - 1 < f
            · rw [if_pos h2] at ho2
              by_cases h3 : j + 1 - 1 < f
              · rw [if_pos h3]
                exact Or.inl (by omega)
              · exact Or.inr ⟨by omega, by omega⟩
            · rw [if_neg h2] at ho2
              rw [if_neg (by omega)]
              exact Or.inl (by omega)
          · simp only [if_neg h1] at ho2
            simp only [if_neg (show ¬ x < j + 1 by omega)]
            by_cases h2 : j < f
            · rw [if_pos h2] at ho2
              by_cases h3 : j + 1 < f
              · rw [if_pos h3]
                exact Or.inl (by omega)
              · exact Or.inr ⟨by omega, by omega⟩
            · rw [if_neg h2] at ho2
              rw [if_neg (by omega)]
              exact Or.inl (by omega))
        refine ⟨M2, ?_, r⟩
        rw [← e]
        simp (disch := first | assumption | exact e_nk_i _ | exact e_nk_n | exact e_nk_r _ | exact e_bo_0 | exact e_bo_1 | exact e_bo_b _ | omega) only [e_cl_v, e_cl_x, e_add_0, e_add_s, Option.toList_some, Option.toList_none, List.cons_append, List.nil_append, iI_add, iI_sub, iI_mul, iI_lt, iI_eq, iI_le, r11_24, r11_26, r11_27, r11_30, r11_31, r11_34, r11_36, r11_37, r11_40, r11_41, r11_44, r11_47, r11_50, r11_51, r11_54, r11_56, r11_57, r11_60, r11_62, r11_65, r11_68, r11_71, r11_74, e1, e2]
        rw [if_neg hjx]
    obtain ⟨M2, e, r⟩ := step
    refine ⟨M2, ?_, r⟩
    rw [← e, r11_6]
    simp (disch := first | assumption | exact e_nk_i _ | exact e_nk_n | exact e_nk_r _ | exact e_bo_0 | exact e_bo_1 | exact e_bo_b _ | omega) only [e_cl_v, e_cl_x, e_add_0, e_add_s, Option.toList_some, Option.toList_none, List.cons_append, List.nil_append, iI_add, iI_sub, iI_mul, iI_lt, iI_eq, iI_le, r11_8, r11_9, r11_12, r11_15, r11_17, r11_18, r11_21, c1]
    rw [if_pos b]
    by_cases h3 : o = f
    · rw [if_pos h3] at hob ⊢
      rw [hob]
    · rw [if_neg h3] at hob ⊢
      rw [hob]
  · intro o ho
    obtain ⟨i1, i2⟩ := hI
    have c1 : M4 1 1 = iI (aW K) := by rw [i2 1 (by decide)]; exact c1
    refine ⟨M4, ?_, i1, i2⟩
    rw [r11_6]
    simp (disch := first | assumption | exact e_nk_i _ | exact e_nk_n | exact e_nk_r _ | exact e_bo_0 | exact e_bo_1 | exact e_bo_b _ | omega) only [e_cl_v, e_cl_x, e_add_0, e_add_s, Option.toList_some, Option.toList_none, List.cons_append, List.nil_append, iI_add, iI_sub, iI_mul, iI_lt, iI_eq, iI_le, r11_8, r11_9, r11_12, r11_77, c1]
    rw [if_neg (by omega)]
theorem x_move (H : CK M K c S) (hg : kG K) (hf0 : i32 f) (hx : i32 x) : ∃ M2 : e_MI, e_lim L xs (d + 7) 133 0 [some (.ref 0), some (.int (iI f)), some (.int (iI x))] [] (e_hp M V W) = (if (0 ≤ f ∧ f ≤ aW K - 1) ∧ 0 ≤ x ∧ x ≤ aW K - 1 then some (.inl (some (.int (bI (ft (mvK K f x))))), e_hp M2 V W, 0, 0) else some (.inr 2, e_hp M2 V W, 1, 6)) ∧ ((0 ≤ f ∧ f ≤ aW K - 1) ∧ 0 ≤ x ∧ x ≤ aW K - 1 → CK M2 (mvK K f x) (svC c) (svS c S K)) ∧ (¬((0 ≤ f ∧ f ≤ aW K - 1) ∧ 0 ≤ x ∧ x ≤ aW K - 1) → M2 = M) ∧ ∀ a, 178 < a → M2 a = M a := by
  have ha := hg.2.1.1
  have e0 := x_isPlace (L := L) (xs := xs) (d := d + 5) (V := V) (W := W) H.sh ha hf0
  have e1 := x_isPlace (L := L) (xs := xs) (d := d + 5) (V := V) (W := W) H.sh ha hx
  have rt := m_requireIndex (L := L) (xs := xs) (d := d + 6) (h := e_hp M V W) true
  have rf := m_requireIndex (L := L) (xs := xs) (d := d + 6) (h := e_hp M V W) false
  rw [if_pos rfl, bI_t] at rt
  rw [if_neg (by decide), bI_f] at rf
  by_cases h0 : 0 ≤ f ∧ f ≤ aW K - 1
  · rw [decide_eq_true h0, bI_t] at e0
    by_cases h1 : 0 ≤ x ∧ x ≤ aW K - 1
    · rw [decide_eq_true h1, bI_t] at e1
      obtain ⟨M1, e2, k1, k2, k3, k4, hf⟩ := x_rem (L := L) (xs := xs) (d := d + 3) (V := V) (W := W) H hg
      obtain ⟨M2, e3, hA, hf2⟩ := k_layMoved (L := L) (xs := xs) (d := d + 5) (V := V) (W := W) k1 ha (f := f) (by omega) (x := x) (by omega)
      have hv := mvR_v (f := f) (t := x) hg.2.1.2 (by omega) (by omega)
      obtain ⟨M3, e4, hS, hP, hf3⟩ := x_takeRow (L := L) (xs := xs) (d := d) (M := M2) (V := V) (W := W) (k1.of fun a x y => hf2 a (by omega)) hg (k3.g.of fun a x y => hf2 a (by omega)) si_166 hA hv
      refine ⟨M3, ?_, fun _ => ⟨hS, k2.of fun a x y => by rw [hf3 a (by omega) (by omega), hf2 a (by omega)], hP, k4.of fun a x y => by rw [hf3 a (by omega) (by omega), hf2 a (by omega)]⟩, fun y => absurd ⟨h0, h1⟩ y, fun a y => by rw [hf3 a (by omega) (by omega), hf2 a (by omega), hf a (by omega)]⟩
      rw [if_pos ⟨h0, h1⟩]
      simp (disch := first | assumption | exact e_nk_i _ | exact e_nk_n | exact e_nk_r _ | exact e_bo_0 | exact e_bo_1 | exact e_bo_b _ | omega) only [e_cl_v, e_cl_x, e_add_0, e_add_s, Option.toList_some, Option.toList_none, List.cons_append, List.nil_append, iI_add, iI_sub, iI_mul, iI_lt, iI_eq, iI_le, r133_0, r133_1, r133_2, r133_5, r133_8, r133_9, r133_10, r133_13, r133_16, r133_17, r133_20, r133_21, r133_24, r133_25, r133_28, r133_29, r133_32, r133_35, r133_36, r133_39, r133_40, r133_43, r133_44, r133_45, r133_48, r133_49, r133_50, r133_53, r133_56, r133_59, e0, e1, rt, e2, e3, e4]
      simp
      rfl
    · rw [decide_eq_false h1, bI_f] at e1
      refine ⟨M, ?_, fun y => absurd y.2 h1, fun _ => rfl, fun _ _ => rfl⟩
      rw [if_neg (fun y => h1 y.2)]
      simp (disch := first | assumption | exact e_nk_i _ | exact e_nk_n | exact e_nk_r _ | exact e_bo_0 | exact e_bo_1 | exact e_bo_b _ | omega) only [e_cl_v, e_cl_x, e_add_0, e_add_s, Option.toList_some, Option.toList_none, List.cons_append, List.nil_append, iI_add, iI_sub, iI_mul, iI_lt, iI_eq, iI_le, r133_0, r133_1, r133_2, r133_5, r133_8, r133_9, r133_10, r133_13, r133_16, r133_17, r133_20, r133_21, r133_24, r133_25, r133_28, r133_29, r133_32, r133_35, r133_36, r133_39, r133_40, r133_43, r133_44, r133_45, r133_48, r133_49, r133_50, r133_53, r133_56, r133_59, e0, e1, rf]
      simp
  · rw [decide_eq_false h0, bI_f] at e0
    refine ⟨M, ?_, fun y => absurd y.1 h0, fun _ => rfl, fun _ _ => rfl⟩
    rw [if_neg (fun y => h0 y.1)]
    simp (disch := first | assumption | exact e_nk_i _ | exact e_nk_n | exact e_nk_r _ | exact e_bo_0 | exact e_bo_1 | exact e_bo_b _ | omega) only [e_cl_v, e_cl_x, e_add_0, e_add_s, Option.toList_some, Option.toList_none, List.cons_append, List.nil_append, iI_add, iI_sub, iI_mul, iI_lt, iI_eq, iI_le, r133_0, r133_1, r133_2, r133_5, r133_8, r133_9, r133_10, r133_13, r133_16, r133_17, r133_20, r133_21, r133_24, r133_25, r133_28, r133_29, r133_32, r133_35, r133_36, r133_39, r133_40, r133_43, r133_44, r133_45, r133_48, r133_49, r133_50, r133_53, r133_56, r133_59, e0, rf]
    simp
theorem k_layWithout (H : SH M 1 K) (ha : 0 ≤ aW K ∧ aW K ≤ 16) (hro : ∀ p, 0 ≤ p → p < aW K → 0 ≤ K (241 + p) ∧ K (241 + p) ≤ 7) (ho : 0 ≤ o ∧ o < 8) : ∃ M2 : e_MI, e_lim L xs (d + 1) 12 0 [some (.ref 165), some (.ref 1), some (.int (iI o)), none, none, none] [] (e_hp M V W) = some (.inl (some (.int (iI (wiT (rwK K) o (aW K).toNat).1))), e_hp M2 V W, 0, 0) ∧ e_ar (M2 166) (wiT (rwK K) o (aW K).toNat).1 (wiT (rwK K) o (aW K).toNat).2 ∧ ∀ a, a ≠ 166 → M2 a = M a := by
  have c1 := H.cw
  have key := G_lp (i := 0) (n := aW K) (I := fun i M4 => e_ar (M4 166) (wiT (rwK K) o i.toNat).1 (wiT (rwK K) o i.toNat).2 ∧ ∀ a, a ≠ 166 → M4 a = M a) (P := fun i M4 => ∃ M2 : e_MI, e_lim L xs (d + 1) 12 5 [some (.ref 165), some (.ref 1), some (.int (iI o)), some (.int (iI (wiT (rwK K) o i.toNat).1)), some (.int (iI i)), none] [] (e_hp M4 V W) = some (.inl (some (.int (iI (wiT (rwK K) o (aW K).toNat).1))), e_hp M2 V W, 0, 0) ∧ e_ar (M2 166) (wiT (rwK K) o (aW K).toNat).1 (wiT (rwK K) o (aW K).toNat).2 ∧ ∀ a, a ≠ 166 → M2 a = M a) (fun j M4 a b hI hc => ?_) (fun M4 hI => ?_) ha.1 M ⟨fun z a b => by have : z < 0 := b; omega, fun _ _ => rfl⟩
  · obtain ⟨M2, e, r⟩ := key
    refine ⟨M2, ?_, r⟩
    have e' : e_lim L xs (d + 1) 12 5 [some (.ref 165), some (.ref 1), some (.int (iI o)), some (.int (iI 0)), some (.int (iI 0)), none] [] (e_hp M V W) = some (.inl (some (.int (iI (wiT (rwK K) o (aW K).toNat).1))), e_hp M2 V W, 0, 0) := e
    simp (disch := first | assumption | exact e_nk_i _ | exact e_nk_n | exact e_nk_r _ | exact e_bo_0 | exact e_bo_1 | exact e_bo_b _ | omega) only [e_cl_v, e_cl_x, e_add_0, e_add_s, Option.toList_some, Option.toList_none, List.cons_append, List.nil_append, iI_add, iI_sub, iI_mul, iI_lt, iI_eq, iI_le, r12_0, r12_1, r12_2, r12_3, e']
  · obtain ⟨i1, i2⟩ := hI
    have c1 : M4 1 1 = iI (aW K) := by rw [i2 1 (by decide)]; exact c1
    have r1 := hro j a b
    have e1 := m_atI (L := L) (xs := xs) (d := d) (M := M4) (V := V) (W := W) (v := iI (K (241 + j))) si_8 (z := j) a (by omega) (by rw [i2 8 (by decide)]; exact H.ro a b)
    obtain ⟨g1, g2⟩ := wiT_sp (rwK K) o j.toNat
    have hst : wiT (rwK K) o (j + 1).toNat = if rwK K j = o then wiT (rwK K) o j.toNat else ((wiT (rwK K) o j.toNat).1 + 1, uI (wiT (rwK K) o j.toNat).2 (wiT (rwK K) o j.toNat).1 (rwK K j)) := by
      rw [show (j + 1).toNat = j.toNat + 1 by omega]
      show (if rwK K (j.toNat : Int) = o then wiT (rwK K) o j.toNat else ((wiT (rwK K) o j.toNat).1 + 1, uI (wiT (rwK K) o j.toNat).2 (wiT (rwK K) o j.toNat).1 (rwK K (j.toNat : Int)))) = _
      rw [Int.toNat_of_nonneg a]
    rw [hst] at hc
    by_cases hq : rwK K j = o
    · rw [if_pos hq] at hc
      obtain ⟨M2, e, r⟩ := hc M4 ⟨i1, i2⟩
      refine ⟨M2, ?_, r⟩
      have e' := G_less (l := [some (.ref 165), some (.ref 1), some (.int (iI o)), some (.int (iI (wiT (rwK K) o j.toNat).1)), some (.int (iI (j + 1))), some (.int (iI (K (241 + j))))]) (by repeat (first | exact e_ll.rf | refine e_ll_c ?_ | refine e_ll_x ?_)) e
      rw [← e', r12_5]
      simp (disch := first | assumption | exact e_nk_i _ | exact e_nk_n | exact e_nk_r _ | exact e_bo_0 | exact e_bo_1 | exact e_bo_b _ | omega) only [e_cl_v, e_cl_x, e_add_0, e_add_s, Option.toList_some, Option.toList_none, List.cons_append, List.nil_append, iI_add, iI_sub, iI_mul, iI_lt, iI_eq, iI_le, r12_7, r12_8, r12_11, r12_14, r12_15, r12_18, r12_20, r12_23, r12_25, r12_27, r12_28, r12_31, r12_32, r12_35, r12_36, r12_38, r12_41, r12_44, r12_47, c1, e1]
      rw [if_pos b]
      rw [if_pos (show K (241 + j) = o from hq)]
    · rw [if_neg hq] at hc
      have e2 := m_putI (L := L) (xs := xs) (d := d) (M := M4) (V := V) (W := W) (v := iI (K (241 + j))) si_166 (z := (wiT (rwK K) o j.toNat).1) g1.1 (by omega)
      obtain ⟨M2, e, r⟩ := hc (e_u M4 166 (upd (M4 166) (wiT (rwK K) o j.toNat).1.toNat (iI (K (241 + j))))) ⟨by rw [e_u_s]; exact i1.more g1.1, fun a y => by rw [e_u_n _ _ y, i2 a y]⟩
      refine ⟨M2, ?_, r⟩
      have e' := G_less (l := [some (.ref 165), some (.ref 1), some (.int (iI o)), some (.int (iI ((wiT (rwK K) o j.toNat).1 + 1))), some (.int (iI (j + 1))), some (.int (iI (K (241 + j))))]) (by repeat (first | exact e_ll.rf | refine e_ll_c ?_ | refine e_ll_x ?_)) e
      rw [← e', r12_5]
      simp (disch := first | assumption | exact e_nk_i _ | exact e_nk_n | exact e_nk_r _ | exact e_bo_0 | exact e_bo_1 | exact e_bo_b _ | omega) only [e_cl_v, e_cl_x, e_add_0, e_add_s, Option.toList_some, Option.toList_none, List.cons_append, List.nil_append, iI_add, iI_sub, iI_mul, iI_lt, iI_eq, iI_le, r12_7, r12_8, r12_11, r12_14, r12_15, r12_18, r12_20, r12_23, r12_25, r12_27, r12_28, r12_31, r12_32, r12_35, r12_36, r12_38, r12_41, r12_44, r12_47, c1, e1, e2]
      rw [if_pos b]
      rw [if_neg (show ¬ K (241 + j) = o from hq)]
  · obtain ⟨i1, i2⟩ := hI
    have c1 : M4 1 1 = iI (aW K) := by rw [i2 1 (by decide)]; exact c1
    refine ⟨M4, ?_, i1, i2⟩
    rw [r12_5]
    simp (disch := first | assumption | exact e_nk_i _ | exact e_nk_n | exact e_nk_r _ | exact e_bo_0 | exact e_bo_1 | exact e_bo_b _ | omega) only [e_cl_v, e_cl_x, e_add_0, e_add_s, Option.toList_some, Option.toList_none, List.cons_append, List.nil_append, iI_add, iI_sub, iI_mul, iI_lt, iI_eq, iI_le, r12_7, r12_8, r12_11, r12_50, r12_51, c1]
    rw [if_neg (by omega)]
theorem wi_pf (hg : kG K) : pfx K (wiT (rwK K) o (aW K).toNat).2 (wiT (rwK K) o (aW K).toNat).1 := by
  obtain ⟨hr, ⟨ha, hv⟩, -⟩ := hg
  refine ⟨fun p a b => ?_, fun x a b => ?_⟩
  · obtain ⟨i, y, z, z1, z2⟩ := wiT_mem (rwK K) o (aW K).toNat p a b
    rw [z1]
    exact hv.1 i y (by omega)
  · obtain ⟨h1, h2⟩ := wiT_sp (rwK K) o (aW K).toNat
    rw [h2 x, Int.toNat_of_nonneg ha.1]
    have hw := hr.wk (o := x) a (by have := hr.n; omega)
    have hc : cnt (rwK K) x (aW K) = K (40 + x) := hv.2 x a b
    split
    · omega
    · omega
theorem x_without (H : CK M K c S) (hg : kG K) (ho : i32 o) : ∃ M2 : e_MI, e_lim L xs (d + 7) 135 0 [some (.ref 0), some (.int (iI o)), none] [] (e_hp M V W) = (if 0 ≤ o ∧ o ≤ K 310 - 1 then some (.inl (some (.int (iI (wiW K o)))), e_hp M2 V W, 0, 0) else some (.inr 2, e_hp M2 V W, 1, 6)) ∧ CK M2 K c S ∧ ∀ a, 178 < a → M2 a = M a := by
  obtain ⟨hr, ⟨ha, hv⟩, hp, hk9, hd⟩ := id hg
  have hn := hr.n
  have e0 := x_isOrder (L := L) (xs := xs) (d := d + 5) (V := V) (W := W) H.sh hr ho
  have e1 := m_requireIndex (L := L) (xs := xs) (d := d + 6) (h := e_hp M V W) (decide (0 ≤ o ∧ o ≤ K 310 - 1))
  by_cases h0 : 0 ≤ o ∧ o ≤ K 310 - 1
  · rw [if_pos (decide_eq_true h0)] at e1
    simp only [if_pos h0]
    obtain ⟨M2, e2, hA, hf2⟩ := k_layWithout (L := L) (xs := xs) (d := d + 5) (V := V) (W := W) H.sh ha (fun p a b => hr.ro a (by omega)) (o := o) (by omega)
    have hpf := wi_pf (o := o) hg
    obtain ⟨g1, -⟩ := wiT_sp (rwK K) o (aW K).toNat
    obtain ⟨M3, e3, hw3, hf3⟩ := tg_follow (L := L) (xs := xs) (d := d + 1) (M := M2) (V := V) (W := W) e_isT_1 (by omega) si_166 (by omega) hr hd hp hpf ⟨g1.1, by omega⟩ (H.sh.of fun a x y => hf2 a (by omega)) hA (H.tg.of fun a x y => hf2 a (by omega))
    have hf4 : ∀ a, a ≠ 166 → a < 149 ∨ 164 < a → M3 a = M a := fun a x y => by rw [hf3 a (by omega), hf2 a x]
    refine ⟨M3, ?_, ⟨H.sh.of fun a x y => hf4 a (by omega) (by omega), H.hs.of fun a x y => hf4 a (by omega) (by omega), H.pr.of fun a x y => hf4 a (by omega) (by omega), hw3.g⟩, fun a y => hf4 a (by omega) (by omega)⟩
    unfold wiW
    by_cases hfi : fiR K (wiT (rwK K) o (aW K).toNat).2 (wiT (rwK K) o (aW K).toNat).1 = true
    · have hT3 : TT M3 149 K (wiT (rwK K) o (aW K).toNat).2 (wiT (rwK K) o (aW K).toNat).1 := by
        obtain ⟨-, c, -, -, hT, he⟩ := hw3
        rw [he hfi] at hT
        exact hT
      have e4 := tt_latest (L := L) (xs := xs) (d := d + 4) (V := V) (W := W) e_isT_1 hT3 hr hp hpf.vp
      rw [hfi, bI_t] at e3
      rw [if_pos hfi]
      simp (disch := first | assumption | exact e_nk_i _ | exact e_nk_n | exact e_nk_r _ | exact e_bo_0 | exact e_bo_1 | exact e_bo_b _ | omega) only [e_cl_v, e_cl_x, e_add_0, e_add_s, Option.toList_some, Option.toList_none, List.cons_append, List.nil_append, iI_add, iI_sub, iI_mul, iI_lt, iI_eq, iI_le, r135_0, r135_1, r135_2, r135_5, r135_8, r135_9, r135_12, r135_13, r135_16, r135_17, r135_20, r135_21, r135_22, r135_25, r135_26, r135_29, r135_30, r135_33, r135_36, r135_37, r135_40, r135_43, r135_44, r135_47, r135_50, r135_53, r135_54, e0, e1, e2, e3, e4]
      simp
    · rw [if_neg hfi]
      rw [Bool.not_eq_true] at hfi
      rw [hfi, bI_f] at e3
      simp (disch := first | assumption | exact e_nk_i _ | exact e_nk_n | exact e_nk_r _ | exact e_bo_0 | exact e_bo_1 | exact e_bo_b _ | omega) only [e_cl_v, e_cl_x, e_add_0, e_add_s, Option.toList_some, Option.toList_none, List.cons_append, List.nil_append, iI_add, iI_sub, iI_mul, iI_lt, iI_eq, iI_le, r135_0, r135_1, r135_2, r135_5, r135_8, r135_9, r135_12, r135_13, r135_16, r135_17, r135_20, r135_21, r135_22, r135_25, r135_26, r135_29, r135_30, r135_33, r135_36, r135_37, r135_40, r135_43, r135_44, r135_47, r135_50, r135_53, r135_54, e0, e1, e2, e3]
      simp
  · rw [if_neg (by rw [decide_eq_true_eq]; exact h0)] at e1
    refine ⟨M, ?_, H, fun _ _ => rfl⟩
    rw [if_neg h0]
    simp (disch := first | assumption | exact e_nk_i _ | exact e_nk_n | exact e_nk_r _ | exact e_bo_0 | exact e_bo_1 | exact e_bo_b _ | omega) only [e_cl_v, e_cl_x, e_add_0, e_add_s, Option.toList_some, Option.toList_none, List.cons_append, List.nil_append, iI_add, iI_sub, iI_mul, iI_lt, iI_eq, iI_le, r135_0, r135_1, r135_2, r135_5, r135_8, r135_9, r135_12, r135_13, r135_16, r135_17, r135_20, r135_21, r135_22, r135_25, r135_26, r135_29, r135_30, r135_33, r135_36, r135_37, r135_40, r135_43, r135_44, r135_47, r135_50, r135_53, r135_54, e0, e1]
end Ec50
