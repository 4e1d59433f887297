section Ec45
variable {L : Nat} {xs : Nat → Int32} {d : Nat} {M M2 M3 : e_MI} {V : e_ML} {W : e_MD} {K K1 K2 : e_St} {S : Int → e_St} {h : e_H} {s s0 s1 t t2 a b2 n : Nat} {c o w z m k q p i f l b e mc tl T x y v N : Int} {sc bb : Bool} {ρ ν μ χ β ε τ τ2 u : Int → Int}
/-! sums over the works of a row -/
theorem SU_z {n : Int} (hn : 0 ≤ n) : SU (fun _ => 0) n = 0 := by
  refine SU_ind (P := fun n => SU (fun _ => 0) n = 0) rfl (fun i hi ih => ?_) n hn
  rw [SU_s _ hi, ih]
  rfl
theorem SU_pick (g : Int → Int) {j : Int} (hj : 0 ≤ j) (hN : 0 ≤ N) : SU (fun o => if j = o then g o else 0) N = if j < N then g j else 0 := by
  refine SU_ind (P := fun N => SU (fun o => if j = o then g o else 0) N = if j < N then g j else 0) (by rw [if_neg (by omega)]; rfl) (fun i hi ih => ?_) N hN
  rw [SU_s _ hi, ih]
  by_cases h1 : j = i
  · subst h1
    rw [if_neg (by omega), if_pos rfl, if_pos (by omega), Int.zero_add]
  · rw [if_neg h1, Int.add_zero]
    by_cases h2 : j < i
    · rw [if_pos h2, if_pos (by omega)]
    · rw [if_neg h2, if_neg (by omega)]
theorem SU_row (F : Int → Int → Int) (hN : 0 ≤ N) : ∀ n : Int, 0 ≤ n → (∀ p, 0 ≤ p → p < n → 0 ≤ τ p ∧ τ p < N) → SU (fun p => F (τ p) (scW τ p)) n = SU (fun o => SU (F o) (cnt τ o n)) N := by
  refine SU_ind (P := fun n => (∀ p, 0 ≤ p → p < n → 0 ≤ τ p ∧ τ p < N) → SU (fun p => F (τ p) (scW τ p)) n = SU (fun o => SU (F o) (cnt τ o n)) N) (fun _ => ?_) (fun i hi ih h => ?_)
  · have e : SU (fun o => SU (F o) (cnt τ o 0)) N = SU (fun _ => 0) N := SU_cong fun o a b => rfl
    rw [e, SU_z hN]
    rfl
  · have h1 := h i hi (by omega)
    have e : SU (fun o => SU (F o) (cnt τ o (i + 1))) N = SU (fun o => SU (F o) (cnt τ o i) + if τ i = o then F o (cnt τ o i) else 0) N := SU_cong fun o a b => by
      rw [cnt_s _ _ hi]
      split
      · rw [SU_s _ (cnt_rg τ o hi).1]
      · rw [Int.add_zero, Int.add_zero]
    rw [e, SU_add _ _ hN, SU_pick (fun o => F o (cnt τ o i)) h1.1 hN, if_pos h1.2, SU_s _ hi, ih (fun p a b => h p a (by omega))]
    rfl
theorem SU_rows (F : Int → Int → Int) (hr : kR K) (hn : 0 ≤ aW K) (hv : vR K τ) (hv2 : vR K u) : SU (fun p => F (τ p) (scW τ p)) (aW K) = SU (fun p => F (u p) (scW u p)) (aW K) := by
  rw [SU_row F hr.n.1 _ hn hv.1, SU_row F hr.n.1 _ hn hv2.1]
  exact SU_cong fun o a b => by rw [hv.2 o a b, hv2.2 o a b]
theorem plO_self (hr : kR K) (hv : vR K τ) (hn : 0 ≤ aW K) (h0 : 0 ≤ p) (h1 : p < aW K) : plO K τ (τ p) (scW τ p) = p :=
  ((plO_sp hr hv hn (o := τ p) (w := scW τ p) (hv.1 p h0 h1) ⟨(cnt_rg τ (τ p) h0).1, (hv.c hr h0 h1).2.1⟩).2.2 p h0 rfl rfl).symm
/-- the works that begin otherwise, counted over either row -/
theorem otW_rows (hr : kR K) (hn : 0 ≤ aW K) (hv : vR K (rwK K)) (hv2 : vR K u) : SU (fun p => if scB K u (plO K u (rwK K p) (scW (rwK K) p)) = scB K (rwK K) p then 0 else 1) (aW K) = otW K K u := by
  have e1 : SU (fun p => if scB K u (plO K u (rwK K p) (scW (rwK K) p)) = scB K (rwK K) p then 0 else 1) (aW K) = SU (fun p => (fun o w => if scB K u (plO K u o w) = scB K (rwK K) (plO K (rwK K) o w) then 0 else 1) (rwK K p) (scW (rwK K) p)) (aW K) := SU_cong fun p a b => by
    simp only
    rw [plO_self hr hv hn a b]
  rw [e1, SU_rows (fun o w => if scB K u (plO K u o w) = scB K (rwK K) (plO K (rwK K) o w) then 0 else 1) hr hn hv hv2]
  refine SU_cong fun p a b => ?_
  try simp only
  rw [plO_self hr hv2 hn a b]
  show (if scB K u p = scB K (rwK K) (plO K (rwK K) (u p) (scW u p)) then (0 : Int) else 1) = if scB K (rwK K) (plO K (rwK K) (u p) (scW u p)) = scB K u p then 0 else 1
  by_cases hq : scB K u p = scB K (rwK K) (plO K (rwK K) (u p) (scW u p))
  · rw [if_pos hq, if_pos hq.symm]
  · rw [if_neg hq, if_neg (fun y => hq y.symm)]
theorem x_take (H : CK M K c S) (hg : kG K) (hq : i32 q) : ∃ M2 : e_MI, e_lim L xs (d + 7) 137 0 [some (.ref 0), some (.int (iI q))] [] (e_hp M V W) = (if 0 ≤ q ∧ q ≤ 2 then (if K (305 + q) = 1 then some (.inl (some (.int (iI (edN (tkK K q))))), e_hp M2 V W, 0, 0) else some (.inr 3, e_hp M2 V W, 1, 6)) else some (.inr 0, e_hp M2 V W, 1, 6)) ∧ ((0 ≤ q ∧ q ≤ 2) ∧ K (305 + q) = 1 → CK M2 (tkK K q) (svC c) (svS c S K)) ∧ (¬((0 ≤ q ∧ q ≤ 2) ∧ K (305 + q) = 1) → M2 = M) ∧ ∀ a, 178 < a → M2 a = M a := by
  have ha := hg.2.1.1
  have e0 := m_isSlot (L := L) (xs := xs) (d := d + 5) (M := M) (V := V) (W := W) (z := q) hq
  have r1 := m_requireArgument (L := L) (xs := xs) (d := d + 6) (h := e_hp M V W) (decide (0 ≤ q ∧ q ≤ 2))
  have rt := m_requireElement (L := L) (xs := xs) (d := d + 6) (h := e_hp M V W) true
  have rf := m_requireElement (L := L) (xs := xs) (d := d + 6) (h := e_hp M V W) false
  rw [if_pos rfl, bI_t] at rt
  rw [if_neg (by decide), bI_f] at rf
  by_cases h0 : 0 ≤ q ∧ q ≤ 2
  · rw [if_pos (decide_eq_true h0)] at r1
    have hk := hg.2.2.2.1.1 q h0.1 (by omega)
    have e2 := m_atI (L := L) (xs := xs) (d := d + 6) (M := M) (V := V) (W := W) (a := 9) (n := 3) si_9 (z := q) h0.1 (by omega) (H.sh.kp h0.1 (by omega))
    by_cases h1 : K (305 + q) = 1
    · have hvk : vR K (kpR K q) := hg.2.2.2.1.2.1 q h0.1 (by omega) h1
      obtain ⟨M1, e3, k1, k2, k3, k4, hf⟩ := x_rem (L := L) (xs := xs) (d := d + 3) (V := V) (W := W) H hg
      obtain ⟨M2, e4, g1, hf2⟩ := s_copyKept (L := L) (xs := xs) (d := d + 5) (M := M1) (V := V) (W := W) (a := 166) si_166 (by decide) h0
      have hA : e_ar (M2 166) (aW K) (kpR K q) := fun p x y => by
        rw [g1 p x (by omega)]
        exact k1.kr h0.1 (by omega) h1 x y
      obtain ⟨M3, e5, hS, hP, hf3⟩ := x_takeRow (L := L) (xs := xs) (d := d) (M := M2) (V := V) (W := W) (k1.of fun a x y => hf2 a (by omega)) hg (k3.g.of fun a x y => hf2 a (by omega)) si_166 hA hvk
      have hz1 : ∀ z, z < 241 ∨ 257 ≤ z → tkK K q z = rtS K (kpR K q) z := fun z hz => by
        unfold tkK rtS
        rw [rwS_n hz, rwS_n hz]
      have hz2 : ∀ p, 0 ≤ p → p < aW (rtS K (kpR K q)) → tkK K q (241 + p) = rtS K (kpR K q) (241 + p) := fun p x y => by
        rw [rtS_aW hg.1] at y
        unfold tkK rtS
        rw [rwS_r x (by omega), rwS_r x (by omega), if_pos y]
      have hg2 := kG_rt hg hvk
      have hS2 := hS.rw2 hg2.1 hz1 hz2
      have hP2 : PR M3 (tkK K q) := eqK.pr (fun z hz => hz1 z (by omega)) hg2 hz2 hP
      have hg3 : kG (tkK K q) := kG_row hg (fun p x y => by
        have := hg.2.2.2.1.2.2 (16 * q + p) (by omega) (by omega)
        rw [show 257 + (16 * q + p) = 257 + 16 * q + p by omega] at this
        exact this) hvk
      have hb : bI (ft (rtS K (kpR K q))) = bI (ft (tkK K q)) := by rw [← hP.fits, hP2.fits]
      rw [hb] at e5
      refine ⟨M3, ?_, fun _ => ⟨hS2, k2.of fun a x y => by rw [hf3 a (by omega) (by omega), hf2 a (by omega)], hP2, k4.of fun a x y => by rw [hf3 a (by omega) (by omega), hf2 a (by omega)]⟩, fun y => absurd ⟨h0, h1⟩ y, fun a y => by rw [hf3 a (by omega) (by omega), hf2 a (by omega), hf a (by omega)]⟩
      rw [if_pos h0, if_pos h1]
      rw [h1] at e2
      unfold edN
      by_cases hft : ft (tkK K q) = true
      · have e6 := hP2.edN (L := L) (xs := xs) (d := d + 4) (V := V) (W := W) hg3 hft
        rw [hft, bI_t] at e5
        rw [if_pos hft]
        simp (disch := first | assumption | exact e_nk_i _ | exact e_nk_n | exact e_nk_r _ | exact e_bo_0 | exact e_bo_1 | exact e_bo_b _ | omega) only [e_cl_v, e_cl_x, e_add_0, e_add_s, Option.toList_some, Option.toList_none, List.cons_append, List.nil_append, iI_add, iI_sub, iI_mul, iI_lt, iI_eq, iI_le, r137_0, r137_1, r137_4, r137_7, r137_8, r137_11, r137_14, r137_15, r137_18, r137_21, r137_22, r137_25, r137_26, r137_29, r137_30, r137_33, r137_34, r137_37, r137_40, r137_41, r137_44, r137_45, r137_46, r137_49, r137_52, r137_55, r137_56, r137_57, r137_60, r137_63, r137_66, r137_69, r137_70, r137_73, r137_76, r137_79, r137_80, e0, r1, e2, rt, e3, e4, e5, e6]
        simp
      · rw [Bool.not_eq_true] at hft
        rw [hft, bI_f] at e5
        rw [if_neg (by rw [hft]; exact Bool.false_ne_true)]
        simp (disch := first | assumption | exact e_nk_i _ | exact e_nk_n | exact e_nk_r _ | exact e_bo_0 | exact e_bo_1 | exact e_bo_b _ | omega) only [e_cl_v, e_cl_x, e_add_0, e_add_s, Option.toList_some, Option.toList_none, List.cons_append, List.nil_append, iI_add, iI_sub, iI_mul, iI_lt, iI_eq, iI_le, r137_0, r137_1, r137_4, r137_7, r137_8, r137_11, r137_14, r137_15, r137_18, r137_21, r137_22, r137_25, r137_26, r137_29, r137_30, r137_33, r137_34, r137_37, r137_40, r137_41, r137_44, r137_45, r137_46, r137_49, r137_52, r137_55, r137_56, r137_57, r137_60, r137_63, r137_66, r137_69, r137_70, r137_73, r137_76, r137_79, r137_80, e0, r1, e2, rt, e3, e4, e5]
        simp
    · have h2 : K (305 + q) = 0 := by omega
      rw [h2] at e2
      refine ⟨M, ?_, fun y => absurd y.2 h1, fun _ => rfl, fun _ _ => rfl⟩
      rw [if_pos h0, if_neg h1]
      simp (disch := first | assumption | exact e_nk_i _ | exact e_nk_n | exact e_nk_r _ | exact e_bo_0 | exact e_bo_1 | exact e_bo_b _ | omega) only [e_cl_v, e_cl_x, e_add_0, e_add_s, Option.toList_some, Option.toList_none, List.cons_append, List.nil_append, iI_add, iI_sub, iI_mul, iI_lt, iI_eq, iI_le, r137_0, r137_1, r137_4, r137_7, r137_8, r137_11, r137_14, r137_15, r137_18, r137_21, r137_22, r137_25, r137_26, r137_29, r137_30, r137_33, r137_34, r137_37, r137_40, r137_41, r137_44, r137_45, r137_46, r137_49, r137_52, r137_55, r137_56, r137_57, r137_60, r137_63, r137_66, r137_69, r137_70, r137_73, r137_76, r137_79, r137_80, e0, r1, e2, rf]
      simp
  · rw [if_neg (by rw [decide_eq_true_eq]; exact h0)] at r1
    refine ⟨M, ?_, fun y => absurd y.1 h0, fun _ => rfl, fun _ _ => rfl⟩
    rw [if_neg h0]
    simp (disch := first | assumption | exact e_nk_i _ | exact e_nk_n | exact e_nk_r _ | exact e_bo_0 | exact e_bo_1 | exact e_bo_b _ | omega) only [e_cl_v, e_cl_x, e_add_0, e_add_s, Option.toList_some, Option.toList_none, List.cons_append, List.nil_append, iI_add, iI_sub, iI_mul, iI_lt, iI_eq, iI_le, r137_0, r137_1, r137_4, r137_7, r137_8, r137_11, r137_14, r137_15, r137_18, r137_21, r137_22, r137_25, r137_26, r137_29, r137_30, r137_33, r137_34, r137_37, r137_40, r137_41, r137_44, r137_45, r137_46, r137_49, r137_52, r137_55, r137_56, r137_57, r137_60, r137_63, r137_66, r137_69, r137_70, r137_73, r137_76, r137_79, r137_80, e0, r1]
theorem x_differ (H : CK M K c S) (hg : kG K) (hq : i32 q) : ∃ M2 : e_MI, e_lim L xs (d + 7) 138 0 [some (.ref 0), some (.int (iI q))] [] (e_hp M V W) = (if 0 ≤ q ∧ q ≤ 2 then (if K (305 + q) = 1 then (if fiR K (kpR K q) (aW K) = true ∧ ft K = true then some (.inl (some (.int (iI (otW K K (kpR K q))))), e_hp M2 V W, 0, 0) else some (.inr 1, e_hp M2 V W, 1, 6)) else some (.inr 3, e_hp M2 V W, 1, 6)) else some (.inr 0, e_hp M2 V W, 1, 6)) ∧ CK M2 K c S ∧ ∀ a, 178 < a → M2 a = M a := by
  obtain ⟨hr, ⟨ha, hv⟩, hp, hk9, hd⟩ := id hg
  have e0 := m_isSlot (L := L) (xs := xs) (d := d + 5) (M := M) (V := V) (W := W) (z := q) hq
  have r1 := m_requireArgument (L := L) (xs := xs) (d := d + 6) (h := e_hp M V W) (decide (0 ≤ q ∧ q ≤ 2))
  have rt := m_requireElement (L := L) (xs := xs) (d := d + 6) (h := e_hp M V W) true
  have rf := m_requireElement (L := L) (xs := xs) (d := d + 6) (h := e_hp M V W) false
  rw [if_pos rfl, bI_t] at rt
  rw [if_neg (by decide), bI_f] at rf
  by_cases h0 : 0 ≤ q ∧ q ≤ 2
  · rw [if_pos (decide_eq_true h0)] at r1
    have hk := hk9.1 q h0.1 (by omega)
    have e2 := m_atI (L := L) (xs := xs) (d := d + 6) (M := M) (V := V) (W := W) (a := 9) (n := 3) si_9 (z := q) h0.1 (by omega) (H.sh.kp h0.1 (by omega))
    by_cases h1 : K (305 + q) = 1
    · have hvk : vR K (kpR K q) := hk9.2.1 q h0.1 (by omega) h1
      obtain ⟨M2, e4, g1, hf2⟩ := s_copyKept (L := L) (xs := xs) (d := d + 5) (M := M) (V := V) (W := W) (a := 166) si_166 (by decide) h0
      have hA : e_ar (M2 166) (aW K) (kpR K q) := fun p x y => by
        rw [g1 p x (by omega)]
        exact H.sh.kr h0.1 (by omega) h1 x y
      have hS2 : SH M2 1 K := H.sh.of fun a x y => hf2 a (by omega)
      obtain ⟨M3, e5, hw3, hf3⟩ := tg_follow (L := L) (xs := xs) (d := d + 1) (M := M2) (V := V) (W := W) e_isT_1 (by omega) si_166 (by omega) hr hd hp (vR.pf hr hvk) ha hS2 hA (H.tg.of fun a x y => hf2 a (by omega))
      have c1 := hS2.cw
      have hf4 : ∀ a, a ≠ 166 → a < 149 ∨ 164 < a → M3 a = M a := fun a x y => by rw [hf3 a (by omega), hf2 a x]
      have hP3 : PR M3 K := H.pr.of fun a x y => hf4 a (by omega) (by omega)
      have c2 : M2 133 0 = bI (ft K) := by rw [hf2 133 (by decide)]; exact H.pr.fits
      have st := m_requireState (L := L) (xs := xs) (d := d + 6) (h := e_hp M3 V W) true
      have sf := m_requireState (L := L) (xs := xs) (d := d + 6) (h := e_hp M3 V W) false
      have sf2 := m_requireState (L := L) (xs := xs) (d := d + 6) (h := e_hp M2 V W) false
      rw [if_pos rfl, bI_t] at st
      rw [if_neg (by decide), bI_f] at sf sf2
      rw [h1] at e2
      simp only [if_pos h0, if_pos h1]
      by_cases hft : ft K = true
      · rw [hft, bI_t] at c2
        by_cases hfi : fiR K (kpR K q) (aW K) = true
        · rw [hfi, bI_t] at e5
          have hT3 : TT M3 149 K (kpR K q) (aW K) := by
            obtain ⟨-, c, -, -, hT, he⟩ := hw3
            rw [he hfi] at hT
            exact hT
          have e6 := tt_countMoved (L := L) (xs := xs) (d := d + 4) (V := V) (W := W) e_isT_0 (hP3.tt hft) hT3 hr hp hr hp hv hvk ha.1 ha.1 rfl (fun _ _ _ => rfl)
          have e7 : SU (fun p => if scB K (kpR K q) (plO K (kpR K q) (rwK K p) (scW (rwK K) p)) = scB K (rwK K) p then 0 else 1) (aW K) = otW K K (kpR K q) := otW_rows hr ha.1 hv hvk
          rw [e7] at e6
          refine ⟨M3, ?_, ⟨H.sh.of fun a x y => hf4 a (by omega) (by omega), H.hs.of fun a x y => hf4 a (by omega) (by omega), hP3, hw3.g⟩, fun a y => hf4 a (by omega) (by omega)⟩
          rw [if_pos ⟨hfi, hft⟩]
          simp (disch := first | assumption | exact e_nk_i _ | exact e_nk_n | exact e_nk_r _ | exact e_bo_0 | exact e_bo_1 | exact e_bo_b _ | omega) only [e_cl_v, e_cl_x, e_add_0, e_add_s, Option.toList_some, Option.toList_none, List.cons_append, List.nil_append, iI_add, iI_sub, iI_mul, iI_lt, iI_eq, iI_le, r138_0, r138_1, r138_4, r138_7, r138_8, r138_11, r138_14, r138_15, r138_18, r138_21, r138_22, r138_25, r138_26, r138_29, r138_30, r138_33, r138_34, r138_35, r138_38, r138_41, r138_44, r138_45, r138_48, r138_51, r138_54, r138_55, r138_58, r138_59, r138_62, r138_63, r138_66, r138_69, r138_70, r138_73, r138_76, r138_79, r138_82, r138_83, r138_86, r138_87, r138_90, r138_91, r138_94, r138_95, r138_98, r138_101, e0, r1, e2, rt, e4, c1, c2, e5, st, e6]
          simp
        · rw [Bool.not_eq_true] at hfi
          rw [hfi, bI_f] at e5
          refine ⟨M3, ?_, ⟨H.sh.of fun a x y => hf4 a (by omega) (by omega), H.hs.of fun a x y => hf4 a (by omega) (by omega), hP3, hw3.g⟩, fun a y => hf4 a (by omega) (by omega)⟩
          rw [if_neg (fun y => by rw [hfi] at y; exact Bool.false_ne_true y.1)]
          simp (disch := first | assumption | exact e_nk_i _ | exact e_nk_n | exact e_nk_r _ | exact e_bo_0 | exact e_bo_1 | exact e_bo_b _ | omega) only [e_cl_v, e_cl_x, e_add_0, e_add_s, Option.toList_some, Option.toList_none, List.cons_append, List.nil_append, iI_add, iI_sub, iI_mul, iI_lt, iI_eq, iI_le, r138_0, r138_1, r138_4, r138_7, r138_8, r138_11, r138_14, r138_15, r138_18, r138_21, r138_22, r138_25, r138_26, r138_29, r138_30, r138_33, r138_34, r138_35, r138_38, r138_41, r138_44, r138_45, r138_48, r138_51, r138_54, r138_55, r138_58, r138_59, r138_62, r138_63, r138_66, r138_69, r138_70, r138_73, r138_76, r138_79, r138_82, r138_83, r138_86, r138_87, r138_90, r138_91, r138_94, r138_95, r138_98, r138_101, e0, r1, e2, rt, e4, c1, c2, e5, sf]
          simp
      · rw [Bool.not_eq_true] at hft
        rw [hft, bI_f] at c2
        refine ⟨M2, ?_, H.of fun a x y => hf2 a (by omega), fun a y => hf2 a (by omega)⟩
        rw [if_neg (fun y => by rw [hft] at y; exact Bool.false_ne_true y.2)]
        simp (disch := first | assumption | exact e_nk_i _ | exact e_nk_n | exact e_nk_r _ | exact e_bo_0 | exact e_bo_1 | exact e_bo_b _ | omega) only [e_cl_v, e_cl_x, e_add_0, e_add_s, Option.toList_some, Option.toList_none, List.cons_append, List.nil_append, iI_add, iI_sub, iI_mul, iI_lt, iI_eq, iI_le, r138_0, r138_1, r138_4, r138_7, r138_8, r138_11, r138_14, r138_15, r138_18, r138_21, r138_22, r138_25, r138_26, r138_29, r138_30, r138_33, r138_34, r138_35, r138_38, r138_41, r138_44, r138_45, r138_48, r138_51, r138_54, r138_55, r138_58, r138_59, r138_62, r138_63, r138_66, r138_69, r138_70, r138_73, r138_76, r138_79, r138_82, r138_83, r138_86, r138_87, r138_90, r138_91, r138_94, r138_95, r138_98, r138_101, e0, r1, e2, rt, e4, c1, c2, sf2]
        simp
    · have h2 : K (305 + q) = 0 := by omega
      rw [h2] at e2
      refine ⟨M, ?_, H, fun _ _ => rfl⟩
      rw [if_pos h0, if_neg h1]
      simp (disch := first | assumption | exact e_nk_i _ | exact e_nk_n | exact e_nk_r _ | exact e_bo_0 | exact e_bo_1 | exact e_bo_b _ | omega) only [e_cl_v, e_cl_x, e_add_0, e_add_s, Option.toList_some, Option.toList_none, List.cons_append, List.nil_append, iI_add, iI_sub, iI_mul, iI_lt, iI_eq, iI_le, r138_0, r138_1, r138_4, r138_7, r138_8, r138_11, r138_14, r138_15, r138_18, r138_21, r138_22, r138_25, r138_26, r138_29, r138_30, r138_33, r138_34, r138_35, r138_38, r138_41, r138_44, r138_45, r138_48, r138_51, r138_54, r138_55, r138_58, r138_59, r138_62, r138_63, r138_66, r138_69, r138_70, r138_73, r138_76, r138_79, r138_82, r138_83, r138_86, r138_87, r138_90, r138_91, r138_94, r138_95, r138_98, r138_101, e0, r1, e2, rf]
      simp
  · rw [if_neg (by rw [decide_eq_true_eq]; exact h0)] at r1
    refine ⟨M, ?_, H, fun _ _ => rfl⟩
    rw [if_neg h0]
    simp (disch := first | assumption | exact e_nk_i _ | exact e_nk_n | exact e_nk_r _ | exact e_bo_0 | exact e_bo_1 | exact e_bo_b _ | omega) only [e_cl_v, e_cl_x, e_add_0, e_add_s, Option.toList_some, Option.toList_none, List.cons_append, List.nil_append, iI_add, iI_sub, iI_mul, iI_lt, iI_eq, iI_le, r138_0, r138_1, r138_4, r138_7, r138_8, r138_11, r138_14, r138_15, r138_18, r138_21, r138_22, r138_25, r138_26, r138_29, r138_30, r138_33, r138_34, r138_35, r138_38, r138_41, r138_44, r138_45, r138_48, r138_51, r138_54, r138_55, r138_58, r138_59, r138_62, r138_63, r138_66, r138_69, r138_70, r138_73, r138_76, r138_79, r138_82, r138_83, r138_86, r138_87, r138_90, r138_91, r138_94, r138_95, r138_98, r138_101, e0, r1]
end Ec45
