section Ec08
variable {L : Nat} {xs : Nat → Int32} {d : Nat} {M M2 M3 : e_MI} {V : e_ML} {W : e_MD} {K : e_St} {h : e_H} {s t a n : Nat} {o j w z m k q p i f l b e mc tl v T to b0 : Int} {sc : Bool} {ρ ν μ χ β ε τ u : Int → Int}
theorem scK_f (h : scK K = false) {i : Int} (h0 : 0 ≤ i) (h1 : i < 3) : ¬ K (238 + i) < 4 := fun a => by
  have := zAN_t (p := fun i => decide (K (238 + i) < 4)) h0 h1 (decide_eq_true a)
  unfold scK at h
  rw [h] at this
  cases this
theorem tg_firstFree (ht : e_isT t) (H : SH M 1 K) (hr : kR K) (hd : kD K) (hs : M t 1 = bI (scK K)) (hk : 0 ≤ k ∧ k ≤ 16) (hu : e_ar (M (t + 15)) 2000 (fun x => if scK K = true then bz β ε k x else 0)) (hm : 0 ≤ m ∧ m ≤ 3) (hT : 1 ≤ T ∧ T ≤ 81) (hb0 : 0 ≤ b0 ∧ b0 ≤ 2100) (hfree : ∀ x, b0 ≤ x → bz β ε k x ≤ 3) : e_lim L xs (d + 3) 70 0 [some (.ref t), some (.ref 1), some (.int (iI m)), some (.int (iI b0)), some (.int (iI T)), none, none, none] [] (e_hp M V W) = some (.inl (some (.int (iI (zFF (blB K β ε k m) T b0)))), e_hp M V W, 0, 0) := by
  have hrm := hr.rm
  have hur : ∀ x, 0 ≤ x → x < 2000 → 0 ≤ (fun x => if scK K = true then bz β ε k x else 0) x ∧ (fun x => if scK K = true then bz β ε k x else 0) x ≤ 16 := fun x a b => by
    have := bz_rg β ε x hk.1
    simp only
    split <;> omega
  have main : ∀ (n : Nat) (b y : Int) (l7 : Option Value), e_nk l7 = true → (2001 - b).toNat ≤ n → b0 ≤ b → b ≤ 2100 → 0 ≤ y → y ≤ b - b0 → e_lim L xs (d + 3) 70 6 [some (.ref t), some (.ref 1), some (.int (iI m)), some (.int (iI b0)), some (.int (iI T)), some (.int (iI b)), some (.int (iI y)), l7] [] (e_hp M V W) = some (.inl (some (.int (iI (zFF (blB K β ε k m) T b)))), e_hp M V W, 0, 0) := by
    intro n
    induction n with
    | zero =>
      intro b y l7 n7 hn h1 h2 h3 h4
      rw [zFF_big (by omega) (by omega) (by omega), r70_6]
      simp (disch := first | assumption | exact e_nk_i _ | exact e_nk_n | exact e_nk_r _ | exact e_bo_0 | exact e_bo_1 | exact e_bo_b _ | omega) only [e_cl_v, e_cl_x, e_add_0, e_add_s, Option.toList_some, Option.toList_none, List.cons_append, List.nil_append, iI_add, iI_sub, iI_mul, iI_lt, iI_eq, iI_le, r70_8, r70_11, r70_14, r70_16, r70_18, r70_19, r70_22, r70_87, r70_90]
      rw [if_pos (show 2000 < b + T by omega)]
      simp
    | succ n ih =>
      intro b y l7 n7 hn h1 h2 h3 h4
      by_cases hbig : 2000 < b + T
      · rw [zFF_big (by omega) (by omega) hbig, r70_6]
        simp (disch := first | assumption | exact e_nk_i _ | exact e_nk_n | exact e_nk_r _ | exact e_bo_0 | exact e_bo_1 | exact e_bo_b _ | omega) only [e_cl_v, e_cl_x, e_add_0, e_add_s, Option.toList_some, Option.toList_none, List.cons_append, List.nil_append, iI_add, iI_sub, iI_mul, iI_lt, iI_eq, iI_le, r70_8, r70_11, r70_14, r70_16, r70_18, r70_19, r70_22, r70_87, r70_90]
        rw [if_pos hbig]
        simp
      · have e1 := s_timeBehindRest (L := L) (xs := xs) (d := d + 1) (V := V) (W := W) H hr hm (f := b) (t := b + T) (by omega) (by omega)
        rcases tbR_cases (m := m) hd hrm.1 b (b + T) with ⟨c1, c2⟩ | ⟨c1, c2, r, c3, c4, c5, c6, c7, c8, c9⟩
        · rw [c1] at e1
          have hnr : ∀ x, b ≤ x → x < b + T → rsB K m x = false := fun x x0 x1 => by
            cases hb : rsB K m x with
            | false => rfl
            | true =>
              obtain ⟨r, a0, a1, a2, a3, a4⟩ := (rsB_iff hrm.1 x).mp hb
              exact absurd ⟨a2, by omega, by omega⟩ (c2 r a0 a1)
          cases hsc : scK K with
          | false =>
            rw [hsc, bI_f] at hs
            have hz : lB (blB K β ε k m) b T = -1 := lB_none (by omega) (by omega) (fun x x0 x1 => by
              unfold blB hwB
              have w3 := scK_f hsc (i := x % 24 / 8) (by omega) (by omega)
              have := hfree x (by omega)
              rw [hnr x x0 x1, decide_eq_true (by omega)]
              rfl)
            rw [zFF_fit (by omega) (by omega) (by omega) hz, r70_6]
            simp (disch := first | assumption | exact e_nk_i _ | exact e_nk_n | exact e_nk_r _ | exact e_bo_0 | exact e_bo_1 | exact e_bo_b _ | omega) only [e_cl_v, e_cl_x, e_add_0, e_add_s, Option.toList_some, Option.toList_none, List.cons_append, List.nil_append, iI_add, iI_sub, iI_mul, iI_lt, iI_eq, iI_le, r70_8, r70_11, r70_14, r70_16, r70_18, r70_19, r70_22, r70_25, r70_26, r70_27, r70_29, r70_31, r70_33, r70_34, r70_37, r70_39, r70_41, r70_43, r70_46, r70_47, r70_50, r70_53, r70_54, r70_55, r70_57, r70_59, r70_61, r70_62, r70_65, r70_67, r70_69, r70_71, r70_74, r70_76, hs, e1]
            rw [if_neg (by omega), if_neg hbig]
            simp
          | true =>
            rw [hsc, bI_t] at hs
            have e2 := tg_shortage (L := L) (xs := xs) (d := d) (V := V) (W := W) ht H hr hu hur (f := b) (to := b + T) (by omega) (by omega)
            rw [hsc] at e2
            simp only [if_true] at e2
            have hfb : ∀ x, b ≤ x → x < b + T → blB K β ε k m x = fuB K (fun x => bz β ε k x) x := fun x x0 x1 => by
              unfold blB hwB fuB
              have := hfree x (by omega)
              have rwk := hr.wo (i := x % 24 / 8) (by omega) (by omega)
              rw [hnr x x0 x1, Bool.false_or]
              apply bool_eq
              rw [Bool.not_eq_true', decide_eq_false_iff_not, decide_eq_true_iff]
              show ¬ bz β ε k x < K (238 + x % 24 / 8) ↔ K (238 + x % 24 / 8) < 4 ∧ K (238 + x % 24 / 8) ≤ bz β ε k x
              omega
            have hcg : lB (fuB K (fun x => bz β ε k x)) b (b + T - b) = lB (blB K β ε k m) b T := by
              rw [show b + T - b = T by omega]
              exact (lB_cong hfb).symm
            unfold tbS at e2
            rw [hcg] at e2
            rcases lB_cases (blB K β ε k m) b T (by omega) (by omega) with ⟨d1, d2⟩ | ⟨d1, d2, d3, d4⟩
            · rw [d1, if_pos rfl] at e2
              rw [zFF_fit (by omega) (by omega) (by omega) d1, r70_6]
              simp (disch := first | assumption | exact e_nk_i _ | exact e_nk_n | exact e_nk_r _ | exact e_bo_0 | exact e_bo_1 | exact e_bo_b _ | omega) only [e_cl_v, e_cl_x, e_add_0, e_add_s, Option.toList_some, Option.toList_none, List.cons_append, List.nil_append, iI_add, iI_sub, iI_mul, iI_lt, iI_eq, iI_le, r70_8, r70_11, r70_14, r70_16, r70_18, r70_19, r70_22, r70_25, r70_26, r70_27, r70_29, r70_31, r70_33, r70_34, r70_37, r70_39, r70_41, r70_43, r70_46, r70_47, r70_50, r70_53, r70_54, r70_55, r70_57, r70_59, r70_61, r70_62, r70_65, r70_67, r70_69, r70_71, r70_74, r70_76, hs, e1, e2]
              rw [if_neg (by omega), if_neg hbig]
              simp
            · rw [if_neg (by omega)] at e2
              rw [zFF_jump (by omega) d1 d2 d3]
              generalize lB (blB K β ε k m) b T = r at *
              have hi := ih (r + 1) (y + 1) (some (.int (iI (r + 1)))) (e_nk_i _) (by omega) (by omega) (by omega) (by omega) (by omega)
              rw [← hi, r70_6]
              simp (disch := first | assumption | exact e_nk_i _ | exact e_nk_n | exact e_nk_r _ | exact e_bo_0 | exact e_bo_1 | exact e_bo_b _ | omega) only [e_cl_v, e_cl_x, e_add_0, e_add_s, Option.toList_some, Option.toList_none, List.cons_append, List.nil_append, iI_add, iI_sub, iI_mul, iI_lt, iI_eq, iI_le, r70_8, r70_11, r70_14, r70_16, r70_18, r70_19, r70_22, r70_25, r70_26, r70_27, r70_29, r70_31, r70_33, r70_34, r70_37, r70_39, r70_41, r70_43, r70_46, r70_47, r70_50, r70_53, r70_54, r70_55, r70_57, r70_59, r70_61, r70_62, r70_65, r70_67, r70_69, r70_71, r70_74, r70_76, r70_77, r70_79, r70_81, r70_84, hs, e1, e2]
              rw [if_neg (by omega), if_neg hbig]
              have q1 : ¬ r + 1 = b := by omega
              simp [q1]
        · rw [zFF_rest (r1 := K (218 + r)) (r2 := tbR K m b (b + T)) hT.1 (by omega) c6 c1 (fun x x0 x1 => by
            unfold blB
            rw [(rsB_iff hrm.1 x).mpr ⟨r, c3, c4, c5, x0, by omega⟩]
            rfl) (by omega)]
          generalize tbR K m b (b + T) = rr at *
          have hi := ih rr (y + 1) (some (.int (iI rr))) (e_nk_i _) (by omega) (by omega) (by omega) (by omega) (by omega)
          rw [← hi, r70_6]
          simp (disch := first | assumption | exact e_nk_i _ | exact e_nk_n | exact e_nk_r _ | exact e_bo_0 | exact e_bo_1 | exact e_bo_b _ | omega) only [e_cl_v, e_cl_x, e_add_0, e_add_s, Option.toList_some, Option.toList_none, List.cons_append, List.nil_append, iI_add, iI_sub, iI_mul, iI_lt, iI_eq, iI_le, r70_8, r70_11, r70_14, r70_16, r70_18, r70_19, r70_22, r70_25, r70_26, r70_27, r70_29, r70_31, r70_33, r70_34, r70_37, r70_39, r70_41, r70_43, r70_46, r70_47, r70_50, r70_53, r70_54, r70_55, r70_57, r70_59, r70_61, r70_62, r70_65, r70_67, r70_69, r70_71, r70_74, r70_76, r70_77, r70_79, r70_81, r70_84, e1]
          rw [if_neg (by omega), if_neg hbig]
          have q1 : ¬ rr = b := by omega
          simp [q1]
  have h0 := main (2001 - b0).toNat b0 0 none e_nk_n (Nat.le_refl _) (Int.le_refl _) hb0.2 (Int.le_refl _) (by omega)
  rw [← h0]
  simp (disch := first | assumption | exact e_nk_i _ | exact e_nk_n | exact e_nk_r _ | exact e_bo_0 | exact e_bo_1 | exact e_bo_b _ | omega) only [e_cl_v, e_cl_x, e_add_0, e_add_s, Option.toList_some, Option.toList_none, List.cons_append, List.nil_append, iI_add, iI_sub, iI_mul, iI_lt, iI_eq, iI_le, r70_0, r70_1, r70_3, r70_4]
end Ec08
