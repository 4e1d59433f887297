section El31
variable {L : Nat} {xs : Nat → Int32} {d : Nat} {M M1 M2 M3 : e_MI} {V V2 : e_ML} {W : e_MD} {K K2 : e_St} {S : Int → e_St} {h : e_H} {c o j w z m k q p i a b t x its u v : Int}
/-! without an order -/
theorem wi_rg (r : Int → Int) (o : Int) : ∀ n : Nat, 0 ≤ (wiT r o n).1 ∧ (wiT r o n).1 ≤ n
  | 0 => ⟨Int.le_refl _, Int.le_refl _⟩
  | n + 1 => by
    have ih := wi_rg r o n
    unfold wiT
    split
    · omega
    · simp only
      omega
theorem l_isWithout (H : CL M K c S) (h1 : 1 ≤ K 310) : ∃ M2 : e_MI, e_lim L xs (d + 8) 186 0 [some (.ref 184), none, none, none, none, none] [] (e_hp M V W) = some (.inl (some (.int (bI true))), e_hp M2 V W, 0, 0) ∧ CL M2 K c S ∧ fTp M M2 := by
  have hr := H.g.1
  have hn := hr.n
  have hp := H.g.2.2.1
  obtain ⟨ha, hv0⟩ := H.g.2.1
  have hv : vR K (rwK K) := hv0
  obtain ⟨M1, o, e1, r1, f1⟩ := l_next (L := L) (xs := xs) (d := d + 7) (V := V) (W := W) (M := M) (n := K 310) (by omega)
  have H1 := H.of f1.l
  obtain ⟨M2, e2, f2, g2⟩ := l_reads (L := L) (xs := xs) (d := d + 4) (V := V) (W := W) H1.la H1.ck.sh hr H.g.2.1
  have H2 := H1.of f2.l
  have e0 := H.la.nn
  have hpf := wi_pf (o := o) H.g
  have hwr := wi_rg (rwK K) o (aW K).toNat
  -- the row without it
  have key := G_lp (i := 0) (n := aW K) (I := fun j M3 => fR M2 M3 ∧ (∀ p, 0 ≤ p → p < (wiT (rwK K) o j.toNat).1 → M3 199 p.toNat = iI ((wiT (rwK K) o j.toNat).2 p)) ∧ ∀ p, j ≤ p → p < aW K → M3 199 p.toNat = iI (rwK K p))
    (P := fun j M3 => ∃ M4 : e_MI, e_lim L xs (d + 8) 186 22 [some (.ref 184), some (.int (iI o)), some (.int (iI (wiT (rwK K) o j.toNat).1)), some (.int (iI j)), none, none] [] (e_hp M3 V W) = some (.inl (some (.int (bI true))), e_hp M4 V W, 0, 0) ∧ CL M4 K c S ∧ fTp M M4) (fun j M3 x y hI hc => ?_) (fun M3 hI => ?_) ha.1 M2 ⟨fun _ _ => rfl, fun p x y => by have : (wiT (rwK K) o (0 : Int).toNat).1 = 0 := rfl; omega, fun p x y => g2 p x y⟩
  · obtain ⟨M4, e, r⟩ := key
    refine ⟨M4, ?_, r⟩
    have hw0 : (wiT (rwK K) o (0 : Int).toNat).1 = 0 := rfl
    rw [hw0] at e
    rw [← e]
    have h10 : ¬ (iI 1 = iI 0) := by decide
    simp (disch := first | assumption | exact e_nk_i _ | exact e_nk_n | exact e_nk_r _ | exact e_bo_0 | exact e_bo_1 | exact e_bo_b _ | omega) only [e_cl_v, e_cl_x, e_add_0, e_add_s, Option.toList_some, Option.toList_none, List.cons_append, List.nil_append, iI_add, iI_sub, iI_mul, iI_lt, iI_eq, iI_le, r186_0, r186_1, r186_2, r186_5, r186_8, r186_9, r186_10, r186_13, r186_16, r186_17, r186_18, r186_19, r186_20, r186_21, e0, e1, e2, bI_t, if_neg h10]
    rfl
  · obtain ⟨i1, i2, i3⟩ := hI
    have ew := (H2.of i1.l).la.ws
    have e5 := i3 j (Int.le_refl _) y
    have rv := hv.1 j x y
    have wj := wi_rg (rwK K) o j.toNat
    have hst : wiT (rwK K) o (j + 1).toNat = if rwK K j = o then wiT (rwK K) o j.toNat else ((wiT (rwK K) o j.toNat).1 + 1, uI (wiT (rwK K) o j.toNat).2 (wiT (rwK K) o j.toNat).1 (rwK K j)) := by
      rw [show (j + 1).toNat = j.toNat + 1 by omega]
      conv => lhs; unfold wiT
      rw [Int.toNat_of_nonneg x]
    by_cases hq : rwK K j = o
    · rw [if_pos hq] at hst
      have hc2 := hc M3 ⟨i1, by rw [hst]; exact i2, fun p u v => i3 p (by omega) v⟩
      rw [hst] at hc2
      obtain ⟨M4, e, r⟩ := hc2
      refine ⟨M4, ?_, r⟩
      rw [← e, r186_22]
      simp (disch := first | assumption | exact e_nk_i _ | exact e_nk_n | exact e_nk_r _ | exact e_bo_0 | exact e_bo_1 | exact e_bo_b _ | omega) only [e_cl_v, e_cl_x, e_add_0, e_add_s, Option.toList_some, Option.toList_none, List.cons_append, List.nil_append, iI_add, iI_sub, iI_mul, iI_lt, iI_eq, iI_le, r186_23, r186_24, r186_27, r186_30, r186_31, r186_34, r186_35, r186_36, r186_37, r186_40, r186_43, r186_44, r186_47, r186_48, r186_49, r186_52, r186_53, r186_54, r186_55, r186_58, r186_61, iI_vin, iI_nat, if_true, ew, e5, if_pos y, if_pos hq]
    · rw [if_neg hq] at hst
      have hc2 := hc (e_u M3 199 (upd (M3 199) (wiT (rwK K) o j.toNat).1.toNat (iI (rwK K j)))) ⟨fun a z => by rw [e_u_n _ _ z]; exact i1 a z, fun p u v => by
        rw [hst] at v ⊢
        simp only at v ⊢
        rw [e_u_s]
        by_cases hp2 : p = (wiT (rwK K) o j.toNat).1
        · rw [hp2, upd_s, uI_s]
        · rw [upd_n _ _ (by omega), uI_n _ _ hp2]
          exact i2 p u (by omega), fun p u v => by
        rw [e_u_s, upd_n _ _ (by omega)]
        exact i3 p (by omega) v⟩
      rw [hst] at hc2
      obtain ⟨M4, e, r⟩ := hc2
      refine ⟨M4, ?_, r⟩
      simp only at e
      rw [← e, r186_22]
      simp (disch := first | assumption | exact e_nk_i _ | exact e_nk_n | exact e_nk_r _ | exact e_bo_0 | exact e_bo_1 | exact e_bo_b _ | omega) only [e_cl_v, e_cl_x, e_add_0, e_add_s, Option.toList_some, Option.toList_none, List.cons_append, List.nil_append, iI_add, iI_sub, iI_mul, iI_lt, iI_eq, iI_le, r186_23, r186_24, r186_27, r186_30, r186_31, r186_34, r186_35, r186_36, r186_37, r186_40, r186_43, r186_44, r186_47, r186_48, r186_49, r186_52, r186_53, r186_54, r186_55, r186_58, r186_61, iI_vin, iI_nat, if_true, ew, e5, if_pos y, if_neg hq]
  · obtain ⟨i1, i2, -⟩ := hI
    have H3 := H2.of i1.l
    have ew := H3.la.ws
    generalize hτ : (wiT (rwK K) o (aW K).toNat).2 = τ at *
    generalize hN : (wiT (rwK K) o (aW K).toNat).1 = N at *
    have hwi : wiW K o = if fiR K τ N = true then mX (scE K τ) N else -1 := by
      unfold wiW
      rw [hτ, hN]
    obtain ⟨M5, e5, f5, g5⟩ := l_isTimed (L := L) (xs := xs) (d := d + 6) (V := V) (W := W) H3.la H3.lb hr hp hpf.vp (n := N) (by omega) i2
    have H5 := H3.of f5.l
    obtain ⟨M6, e6, f6, k6⟩ := x_without (L := L) (xs := xs) (d := d) (V := V) (W := W) H5.ck H.g (o := o) (by unfold i32; omega)
    rw [if_pos (by omega), hwi] at e6
    have H6 := H5.qu f6 (fun a x => k6 a (by omega))
    refine ⟨M6, ?_, H6, (((f1.pp.fp.tr f2.pp.fp).tr i1.pp.fp).tr f5.pp.fp).tr (fun a x y => k6 a (by omega))⟩
    rw [r186_22]
    simp (disch := first | assumption | exact e_nk_i _ | exact e_nk_n | exact e_nk_r _ | exact e_bo_0 | exact e_bo_1 | exact e_bo_b _ | omega) only [e_cl_v, e_cl_x, e_add_0, e_add_s, Option.toList_some, Option.toList_none, List.cons_append, List.nil_append, iI_add, iI_sub, iI_mul, iI_lt, iI_eq, iI_le, r186_23, r186_24, r186_27, r186_30, r186_31, r186_34, r186_35, r186_36, r186_37, r186_40, r186_43, r186_44, r186_47, r186_48, r186_49, r186_52, r186_53, r186_54, r186_55, r186_58, r186_61, r186_64, r186_65, r186_66, r186_67, r186_68, r186_71, r186_73, r186_74, ew, e5]
    rw [if_neg (by omega)]
    by_cases hf : fiR K τ N = true
    · obtain ⟨hR, hE⟩ := g5 hf
      rw [if_pos hf] at e6
      rw [hf, bI_t]
      rw [show iI 0 = iI (mX (scE K τ) 0) from rfl, show some (Value.int (iI (mX (scE K τ) 0))) = some (Value.int (iI (mX (scE K τ) 0))) from rfl]
      have loop : e_lim L xs (d + 8) 186 76 [some (.ref 184), some (.int (iI o)), some (.int (iI N)), some (.int (iI (mX (scE K τ) 0))), some (.int (iI 1)), some (.int (iI 0))] [] (e_hp M5 V W) = some (.inl (some (.int (bI true))), e_hp M6 V W, 0, 0) := by
        refine G_loopI (C := fun j => e_lim L xs (d + 8) 186 76 [some (.ref 184), some (.int (iI o)), some (.int (iI N)), some (.int (iI (mX (scE K τ) j))), some (.int (iI 1)), some (.int (iI j))] [] (e_hp M5 V W)) (i := 0) (n := N) hwr.1 (fun j x y hc => ?_) ?_
        · obtain ⟨⟨_, a6⟩, _, r6⟩ := hE j x y
          have rx := mX_rg (f := scE K τ) (n := j) (c := 2001) x (by omega) (fun p u v => (hE p u (by omega)).2.2.2)
          rw [mX_max _ x] at hc
          rw [r186_76]
          simp (disch := first | assumption | exact e_nk_i _ | exact e_nk_n | exact e_nk_r _ | exact e_bo_0 | exact e_bo_1 | exact e_bo_b _ | omega) only [e_cl_v, e_cl_x, e_add_0, e_add_s, Option.toList_some, Option.toList_none, List.cons_append, List.nil_append, iI_add, iI_sub, iI_mul, iI_lt, iI_eq, iI_le, r186_78, r186_79, r186_82, r186_83, r186_84, r186_87, r186_89, r186_90, r186_93, r186_94, r186_97, iI_vin, iI_nat, if_true, a6, if_pos y, iI_mx]
          exact hc
        · have h10 : ¬ (iI 1 = iI 0) := by decide
          rw [r186_76]
          simp (disch := first | assumption | exact e_nk_i _ | exact e_nk_n | exact e_nk_r _ | exact e_bo_0 | exact e_bo_1 | exact e_bo_b _ | omega) only [e_cl_v, e_cl_x, e_add_0, e_add_s, Option.toList_some, Option.toList_none, List.cons_append, List.nil_append, iI_add, iI_sub, iI_mul, iI_lt, iI_eq, iI_le, r186_78, r186_79]
          rw [if_neg (by omega)]
          simp (disch := first | assumption | exact e_nk_i _ | exact e_nk_n | exact e_nk_r _ | exact e_bo_0 | exact e_bo_1 | exact e_bo_b _ | omega) only [e_cl_v, e_cl_x, e_add_0, e_add_s, Option.toList_some, Option.toList_none, List.cons_append, List.nil_append, iI_add, iI_sub, iI_mul, iI_lt, iI_eq, iI_le, r186_100, r186_101, r186_104, r186_105, r186_108, r186_110, r186_113, r186_114, r186_117, r186_118, r186_121, r186_122, r186_125, r186_126, e6, if_true, if_neg h10]
          rfl
      exact loop
    · have hff : fiR K τ N = false := by simpa using hf
      rw [if_neg hf] at e6
      rw [hff, bI_f]
      have loop := G_lpG (T := Int32) (i := 0) (n := N) (I := fun _ _ => True) (P := fun j y => e_lim L xs (d + 8) 186 76 [some (.ref 184), some (.int (iI o)), some (.int (iI N)), some (.int y), some (.int (iI 0)), some (.int (iI j))] [] (e_hp M5 V W) = some (.inl (some (.int (bI true))), e_hp M6 V W, 0, 0)) (fun j y x2 y2 _ hc => ?_) (fun y _ => ?_) hwr.1 (iI 0) trivial
      · exact loop
      · rw [r186_76]
        simp (disch := first | assumption | exact e_nk_i _ | exact e_nk_n | exact e_nk_r _ | exact e_bo_0 | exact e_bo_1 | exact e_bo_b _ | omega) only [e_cl_v, e_cl_x, e_add_0, e_add_s, Option.toList_some, Option.toList_none, List.cons_append, List.nil_append, iI_add, iI_sub, iI_mul, iI_lt, iI_eq, iI_le, r186_78, r186_79, r186_82, r186_83, r186_84, r186_87, r186_89, r186_90, r186_93, r186_94, r186_97, iI_vin, iI_nat, if_true, if_pos y2]
        exact hc _ trivial
      · rw [r186_76]
        simp (disch := first | assumption | exact e_nk_i _ | exact e_nk_n | exact e_nk_r _ | exact e_bo_0 | exact e_bo_1 | exact e_bo_b _ | omega) only [e_cl_v, e_cl_x, e_add_0, e_add_s, Option.toList_some, Option.toList_none, List.cons_append, List.nil_append, iI_add, iI_sub, iI_mul, iI_lt, iI_eq, iI_le, r186_78, r186_79]
        rw [if_neg (by omega)]
        simp (disch := first | assumption | exact e_nk_i _ | exact e_nk_n | exact e_nk_r _ | exact e_bo_0 | exact e_bo_1 | exact e_bo_b _ | omega) only [e_cl_v, e_cl_x, e_add_0, e_add_s, Option.toList_some, Option.toList_none, List.cons_append, List.nil_append, iI_add, iI_sub, iI_mul, iI_lt, iI_eq, iI_le, r186_100, r186_101, r186_104, r186_105, r186_108, r186_110, r186_113, r186_114, r186_117, r186_118, r186_121, r186_122, r186_125, r186_126, e6, if_true]
        rfl
end El31
