section Ec47
variable {L : Nat} {xs : Nat → Int32} {d : Nat} {M M2 M3 : e_MI} {V : e_ML} {W : e_MD} {K K1 K2 : e_St} {S : Int → e_St} {h : e_H} {er w c n z p o : Int} {s : Int × (Int → Int)} {U τ : Int → Int} {x a1 a2 a3 a4 a5 : Int32}
/-! the class's tape and writing -/
theorem us255 (x : Int32) {s : Int} (hs : s = 0 ∨ s = 8 ∨ s = 16 ∨ s = 24) : (x.toUInt32 >>> ((iI s).toUInt32 &&& Int32.toUInt32 31)).toInt32 &&& iI 255 = bB x s := by
  have hz : ∀ i, i < 32 → ¬ i < 8 → (255#32).getLsbD i = false := by decide
  have key : ∀ n : Nat, n ≤ 24 → (x.toBitVec >>> n) &&& 255#32 = (x.toBitVec.sshiftRight n) &&& 255#32 := by
    intro n hn
    apply BitVec.eq_of_getLsbD_eq
    intro i hi
    rw [BitVec.getLsbD_and, BitVec.getLsbD_and]
    by_cases h8 : i < 8
    · congr 1
      rw [BitVec.getLsbD_ushiftRight, BitVec.getLsbD_sshiftRight]
      have h1 : n + i < 32 := by omega
      simp [h1]
      omega
    · rw [hz i hi h8, Bool.and_false, Bool.and_false]
  rcases hs with rfl | rfl | rfl | rfl
  · exact Int32.toBitVec_inj.mp (key 0 (by omega))
  · exact Int32.toBitVec_inj.mp (key 8 (by omega))
  · exact Int32.toBitVec_inj.mp (key 16 (by omega))
  · exact Int32.toBitVec_inj.mp (key 24 (by omega))
theorem p_countSeg {s : Int} (hs : s = 0 ∨ s = 8 ∨ s = 16 ∨ s = 24) : e_lim L xs d 49 4 [some (.int x), some (.int (iI n)), some (.int (iI s))] [] h = e_lim L xs d 49 4 [some (.int x), some (.int (iI (n + bC x s))), some (.int (iI (s + 8)))] [] h := by
  have hu := us255 x hs
  rw [r49_4]
  simp (disch := first | assumption | exact e_nk_i _ | exact e_nk_n | exact e_nk_r _ | exact e_bo_0 | exact e_bo_1 | exact e_bo_b _ | omega) only [e_cl_v, e_cl_x, e_add_0, e_add_s, Option.toList_some, Option.toList_none, List.cons_append, List.nil_append, iI_add, iI_sub, iI_mul, iI_lt, iI_eq, iI_le, r49_5, r49_7, r49_10, r49_11, r49_12, r49_13, r49_14, r49_17, r49_18, r49_21, r49_22, r49_25, r49_26, r49_27, r49_28, r49_31, hu]
  rw [if_pos (by omega)]
  unfold bC
  split
  · rfl
  · rfl
theorem p_countBytes : e_lim L xs d 49 0 [some (.int x), none, none] [] h = some (.inl (some (.int (iI (nB x)))), h, 0, 0) := by
  simp (disch := first | assumption | exact e_nk_i _ | exact e_nk_n | exact e_nk_r _ | exact e_bo_0 | exact e_bo_1 | exact e_bo_b _ | omega) only [e_cl_v, e_cl_x, e_add_0, e_add_s, Option.toList_some, Option.toList_none, List.cons_append, List.nil_append, iI_add, iI_sub, iI_mul, iI_lt, iI_eq, iI_le, r49_0, r49_1, r49_2, r49_3]
  rw [p_countSeg (by omega), p_countSeg (by omega), p_countSeg (by omega), p_countSeg (by omega), r49_4]
  simp (disch := first | assumption | exact e_nk_i _ | exact e_nk_n | exact e_nk_r _ | exact e_bo_0 | exact e_bo_1 | exact e_bo_b _ | omega) only [e_cl_v, e_cl_x, e_add_0, e_add_s, Option.toList_some, Option.toList_none, List.cons_append, List.nil_append, iI_add, iI_sub, iI_mul, iI_lt, iI_eq, iI_le, r49_5, r49_7, r49_34, r49_35]
  rw [if_neg (by omega)]
  unfold nB
  rw [show (0 : Int) + bC x 0 + bC x (0 + 8) + bC x (0 + 8 + 8) + bC x (0 + 8 + 8 + 8) = bC x 0 + bC x 8 + bC x 16 + bC x 24 by rw [Int.zero_add]; rfl]
/-- only the class's tape changes -/
def frC (M M2 : e_MI) : Prop := (∀ a, a ≠ 179 → a ≠ 180 → M2 a = M a) ∧ ∀ j, j ≠ 0 → M2 179 j = M 179 j
theorem frC.rf (M : e_MI) : frC M M := ⟨fun _ _ _ => rfl, fun _ _ => rfl⟩
theorem frC.t (h : frC M M2) (h2 : frC M2 M3) : frC M M3 := ⟨fun a x y => by rw [h2.1 a x y, h.1 a x y], fun j x => by rw [h2.2 j x, h.2 j x]⟩
theorem p_addSeg {sh : Int} (hs : sh = 0 ∨ sh = 8 ∨ sh = 16 ∨ sh = 24) {l3 : Option Value} (hz : M 179 0 = iI s.1) (h0 : 0 ≤ s.1) (hT : e_ar (M 180) s.1 s.2) (hl : s.1 + bC x sh ≤ 60) : ∃ M2 : e_MI, e_lim L xs (d + 1) 50 3 [some (.ref 179), some (.int x), some (.int (iI sh)), l3] [] (e_hp M V W) = e_lim L xs (d + 1) 50 3 [some (.ref 179), some (.int x), some (.int (iI (sh - 8))), some (.int (bB x sh))] [] (e_hp M2 V W) ∧ M2 179 0 = iI (tb1 x s sh).1 ∧ e_ar (M2 180) (tb1 x s sh).1 (tb1 x s sh).2 ∧ frC M M2 := by
  have hb : bC x sh = if bB x sh = iI 0 then 0 else 1 := rfl
  have hu := us255 x hs
  have hsr : 0 ≤ sh ∧ sh ≤ 24 := by omega
  by_cases hq : bB x sh = iI 0
  · rw [if_pos hq] at hb
    refine ⟨M, ?_, ?_, ?_, frC.rf M⟩
    · rw [r50_3]
      simp (disch := first | assumption | exact e_nk_i _ | exact e_nk_n | exact e_nk_r _ | exact e_bo_0 | exact e_bo_1 | exact e_bo_b _ | omega) only [e_cl_v, e_cl_x, e_add_0, e_add_s, Option.toList_some, Option.toList_none, List.cons_append, List.nil_append, iI_add, iI_sub, iI_mul, iI_lt, iI_eq, iI_le, r50_4, r50_7, r50_8, r50_9, r50_10, r50_13, r50_14, r50_15, r50_16, r50_19, r50_20, r50_23, r50_24, r50_27, r50_28, r50_31, r50_32, r50_33, r50_36, r50_37, r50_38, r50_41, r50_44, hu]
      rw [if_neg (by omega)]
      first | rw [if_pos hq] | skip
      rfl
    · unfold tb1
      rw [if_pos hb]
      exact hz
    · unfold tb1
      rw [if_pos hb]
      exact hT
  · rw [if_neg hq] at hb
    have e1 := m_putI (L := L) (xs := xs) (d := d) (M := M) (V := V) (W := W) (v := bB x sh) si_180 (z := s.1) h0 (by omega)
    have hz2 : e_u M 180 (upd (M 180) s.1.toNat (bB x sh)) 179 0 = iI s.1 := by rw [e_u_n _ _ (by decide), hz]
    refine ⟨e_u (e_u M 180 (upd (M 180) s.1.toNat (bB x sh))) 179 (upd (M 179) 0 (iI (s.1 + 1))), ?_, ?_, ?_, ⟨fun a x y => by rw [e_u_n _ _ x, e_u_n _ _ y], fun j x => by rw [e_u_s, upd_n _ _ x]⟩⟩
    · rw [r50_3]
      simp (disch := first | assumption | exact e_nk_i _ | exact e_nk_n | exact e_nk_r _ | exact e_bo_0 | exact e_bo_1 | exact e_bo_b _ | omega) only [e_cl_v, e_cl_x, e_add_0, e_add_s, Option.toList_some, Option.toList_none, List.cons_append, List.nil_append, iI_add, iI_sub, iI_mul, iI_lt, iI_eq, iI_le, r50_4, r50_7, r50_8, r50_9, r50_10, r50_13, r50_14, r50_15, r50_16, r50_19, r50_20, r50_23, r50_24, r50_27, r50_28, r50_31, r50_32, r50_33, r50_36, r50_37, r50_38, r50_41, r50_44, hu, hz, e1, e_u_n]
      rw [if_neg (by omega), if_neg hq]
      rfl
    · rw [e_u_s, upd_s, tb1_n, hb]
    · rw [e_u_n _ _ (by decide), e_u_s]
      unfold tb1
      rw [if_neg (by omega), ← bV_i]
      exact hT.more h0
theorem p_addBytes (hz : M 179 0 = iI s.1) (hs : tpO s) (hT : e_ar (M 180) s.1 s.2) (hl : s.1 + nB x ≤ 60) : ∃ M2 : e_MI, e_lim L xs (d + 1) 50 0 [some (.ref 179), some (.int x), none, none] [] (e_hp M V W) = some (.inl none, e_hp M2 V W, 0, 0) ∧ M2 179 0 = iI (tbX x s).1 ∧ e_ar (M2 180) (tbX x s).1 (tbX x s).2 ∧ frC M M2 := by
  have b0 := bC_rg x 0
  have b1 := bC_rg x 8
  have b2 := bC_rg x 16
  have b3 := bC_rg x 24
  unfold nB at hl
  have n1 := tb1_n x s 24
  have n2 := tb1_n x (tb1 x s 24) 16
  have n3 := tb1_n x (tb1 x (tb1 x s 24) 16) 8
  have o1 := tb1_o (x := x) hs 24
  have o2 := tb1_o (x := x) o1 16
  have o3 := tb1_o (x := x) o2 8
  obtain ⟨M2, e2, z2, T2, F2⟩ := p_addSeg (L := L) (xs := xs) (d := d) (V := V) (W := W) (x := x) (sh := 24) (by omega) (l3 := none) hz hs.1 hT (by omega)
  obtain ⟨M3, e3, z3, T3, F3⟩ := p_addSeg (L := L) (xs := xs) (d := d) (V := V) (W := W) (x := x) (sh := 24 - 8) (by omega) (l3 := some (.int (bB x 24))) z2 o1.1 T2 (by show _ + bC x 16 ≤ 60; omega)
  obtain ⟨M4, e4, z4, T4, F4⟩ := p_addSeg (L := L) (xs := xs) (d := d) (V := V) (W := W) (x := x) (sh := 24 - 8 - 8) (by omega) (l3 := some (.int (bB x (24 - 8)))) z3 o2.1 T3 (by show (tb1 x (tb1 x s 24) 16).1 + bC x 8 ≤ 60; omega)
  obtain ⟨M5, e5, z5, T5, F5⟩ := p_addSeg (L := L) (xs := xs) (d := d) (V := V) (W := W) (x := x) (sh := 24 - 8 - 8 - 8) (by omega) (l3 := some (.int (bB x (24 - 8 - 8)))) z4 o3.1 T4 (by show (tb1 x (tb1 x (tb1 x s 24) 16) 8).1 + bC x 0 ≤ 60; omega)
  refine ⟨M5, ?_, z5, T5, ((F2.t F3).t F4).t F5⟩
  simp (disch := first | assumption | exact e_nk_i _ | exact e_nk_n | exact e_nk_r _ | exact e_bo_0 | exact e_bo_1 | exact e_bo_b _ | omega) only [e_cl_v, e_cl_x, e_add_0, e_add_s, Option.toList_some, Option.toList_none, List.cons_append, List.nil_append, iI_add, iI_sub, iI_mul, iI_lt, iI_eq, iI_le, r50_0, r50_2]
  rw [e2, e3, e4, e5, r50_3]
  simp (disch := first | assumption | exact e_nk_i _ | exact e_nk_n | exact e_nk_r _ | exact e_bo_0 | exact e_bo_1 | exact e_bo_b _ | omega) only [e_cl_v, e_cl_x, e_add_0, e_add_s, Option.toList_some, Option.toList_none, List.cons_append, List.nil_append, iI_add, iI_sub, iI_mul, iI_lt, iI_eq, iI_le, r50_4, r50_47]
  rw [if_pos (by omega)]
/-- the class's tape, its text -/
def TC (M : e_MI) (s : Int × (Int → Int)) (er w : Int) (U : Int → Int) : Prop := M 179 0 = iI s.1 ∧ s.1 ≤ 60 ∧ tpO s ∧ e_ar (M 180) s.1 s.2 ∧ (M 179 1 = iI er ∧ -1 ≤ er ∧ er ≤ 60) ∧ (M 182 0 = iI w ∧ 0 ≤ w ∧ w ≤ 16) ∧ e_ar (M 183) w U ∧ ∀ j, 0 ≤ j → j < w → 48 ≤ U j ∧ U j ≤ 55
theorem TC.of (H : TC M s er w U) (hf : ∀ a, 179 ≤ a → a ≤ 183 → M2 a = M a) : TC M2 s er w U := by
  unfold TC
  rw [hf 179 (by omega) (by omega), hf 180 (by omega) (by omega), hf 182 (by omega) (by omega), hf 183 (by omega) (by omega)]
  exact H
theorem x_append (Ht : TC M s er w U) : ∃ M2 : e_MI, e_lim L xs (d + 2) 139 0 [some (.ref 0), some (.int a1), some (.int a2), some (.int a3), some (.int a4), some (.int a5), none] [] (e_hp M V W) = (if cdAp a1 a2 a3 a4 a5 s = 0 then some (.inl (some (.int (iI (apW a1 a2 a3 a4 a5 s).1))), e_hp M2 V W, 0, 0) else some (.inr 1, e_hp M2 V W, 1, 6)) ∧ (cdAp a1 a2 a3 a4 a5 s = 0 → TC M2 (apW a1 a2 a3 a4 a5 s) er w U) ∧ (cdAp a1 a2 a3 a4 a5 s ≠ 0 → M2 = M) ∧ ∀ a, a ≠ 179 → a ≠ 180 → M2 a = M a := by
  obtain ⟨t1, t2, t3, t4, t5⟩ := id Ht
  have n1 := nB_rg a1
  have n2 := nB_rg a2
  have n3 := nB_rg a3
  have n4 := nB_rg a4
  have n5 := nB_rg a5
  have ea := fun x : Int32 => p_countBytes (L := L) (xs := xs) (d := d + 1) (h := e_hp M V W) (x := x)
  have u := t3.1
  unfold cdAp
  by_cases h1 : s.1 + (nB a1 + nB a2 + nB a3 + nB a4 + nB a5) ≤ 60
  · have e6 := m_requireState (L := L) (xs := xs) (d := d + 1) (h := e_hp M V W) true
    rw [if_pos rfl, bI_t] at e6
    have s1 := tbX_n a1 s
    have s2 := tbX_n a2 (tbX a1 s)
    have s3 := tbX_n a3 (tbX a2 (tbX a1 s))
    have s4 := tbX_n a4 (tbX a3 (tbX a2 (tbX a1 s)))
    have s5 := tbX_n a5 (tbX a4 (tbX a3 (tbX a2 (tbX a1 s))))
    have o1 := tbX_o (x := a1) t3
    have o2 := tbX_o (x := a2) o1
    have o3 := tbX_o (x := a3) o2
    have o4 := tbX_o (x := a4) o3
    have o5 := tbX_o (x := a5) o4
    obtain ⟨M1, b1, z1, T1, F1⟩ := p_addBytes (L := L) (xs := xs) (d := d) (V := V) (W := W) (x := a1) t1 t3 t4 (by omega)
    obtain ⟨M2, b2, z2, T2, F2⟩ := p_addBytes (L := L) (xs := xs) (d := d) (V := V) (W := W) (x := a2) z1 o1 T1 (by omega)
    obtain ⟨M3, b3, z3, T3, F3⟩ := p_addBytes (L := L) (xs := xs) (d := d) (V := V) (W := W) (x := a3) z2 o2 T2 (by omega)
    obtain ⟨M4, b4, z4, T4, F4⟩ := p_addBytes (L := L) (xs := xs) (d := d) (V := V) (W := W) (x := a4) z3 o3 T3 (by omega)
    obtain ⟨M5, b5, z5, T5, F5⟩ := p_addBytes (L := L) (xs := xs) (d := d) (V := V) (W := W) (x := a5) z4 o4 T4 (by omega)
    have F : frC M M5 := (((F1.t F2).t F3).t F4).t F5
    rw [if_pos h1]
    refine ⟨M5, ?_, fun _ => ⟨z5, ?_, o5, T5, ?_, ?_, ?_⟩, fun q => absurd rfl q, F.1⟩
    · rw [if_pos rfl]
      simp (disch := first | assumption | exact e_nk_i _ | exact e_nk_n | exact e_nk_r _ | exact e_bo_0 | exact e_bo_1 | exact e_bo_b _ | omega) only [e_cl_v, e_cl_x, e_add_0, e_add_s, Option.toList_some, Option.toList_none, List.cons_append, List.nil_append, iI_add, iI_sub, iI_mul, iI_lt, iI_eq, iI_le, r139_0, r139_1, r139_4, r139_5, r139_8, r139_9, r139_10, r139_13, r139_14, r139_16, r139_19, r139_20, r139_22, r139_25, r139_26, r139_28, r139_29, r139_32, r139_35, r139_37, r139_38, r139_40, r139_43, r139_44, r139_47, r139_48, r139_51, r139_52, r139_55, r139_56, r139_59, r139_60, r139_63, r139_64, r139_67, r139_68, r139_71, r139_72, r139_75, r139_76, r139_79, r139_81, r139_84, r139_85, r139_88, r139_90, r139_93, r139_94, r139_97, r139_100, ea, e6, t1, b1, b2, b3, b4, b5, z5]
      rw [if_neg (by omega)]
      simp
      rfl
    · unfold apW
      omega
    · rw [F.2 1 (by decide)]
      exact t5.1
    · rw [F.1 182 (by decide) (by decide)]
      exact t5.2.1
    · rw [F.1 183 (by decide) (by decide)]
      exact t5.2.2
  · have e6 := m_requireState (L := L) (xs := xs) (d := d + 1) (h := e_hp M V W) false
    rw [if_neg (by decide), bI_f] at e6
    rw [if_neg h1]
    refine ⟨M, ?_, fun q => by omega, fun _ => rfl, fun _ _ _ => rfl⟩
    rw [if_neg (show ¬ (1 : Int) = 0 by decide)]
    simp (disch := first | assumption | exact e_nk_i _ | exact e_nk_n | exact e_nk_r _ | exact e_bo_0 | exact e_bo_1 | exact e_bo_b _ | omega) only [e_cl_v, e_cl_x, e_add_0, e_add_s, Option.toList_some, Option.toList_none, List.cons_append, List.nil_append, iI_add, iI_sub, iI_mul, iI_lt, iI_eq, iI_le, r139_0, r139_1, r139_4, r139_5, r139_8, r139_9, r139_10, r139_13, r139_14, r139_16, r139_19, r139_20, r139_22, r139_25, r139_26, r139_28, r139_29, r139_32, r139_35, r139_37, r139_38, r139_40, r139_43, r139_44, r139_47, r139_48, ea, e6, t1]
    rw [if_pos (by omega)]
    skip
theorem x_errorPosition (Ht : TC M s er w U) : e_lim L xs d 141 0 [some (.ref 0)] [] (e_hp M V W) = some (.inl (some (.int (iI er))), e_hp M V W, 0, 0) := by
  have t5 := Ht.2.2.2.2.1.1
  simp (disch := first | assumption | exact e_nk_i _ | exact e_nk_n | exact e_nk_r _ | exact e_bo_0 | exact e_bo_1 | exact e_bo_b _ | omega) only [e_cl_v, e_cl_x, e_add_0, e_add_s, Option.toList_some, Option.toList_none, List.cons_append, List.nil_append, iI_add, iI_sub, iI_mul, iI_lt, iI_eq, iI_le, r141_0, r141_1, r141_4, r141_7, t5]
theorem g_tell (H : SH M 1 K) (ha : 0 ≤ aW K ∧ aW K ≤ 16) (hro : ∀ p, 0 ≤ p → p < aW K → 0 ≤ K (241 + p) ∧ K (241 + p) ≤ 7) : ∃ M2 : e_MI, e_lim L xs (d + 1) 101 0 [some (.ref 182), some (.ref 1), none] [] (e_hp M V W) = some (.inl none, e_hp M2 V W, 0, 0) ∧ M2 182 0 = iI (aW K) ∧ e_ar (M2 183) (aW K) (fun p => 48 + rwK K p) ∧ ∀ a, a ≠ 182 → a ≠ 183 → M2 a = M a := by
  have c1 := H.cw
  have key := G_lp (i := 0) (n := aW K) (I := fun i M1 => M1 182 0 = iI (aW K) ∧ e_ar (M1 183) i (fun p => 48 + rwK K p) ∧ ∀ a, a ≠ 182 → a ≠ 183 → M1 a = M a) (P := fun i M1 => ∃ M2 : e_MI, e_lim L xs (d + 1) 101 15 [some (.ref 182), some (.ref 1), some (.int (iI i))] [] (e_hp M1 V W) = some (.inl none, e_hp M2 V W, 0, 0) ∧ M2 182 0 = iI (aW K) ∧ e_ar (M2 183) (aW K) (fun p => 48 + rwK K p) ∧ ∀ a, a ≠ 182 → a ≠ 183 → M2 a = M a) (fun j M1 a b hI hc => ?_) (fun M1 hI => ?_) ha.1
  · obtain ⟨M2, e, r⟩ := key (e_u M 182 (upd (M 182) 0 (iI (aW K)))) ⟨by rw [e_u_s, upd_s], fun z a b => by omega, fun a x y => e_u_n _ _ x⟩
    refine ⟨M2, ?_, r⟩
    rw [← e]
    simp (disch := first | assumption | exact e_nk_i _ | exact e_nk_n | exact e_nk_r _ | exact e_bo_0 | exact e_bo_1 | exact e_bo_b _ | omega) only [e_cl_v, e_cl_x, e_add_0, e_add_s, Option.toList_some, Option.toList_none, List.cons_append, List.nil_append, iI_add, iI_sub, iI_mul, iI_lt, iI_eq, iI_le, r101_0, r101_1, r101_2, r101_5, r101_7, r101_10, r101_13, r101_14, c1, iI_mn]
    rw [show min (aW K) 16 = aW K by omega]
  · obtain ⟨i1, i2, i3⟩ := hI
    have r1 := hro j a b
    have e1 := m_atI (L := L) (xs := xs) (d := d) (M := M1) (V := V) (W := W) (v := iI (K (241 + j))) si_8 (z := j) a (by omega) (by rw [i3 8 (by decide) (by decide)]; exact H.ro a b)
    obtain ⟨k1, k2⟩ := i2c_48 (x := 48 + K (241 + j)) (by omega)
    have k3 : vp_nar .char (iI (48 + K (241 + j))) = iI (48 + K (241 + j)) := by
      unfold vp_nar
      rw [k2]
    obtain ⟨M2, e, r⟩ := hc (e_u M1 183 (upd (M1 183) j.toNat (iI (48 + K (241 + j))))) ⟨by rw [e_u_n _ _ (by decide), i1], by rw [e_u_s]; exact (i2.more (v := 48 + K (241 + j)) a).cong (fun z x y => by
      unfold uI
      by_cases hz : z = j
      · rw [if_pos hz, hz]
        rfl
      · rw [if_neg hz]), fun a x y => by rw [e_u_n _ _ y, i3 a x y]⟩
    refine ⟨M2, ?_, r⟩
    rw [← e, r101_15]
    simp (disch := first | assumption | exact e_nk_i _ | exact e_nk_n | exact e_nk_r _ | exact e_bo_0 | exact e_bo_1 | exact e_bo_b _ | omega) only [e_cl_v, e_cl_x, e_add_0, e_add_s, Option.toList_some, Option.toList_none, List.cons_append, List.nil_append, iI_add, iI_sub, iI_mul, iI_lt, iI_eq, iI_le, r101_16, r101_17, r101_20, r101_23, r101_24, r101_27, r101_28, r101_30, r101_31, r101_34, r101_35, r101_38, r101_39, i1, e1, k1]
    rw [if_pos b, r101_40 (by omega) (by omega), k3]
    simp (disch := first | assumption | exact e_nk_i _ | exact e_nk_n | exact e_nk_r _ | exact e_bo_0 | exact e_bo_1 | exact e_bo_b _ | omega) only [e_cl_v, e_cl_x, e_add_0, e_add_s, Option.toList_some, Option.toList_none, List.cons_append, List.nil_append, iI_add, iI_sub, iI_mul, iI_lt, iI_eq, iI_le, r101_41, r101_44]
  · obtain ⟨i1, i2, i3⟩ := hI
    refine ⟨M1, ?_, i1, i2, i3⟩
    rw [r101_15]
    simp (disch := first | assumption | exact e_nk_i _ | exact e_nk_n | exact e_nk_r _ | exact e_bo_0 | exact e_bo_1 | exact e_bo_b _ | omega) only [e_cl_v, e_cl_x, e_add_0, e_add_s, Option.toList_some, Option.toList_none, List.cons_append, List.nil_append, iI_add, iI_sub, iI_mul, iI_lt, iI_eq, iI_le, r101_16, r101_17, r101_20, r101_47, i1]
    rw [if_neg (by omega)]
theorem x_write (H : SH M 1 K) (hg : kG K) (Ht : TC M s er w U) : ∃ M2 : e_MI, e_lim L xs (d + 2) 142 0 [some (.ref 0)] [] (e_hp M V W) = some (.inl (some (.int (iI (aW K)))), e_hp M2 V W, 0, 0) ∧ TC M2 s er (aW K) (fun k => 48 + rwK K k) ∧ ∀ a, a ≠ 182 → a ≠ 183 → M2 a = M a := by
  obtain ⟨t1, t2, t3, t4, t5, t6, t7⟩ := id Ht
  have ha := hg.2.1.1
  have hro : ∀ p, 0 ≤ p → p < aW K → 0 ≤ K (241 + p) ∧ K (241 + p) ≤ 7 := fun p a b => hg.1.ro a (by omega)
  obtain ⟨M2, e1, g1, g2, g3⟩ := g_tell (L := L) (xs := xs) (d := d) (V := V) (W := W) H ha hro
  refine ⟨M2, ?_, ⟨by rw [g3 179 (by decide) (by decide)]; exact t1, t2, t3, by rw [g3 180 (by decide) (by decide)]; exact t4, by rw [g3 179 (by decide) (by decide)]; exact t5, ⟨g1, ha⟩, g2, fun j a b => ?_⟩, g3⟩
  · simp (disch := first | assumption | exact e_nk_i _ | exact e_nk_n | exact e_nk_r _ | exact e_bo_0 | exact e_bo_1 | exact e_bo_b _ | omega) only [e_cl_v, e_cl_x, e_add_0, e_add_s, Option.toList_some, Option.toList_none, List.cons_append, List.nil_append, iI_add, iI_sub, iI_mul, iI_lt, iI_eq, iI_le, r142_0, r142_1, r142_4, r142_5, r142_8, r142_11, r142_12, r142_15, r142_18, e1, g1]
  · have := hro j a b
    show 48 ≤ 48 + K (241 + j) ∧ 48 + K (241 + j) ≤ 55
    omega
theorem x_writtenAt (Ht : TC M s er w U) (hp : i32 p) : e_lim L xs (d + 2) 143 0 [some (.ref 0), some (.int (iI p))] [] (e_hp M V W) = if 0 ≤ p ∧ p ≤ w - 1 then some (.inl (some (.int (iI (U p)))), e_hp M V W, 0, 0) else some (.inr 2, e_hp M V W, 1, 6) := by
  obtain ⟨t1, t2, t3, t4, t5, ⟨t6, t7, t8⟩, t9, t10⟩ := id Ht
  have i1 := m_isWithin (L := L) (xs := xs) (d := d + 1) (h := e_hp M V W) (x := p) (y2 := 0) (z2 := w - 1) hp (by omega) (by omega)
  have r1 := m_requireIndex (L := L) (xs := xs) (d := d + 1) (h := e_hp M V W) (decide (0 ≤ p ∧ p ≤ w - 1))
  by_cases h1 : 0 ≤ p ∧ p ≤ w - 1
  · rw [if_pos (decide_eq_true h1)] at r1
    rw [if_pos h1]
    have e3 := t9 p h1.1 (by omega)
    obtain ⟨c1, c2⟩ := i2c_48 (t10 p h1.1 (by omega))
    have e4 : e_lim L xs (d + 1) 102 0 [some (.ref 182), some (.int (iI p))] [] (e_hp M V W) = some (.inl (some (.int (iI (U p)))), e_hp M V W, 0, 0) := by
      simp (disch := first | assumption | exact e_nk_i _ | exact e_nk_n | exact e_nk_r _ | exact e_bo_0 | exact e_bo_1 | exact e_bo_b _ | omega) only [e_cl_v, e_cl_x, e_add_0, e_add_s, Option.toList_some, Option.toList_none, List.cons_append, List.nil_append, iI_add, iI_sub, iI_mul, iI_lt, iI_eq, iI_le, r102_0, r102_1, r102_4, r102_5, r102_6, r102_9, r102_10, r102_13, r102_14, r102_17, r102_18, r102_19, r102_22, e3]
      rw [if_neg (by omega), if_pos (by omega)]
      rw [r102_23 c2]
    simp (disch := first | assumption | exact e_nk_i _ | exact e_nk_n | exact e_nk_r _ | exact e_bo_0 | exact e_bo_1 | exact e_bo_b _ | omega) only [e_cl_v, e_cl_x, e_add_0, e_add_s, Option.toList_some, Option.toList_none, List.cons_append, List.nil_append, iI_add, iI_sub, iI_mul, iI_lt, iI_eq, iI_le, r143_0, r143_1, r143_2, r143_3, r143_6, r143_9, r143_10, r143_11, r143_14, r143_17, r143_18, r143_21, r143_22, t6, i1, r1, e4]
    rw [r143_25 c2]
  · rw [if_neg (by rw [decide_eq_true_eq]; exact h1)] at r1
    rw [if_neg h1]
    simp (disch := first | assumption | exact e_nk_i _ | exact e_nk_n | exact e_nk_r _ | exact e_bo_0 | exact e_bo_1 | exact e_bo_b _ | omega) only [e_cl_v, e_cl_x, e_add_0, e_add_s, Option.toList_some, Option.toList_none, List.cons_append, List.nil_append, iI_add, iI_sub, iI_mul, iI_lt, iI_eq, iI_le, r143_0, r143_1, r143_2, r143_3, r143_6, r143_9, r143_10, r143_11, r143_14, t6, i1, r1]
end Ec47
