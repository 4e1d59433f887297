section E88
variable {L : Nat} {xs : Nat → Int32} {d : Nat} {M M2 M3 : e_MI} {V : e_ML} {W : e_MD} {K K2 : e_St} {h : e_H} {S : Int → e_St} {c cd n er w : Int} {s : Int × (Int → Int)} {ρ ω β ε τ T U : Int → Int} {r : Option e_R} {an : Int32}
/-- the reference's tape, its text -/
def TP (M : e_MI) (s : Int × (Int → Int)) (er w : Int) (U : Int → Int) : Prop := M 184 22 = iI s.1 ∧ s.1 ≤ 60 ∧ tpO s ∧ e_ar (M 199) s.1 s.2 ∧ (M 184 23 = iI er ∧ -1 ≤ er ∧ er ≤ 60) ∧ (M 184 26 = iI w ∧ 0 ≤ w ∧ w ≤ 16) ∧ e_ar (M 201) w U ∧ ∀ j, 0 ≤ j → j < w → 48 ≤ U j ∧ U j ≤ 55
theorem TP.p (H : TP M s er w U) (hF : frP M M2) : TP M2 s er w U := by
  unfold TP
  rw [hF.2.1.1, hF.2.1.2, hF.2.2.1, hF.2.2.2.1, hF.2.2.2.2]
  exact H
theorem RK.x (H : RK M K c S) (hF : frX M M2) : RK M2 K c S := H.of (hF.1 _ (by decide) (by decide)) (hF.1 _ (by decide) (by decide)) (hF.2 _ (by decide)) (H.s.of fun a x y => hF.1 a (by omega) (by omega))
def apW (a b e f g : Int32) (s : Int × (Int → Int)) : Int × (Int → Int) := tbX g (tbX f (tbX e (tbX b (tbX a s))))
def cdAp (a b e f g : Int32) (s : Int × (Int → Int)) : Int := if s.1 + (nB a + nB b + nB e + nB f + nB g) ≤ 60 then 0 else 1
theorem rf_append (H : RK M K c S) (Ht : TP M s er w U) {a b e f g : Int32} : ∃ (M2 : e_MI) (z : Int32), e_lim L xs (d + 1) 278 0 [some (.ref 184), some (.int a), some (.int b), some (.int e), some (.int f), some (.int g), none] [] (e_hp M V W) = some (.inl (some (.int z)), e_hp M2 V W, 0, 0) ∧ RK M2 K c S ∧ (∀ a, a < 184 → M2 a = M a) ∧ M2 184 0 = iI (cdAp a b e f g s) ∧ (cdAp a b e f g s = 0 → z = iI (apW a b e f g s).1 ∧ TP M2 (apW a b e f g s) er w U) ∧ (cdAp a b e f g s ≠ 0 → TP M2 s er w U) := by
  have h0 := mT_0 M
  have Ht1 := Ht.p (frQ_mT M).p
  obtain ⟨t1, t2, t3, t4, t5⟩ := Ht1
  have n1 := nB_rg a
  have n2 := nB_rg b
  have n3 := nB_rg e
  have n4 := nB_rg f
  have n5 := nB_rg g
  have ea := fun x : Int32 => mm_bytesIn (L := L) (xs := xs) (d := d) (h := e_hp (mT M) V W) (x := x)
  unfold cdAp
  by_cases h1 : s.1 + (nB a + nB b + nB e + nB f + nB g) ≤ 60
  · have e6 := mm_failsT (L := L) (xs := xs) (d := d) (V := V) (W := W) (e := 1) h0 (by omega)
    have s1 := tbX_n a s
    have s2 := tbX_n b (tbX a s)
    have s3 := tbX_n e (tbX b (tbX a s))
    have s4 := tbX_n f (tbX e (tbX b (tbX a s)))
    have s5 := tbX_n g (tbX f (tbX e (tbX b (tbX a s))))
    have o1 := tbX_o (x := a) t3
    have o2 := tbX_o (x := b) o1
    have o3 := tbX_o (x := e) o2
    have o4 := tbX_o (x := f) o3
    have o5 := tbX_o (x := g) o4
    obtain ⟨M1, b1, z1, T1, F1⟩ := mm_takesBytes (L := L) (xs := xs) (d := d) (V := V) (W := W) (x := a) t1 t3 t4 (by omega)
    obtain ⟨M2, b2, z2, T2, F2⟩ := mm_takesBytes (L := L) (xs := xs) (d := d) (V := V) (W := W) (x := b) z1 o1 T1 (by omega)
    obtain ⟨M3, b3, z3, T3, F3⟩ := mm_takesBytes (L := L) (xs := xs) (d := d) (V := V) (W := W) (x := e) z2 o2 T2 (by omega)
    obtain ⟨M4, b4, z4, T4, F4⟩ := mm_takesBytes (L := L) (xs := xs) (d := d) (V := V) (W := W) (x := f) z3 o3 T3 (by omega)
    obtain ⟨M5, b5, z5, T5, F5⟩ := mm_takesBytes (L := L) (xs := xs) (d := d) (V := V) (W := W) (x := g) z4 o4 T4 (by omega)
    have F : frX (mT M) M5 := (((F1.t F2).t F3).t F4).t F5
    have u := t3.1
    rw [if_pos h1]
    refine ⟨M5, iI (apW a b e f g s).1, ?_, H.mT.x F, fun q x => by rw [F.1 q (by omega) (by omega), mT_a M (by omega)], by rw [F.2 0 (by decide), h0], fun _ => ⟨rfl, z5, ?_, o5, T5, ?_, ?_, ?_⟩, fun q => absurd rfl q⟩
    · simp (disch := first | assumption | exact e_nk_i _ | exact e_nk_n | exact e_nk_r _ | exact e_bo_0 | exact e_bo_1 | exact e_bo_b _ | omega) only [e_cl_v, e_cl_x, e_add_0, e_add_s, Option.toList_some, Option.toList_none, List.cons_append, List.nil_append, iI_add, iI_sub, iI_mul, iI_lt, iI_eq, iI_le, r278_0, r278_1, r278_2, r278_5, r278_6, r278_9, r278_10, r278_13, r278_14, r278_15, r278_18, r278_19, r278_21, r278_24, r278_25, r278_27, r278_30, r278_31, r278_33, r278_34, r278_35, r278_38, r278_40, r278_41, r278_43, r278_46, r278_47, r278_50, r278_51, r278_52, r278_55, r278_58, r278_59, r278_60, r278_61, r278_62, r278_65, r278_66, r278_67, r278_70, r278_71, r278_72, r278_75, r278_76, r278_78, r278_81, r278_82, r278_84, r278_87, r278_88, r278_91, ea, e6, t1, b1, b2, b3, b4, b5, z5]
      rw [if_neg (by omega)]
      simp
      rfl
    · unfold apW
      omega
    · rw [F.2 23 (by decide)]
      exact t5.1
    · rw [F.2 26 (by decide)]
      exact t5.2.1
    · rw [F.1 201 (by decide) (by decide)]
      exact t5.2.2
  · have e6 := mm_failsF (L := L) (xs := xs) (d := d) (V := V) (W := W) (e := 1) h0 (by omega)
    rw [if_neg h1]
    refine ⟨mF (mT M) false 1, iI 0, ?_, H.mT.mF false 1, fun q x => by rw [mF_a _ _ _ (by omega), mT_a M (by omega)], mF_0 _ false 1 h0, fun q => by omega, fun _ => Ht.p ((frQ_mT M).t (frQ_mF _ false 1)).p⟩
    have u := t3.1
    simp (disch := first | assumption | exact e_nk_i _ | exact e_nk_n | exact e_nk_r _ | exact e_bo_0 | exact e_bo_1 | exact e_bo_b _ | omega) only [e_cl_v, e_cl_x, e_add_0, e_add_s, Option.toList_some, Option.toList_none, List.cons_append, List.nil_append, iI_add, iI_sub, iI_mul, iI_lt, iI_eq, iI_le, r278_0, r278_1, r278_2, r278_5, r278_6, r278_9, r278_10, r278_13, r278_14, r278_15, r278_18, r278_19, r278_21, r278_24, r278_25, r278_27, r278_30, r278_31, r278_33, r278_34, r278_35, r278_38, r278_40, r278_41, r278_43, r278_46, r278_47, r278_50, r278_51, r278_52, r278_55, r278_58, r278_59, r278_60, r278_61, r278_62, r278_65, r278_66, r278_67, r278_70, r278_71, r278_72, r278_75, r278_76, r278_78, r278_81, r278_82, r278_84, r278_87, r278_88, r278_91, ea, e6, t1]
    rw [if_pos (by omega)]
    all_goals first | (simp; done) | rfl | (simp; rfl)
theorem rf_clearTape (H : RK M K c S) (Ht : TP M s er w U) : ∃ M2 : e_MI, e_lim L xs d 279 0 [some (.ref 184), none] [] (e_hp M V W) = some (.inl (some (.int (iI s.1))), e_hp M2 V W, 0, 0) ∧ RK M2 K c S ∧ (∀ a, a < 184 → M2 a = M a) ∧ TP M2 (0, s.2) er w U := by
  have Ht1 := Ht.p (frQ_mT M).p
  obtain ⟨t1, t2, t3, t4, t5, t6, t7⟩ := Ht1
  have F : frX (mT M) (e_u (mT M) 184 (upd (mT M 184) 22 (iI 0))) := ⟨fun a x y => e_u_n _ _ x, fun j x => by rw [e_u_s, upd_n _ _ x]⟩
  refine ⟨e_u (mT M) 184 (upd (mT M 184) 22 (iI 0)), ?_, H.mT.x F, fun a x => by rw [F.1 a (by omega) (by omega), mT_a M (by omega)], by rw [e_u_s, upd_s], by show (0 : Int) ≤ 60; omega, ⟨Int.le_refl _, fun j a b => by have : j < 0 := b; omega⟩, fun j a b => by have : j < 0 := b; omega, by rw [F.2 23 (by decide)]; exact t5, by rw [F.2 26 (by decide)]; exact t6, by rw [F.1 201 (by decide) (by decide)]; exact t7⟩
  simp (disch := first | assumption | exact e_nk_i _ | exact e_nk_n | exact e_nk_r _ | exact e_bo_0 | exact e_bo_1 | exact e_bo_b _ | omega) only [e_cl_v, e_cl_x, e_add_0, e_add_s, Option.toList_some, Option.toList_none, List.cons_append, List.nil_append, iI_add, iI_sub, iI_mul, iI_lt, iI_eq, iI_le, r279_0, r279_1, r279_2, r279_5, r279_6, r279_9, r279_10, r279_11, r279_12, r279_15, r279_16, t1]
theorem rf_errorPosition (H : RK M K c S) (Ht : TP M s er w U) : AQ (e_lim L xs d 282 0 [some (.ref 184)] [] (e_hp M V W)) M V W K c S 0 (iI er) := by
  have Ht1 := Ht.p (frQ_mT M).p
  obtain ⟨t1, t2, t3, t4, t5, t6, t7⟩ := Ht1
  refine AQ.ok H rfl ?_
  simp (disch := first | assumption | exact e_nk_i _ | exact e_nk_n | exact e_nk_r _ | exact e_bo_0 | exact e_bo_1 | exact e_bo_b _ | omega) only [e_cl_v, e_cl_x, e_add_0, e_add_s, Option.toList_some, Option.toList_none, List.cons_append, List.nil_append, iI_add, iI_sub, iI_mul, iI_lt, iI_eq, iI_le, r282_0, r282_1, r282_2, r282_5, r282_6, r282_9, t5.1]
theorem rf_write (H : RK M K c S) (Ht : TP M s er w U) : ∃ M2 : e_MI, e_lim L xs (d + 2) 283 0 [some (.ref 184), none] [] (e_hp M V W) = some (.inl (some (.int (iI (aW K)))), e_hp M2 V W, 0, 0) ∧ RK M2 K c S ∧ (∀ a, a < 184 → M2 a = M a) ∧ TP M2 s er (aW K) (fun k => 48 + rwK K k) := by
  have hv := H.v.1
  have Ht1 := Ht.p (frQ_mT M).p
  obtain ⟨t1, t2, t3, t4, t5, t6, t7⟩ := Ht1
  have e1 := mm_all (L := L) (xs := xs) (d := d) (V := V) (W := W) H.mT.km H.r
  have key := G_lp (i := 0) (n := aW K) (I := fun i M1 => (∀ a, a ≠ 184 → a ≠ 201 → M1 a = M a) ∧ (∀ j, j ≠ 26 → M1 184 j = mT M 184 j) ∧ M1 184 26 = iI (aW K) ∧ e_ar (M1 201) i (fun k => 48 + rwK K k)) (P := fun i M1 => ∃ M2 : e_MI, e_lim L xs (d + 2) 283 15 [some (.ref 184), some (.int (iI i))] [] (e_hp M1 V W) = some (.inl (some (.int (iI (aW K)))), e_hp M2 V W, 0, 0) ∧ RK M2 K c S ∧ (∀ a, a < 184 → M2 a = M a) ∧ TP M2 s er (aW K) (fun k => 48 + rwK K k)) (fun j M1 a b hI hc => ?_) (fun M1 hI => ?_) hv.1 (e_u (mT M) 184 (upd (mT M 184) 26 (iI (aW K)))) ⟨fun a x y => by rw [e_u_n _ _ x, mT_a M x], fun j x => by rw [e_u_s, upd_n _ _ x], by rw [e_u_s, upd_s], fun z a b => by omega⟩
  · obtain ⟨M2, e, q⟩ := key
    refine ⟨M2, ?_, q⟩
    rw [← e]
    simp (disch := first | assumption | exact e_nk_i _ | exact e_nk_n | exact e_nk_r _ | exact e_bo_0 | exact e_bo_1 | exact e_bo_b _ | omega) only [e_cl_v, e_cl_x, e_add_0, e_add_s, Option.toList_some, Option.toList_none, List.cons_append, List.nil_append, iI_add, iI_sub, iI_mul, iI_lt, iI_eq, iI_le, r283_0, r283_1, r283_2, r283_5, r283_6, r283_7, r283_10, r283_13, r283_14, e1]
  · obtain ⟨i1, i2, i3, i4⟩ := hI
    have e2 := H.km (241 + j) (by omega) (by omega)
    rw [← i1 185 (by decide) (by decide)] at e2
    obtain ⟨M2, e, q⟩ := hc (e_u M1 201 (upd (M1 201) j.toNat (iI (48 + rwK K j)))) ⟨fun a x y => by rw [e_u_n _ _ y, i1 a x y], fun j x => by rw [e_u_n _ _ (by decide), i2 j x], by rw [e_u_n _ _ (by decide), i3], by rw [e_u_s]; exact i4.mr a⟩
    refine ⟨M2, ?_, q⟩
    rw [← e, r283_15]
    simp (disch := first | assumption | exact e_nk_i _ | exact e_nk_n | exact e_nk_r _ | exact e_bo_0 | exact e_bo_1 | exact e_bo_b _ | omega) only [e_cl_v, e_cl_x, e_add_0, e_add_s, Option.toList_some, Option.toList_none, List.cons_append, List.nil_append, iI_add, iI_sub, iI_mul, iI_lt, iI_eq, iI_le, r283_16, r283_17, r283_20, r283_23, r283_24, r283_27, r283_28, r283_30, r283_31, r283_34, r283_37, r283_38, r283_39, r283_40, r283_41, r283_42, r283_45, iI_vin, iI_nat, if_true, i3, e2]
    rw [if_pos b]
    rfl
  · obtain ⟨i1, i2, i3, i4⟩ := hI
    refine ⟨M1, ?_, ?_, fun a x => i1 a (by omega) (by omega), by rw [i2 22 (by decide)]; exact t1, t2, t3, by rw [i1 199 (by decide) (by decide)]; exact Ht.2.2.2.1, by rw [i2 23 (by decide)]; exact t5, ⟨i3, hv⟩, i4, fun j a b => ?_⟩
    · rw [r283_15]
      simp (disch := first | assumption | exact e_nk_i _ | exact e_nk_n | exact e_nk_r _ | exact e_bo_0 | exact e_bo_1 | exact e_bo_b _ | omega) only [e_cl_v, e_cl_x, e_add_0, e_add_s, Option.toList_some, Option.toList_none, List.cons_append, List.nil_append, iI_add, iI_sub, iI_mul, iI_lt, iI_eq, iI_le, r283_16, r283_17, r283_20, r283_48, r283_49, r283_52, i3]
      rw [if_neg (by omega)]
    · exact H.of (i1 _ (by decide) (by decide)) (i1 _ (by decide) (by decide)) (by rw [i2 3 (by decide), mT_j M (by decide)]) (H.s.of fun a x y => i1 a (by omega) (by omega))
    · have := H.r.ro (i := j) a (by omega)
      show 48 ≤ 48 + K (241 + j) ∧ 48 + K (241 + j) ≤ 55
      omega
theorem i2c_48 {x : Int} (h : 48 ≤ x ∧ x ≤ 55) : ((iI x).toUInt32 % 65536).toInt32 = iI x ∧ narrow .char (.int (iI x)) = .int (iI x) := by
  rcases (show x = 48 ∨ x = 49 ∨ x = 50 ∨ x = 51 ∨ x = 52 ∨ x = 53 ∨ x = 54 ∨ x = 55 by omega) with q | q | q | q | q | q | q | q <;> subst q <;> exact ⟨by decide, by rfl⟩
def cdWr (w p : Int) : Int := if 0 ≤ p ∧ p ≤ w - 1 then 0 else 1
theorem rf_writtenAt (H : RK M K c S) (Ht : TP M s er w U) {p : Int} (hp : i32 p) : AQ (e_lim L xs (d + 1) 284 0 [some (.ref 184), some (.int (iI p))] [] (e_hp M V W)) M V W K c S (cdWr w p) (iI (U p)) := by
  have h0 := mT_0 M
  have Ht1 := Ht.p (frQ_mT M).p
  obtain ⟨t1, t2, t3, t4, t5, ⟨t6, t7, t8⟩, t9, t10⟩ := Ht1
  unfold cdWr
  by_cases h1 : 0 ≤ p ∧ p ≤ w - 1
  · have e1 := mm_inT (L := L) (xs := xs) (d := d) (h := e_hp (mT M) V W) h1 (by omega) (by omega)
    have e2 := mm_failsT (L := L) (xs := xs) (d := d) (V := V) (W := W) (e := 1) h0 (by omega)
    have e3 := t9 p h1.1 (by omega)
    obtain ⟨c1, c2⟩ := i2c_48 (t10 p h1.1 (by omega))
    rw [if_pos h1]
    refine AQ.ok H rfl ?_
    simp (disch := first | assumption | exact e_nk_i _ | exact e_nk_n | exact e_nk_r _ | exact e_bo_0 | exact e_bo_1 | exact e_bo_b _ | omega) only [e_cl_v, e_cl_x, e_add_0, e_add_s, Option.toList_some, Option.toList_none, List.cons_append, List.nil_append, iI_add, iI_sub, iI_mul, iI_lt, iI_eq, iI_le, r284_0, r284_1, r284_2, r284_5, r284_6, r284_7, r284_8, r284_9, r284_12, r284_13, r284_14, r284_17, r284_18, r284_21, r284_24, r284_26, r284_29, r284_30, r284_33, r284_34, r284_35, t6, e1, e2, iI_vin, iI_nat, if_true, e3, c1]
    rw [r284_36 c2]
  · have e1 := mm_inF (L := L) (xs := xs) (d := d) (h := e_hp (mT M) V W) h1 hp (by omega) (by omega)
    have e2 := mm_failsF (L := L) (xs := xs) (d := d) (V := V) (W := W) (e := 1) h0 (by omega)
    have e3 : narrow .char (.int (iI 32)) = .int (iI 32) := rfl
    rw [if_neg h1]
    refine AQ.bad H 1 (iI 32) (by omega) rfl ?_
    simp (disch := first | assumption | exact e_nk_i _ | exact e_nk_n | exact e_nk_r _ | exact e_bo_0 | exact e_bo_1 | exact e_bo_b _ | omega) only [e_cl_v, e_cl_x, e_add_0, e_add_s, Option.toList_some, Option.toList_none, List.cons_append, List.nil_append, iI_add, iI_sub, iI_mul, iI_lt, iI_eq, iI_le, r284_0, r284_1, r284_2, r284_5, r284_6, r284_7, r284_8, r284_9, r284_12, r284_13, r284_14, r284_17, r284_18, r284_21, r284_24, r284_26, t6, e1, e2]
    rw [r284_36 e3]
    simp
end E88
