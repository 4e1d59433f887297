section Ec67
variable {L : Nat} {xs : Nat → Int32} {d : Nat} {M M2 M3 : e_MI} {V V2 : e_ML} {W : e_MD} {K K1 K2 : e_St} {S : Int → e_St} {h : e_H} {c o w z m k q p i f e j x y v N b : Int} {χ : Int → Bool} {n s : Nat} {g t : Int → Int} {G : (Int → Bool) → Int → Prop}
/-! no row is better than the class's, in the class -/
theorem or_of (h : OR M K m w) (hf : ∀ a, a ≠ 178 → M2 a = M a) : OR M2 K m w := by
  unfold OR at h ⊢
  rw [hf 171 (by decide), hf 169 (by decide), hf 170 (by decide)]
  exact h
theorem wtF_nn (hr : kR K) {l : List Int} (hl : ∀ x ∈ l, 0 ≤ x ∧ x < K 310) : ∀ k : Nat, k ≤ l.length → 0 ≤ (wtF K m l k).2
  | 0, _ => Int.le_refl _
  | k + 1, h => by
    have ih := wtF_nn hr hl k (by omega)
    have r0 := wtF_rg (m := m) hr hl (k + 1) h
    have hn := hr.n
    have hx := hl _ (getD_mem (l := l) (i := k) (by omega))
    have rw := hr.we (o := l.getD k 0) hx.1 (by omega)
    have e : (wtF K m l (k + 1)).2 = (wtF K m l k).2 + K (32 + l.getD k 0) * (wtF K m l (k + 1)).1 := rfl
    have := Int.mul_nonneg rw.1 r0.1
    omega
theorem q_countMachines (H : SH M 1 K) (hr : kR K) : ∃ M2 : e_MI, e_lim L xs (d + 5) 53 0 [some (.ref 177), some (.ref 1), some (.ref 169), none, none] [] (e_hp M V W) = some (.inl (some (.int (iI 0))), e_hp M2 V W, 0, 0) ∧ ∀ a, a < 169 ∨ 178 < a → M2 a = M a := by
  have key := G_lp (i := 0) (n := 4) (I := fun i M1 => ∀ a, a < 169 ∨ 178 < a → M1 a = M a) (P := fun i M1 => ∃ M2 : e_MI, e_lim L xs (d + 5) 53 5 [some (.ref 177), some (.ref 1), some (.ref 169), some (.int (iI 0)), some (.int (iI i))] [] (e_hp M1 V W) = some (.inl (some (.int (iI 0))), e_hp M2 V W, 0, 0) ∧ ∀ a, a < 169 ∨ 178 < a → M2 a = M a) (fun j M1 x y hI hc => ?_) (fun M1 hI => ?_) (by omega) M (fun _ _ => rfl)
  · obtain ⟨M2, e, r⟩ := key
    refine ⟨M2, ?_, r⟩
    rw [← e]
    simp (disch := first | assumption | exact e_nk_i _ | exact e_nk_n | exact e_nk_r _ | exact e_bo_0 | exact e_bo_1 | exact e_bo_b _ | omega) only [e_cl_v, e_cl_x, e_add_0, e_add_s, Option.toList_some, Option.toList_none, List.cons_append, List.nil_append, iI_add, iI_sub, iI_mul, iI_lt, iI_eq, iI_le, r53_0, r53_1, r53_2, r53_3]
  · have H1 : SH M1 1 K := H.of fun a x y => hI a (by omega)
    obtain ⟨Ma, ea, Ra, fa⟩ := o_arrange (L := L) (xs := xs) (d := d) (V := V) (W := W) H1 hr (m := j) (by omega) (w := 0) (by omega)
    have hlen := wyL_lenB K j 0
    have ca := Ra.2.1
    by_cases hc0 : 0 < (wyL K j 0).length ∧ (wyL K j 0).length ≤ 6
    · have Ha : SH Ma 1 K := H1.of fun a x y => fa a (by omega)
      obtain ⟨Mb, bb, eb, rb, lb, fb⟩ := q_bestOfOne (L := L) (xs := xs) (d := d) (V := V) (W := W) Ha hr (by omega) Ra hc0.1 hc0.2
      have Hb : SH Mb 1 K := Ha.of fun a x y => fb a (by omega)
      have Rb := or_of Ra fb
      have gi0 := wyL_in hr j 0
      have es := o_sumEnds (L := L) (xs := xs) (d := d + 2) (V := V) (W := W) Hb hr Rb.2.2.2 gi0.2 gi0.1 Rb.1 Rb.2.1
      obtain ⟨Mc, ec, Rc, fc⟩ := o_arrange (L := L) (xs := xs) (d := d) (V := V) (W := W) Hb hr (m := j) (by omega) (w := 1) (by omega)
      have Hc : SH Mc 1 K := Hb.of fun a x y => fc a (by omega)
      have hlen1 := wyL_lenB K j 1
      obtain ⟨Md, bd, ed, rd, ld, fd⟩ := q_bestOfOne (L := L) (xs := xs) (d := d) (V := V) (W := W) Hc hr (by omega) Rc (by omega) (by omega)
      have Hd : SH Md 1 K := Hc.of fun a x y => fd a (by omega)
      have Rd := or_of Rc fd
      have gi1 := wyL_in hr j 1
      have et := o_lateness (L := L) (xs := xs) (d := d + 2) (V := V) (W := W) Hd hr Rd.2.2.2 gi1.2 gi1.1 Rd.1 Rd.2.1
      obtain ⟨Me, ee, Re, fe⟩ := o_arrange (L := L) (xs := xs) (d := d) (V := V) (W := W) Hd hr (m := j) (by omega) (w := 2) (by omega)
      have He : SH Me 1 K := Hd.of fun a x y => fe a (by omega)
      have hlen2 := wyL_lenB K j 2
      obtain ⟨Mf, bf, ef, rf, lf, ff⟩ := q_bestOfOne (L := L) (xs := xs) (d := d) (V := V) (W := W) He hr (by omega) Re (by omega) (by omega)
      have Rf := or_of Re ff
      have cg := Rf.2.2.1 rfl
      have a0 : anG K j 0 = (wtF K j (wyL K j 0) (wyL K j 0).length).2 := rfl
      have a1 : anG K j 1 = (ltF K j (wyL K j 1) (wyL K j 1).length).2 := rfl
      have a2 : anG K j 2 = ((goW K j).2.length : Int) := rfl
      have r2 := goW_len hr (m := j)
      rw [← a0] at es
      rw [← a1] at et
      rw [← a2] at cg
      have q0 : -1000000 ≤ anG K j 0 := by
        have := wtF_nn (m := j) hr gi0.1 _ (Nat.le_refl _)
        omega
      have q1 : -1000000 ≤ anG K j 1 := by
        have := ltF_rg hr (m := j) (l := wyL K j 1) (fun x hx => by have := gi1.1 x hx; have := hr.n; omega) _ (Nat.le_refl _)
        omega
      obtain ⟨M2, e, r⟩ := hc Mf (fun a y => by rw [ff a (by omega), fe a (by omega), fd a (by omega), fc a (by omega), fb a (by omega), fa a (by omega), hI a y])
      refine ⟨M2, ?_, r⟩
      rw [← e, r53_5]
      generalize anG K j 0 = A0 at *
      generalize anG K j 1 = A1 at *
      generalize anG K j 2 = A2 at *
      simp (disch := first | assumption | exact e_nk_i _ | exact e_nk_n | exact e_nk_r _ | exact e_bo_0 | exact e_bo_1 | exact e_bo_b _ | omega) only [e_cl_v, e_cl_x, e_add_0, e_add_s, Option.toList_some, Option.toList_none, List.cons_append, List.nil_append, iI_add, iI_sub, iI_mul, iI_lt, iI_eq, iI_le, r53_7, r53_8, r53_11, r53_12, r53_13, r53_15, r53_16, r53_19, r53_20, r53_23, r53_26, r53_27, r53_30, r53_32, r53_35, r53_36, r53_37, r53_38, r53_39, r53_40, r53_43, r53_44, r53_45, r53_48, r53_51, r53_52, r53_55, r53_56, r53_57, r53_58, r53_59, r53_60, r53_62, r53_63, r53_66, r53_67, r53_68, r53_69, r53_70, r53_71, r53_74, r53_75, r53_76, r53_79, r53_82, r53_83, r53_86, r53_87, r53_88, r53_89, r53_90, r53_91, r53_93, r53_94, r53_97, r53_98, r53_99, r53_100, r53_101, r53_102, r53_105, r53_106, r53_109, r53_112, r53_113, r53_116, r53_117, r53_118, r53_119, r53_122, ea, ca, eb, es, ec, ed, et, ee, ef, cg]
      rw [if_pos y, if_neg (by omega), if_neg (by omega), if_neg (by omega), if_neg (by omega), if_neg (by omega)]
      rfl

    · have gi0 := wyL_in hr j 0
      obtain ⟨M2, e, r⟩ := hc Ma (fun a y => by rw [fa a (by omega), hI a y])
      refine ⟨M2, ?_, r⟩
      rw [← e, r53_5]
      simp (disch := first | assumption | exact e_nk_i _ | exact e_nk_n | exact e_nk_r _ | exact e_bo_0 | exact e_bo_1 | exact e_bo_b _ | omega) only [e_cl_v, e_cl_x, e_add_0, e_add_s, Option.toList_some, Option.toList_none, List.cons_append, List.nil_append, iI_add, iI_sub, iI_mul, iI_lt, iI_eq, iI_le, r53_7, r53_8, r53_11, r53_12, r53_13, r53_15, r53_16, r53_19, r53_20, r53_23, r53_26, r53_27, r53_30, r53_32, r53_119, r53_122, ea, ca]
      rw [if_pos y]
      by_cases hq : ((wyL K j 0).length : Int) ≤ 0
      · rw [if_pos hq]
      · rw [if_neg hq, if_pos (by omega)]
  · refine ⟨M1, ?_, hI⟩
    rw [r53_5]
    simp (disch := first | assumption | exact e_nk_i _ | exact e_nk_n | exact e_nk_r _ | exact e_bo_0 | exact e_bo_1 | exact e_bo_b _ | omega) only [e_cl_v, e_cl_x, e_add_0, e_add_s, Option.toList_some, Option.toList_none, List.cons_append, List.nil_append, iI_add, iI_sub, iI_mul, iI_lt, iI_eq, iI_le, r53_7, r53_8, r53_125, r53_126]
    simp
/-- what is held of a set of places, two machines -/
def GP (K : e_St) (m q : Int) (χ : Int → Bool) (b : Int) : Prop := TGx (fun i => tO K (lx (twoL K m q) i) m) (fun i => tO K (lx (twoL K m q) i) q) ((twoL K m q).length : Int) χ b
theorem gp_0 (K : e_St) (m q : Int) : GP K m q (sB 0) 0 := ⟨Int.le_refl _, fun i a b c => by
  rw [sB_0] at c
  cases c⟩
theorem q_bestOfPairSet (hr : kR K) (hR : WR M K m q) (h6 : (twoL K m q).length ≤ 6) (hs : 0 < s ∧ s < 2 ^ (twoL K m q).length) (hT : TB M (GP K m q) ((twoL K m q).length : Int) s) : ∃ b, e_lim L xs (d + 1) 59 0 [some (.ref 177), some (.ref 173), some (.int (iI (s : Int))), none, none, none, none, none] [] (e_hp M V W) = some (.inl (some (.int (iI b))), e_hp M V W, 0, 0) ∧ (-1000000 ≤ b ∧ b ≤ 17496 * TSx (fun _ => 1) (sB s) ((twoL K m q).length : Int)) ∧ GP K m q (sB s) b := by
  obtain ⟨g1, g2, g3, g4⟩ := hR
  have gi := twoL_in hr m q
  have hn := hr.n
  have hs64 : s < 64 := by
    have := sb_le _ h6
    omega
  have hnz := sb_nz _ h6 s hs.2 (by omega)
  have hstep := fun (b j : Int) hj hχ h => tw_step (K := K) (m := m) (q := q) (χ := sB s) (b := b) (j := j) hr hj hχ h
  have hstep2 : ∀ (b j : Int), 0 ≤ j ∧ j < ((twoL K m q).length : Int) → sB s j = true → GP K m q (dl (sB s) j) b → GP K m q (sB s) (max (TSx (fun i => tO K (lx (twoL K m q) i) m) (sB s) ((twoL K m q).length : Int)) b + tO K (lx (twoL K m q) j) q) := hstep
  clear hstep
  generalize twoL K m q = l at *
  have hin := fun i (a : 0 ≤ i) (b : i < (l.length : Int)) => lx_in gi.1 ⟨a, b⟩
  have ht : ∀ i, 0 ≤ i → i < (l.length : Int) → 0 ≤ tO K (lx l i) m ∧ tO K (lx l i) m ≤ 324 := fun i a b => by
    have := hin i a b
    exact tO_rg hr (by omega)
  have hat : ∀ i, 0 ≤ i → i < (l.length : Int) → M 176 i.toNat = iI (lx l i) := fun i a b => la_get g1 (by omega)
  have rE := ts_up (χ := sB s) (n := l.length) ht (by omega)
  have r1 := ts_up (χ := sB s) (n := l.length) (g := fun _ => 1) (c := 1) (fun i a b => by omega) (by omega)
  obtain ⟨E, hE⟩ : ∃ E, E = TSx (fun i => tO K (lx l i) m) (sB s) (l.length : Int) := ⟨_, rfl⟩
  rw [← hE] at rE hstep2
  have key := G_lpG (T := Int) (i := 0) (n := (l.length : Int)) (I := fun i b => (b = 1000000 ∧ ∀ k, 0 ≤ k → k < i → sB s k = false) ∨ ((-1000000 ≤ b ∧ b ≤ 17496 * TSx (fun _ => 1) (sB s) (l.length : Int)) ∧ GP K m q (sB s) b)) (P := fun i b => ∃ b2, e_lim L xs (d + 1) 59 59 [some (.ref 177), some (.ref 173), some (.int (iI (s : Int))), some (.int (iI E)), some (.int (iI b)), some (.int (iI i)), none, none] [] (e_hp M V W) = some (.inl (some (.int (iI b2))), e_hp M V W, 0, 0) ∧ (-1000000 ≤ b2 ∧ b2 ≤ 17496 * TSx (fun _ => 1) (sB s) (l.length : Int)) ∧ GP K m q (sB s) b2) (fun j b x y hI hc => ?_) (fun b hI => ?_) (by omega) 1000000 (Or.inl ⟨rfl, fun k a b => by omega⟩)
  · obtain ⟨b2, e, r⟩ := key
    refine ⟨b2, ?_, r⟩
    simp (disch := first | assumption | exact e_nk_i _ | exact e_nk_n | exact e_nk_r _ | exact e_bo_0 | exact e_bo_1 | exact e_bo_b _ | omega) only [e_cl_v, e_cl_x, e_add_0, e_add_s, Option.toList_some, Option.toList_none, List.cons_append, List.nil_append, iI_add, iI_sub, iI_mul, iI_lt, iI_eq, iI_le, r59_0, r59_1, r59_2, r59_3]
    refine G_loopI (C := fun i => e_lim L xs (d + 1) 59 5 [some (.ref 177), some (.ref 173), some (.int (iI (s : Int))), some (.int (iI (TSx (fun i => tO K (lx l i) m) (sB s) i))), some (.int (iI i)), none, none, none] [] (e_hp M V W)) (i := 0) (n := (l.length : Int)) (by omega) (fun j x y hc => ?_) ?_
    · have hj := hin j x y
      have e1 := q_isIn (L := L) (xs := xs) (d := d) (h := e_hp M V W) hs64 (i := j) ⟨x, by omega⟩
      have e2 := m_atI (L := L) (xs := xs) (d := d) (M := M) (V := V) (W := W) (v := iI (lx l j)) si_176 (z := j) x (by omega) (hat j x y)
      have e3 := m_atI (L := L) (xs := xs) (d := d) (M := M) (V := V) (W := W) (v := iI (tO K (lx l j) m)) si_174 (z := lx l j) hj.1 (by omega) (g3 _ hj.1 hj.2)
      rw [ts_s _ _ x] at hc
      rw [← hc, r59_5]
      cases hb : sB s j with
      | true =>
        rw [hb, bI_t] at e1
        simp (disch := first | assumption | exact e_nk_i _ | exact e_nk_n | exact e_nk_r _ | exact e_bo_0 | exact e_bo_1 | exact e_bo_b _ | omega) only [e_cl_v, e_cl_x, e_add_0, e_add_s, Option.toList_some, Option.toList_none, List.cons_append, List.nil_append, iI_add, iI_sub, iI_mul, iI_lt, iI_eq, iI_le, r59_7, r59_8, r59_11, r59_14, r59_15, r59_16, r59_18, r59_21, r59_24, r59_25, r59_28, r59_29, r59_32, r59_34, r59_37, r59_40, r59_43, r59_44, r59_45, r59_46, r59_49, g2, e1, e2, e3]
        rw [if_pos (by omega)]
        simp
      | false =>
        rw [hb, bI_f] at e1
        simp (disch := first | assumption | exact e_nk_i _ | exact e_nk_n | exact e_nk_r _ | exact e_bo_0 | exact e_bo_1 | exact e_bo_b _ | omega) only [e_cl_v, e_cl_x, e_add_0, e_add_s, Option.toList_some, Option.toList_none, List.cons_append, List.nil_append, iI_add, iI_sub, iI_mul, iI_lt, iI_eq, iI_le, r59_7, r59_8, r59_11, r59_14, r59_15, r59_16, r59_18, r59_21, r59_24, r59_25, r59_28, r59_29, r59_32, r59_34, r59_37, r59_40, r59_43, r59_44, r59_45, r59_46, r59_49, g2, e1]
        rw [if_pos (by omega)]
        simp
    · rw [← hE, r59_5]
      simp (disch := first | assumption | exact e_nk_i _ | exact e_nk_n | exact e_nk_r _ | exact e_bo_0 | exact e_bo_1 | exact e_bo_b _ | omega) only [e_cl_v, e_cl_x, e_add_0, e_add_s, Option.toList_some, Option.toList_none, List.cons_append, List.nil_append, iI_add, iI_sub, iI_mul, iI_lt, iI_eq, iI_le, r59_7, r59_8, r59_11, r59_52, r59_54, r59_56, r59_57, g2]
      rw [if_neg (by omega)]
      exact G_less (by repeat (first | exact e_ll.rf | refine e_ll_c ?_ | refine e_ll_x ?_)) e
  · have hj := hin j x y
    have e1 := q_isIn (L := L) (xs := xs) (d := d) (h := e_hp M V W) hs64 (i := j) ⟨x, by omega⟩
    cases hb : sB s j with
    | false =>
      rw [hb, bI_f] at e1
      obtain ⟨b2, e, r⟩ := hc b (by
        rcases hI with ⟨h1, h2⟩ | h1
        · exact Or.inl ⟨h1, fun k u v => by
            by_cases hk : k = j
            · rw [hk]
              exact hb
            · exact h2 k u (by omega)⟩
        · exact Or.inr h1)
      refine ⟨b2, ?_, r⟩
      rw [← e, r59_59]
      simp (disch := first | assumption | exact e_nk_i _ | exact e_nk_n | exact e_nk_r _ | exact e_bo_0 | exact e_bo_1 | exact e_bo_b _ | omega) only [e_cl_v, e_cl_x, e_add_0, e_add_s, Option.toList_some, Option.toList_none, List.cons_append, List.nil_append, iI_add, iI_sub, iI_mul, iI_lt, iI_eq, iI_le, r59_61, r59_62, r59_65, r59_68, r59_69, r59_71, r59_74, r59_126, r59_129, g2, e1]
      rw [if_pos (by omega)]
      simp
    | true =>
      rw [hb, bI_t] at e1
      obtain ⟨⟨p1, p2⟩, hdl⟩ := sB_dl hs64 (j := j) ⟨x, by omega⟩ hb
      have hsh := sb_shl j.toNat (by omega)
      rw [Int.toNat_of_nonneg x] at hsh
      obtain ⟨bf, hbf, rb, hG⟩ := hT (s - 2 ^ j.toNat) (by omega)
      rw [hdl] at rb hG
      have h1 := ts_hiI (fun _ => 1) x y hb
      try simp only at h1
      have r2 := ts_up (χ := dl (sB s) j) (n := l.length) (g := fun _ => 1) (c := 1) (fun i a b => by omega) (by omega)
      have hv := hstep2 bf j ⟨x, y⟩ hb hG
      have rq := tO_rg hr (o := lx l j) (m := q) (by omega)
      have e2 := m_atI (L := L) (xs := xs) (d := d) (M := M) (V := V) (W := W) (v := iI (lx l j)) si_176 (z := j) x (by omega) (hat j x y)
      have e3 := m_atI (L := L) (xs := xs) (d := d) (M := M) (V := V) (W := W) (v := iI bf) si_178 (z := (s : Int) - ((2 ^ j.toNat : Nat) : Int)) (by omega) (by omega) (by rw [show ((s : Int) - ((2 ^ j.toNat : Nat) : Int)).toNat = s - 2 ^ j.toNat by omega]; exact hbf)
      have e4 := m_atI (L := L) (xs := xs) (d := d) (M := M) (V := V) (W := W) (v := iI (tO K (lx l j) q)) si_175 (z := lx l j) hj.1 (by omega) (g4 _ hj.1 hj.2)
      generalize tO K (lx l j) q = tq at *
      generalize lx l j = oj at *
      generalize ((2 ^ j.toNat : Nat) : Int) = P at *
      have rv : -1000000 ≤ max E bf + tq ∧ max E bf + tq ≤ 17496 * TSx (fun _ => 1) (sB s) (l.length : Int) := by omega
      obtain ⟨b2, e, r⟩ := hc (min b (max E bf + tq)) (by
        refine Or.inr ?_
        rcases hI with ⟨h1, h2⟩ | ⟨q1, q2⟩
        · rw [show min b (max E bf + tq) = max E bf + tq by omega]
          exact ⟨rv, hv⟩
        · by_cases hq : b ≤ max E bf + tq
          · rw [show min b (max E bf + tq) = b by omega]
            exact ⟨q1, q2⟩
          · rw [show min b (max E bf + tq) = max E bf + tq by omega]
            exact ⟨rv, hv⟩)
      have e' := G_less (l := [some (.ref 177), some (.ref 173), some (.int (iI (s : Int))), some (.int (iI E)), some (.int (iI (min b (max E bf + tq)))), some (.int (iI (j + 1))), some (.int (iI bf)), some (.int (iI oj))]) (by repeat (first | exact e_ll.rf | refine e_ll_c ?_ | refine e_ll_x ?_)) e
      refine ⟨b2, ?_, r⟩
      rw [← e', r59_59]
      simp (disch := first | assumption | exact e_nk_i _ | exact e_nk_n | exact e_nk_r _ | exact e_bo_0 | exact e_bo_1 | exact e_bo_b _ | omega) only [e_cl_v, e_cl_x, e_add_0, e_add_s, Option.toList_some, Option.toList_none, List.cons_append, List.nil_append, iI_add, iI_sub, iI_mul, iI_lt, iI_eq, iI_le, r59_61, r59_62, r59_65, r59_68, r59_69, r59_71, r59_74, r59_77, r59_78, r59_81, r59_82, r59_83, r59_85, r59_86, r59_87, r59_90, r59_92, r59_93, r59_96, r59_98, r59_101, r59_103, r59_105, r59_106, r59_108, r59_111, r59_112, r59_115, r59_117, r59_120, r59_121, r59_124, r59_126, r59_129, g2, e1, e2, hsh, e3, e4, iI_mx, iI_mn]
      rw [if_pos (by omega)]
      simp
  · rcases hI with ⟨h1, h2⟩ | ⟨h1, h2⟩
    · exfalso
      obtain ⟨j, j1, j2⟩ := hnz
      have := h2 (j : Int) (by omega) (by omega)
      rw [sB_eq ⟨by omega, by omega⟩, Int.toNat_natCast, j2] at this
      cases this
    · refine ⟨b, ?_, h1, h2⟩
      rw [r59_59]
      simp (disch := first | assumption | exact e_nk_i _ | exact e_nk_n | exact e_nk_r _ | exact e_bo_0 | exact e_bo_1 | exact e_bo_b _ | omega) only [e_cl_v, e_cl_x, e_add_0, e_add_s, Option.toList_some, Option.toList_none, List.cons_append, List.nil_append, iI_add, iI_sub, iI_mul, iI_lt, iI_eq, iI_le, r59_61, r59_62, r59_65, r59_132, r59_134, g2]
      rw [if_neg (by omega)]
theorem wr_of (h : WR M K m q) (hf : ∀ a, a ≠ 178 → M2 a = M a) : WR M2 K m q := by
  unfold WR at h ⊢
  rw [hf 176 (by decide), hf 173 (by decide), hf 174 (by decide), hf 175 (by decide)]
  exact h
theorem q_bestOfTwo (hr : kR K) (hR : WR M K m q) (h6 : (twoL K m q).length ≤ 6) : ∃ (M2 : e_MI) (b : Int), e_lim L xs (d + 2) 58 0 [some (.ref 177), some (.ref 173), none, none] [] (e_hp M V W) = some (.inl (some (.int (iI b))), e_hp M2 V W, 0, 0) ∧ (-1000000 ≤ b ∧ b ≤ 1000000) ∧ twW K m q ≤ b ∧ ∀ a, a ≠ 178 → M2 a = M a := by
  have hle := sb_le _ h6
  have g2 := hR.2.1
  have hfull := sb_full _ h6
  have hsh := sb_shl (twoL K m q).length (by omega)
  have h00 := gp_0 K m q
  generalize hP : 2 ^ (twoL K m q).length = P at *
  have key := G_lp (i := 1) (n := (P : Int)) (I := fun i M1 => TB M1 (GP K m q) ((twoL K m q).length : Int) i.toNat ∧ ∀ a, a ≠ 178 → M1 a = M a) (P := fun i M1 => ∃ (M2 : e_MI) (b : Int), e_lim L xs (d + 2) 58 18 [some (.ref 177), some (.ref 173), some (.int (iI (P : Int))), some (.int (iI i))] [] (e_hp M1 V W) = some (.inl (some (.int (iI b))), e_hp M2 V W, 0, 0) ∧ (-1000000 ≤ b ∧ b ≤ 1000000) ∧ twW K m q ≤ b ∧ ∀ a, a ≠ 178 → M2 a = M a) (fun j M1 x y hI hc => ?_) (fun M1 hI => ?_) (by omega) (e_u M 178 (upd (M 178) 0 (iI 0))) ⟨fun s2 h2 => ?_, fun a y => e_u_n _ _ y⟩
  · obtain ⟨M2, b, e, r⟩ := key
    refine ⟨M2, b, ?_, r⟩
    have e1 := m_putI (L := L) (xs := xs) (d := d + 1) (M := M) (V := V) (W := W) (v := iI 0) si_178 (z := 0) (by omega) (by omega)
    rw [← e]
    simp (disch := first | assumption | exact e_nk_i _ | exact e_nk_n | exact e_nk_r _ | exact e_bo_0 | exact e_bo_1 | exact e_bo_b _ | omega) only [e_cl_v, e_cl_x, e_add_0, e_add_s, Option.toList_some, Option.toList_none, List.cons_append, List.nil_append, iI_add, iI_sub, iI_mul, iI_lt, iI_eq, iI_le, r58_0, r58_1, r58_2, r58_5, r58_6, r58_7, r58_8, r58_11, r58_12, r58_13, r58_16, r58_17, g2, hsh, e1]
    simp
  · obtain ⟨i1, i2⟩ := hI
    have hR1 := wr_of hR i2
    obtain ⟨s, hs⟩ : ∃ s : Nat, j = (s : Int) := ⟨j.toNat, by omega⟩
    subst hs
    rw [Int.toNat_natCast] at i1
    obtain ⟨b, e1, rb, hG⟩ := q_bestOfPairSet (L := L) (xs := xs) (d := d) (V := V) (W := W) hr hR1 h6 (s := s) ⟨by omega, by rw [hP]; omega⟩ i1
    have e2 := m_putI (L := L) (xs := xs) (d := d + 1) (M := M1) (V := V) (W := W) (v := iI b) si_178 (z := (s : Int)) (by omega) (by omega)
    rw [Int.toNat_natCast] at e2
    obtain ⟨M2, b2, e, r⟩ := hc (e_u M1 178 (upd (M1 178) s (iI b))) ⟨by
      rw [show ((s : Int) + 1).toNat = s + 1 by omega]
      exact i1.up rb hG, fun a y => by rw [e_u_n _ _ y, i2 a y]⟩
    refine ⟨M2, b2, ?_, r⟩
    rw [← e, r58_18]
    simp (disch := first | assumption | exact e_nk_i _ | exact e_nk_n | exact e_nk_r _ | exact e_bo_0 | exact e_bo_1 | exact e_bo_b _ | omega) only [e_cl_v, e_cl_x, e_add_0, e_add_s, Option.toList_some, Option.toList_none, List.cons_append, List.nil_append, iI_add, iI_sub, iI_mul, iI_lt, iI_eq, iI_le, r58_19, r58_20, r58_23, r58_24, r58_27, r58_28, r58_29, r58_30, r58_31, r58_34, r58_37, r58_40, e1, e2]
    rw [if_pos (by omega)]
  · obtain ⟨i1, i2⟩ := hI
    rw [Int.toNat_natCast] at i1
    obtain ⟨b, hb, rb, hG⟩ := i1 (P - 1) (by omega)
    have r1 := ts_up (χ := sB (P - 1)) (n := (twoL K m q).length) (g := fun _ => 1) (c := 1) (fun i a b => by omega) (by omega)
    have hf := tg_full hr (fun i a b => by
      rw [sB_eq ⟨a, by omega⟩]
      exact hfull i.toNat (by omega)) hG
    have e1 := m_atI (L := L) (xs := xs) (d := d + 1) (M := M1) (V := V) (W := W) (v := iI b) si_178 (z := (P : Int) - 1) (by omega) (by omega) (by rw [show ((P : Int) - 1).toNat = P - 1 by omega]; exact hb)
    refine ⟨M1, b, ?_, by omega, hf, i2⟩
    rw [r58_18]
    simp (disch := first | assumption | exact e_nk_i _ | exact e_nk_n | exact e_nk_r _ | exact e_bo_0 | exact e_bo_1 | exact e_bo_b _ | omega) only [e_cl_v, e_cl_x, e_add_0, e_add_s, Option.toList_some, Option.toList_none, List.cons_append, List.nil_append, iI_add, iI_sub, iI_mul, iI_lt, iI_eq, iI_le, r58_19, r58_20, r58_43, r58_44, r58_47, r58_48, r58_49, r58_50, r58_53, e1]
    rw [if_neg (by omega)]
  · have : s2 = 0 := by omega
    subst this
    rw [e_u_s, upd_s]
    refine ⟨_, rfl, ?_, h00⟩
    rw [ts_z _ (by omega) (fun i _ _ => sB_0 i)]
    omega
theorem q_countPairs (H : SH M 1 K) (hr : kR K) : ∃ M2 : e_MI, e_lim L xs (d + 4) 57 0 [some (.ref 177), some (.ref 1), some (.ref 173), none, none, none] [] (e_hp M V W) = some (.inl (some (.int (iI 0))), e_hp M2 V W, 0, 0) ∧ ∀ a, a < 169 ∨ 178 < a → M2 a = M a := by
  have key := G_lp (i := 0) (n := 4) (I := fun i M1 => ∀ a, a < 169 ∨ 178 < a → M1 a = M a) (P := fun i M1 => ∃ M2 : e_MI, e_lim L xs (d + 4) 57 5 [some (.ref 177), some (.ref 1), some (.ref 173), some (.int (iI 0)), some (.int (iI i)), none] [] (e_hp M1 V W) = some (.inl (some (.int (iI 0))), e_hp M2 V W, 0, 0) ∧ ∀ a, a < 169 ∨ 178 < a → M2 a = M a) (fun j M1 x y hI hc => ?_) (fun M1 hI => ?_) (by omega) M (fun _ _ => rfl)
  · obtain ⟨M2, e, r⟩ := key
    refine ⟨M2, ?_, r⟩
    rw [← e]
    simp (disch := first | assumption | exact e_nk_i _ | exact e_nk_n | exact e_nk_r _ | exact e_bo_0 | exact e_bo_1 | exact e_bo_b _ | omega) only [e_cl_v, e_cl_x, e_add_0, e_add_s, Option.toList_some, Option.toList_none, List.cons_append, List.nil_append, iI_add, iI_sub, iI_mul, iI_lt, iI_eq, iI_le, r57_0, r57_1, r57_2, r57_3]
  · have key2 := G_lp (i := 0) (n := 4) (I := fun i M1 => ∀ a, a < 169 ∨ 178 < a → M1 a = M a) (P := fun i M1 => ∃ M2 : e_MI, e_lim L xs (d + 4) 57 14 [some (.ref 177), some (.ref 1), some (.ref 173), some (.int (iI 0)), some (.int (iI j)), some (.int (iI i))] [] (e_hp M1 V W) = some (.inl (some (.int (iI 0))), e_hp M2 V W, 0, 0) ∧ ∀ a, a < 169 ∨ 178 < a → M2 a = M a) (fun k M3 u v hI3 hc3 => ?_) (fun M3 hI3 => ?_) (by omega) M1 hI
    · obtain ⟨M2, e, r⟩ := key2
      refine ⟨M2, ?_, r⟩
      rw [← e, r57_5]
      simp (disch := first | assumption | exact e_nk_i _ | exact e_nk_n | exact e_nk_r _ | exact e_bo_0 | exact e_bo_1 | exact e_bo_b _ | omega) only [e_cl_v, e_cl_x, e_add_0, e_add_s, Option.toList_some, Option.toList_none, List.cons_append, List.nil_append, iI_add, iI_sub, iI_mul, iI_lt, iI_eq, iI_le, r57_7, r57_8, r57_11, r57_12]
      rw [if_pos y]
    · by_cases hjk : j = k
      · obtain ⟨M2, e, r⟩ := hc3 M3 hI3
        refine ⟨M2, ?_, r⟩
        rw [← e, r57_14]
        simp (disch := first | assumption | exact e_nk_i _ | exact e_nk_n | exact e_nk_r _ | exact e_bo_0 | exact e_bo_1 | exact e_bo_b _ | omega) only [e_cl_v, e_cl_x, e_add_0, e_add_s, Option.toList_some, Option.toList_none, List.cons_append, List.nil_append, iI_add, iI_sub, iI_mul, iI_lt, iI_eq, iI_le, r57_16, r57_17, r57_20, r57_22, r57_24, r57_65, r57_68]
        rw [if_pos v, if_pos hjk]
      · have H3 : SH M3 1 K := H.of fun a x y => hI3 a (by omega)
        obtain ⟨Ma, ea, Ra, fa⟩ := w_arrange (L := L) (xs := xs) (d := d) (V := V) (W := W) H3 hr (m := j) (q := k) (by omega) (by omega)
        have ca := Ra.2.1
        have gi := twoL_in hr j k
        by_cases hc0 : (twoL K j k).length ≤ 6
        · obtain ⟨Mb, bb, eb, rb, lb, fb⟩ := q_bestOfTwo (L := L) (xs := xs) (d := d + 1) (V := V) (W := W) hr Ra hc0
          have Rb := wr_of Ra fb
          have ef := w_finish (L := L) (xs := xs) (d := d + 2) (V := V) (W := W) hr Rb
          have rf := twF_rg hr (m := j) (q := k) (l := twoL K j k) (fun x hx => by have := gi.1 x hx; have := hr.n; omega) _ (Nat.le_refl _)
          have rw2 : twW K j k = (twF K j k (twoL K j k) (twoL K j k).length).2 := rfl
          obtain ⟨M2, e, r⟩ := hc3 Mb (fun a y => by rw [fb a (by omega), fa a (by omega), hI3 a y])
          refine ⟨M2, ?_, r⟩
          rw [← e, r57_14]
          generalize twW K j k = A at *
          simp (disch := first | assumption | exact e_nk_i _ | exact e_nk_n | exact e_nk_r _ | exact e_bo_0 | exact e_bo_1 | exact e_bo_b _ | omega) only [e_cl_v, e_cl_x, e_add_0, e_add_s, Option.toList_some, Option.toList_none, List.cons_append, List.nil_append, iI_add, iI_sub, iI_mul, iI_lt, iI_eq, iI_le, r57_16, r57_17, r57_20, r57_22, r57_24, r57_27, r57_28, r57_29, r57_31, r57_33, r57_36, r57_37, r57_38, r57_41, r57_43, r57_46, r57_47, r57_48, r57_51, r57_52, r57_55, r57_58, r57_59, r57_62, r57_63, r57_64, r57_65, r57_68, ea, ca, eb, ef]
          rw [if_pos v, if_neg hjk, if_neg (by omega), if_neg (by omega)]
          rfl
        · obtain ⟨M2, e, r⟩ := hc3 Ma (fun a y => by rw [fa a (by omega), hI3 a y])
          refine ⟨M2, ?_, r⟩
          rw [← e, r57_14]
          simp (disch := first | assumption | exact e_nk_i _ | exact e_nk_n | exact e_nk_r _ | exact e_bo_0 | exact e_bo_1 | exact e_bo_b _ | omega) only [e_cl_v, e_cl_x, e_add_0, e_add_s, Option.toList_some, Option.toList_none, List.cons_append, List.nil_append, iI_add, iI_sub, iI_mul, iI_lt, iI_eq, iI_le, r57_16, r57_17, r57_20, r57_22, r57_24, r57_27, r57_28, r57_29, r57_31, r57_33, r57_36, r57_37, r57_38, r57_41, r57_43, r57_46, r57_47, r57_48, r57_51, r57_52, r57_55, r57_58, r57_59, r57_62, r57_63, r57_64, r57_65, r57_68, ea, ca]
          rw [if_pos v, if_neg hjk, if_pos (by omega)]
          rfl
    · obtain ⟨M2, e, r⟩ := hc M3 hI3
      refine ⟨M2, ?_, r⟩
      rw [r57_14]
      simp (disch := first | assumption | exact e_nk_i _ | exact e_nk_n | exact e_nk_r _ | exact e_bo_0 | exact e_bo_1 | exact e_bo_b _ | omega) only [e_cl_v, e_cl_x, e_add_0, e_add_s, Option.toList_some, Option.toList_none, List.cons_append, List.nil_append, iI_add, iI_sub, iI_mul, iI_lt, iI_eq, iI_le, r57_16, r57_17, r57_71, r57_74]
      rw [if_neg (by omega)]
      exact G_less (by repeat (first | exact e_ll.rf | refine e_ll_c ?_ | refine e_ll_x ?_)) e
  · refine ⟨M1, ?_, hI⟩
    rw [r57_5]
    simp (disch := first | assumption | exact e_nk_i _ | exact e_nk_n | exact e_nk_r _ | exact e_bo_0 | exact e_bo_1 | exact e_bo_b _ | omega) only [e_cl_v, e_cl_x, e_add_0, e_add_s, Option.toList_some, Option.toList_none, List.cons_append, List.nil_append, iI_add, iI_sub, iI_mul, iI_lt, iI_eq, iI_le, r57_7, r57_8, r57_77, r57_78]
    simp
theorem x_errors (H : CK M K c S) (hg : kG K) : ∃ M2 : e_MI, e_lim L xs (d + 6) 146 0 [some (.ref 0), none] [] (e_hp M V W) = some (.inl (some (.int (iI 0))), e_hp M2 V W, 0, 0) ∧ CK M2 K c S ∧ ∀ a, 178 < a → M2 a = M a := by
  obtain ⟨hr, ⟨ha, hv⟩, hp, hk, hd⟩ := id hg
  obtain ⟨M1, e1, f1⟩ := q_countMachines (L := L) (xs := xs) (d := d) (V := V) (W := W) H.sh hr
  have H1 : CK M1 K c S := H.of fun a x y => f1 a (by omega)
  obtain ⟨M2, e2, f2⟩ := q_countPairs (L := L) (xs := xs) (d := d + 1) (V := V) (W := W) H1.sh hr
  have H2 : CK M2 K c S := H1.of fun a x y => f2 a (by omega)
  have c0 := H2.pr.fits
  refine ⟨M2, ?_, H2, fun a y => by rw [f2 a (by omega), f1 a (by omega)]⟩
  cases hf : ft K with
  | false =>
    rw [hf, bI_f] at c0
    simp (disch := first | assumption | exact e_nk_i _ | exact e_nk_n | exact e_nk_r _ | exact e_bo_0 | exact e_bo_1 | exact e_bo_b _ | omega) only [e_cl_v, e_cl_x, e_add_0, e_add_s, Option.toList_some, Option.toList_none, List.cons_append, List.nil_append, iI_add, iI_sub, iI_mul, iI_lt, iI_eq, iI_le, r146_0, r146_1, r146_4, r146_5, r146_8, r146_9, r146_12, r146_15, r146_16, r146_19, r146_20, r146_23, r146_24, r146_27, r146_30, r146_31, r146_32, r146_33, r146_36, r146_39, r146_42, r146_43, r146_44, r146_47, r146_48, r146_51, r146_54, r146_55, r146_56, r146_57, r146_58, r146_61, r146_64, r146_65, r146_68, r146_71, r146_74, r146_75, r146_78, r146_79, r146_80, r146_81, r146_82, e1, e2, c0]
    simp
  | true =>
    rw [hf, bI_t] at c0
    have hvp := vR.vp hr hv
    have ok : okR K (rwK K) := ⟨hv, (fiR_iff ha.1).mp hf⟩
    have e3 := tt_countErrors (L := L) (xs := xs) (d := d) (V := V) (W := W) e_isT_0 (H2.pr.tt hf) H2.sh hr hp hd hvp ok.2
    have e4 := H2.pr.edN (L := L) (xs := xs) (d := d + 3) (V := V) (W := W) hg hf
    have e5 := s_lowestEnd (L := L) (xs := xs) (d := d) (V := V) (W := W) H2.sh hr hp
    have hb := boW_le hr hp ok ha.1
    have hb2 : enR K (rwK K) = edW K := rfl
    have r1 := edW_rg hg
    have bo := boM_rg hr 4
    have hbo : boW K = boM K 4 := rfl
    simp (disch := first | assumption | exact e_nk_i _ | exact e_nk_n | exact e_nk_r _ | exact e_bo_0 | exact e_bo_1 | exact e_bo_b _ | omega) only [e_cl_v, e_cl_x, e_add_0, e_add_s, Option.toList_some, Option.toList_none, List.cons_append, List.nil_append, iI_add, iI_sub, iI_mul, iI_lt, iI_eq, iI_le, r146_0, r146_1, r146_4, r146_5, r146_8, r146_9, r146_12, r146_15, r146_16, r146_19, r146_20, r146_23, r146_24, r146_27, r146_30, r146_31, r146_32, r146_33, r146_36, r146_39, r146_42, r146_43, r146_44, r146_47, r146_48, r146_51, r146_54, r146_55, r146_56, r146_57, r146_58, r146_61, r146_64, r146_65, r146_68, r146_71, r146_74, r146_75, r146_78, r146_79, r146_80, r146_81, r146_82, e1, e2, c0, e3, e4, e5]
    rw [if_neg (by omega)]
    simp
    intro hz
    exfalso
    omega
end Ec67
