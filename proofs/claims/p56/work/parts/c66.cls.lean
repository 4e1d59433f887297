section Ec66
variable {L : Nat} {xs : Nat → Int32} {d : Nat} {M M2 M3 : e_MI} {V V2 : e_ML} {W : e_MD} {K K1 K2 : e_St} {S : Int → e_St} {h : e_H} {c o w z m k q p i f e j x y v N b : Int} {χ : Int → Bool} {n s : Nat} {g t : Int → Int} {G : (Int → Bool) → Int → Prop}
/-! the best of each set, in the class -/
theorem q_bestOfSet (H : SH M 1 K) (hr : kR K) (hw : 0 ≤ w ∧ w ≤ 2) (hR : OR M K m w) (h6 : (wyL K m w).length ≤ 6) (hs : 0 < s ∧ s < 2 ^ (wyL K m w).length) (hT : TB M (GW K m w) ((wyL K m w).length : Int) s) : ∃ b, e_lim L xs (d + 3) 55 0 [some (.ref 177), some (.ref 1), some (.ref 169), some (.int (iI w)), some (.int (iI (s : Int))), none, none, none, none] [] (e_hp M V W) = some (.inl (some (.int (iI b))), e_hp M V W, 0, 0) ∧ (-1000000 ≤ b ∧ b ≤ 17496 * TSx (fun _ => 1) (sB s) ((wyL K m w).length : Int)) ∧ GW K m w (sB s) b := by
  obtain ⟨g1, g2, g3, g4⟩ := hR
  have gi := wyL_in hr m w
  have hn := hr.n
  have hs64 : s < 64 := by
    have := sb_le _ h6
    omega
  have hnz := sb_nz _ h6 s hs.2 (by omega)
  have hstep := fun (b j : Int) hj hχ h => gw_step (K := K) (m := m) (w := w) (χ := sB s) (b := b) (j := j) hr hw hj hχ h
  generalize wyL K m w = l at *
  have hin := fun i (a : 0 ≤ i) (b : i < (l.length : Int)) => lx_in gi.1 ⟨a, b⟩
  have ht : ∀ i, 0 ≤ i → i < (l.length : Int) → 0 ≤ tO K (lx l i) m ∧ tO K (lx l i) m ≤ 324 := fun i a b => by
    have := hin i a b
    exact tO_rg hr (by omega)
  have hat : ∀ i, 0 ≤ i → i < (l.length : Int) → M 171 i.toNat = iI (lx l i) := fun i a b => la_get g1 (by omega)
  have rE := ts_up (χ := sB s) (n := l.length) ht (by omega)
  have r1 := ts_up (χ := sB s) (n := l.length) (g := fun _ => 1) (c := 1) (fun i a b => by omega) (by omega)
  obtain ⟨E, hE⟩ : ∃ E, E = TSx (fun i => tO K (lx l i) m) (sB s) (l.length : Int) := ⟨_, rfl⟩
  rw [← hE] at rE hstep
  have key := G_lpG (T := Int) (i := 0) (n := (l.length : Int)) (I := fun i b => (b = 1000000 ∧ ∀ k, 0 ≤ k → k < i → sB s k = false) ∨ ((-1000000 ≤ b ∧ b ≤ 17496 * TSx (fun _ => 1) (sB s) (l.length : Int)) ∧ GW K m w (sB s) b)) (P := fun i b => ∃ b2, e_lim L xs (d + 3) 55 60 [some (.ref 177), some (.ref 1), some (.ref 169), some (.int (iI w)), some (.int (iI (s : Int))), some (.int (iI E)), some (.int (iI b)), some (.int (iI i)), none] [] (e_hp M V W) = some (.inl (some (.int (iI b2))), e_hp M V W, 0, 0) ∧ (-1000000 ≤ b2 ∧ b2 ≤ 17496 * TSx (fun _ => 1) (sB s) (l.length : Int)) ∧ GW K m w (sB s) b2) (fun j b x y hI hc => ?_) (fun b hI => ?_) (by omega) 1000000 (Or.inl ⟨rfl, fun k a b => by omega⟩)
  · obtain ⟨b2, e, r⟩ := key
    refine ⟨b2, ?_, r⟩
    simp (disch := first | assumption | exact e_nk_i _ | exact e_nk_n | exact e_nk_r _ | exact e_bo_0 | exact e_bo_1 | exact e_bo_b _ | omega) only [e_cl_v, e_cl_x, e_add_0, e_add_s, Option.toList_some, Option.toList_none, List.cons_append, List.nil_append, iI_add, iI_sub, iI_mul, iI_lt, iI_eq, iI_le, r55_0, r55_1, r55_3, r55_4]
    refine G_loopI (C := fun i => e_lim L xs (d + 3) 55 6 [some (.ref 177), some (.ref 1), some (.ref 169), some (.int (iI w)), some (.int (iI (s : Int))), some (.int (iI (TSx (fun i => tO K (lx l i) m) (sB s) i))), some (.int (iI i)), none, none] [] (e_hp M V W)) (i := 0) (n := (l.length : Int)) (by omega) (fun j x y hc => ?_) ?_
    · have hj := hin j x y
      have e1 := q_isIn (L := L) (xs := xs) (d := d + 2) (h := e_hp M V W) hs64 (i := j) ⟨x, by omega⟩
      have e2 := m_atI (L := L) (xs := xs) (d := d + 2) (M := M) (V := V) (W := W) (v := iI (lx l j)) si_171 (z := j) x (by omega) (hat j x y)
      have e3 := o_timeOf (L := L) (xs := xs) (d := d + 1) (V := V) (W := W) g4 (o := lx l j) hj hn.2
      rw [ts_s _ _ x] at hc
      rw [← hc, r55_6]
      cases hb : sB s j with
      | true =>
        rw [hb, bI_t] at e1
        simp (disch := first | assumption | exact e_nk_i _ | exact e_nk_n | exact e_nk_r _ | exact e_bo_0 | exact e_bo_1 | exact e_bo_b _ | omega) only [e_cl_v, e_cl_x, e_add_0, e_add_s, Option.toList_some, Option.toList_none, List.cons_append, List.nil_append, iI_add, iI_sub, iI_mul, iI_lt, iI_eq, iI_le, r55_8, r55_9, r55_12, r55_15, r55_17, r55_19, r55_21, r55_24, r55_27, r55_28, r55_29, r55_32, r55_34, r55_37, r55_40, r55_43, r55_44, r55_45, r55_47, r55_50, g2, e1, e2, e3]
        rw [if_pos (by omega)]
        simp
      | false =>
        rw [hb, bI_f] at e1
        simp (disch := first | assumption | exact e_nk_i _ | exact e_nk_n | exact e_nk_r _ | exact e_bo_0 | exact e_bo_1 | exact e_bo_b _ | omega) only [e_cl_v, e_cl_x, e_add_0, e_add_s, Option.toList_some, Option.toList_none, List.cons_append, List.nil_append, iI_add, iI_sub, iI_mul, iI_lt, iI_eq, iI_le, r55_8, r55_9, r55_12, r55_15, r55_17, r55_19, r55_21, r55_24, r55_27, r55_28, r55_29, r55_32, r55_34, r55_37, r55_40, r55_43, r55_44, r55_45, r55_47, r55_50, g2, e1]
        rw [if_pos (by omega)]
        simp
    · rw [← hE, r55_6]
      simp (disch := first | assumption | exact e_nk_i _ | exact e_nk_n | exact e_nk_r _ | exact e_bo_0 | exact e_bo_1 | exact e_bo_b _ | omega) only [e_cl_v, e_cl_x, e_add_0, e_add_s, Option.toList_some, Option.toList_none, List.cons_append, List.nil_append, iI_add, iI_sub, iI_mul, iI_lt, iI_eq, iI_le, r55_8, r55_9, r55_12, r55_53, r55_55, r55_57, r55_58, g2]
      rw [if_neg (by omega)]
      exact G_less (by repeat (first | exact e_ll.rf | refine e_ll_c ?_ | refine e_ll_x ?_)) e
  · have hj := hin j x y
    have e1 := q_isIn (L := L) (xs := xs) (d := d + 2) (h := e_hp M V W) hs64 (i := j) ⟨x, by omega⟩
    cases hb : sB s j with
    | false =>
      rw [hb, bI_f] at e1
      obtain ⟨b2, e, r⟩ := hc b (by
        rcases hI with ⟨h1, h2⟩ | h1
        · exact Or.inl ⟨h1, fun k u v => by
            by_cases hk : k = j
            · rw [hk]
              exact hb
            · exact h2 k u (by omega)⟩
        · exact Or.inr h1)
      refine ⟨b2, ?_, r⟩
      rw [← e, r55_60]
      simp (disch := first | assumption | exact e_nk_i _ | exact e_nk_n | exact e_nk_r _ | exact e_bo_0 | exact e_bo_1 | exact e_bo_b _ | omega) only [e_cl_v, e_cl_x, e_add_0, e_add_s, Option.toList_some, Option.toList_none, List.cons_append, List.nil_append, iI_add, iI_sub, iI_mul, iI_lt, iI_eq, iI_le, r55_62, r55_63, r55_66, r55_69, r55_71, r55_73, r55_76, r55_120, r55_123, g2, e1]
      rw [if_pos (by omega)]
      simp
    | true =>
      rw [hb, bI_t] at e1
      obtain ⟨⟨p1, p2⟩, hdl⟩ := sB_dl hs64 (j := j) ⟨x, by omega⟩ hb
      have hsh := sb_shl j.toNat (by omega)
      rw [Int.toNat_of_nonneg x] at hsh
      obtain ⟨bf, hbf, rb, hG⟩ := hT (s - 2 ^ j.toNat) (by omega)
      rw [hdl] at rb hG
      have h1 := ts_hiI (fun _ => 1) x y hb
      try simp only at h1
      have r2 := ts_up (χ := dl (sB s) j) (n := l.length) (g := fun _ => 1) (c := 1) (fun i a b => by omega) (by omega)
      have hv := hstep bf j ⟨x, y⟩ hb hG
      have rv := lv_rg (K := K) (w := w) (o := lx l j) (b := bf) (e := E) hr ⟨hj.1, by omega⟩ rb (by omega) r2.1
      have e2 := m_atI (L := L) (xs := xs) (d := d + 2) (M := M) (V := V) (W := W) (v := iI (lx l j)) si_171 (z := j) x (by omega) (hat j x y)
      have e3 := m_atI (L := L) (xs := xs) (d := d + 2) (M := M) (V := V) (W := W) (v := iI bf) si_178 (z := (s : Int) - ((2 ^ j.toNat : Nat) : Int)) (by omega) (by omega) (by rw [show ((s : Int) - ((2 ^ j.toNat : Nat) : Int)).toNat = s - 2 ^ j.toNat by omega]; exact hbf)
      have e4 := q_withLast (L := L) (xs := xs) (d := d) (V := V) (W := W) H hr (o := lx l j) hj hw (b := bf) (e := E) (by omega) (by omega)
      generalize lvW K w (lx l j) bf E = lv at *
      generalize ((2 ^ j.toNat : Nat) : Int) = P at *
      obtain ⟨b2, e, r⟩ := hc (min b lv) (by
        refine Or.inr ?_
        rcases hI with ⟨h1, h2⟩ | ⟨q1, q2⟩
        · rw [show min b lv = lv by omega]
          exact ⟨by omega, hv⟩
        · by_cases hq : b ≤ lv
          · rw [show min b lv = b by omega]
            exact ⟨q1, q2⟩
          · rw [show min b lv = lv by omega]
            exact ⟨by omega, hv⟩)
      have e' := G_less (l := [some (.ref 177), some (.ref 1), some (.ref 169), some (.int (iI w)), some (.int (iI (s : Int))), some (.int (iI E)), some (.int (iI (min b lv))), some (.int (iI (j + 1))), some (.int (iI bf))]) (by repeat (first | exact e_ll.rf | refine e_ll_c ?_ | refine e_ll_x ?_)) e
      refine ⟨b2, ?_, r⟩
      rw [← e', r55_60]
      simp (disch := first | assumption | exact e_nk_i _ | exact e_nk_n | exact e_nk_r _ | exact e_bo_0 | exact e_bo_1 | exact e_bo_b _ | omega) only [e_cl_v, e_cl_x, e_add_0, e_add_s, Option.toList_some, Option.toList_none, List.cons_append, List.nil_append, iI_add, iI_sub, iI_mul, iI_lt, iI_eq, iI_le, r55_62, r55_63, r55_66, r55_69, r55_71, r55_73, r55_76, r55_79, r55_80, r55_83, r55_85, r55_86, r55_88, r55_89, r55_90, r55_93, r55_95, r55_97, r55_98, r55_99, r55_102, r55_104, r55_107, r55_108, r55_110, r55_112, r55_115, r55_118, r55_120, r55_123, g2, e1, e2, hsh, e3, e4, iI_mn]
      rw [if_pos (by omega)]
      simp
  · rcases hI with ⟨h1, h2⟩ | ⟨h1, h2⟩
    · exfalso
      obtain ⟨j, j1, j2⟩ := hnz
      have := h2 (j : Int) (by omega) (by omega)
      rw [sB_eq ⟨by omega, by omega⟩, Int.toNat_natCast, j2] at this
      cases this
    · refine ⟨b, ?_, h1, h2⟩
      rw [r55_60]
      simp (disch := first | assumption | exact e_nk_i _ | exact e_nk_n | exact e_nk_r _ | exact e_bo_0 | exact e_bo_1 | exact e_bo_b _ | omega) only [e_cl_v, e_cl_x, e_add_0, e_add_s, Option.toList_some, Option.toList_none, List.cons_append, List.nil_append, iI_add, iI_sub, iI_mul, iI_lt, iI_eq, iI_le, r55_62, r55_63, r55_66, r55_126, r55_128, g2]
      rw [if_neg (by omega)]
theorem q_bestOfOne (H : SH M 1 K) (hr : kR K) (hw : 0 ≤ w ∧ w ≤ 2) (hR : OR M K m w) (h0 : 0 < (wyL K m w).length) (h6 : (wyL K m w).length ≤ 6) : ∃ (M2 : e_MI) (b : Int), e_lim L xs (d + 4) 54 0 [some (.ref 177), some (.ref 1), some (.ref 169), some (.int (iI w)), none, none] [] (e_hp M V W) = some (.inl (some (.int (iI b))), e_hp M2 V W, 0, 0) ∧ (-1000000 ≤ b ∧ b ≤ 1000000) ∧ anG K m w ≤ b ∧ ∀ a, a ≠ 178 → M2 a = M a := by
  have hle := sb_le _ h6
  have g2 := hR.2.1
  have hfull := sb_full _ h6
  have hsh := sb_shl (wyL K m w).length (by omega)
  have h00 := gw_0 K m w sB_0
  generalize hP : 2 ^ (wyL K m w).length = P at *
  have key := G_lp (i := 1) (n := ((P : Nat) : Int)) (I := fun i M1 => TB M1 (GW K m w) ((wyL K m w).length : Int) i.toNat ∧ ∀ a, a ≠ 178 → M1 a = M a) (P := fun i M1 => ∃ (M2 : e_MI) (b : Int), e_lim L xs (d + 4) 54 30 [some (.ref 177), some (.ref 1), some (.ref 169), some (.int (iI w)), some (.int (iI ((P : Nat) : Int))), some (.int (iI i))] [] (e_hp M1 V W) = some (.inl (some (.int (iI b))), e_hp M2 V W, 0, 0) ∧ (-1000000 ≤ b ∧ b ≤ 1000000) ∧ anG K m w ≤ b ∧ ∀ a, a ≠ 178 → M2 a = M a) (fun j M1 x y hI hc => ?_) (fun M1 hI => ?_) (by omega) (e_u M 178 (upd (M 178) 0 (iI (if w = 1 then -1000000 else 0)))) ⟨fun s2 h2 => ?_, fun a y => e_u_n _ _ y⟩
  · obtain ⟨M2, b, e, r⟩ := key
    refine ⟨M2, b, ?_, r⟩
    have e1 := m_putI (L := L) (xs := xs) (d := d + 3) (M := M) (V := V) (W := W) (v := iI (if w = 1 then -1000000 else 0)) si_178 (z := 0) (by omega) (by omega)
    rw [← e]
    by_cases w1 : w = 1
    · subst w1
      rw [if_pos rfl] at e1 ⊢
      simp (disch := first | assumption | exact e_nk_i _ | exact e_nk_n | exact e_nk_r _ | exact e_bo_0 | exact e_bo_1 | exact e_bo_b _ | omega) only [e_cl_v, e_cl_x, e_add_0, e_add_s, Option.toList_some, Option.toList_none, List.cons_append, List.nil_append, iI_add, iI_sub, iI_mul, iI_lt, iI_eq, iI_le, r54_0, r54_1, r54_2, r54_5, r54_6, r54_8, r54_9, r54_12, r54_13, r54_14, r54_15, r54_18, r54_20, r54_23, r54_24, r54_27, r54_28, g2, hsh, e1]
      simp
    · rw [if_neg w1] at e1 ⊢
      simp (disch := first | assumption | exact e_nk_i _ | exact e_nk_n | exact e_nk_r _ | exact e_bo_0 | exact e_bo_1 | exact e_bo_b _ | omega) only [e_cl_v, e_cl_x, e_add_0, e_add_s, Option.toList_some, Option.toList_none, List.cons_append, List.nil_append, iI_add, iI_sub, iI_mul, iI_lt, iI_eq, iI_le, r54_0, r54_1, r54_2, r54_5, r54_6, r54_8, r54_9, r54_12, r54_13, r54_14, r54_15, r54_18, r54_20, r54_23, r54_24, r54_27, r54_28, g2, hsh, e1]
      simp [w1]
  · obtain ⟨i1, i2⟩ := hI
    have H1 : SH M1 1 K := H.of fun a x y => i2 a (by omega)
    have hR1 : OR M1 K m w := by
      unfold OR at hR ⊢
      rw [i2 171 (by decide), i2 169 (by decide), i2 170 (by decide)]
      exact hR
    obtain ⟨s, hs⟩ : ∃ s : Nat, j = (s : Int) := ⟨j.toNat, by omega⟩
    subst hs
    rw [Int.toNat_natCast] at i1
    obtain ⟨b, e1, rb, hG⟩ := q_bestOfSet (L := L) (xs := xs) (d := d) (V := V) (W := W) H1 hr hw hR1 h6 (s := s) ⟨by omega, by rw [hP]; omega⟩ i1
    have e2 := m_putI (L := L) (xs := xs) (d := d + 3) (M := M1) (V := V) (W := W) (v := iI b) si_178 (z := (s : Int)) (by omega) (by omega)
    rw [Int.toNat_natCast] at e2
    obtain ⟨M2, b2, e, r⟩ := hc (e_u M1 178 (upd (M1 178) s (iI b))) ⟨by
      rw [show ((s : Int) + 1).toNat = s + 1 by omega]
      exact i1.up rb hG, fun a y => by rw [e_u_n _ _ y, i2 a y]⟩
    refine ⟨M2, b2, ?_, r⟩
    rw [← e, r54_30]
    simp (disch := first | assumption | exact e_nk_i _ | exact e_nk_n | exact e_nk_r _ | exact e_bo_0 | exact e_bo_1 | exact e_bo_b _ | omega) only [e_cl_v, e_cl_x, e_add_0, e_add_s, Option.toList_some, Option.toList_none, List.cons_append, List.nil_append, iI_add, iI_sub, iI_mul, iI_lt, iI_eq, iI_le, r54_32, r54_34, r54_37, r54_38, r54_41, r54_43, r54_44, r54_45, r54_46, r54_47, r54_49, r54_52, r54_55, r54_58, e1, e2]
    rw [if_pos (by omega)]
  · obtain ⟨i1, i2⟩ := hI
    rw [Int.toNat_natCast] at i1
    obtain ⟨b, hb, rb, hG⟩ := i1 (P - 1) (by omega)
    have r1 := ts_up (χ := sB (P - 1)) (n := (wyL K m w).length) (g := fun _ => 1) (c := 1) (fun i a b => by omega) (by omega)
    have hf := gw_full hr hw h0 (fun i a b => by
      rw [sB_eq ⟨a, by omega⟩]
      exact hfull i.toNat (by omega)) hG
    have e1 := m_atI (L := L) (xs := xs) (d := d + 3) (M := M1) (V := V) (W := W) (v := iI b) si_178 (z := ((P : Nat) : Int) - 1) (by omega) (by omega) (by rw [show (((P : Nat) : Int) - 1).toNat = P - 1 by omega]; exact hb)
    refine ⟨M1, b, ?_, by omega, hf, i2⟩
    rw [r54_30]
    simp (disch := first | assumption | exact e_nk_i _ | exact e_nk_n | exact e_nk_r _ | exact e_bo_0 | exact e_bo_1 | exact e_bo_b _ | omega) only [e_cl_v, e_cl_x, e_add_0, e_add_s, Option.toList_some, Option.toList_none, List.cons_append, List.nil_append, iI_add, iI_sub, iI_mul, iI_lt, iI_eq, iI_le, r54_32, r54_34, r54_61, r54_62, r54_65, r54_67, r54_68, r54_69, r54_72, e1]
    rw [if_neg (by omega)]
  · have : s2 = 0 := by omega
    subst this
    rw [e_u_s, upd_s]
    refine ⟨_, rfl, ?_, h00⟩
    rw [ts_z _ (by omega) (fun i _ _ => sB_0 i)]
    split <;> omega
end Ec66
