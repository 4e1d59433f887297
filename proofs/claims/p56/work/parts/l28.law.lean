section El28
variable {L : Nat} {xs : Nat → Int32} {d : Nat} {M M1 M2 M3 : e_MI} {V V2 : e_ML} {W : e_MD} {K K2 : e_St} {S : Int → e_St} {h : e_H} {c o j w z m k q p i a b t x its u v : Int} {l : List Int} {B : Nat → Int}
theorem zAN_sx (p : Int → Bool) (h : 0 ≤ j) : zAN p (j + 1) = (zAN p j || p j) := by
  unfold zAN
  rw [zLP_s p h]
  cases hp : p j with
  | true =>
    rw [if_pos rfl, decide_eq_true (by omega), Bool.or_true]
  | false => rw [if_neg (by decide), Bool.or_false]
/-- an order that can come next -/
def cnd (K : e_St) (m q : Int) (l : List Int) : Int → Bool := fun o => decide (o ∉ l ∧ tO K o m + (if q = -1 then 0 else tO K o q) ≠ 0)
theorem nd_len {N : Int} (hN : 0 ≤ N) (h1 : l.Nodup) (h2 : ∀ x ∈ l, 0 ≤ x ∧ x < N) : (l.length : Int) ≤ N := by
  have h3 := smL_le (t := fun _ => 1) (N := N) (fun _ _ _ => by omega) hN l (fun _ => true) h1 (fun x hx => ⟨h2 x hx, rfl⟩)
  have h4 : ∀ l : List Int, smL (fun _ => 1) l = (l.length : Int) := fun l => by
    induction l with
    | nil => rfl
    | cons x l ih => rw [smL_c, ih, List.length_cons]; omega
  rw [h4] at h3
  have h5 := SU_le (f := fun i => if (fun _ : Int => true) i = true then 1 else 0) (n := N) (c := 1) (fun i _ _ => by split <;> omega) hN
  have h6 : TSx (fun _ => 1) (fun _ => true) N = SU (fun i => if (fun _ : Int => true) i = true then 1 else 0) N := rfl
  rw [h6] at h3
  omega
theorem Full_len {l1 l2 : List Int} (h1 : Full K m q l1) (h2 : Full K m q l2) : l1.length = l2.length := by
  have : l1.Perm l2 := (List.perm_ext_iff_of_nodup h1.1 h2.1).mpr fun x => by rw [h1.2 x, h2.2 x]
  exact this.length_eq
/-- what is known of the best ones behind a try -/
def TBx (K : e_St) (m q : Int) (B B2 : Nat → Int) : Prop := (∀ i, i < 4 → B2 i ≤ B i) ∧ ∀ X : Nat → Int, (∀ i, i < 4 → X i ≤ B i) → (∀ r, Full K m q r → ∀ i, i < 4 → X i ≤ b4 (rvL K m q r) i) → ∀ i, i < 4 → X i ≤ B2 i
theorem TBx.rf (K : e_St) (m q : Int) (B : Nat → Int) : TBx K m q B B := ⟨fun _ _ => Int.le_refl _, fun _ h _ => h⟩
theorem TBx.tr {B2 B3 : Nat → Int} (h : TBx K m q B B2) (h2 : TBx K m q B2 B3) : TBx K m q B B3 := ⟨fun i x => by have := h.1 i x; have := h2.1 i x; omega, fun X h3 h4 => h2.2 X (h.2 X h3 h4) h4⟩
theorem l_triesLines (hr : kR K) (hm : 0 ≤ m ∧ m ≤ 3) (hq : -1 ≤ q ∧ q ≤ 3) : ∀ (n : Nat) (l : List Int) (s : Nat) (M : e_MI) (B : Nat → Int), K 310 - (l.length : Int) ≤ n → l.Nodup → (∀ x ∈ l, (0 ≤ x ∧ x < K 310) ∧ tO K x m + (if q = -1 then 0 else tO K x q) ≠ 0) → MK K l s → LN M l → LA M K → BS M B →
    ∃ (M2 : e_MI) (B2 : Nat → Int), e_lim L xs (d + n + 2) 182 0 [some (.ref 184), some (.int (iI (l.length : Int))), some (.int (iI (s : Int))), some (.int (iI m)), some (.int (iI q)), none, none, none, none, none, none, none] [] (e_hp M V W) = some (.inl none, e_hp M2 V W, 0, 0) ∧ fN M M2 ∧ LN M2 l ∧ BS M2 B2 ∧ TBx K m q B B2 ∧ (∀ r t, Full K m q r → r = l ++ t → ∀ i, i < 4 → B2 i ≤ b4 (rvL K m q r) i) ∧ ∃ r, Full K m q r ∧ M2 184 29 = iI (r.length : Int)
  | n, l, s, M, B, hk, hnd, hl, hs, HL, HA, HB => by
    have hn := hr.n
    have hlen := nd_len hn.1 hnd (fun x hx => (hl x hx).1)
    have key := G_lp (i := 0) (n := K 310) (I := fun j M3 => ∃ B3 : Nat → Int, fN M M3 ∧ LN M3 l ∧ BS M3 B3 ∧ TBx K m q B B3 ∧ (∀ r t, Full K m q r → r = l ++ t → l.length < r.length → r.getD l.length 0 < j → ∀ i, i < 4 → B3 i ≤ b4 (rvL K m q r) i) ∧ (zAN (cnd K m q l) j = true → ∃ r, Full K m q r ∧ M3 184 29 = iI (r.length : Int)))
      (P := fun j M3 => ∃ (M2 : e_MI) (B2 : Nat → Int), e_lim L xs (d + n + 2) 182 6 [some (.ref 184), some (.int (iI (l.length : Int))), some (.int (iI (s : Int))), some (.int (iI m)), some (.int (iI q)), some (.int (bI (!zAN (cnd K m q l) j))), some (.int (iI j)), none, none, none, none, none] [] (e_hp M3 V W) = some (.inl none, e_hp M2 V W, 0, 0) ∧ fN M M2 ∧ LN M2 l ∧ BS M2 B2 ∧ TBx K m q B B2 ∧ (∀ r t, Full K m q r → r = l ++ t → ∀ i, i < 4 → B2 i ≤ b4 (rvL K m q r) i) ∧ ∃ r, Full K m q r ∧ M2 184 29 = iI (r.length : Int)) (fun j M3 x y hI hc => ?_) (fun M3 hI => ?_) hn.1 M ⟨B, fN.rf M, HL, HB, TBx.rf K m q B, fun r t h1 h2 h3 h4 => by
        have := (h1.2 (r.getD l.length 0)).mp (getD_mem h3)
        omega, fun h => by
        have : zAN (cnd K m q l) 0 = false := rfl
        rw [this] at h
        cases h⟩
    · obtain ⟨M2, B2, e, r⟩ := key
      refine ⟨M2, B2, ?_, r⟩
      rw [← e]
      have h0 : zAN (cnd K m q l) 0 = false := rfl
      rw [h0]
      simp (disch := first | assumption | exact e_nk_i _ | exact e_nk_n | exact e_nk_r _ | exact e_bo_0 | exact e_bo_1 | exact e_bo_b _ | omega) only [e_cl_v, e_cl_x, e_add_0, e_add_s, Option.toList_some, Option.toList_none, List.cons_append, List.nil_append, iI_add, iI_sub, iI_mul, iI_lt, iI_eq, iI_le, r182_0, r182_1, r182_3, r182_4]
      rfl
    · obtain ⟨B3, i1, i2, i3, i4, i5, i6⟩ := hI
      have HA3 := HA.of i1.ll
      have en := HA3.nn
      have hb := bt_in s hs.1 j.toNat (by omega)
      rw [Int.toNat_of_nonneg x] at hb
      have e2 := l_timeOn (L := L) (xs := xs) (d := d + n) (V := V) (W := W) HA3 hr ⟨x, y⟩ (m := m) (by unfold i32; omega)
      have e3 := l_timeOn (L := L) (xs := xs) (d := d + n) (V := V) (W := W) HA3 hr ⟨x, y⟩ (m := q) (by unfold i32; omega)
      have t1 := tO_0 (m := m) hr ⟨x, y⟩
      have t2 := tO_0 (m := q) hr ⟨x, y⟩
      have hz := zAN_sx (cnd K m q l) x
      -- no candidate: the next order
      have skip : cnd K m q l j = false → ∃ (M2 : e_MI) (B2 : Nat → Int), e_lim L xs (d + n + 2) 182 6 [some (.ref 184), some (.int (iI (l.length : Int))), some (.int (iI (s : Int))), some (.int (iI m)), some (.int (iI q)), some (.int (bI (!zAN (cnd K m q l) j))), some (.int (iI (j + 1))), none, none, none, none, none] [] (e_hp M3 V W) = some (.inl none, e_hp M2 V W, 0, 0) ∧ fN M M2 ∧ LN M2 l ∧ BS M2 B2 ∧ TBx K m q B B2 ∧ (∀ r t, Full K m q r → r = l ++ t → ∀ i, i < 4 → B2 i ≤ b4 (rvL K m q r) i) ∧ ∃ r, Full K m q r ∧ M2 184 29 = iI (r.length : Int) := fun hcd => by
        rw [hcd, Bool.or_false] at hz
        have h55 : ∀ r t, Full K m q r → r = l ++ t → l.length < r.length → r.getD l.length 0 < j + 1 → ∀ i, i < 4 → B3 i ≤ b4 (rvL K m q r) i := fun r t h1 h2 h3 h4 => by
          by_cases hlt : r.getD l.length 0 < j
          · exact i5 r t h1 h2 h3 hlt
          · exfalso
            have hj : r.getD l.length 0 = j := by omega
            have hm1 := (h1.2 (r.getD l.length 0)).mp (getD_mem h3)
            rw [hj] at hm1
            have hnl : j ∉ l := fun hx => by
              rw [h2] at h1
              have hnd2 := h1.1
              rw [List.nodup_append] at hnd2
              have hjt : j ∈ t := by
                rw [← hj, h2, List.getD_eq_getElem?_getD, List.getElem?_append_right (Nat.le_refl _), Nat.sub_self]
                cases t with
                | nil => rw [h2] at h3; simp at h3
                | cons a t => simp
              exact hnd2.2.2 j hx j hjt rfl
            have : cnd K m q l j = true := decide_eq_true ⟨hnl, hm1.2.2⟩
            rw [this] at hcd
            cases hcd
        have := hc M3 ⟨B3, i1, i2, i3, i4, h55, fun h => by rw [hz] at h; exact i6 h⟩
        rw [hz] at this
        exact this
      by_cases hjl : j ∈ l
      · have hcd : cnd K m q l j = false := decide_eq_false (fun h => h.1 hjl)
        have hbt : (iI (s : Int) >>> (iI j &&& 31) &&& iI 1 = iI 1) := of_decide_eq_true (by rw [hb]; exact (hs.2 j x y).mpr hjl)
        obtain ⟨M2, B2, e, r⟩ := skip hcd
        refine ⟨M2, B2, ?_, r⟩
        rw [← e, r182_6]
        simp (disch := first | assumption | exact e_nk_i _ | exact e_nk_n | exact e_nk_r _ | exact e_bo_0 | exact e_bo_1 | exact e_bo_b _ | omega) only [e_cl_v, e_cl_x, e_add_0, e_add_s, Option.toList_some, Option.toList_none, List.cons_append, List.nil_append, iI_add, iI_sub, iI_mul, iI_lt, iI_eq, iI_le, r182_8, r182_9, r182_12, r182_15, r182_16, r182_18, r182_19, r182_20, r182_21, r182_22, r182_84, r182_87, en, if_pos y, if_pos hbt]
      · have hbt : ¬ (iI (s : Int) >>> (iI j &&& 31) &&& iI 1 = iI 1) := of_decide_eq_false (by
          rw [hb]
          cases hx : s.testBit j.toNat with
          | false => rfl
          | true => exact absurd ((hs.2 j x y).mp hx) hjl)
        by_cases hc0 : tO K j m + (if q = -1 then 0 else tO K j q) = 0
        · have hcd : cnd K m q l j = false := decide_eq_false (fun h => h.2 hc0)
          obtain ⟨M2, B2, e, r⟩ := skip hcd
          refine ⟨M2, B2, ?_, r⟩
          rw [← e, r182_6]
          by_cases c4 : q = -1
          · rw [if_pos c4] at hc0
            simp (disch := first | assumption | exact e_nk_i _ | exact e_nk_n | exact e_nk_r _ | exact e_bo_0 | exact e_bo_1 | exact e_bo_b _ | omega) only [e_cl_v, e_cl_x, e_add_0, e_add_s, Option.toList_some, Option.toList_none, List.cons_append, List.nil_append, iI_add, iI_sub, iI_mul, iI_lt, iI_eq, iI_le, r182_8, r182_9, r182_12, r182_15, r182_16, r182_18, r182_19, r182_20, r182_21, r182_22, r182_25, r182_26, r182_28, r182_29, r182_32, r182_34, r182_35, r182_38, r182_39, r182_42, r182_43, r182_45, r182_47, r182_50, r182_51, r182_54, r182_84, r182_87, en, e2, if_pos y, if_neg hbt, if_pos c4, if_pos hc0]
          · rw [if_neg c4] at hc0
            simp (disch := first | assumption | exact e_nk_i _ | exact e_nk_n | exact e_nk_r _ | exact e_bo_0 | exact e_bo_1 | exact e_bo_b _ | omega) only [e_cl_v, e_cl_x, e_add_0, e_add_s, Option.toList_some, Option.toList_none, List.cons_append, List.nil_append, iI_add, iI_sub, iI_mul, iI_lt, iI_eq, iI_le, r182_8, r182_9, r182_12, r182_15, r182_16, r182_18, r182_19, r182_20, r182_21, r182_22, r182_25, r182_26, r182_28, r182_29, r182_32, r182_34, r182_35, r182_38, r182_39, r182_42, r182_43, r182_45, r182_47, r182_50, r182_51, r182_54, r182_84, r182_87, en, e2, e3, if_pos y, if_neg hbt, if_neg c4, if_pos hc0]
        · have hcd : cnd K m q l j = true := decide_eq_true ⟨hjl, hc0⟩
          rw [hcd, Bool.or_true] at hz
          have hnd2 : (l ++ [j]).Nodup := by
            rw [List.nodup_append]
            refine ⟨hnd, by simp, fun a ha b hb2 e => ?_⟩
            rw [List.mem_singleton] at hb2
            subst hb2
            subst e
            exact hjl ha
          have hl2 : ∀ x ∈ l ++ [j], (0 ≤ x ∧ x < K 310) ∧ tO K x m + (if q = -1 then 0 else tO K x q) ≠ 0 := fun z hz2 => by
            rw [List.mem_append, List.mem_singleton] at hz2
            rcases hz2 with e | e
            · exact hl z e
            · rw [e]; exact ⟨⟨x, y⟩, hc0⟩
          have hlen2 := nd_len hn.1 hnd2 (fun x hx => (hl2 x hx).1)
          have hll : (l ++ [j]).length = l.length + 1 := by simp
          rw [hll] at hlen2
          match n, hk with
          | 0, hk => omega
          | n + 1, hk =>
            have hF4 : fN M3 (e_u M3 205 (upd (M3 205) l.length (iI j))) := ⟨fun a _ z => e_u_n _ _ z, fun j _ => by rw [e_u_n _ _ (by decide)]⟩
            have hB4 : BS (e_u M3 205 (upd (M3 205) l.length (iI j))) B3 := ⟨by rw [e_u_n _ _ (by decide)]; exact i3.1, i3.2⟩
            obtain ⟨M5, B5, e5, f5, g5, s5, t5, u5, v5⟩ := l_triesLines hr hm hq n (l ++ [j]) (s ||| 2 ^ j.toNat) _ B3 (by rw [hll]; omega) hnd2 hl2 (hs.up hr ⟨x, y⟩) (i2.up j) (HA3.of hF4.ll) hB4
            have hor := (bt_or s hs.1 j.toNat (by omega)).1
            rw [Int.toNat_of_nonneg x] at hor
            rw [hll] at e5
            have hlc : ((l.length + 1 : Nat) : Int) = (l.length : Int) + 1 := by omega
            rw [hlc] at e5
            have hLN : LN M5 l := fun i hi => by
              have := g5 i (by rw [hll]; omega)
              rw [List.getD_eq_getElem?_getD, List.getElem?_append_left hi, ← List.getD_eq_getElem?_getD] at this
              exact this
            obtain ⟨M2, B2, e, r⟩ := hc M5 ⟨B5, (i1.tr hF4).tr f5, hLN, s5, i4.tr t5, fun r t h1 h2 h3 h4 i hi => by
              by_cases hlt : r.getD l.length 0 < j
              · have g1 := i5 r t h1 h2 h3 hlt i hi
                have g2 := t5.1 i hi
                omega
              · have hj : r.getD l.length 0 = j := by omega
                have hrt : ∃ t2, r = (l ++ [j]) ++ t2 := by
                  cases t with
                  | nil => rw [h2] at h3; simp at h3
                  | cons a t =>
                    refine ⟨t, ?_⟩
                    rw [h2, List.getD_eq_getElem?_getD, List.getElem?_append_right (Nat.le_refl _), Nat.sub_self] at hj
                    have ha : a = j := hj
                    rw [h2, ha]
                    simp
                obtain ⟨t2, hrt⟩ := hrt
                exact u5 r t2 h1 hrt i hi, fun _ => v5⟩
            refine ⟨M2, B2, ?_, r⟩
            rw [← e, r182_6, hz]
            rw [show d + (n + 1) + 2 = d + n + 2 + 1 by omega]
            have e2 := l_timeOn (L := L) (xs := xs) (d := d + n + 1) (V := V) (W := W) HA3 hr ⟨x, y⟩ (m := m) (by unfold i32; omega)
            have e3 := l_timeOn (L := L) (xs := xs) (d := d + n + 1) (V := V) (W := W) HA3 hr ⟨x, y⟩ (m := q) (by unfold i32; omega)
            by_cases c4 : q = -1
            · rw [if_pos c4] at hc0
              simp (disch := first | assumption | exact e_nk_i _ | exact e_nk_n | exact e_nk_r _ | exact e_bo_0 | exact e_bo_1 | exact e_bo_b _ | omega) only [e_cl_v, e_cl_x, e_add_0, e_add_s, Option.toList_some, Option.toList_none, List.cons_append, List.nil_append, iI_add, iI_sub, iI_mul, iI_lt, iI_eq, iI_le, r182_8, r182_9, r182_12, r182_15, r182_16, r182_18, r182_19, r182_20, r182_21, r182_22, r182_25, r182_26, r182_28, r182_29, r182_32, r182_34, r182_35, r182_38, r182_39, r182_42, r182_43, r182_45, r182_47, r182_50, r182_51, r182_54, r182_57, r182_58, r182_60, r182_61, r182_64, r182_65, r182_67, r182_68, r182_69, r182_70, r182_71, r182_72, r182_73, r182_74, r182_76, r182_77, r182_78, r182_79, r182_81, r182_84, r182_87, en, e2, e5, hor, iI_vin, iI_nat, if_true, Int.toNat_natCast, if_pos y, if_neg hbt, if_pos c4, if_neg hc0]
              rfl
            · rw [if_neg c4] at hc0
              simp (disch := first | assumption | exact e_nk_i _ | exact e_nk_n | exact e_nk_r _ | exact e_bo_0 | exact e_bo_1 | exact e_bo_b _ | omega) only [e_cl_v, e_cl_x, e_add_0, e_add_s, Option.toList_some, Option.toList_none, List.cons_append, List.nil_append, iI_add, iI_sub, iI_mul, iI_lt, iI_eq, iI_le, r182_8, r182_9, r182_12, r182_15, r182_16, r182_18, r182_19, r182_20, r182_21, r182_22, r182_25, r182_26, r182_28, r182_29, r182_32, r182_34, r182_35, r182_38, r182_39, r182_42, r182_43, r182_45, r182_47, r182_50, r182_51, r182_54, r182_57, r182_58, r182_60, r182_61, r182_64, r182_65, r182_67, r182_68, r182_69, r182_70, r182_71, r182_72, r182_73, r182_74, r182_76, r182_77, r182_78, r182_79, r182_81, r182_84, r182_87, en, e2, e3, e5, hor, iI_vin, iI_nat, if_true, Int.toNat_natCast, if_pos y, if_neg hbt, if_neg c4, if_neg hc0]
              rfl
    · obtain ⟨B3, i1, i2, i3, i4, i5, i6⟩ := hI
      have HA3 := HA.of i1.ll
      have en := HA3.nn
      cases hz : zAN (cnd K m q l) (K 310) with
      | true =>
        refine ⟨M3, B3, ?_, i1, i2, i3, i4, fun r t h1 h2 => ?_, i6 hz⟩
        · rw [r182_6]
          simp (disch := first | assumption | exact e_nk_i _ | exact e_nk_n | exact e_nk_r _ | exact e_bo_0 | exact e_bo_1 | exact e_bo_b _ | omega) only [e_cl_v, e_cl_x, e_add_0, e_add_s, Option.toList_some, Option.toList_none, List.cons_append, List.nil_append, iI_add, iI_sub, iI_mul, iI_lt, iI_eq, iI_le, r182_8, r182_9, r182_12, r182_90, r182_92, r182_95, en, Bool.not_true, bI_f]
          rw [if_neg (by omega)]
          rfl
        · obtain ⟨y, y1, y2, y3⟩ := (zAN_iff hn.1).mp hz
          have y3 : y ∉ l ∧ tO K y m + (if q = -1 then 0 else tO K y q) ≠ 0 := of_decide_eq_true y3
          have hyr := (h1.2 y).mpr ⟨y1, y2, y3.2⟩
          have hlt : l.length < r.length := by
            cases t with
            | nil => rw [h2, List.append_nil] at hyr; exact absurd hyr y3.1
            | cons a t => rw [h2]; simp
          have := (h1.2 (r.getD l.length 0)).mp (getD_mem hlt)
          exact i5 r t h1 h2 hlt this.2.1
      | false =>
        have hF : Full K m q l := ⟨hnd, fun y => ⟨fun hy => ⟨(hl y hy).1.1, (hl y hy).1.2, (hl y hy).2⟩, fun hy => by
          by_cases hyl : y ∈ l
          · exact hyl
          · have : zAN (cnd K m q l) (K 310) = true := zAN_t hy.1 hy.2.1 (decide_eq_true ⟨hyl, hy.2.2⟩)
            rw [this] at hz
            cases hz⟩⟩
        have e1 := l_lineLeaf (L := L) (xs := xs) (d := d + n) (V := V) (W := W) (x2 := iI (s : Int)) (x5 := iI 1) HA3 hr hm hq (fun x hx => (hl x hx).1) (by omega) i2 i3
        have rg := rgV_all (m := m) (q := q) hr l.length (Nat.le_refl _) (by omega) (fun x hx => (hl x hx).1)
        rw [List.take_length] at rg
        have hbr : ∀ i, i < 4 → -2147483648 ≤ b4 (rvL K m q l) i ∧ b4 (rvL K m q l) i ≤ 2147483647 := fun i hi => by
          obtain ⟨r1, r2, r3, r4, r5⟩ := rg
          unfold b4
          split
          · omega
          · split
            · omega
            · split <;> omega
        refine ⟨e_u M3 184 (upd (upd (upd (upd (upd (M3 184) 29 (iI (l.length : Int))) 30 (iI (min (B3 0) (b4 (rvL K m q l) 0)))) 31 (iI (min (B3 1) (b4 (rvL K m q l) 1)))) 32 (iI (min (B3 2) (b4 (rvL K m q l) 2)))) 33 (iI (min (B3 3) (b4 (rvL K m q l) 3)))), fun i => min (B3 i) (b4 (rvL K m q l) i), ?_, i1.tr ⟨fun a x _ => e_u_n _ _ x, fun j x => ?_⟩, fun i hi => ?_, ⟨⟨?_, ?_, ?_, ?_⟩, fun i hi => ?_⟩, i4.tr ⟨fun i _ => Int.min_le_left _ _, fun X h3 h4 i hi => ?_⟩, fun r t h1 h2 i hi => ?_, l, hF, ?_⟩
        · rw [r182_6]
          simp (disch := first | assumption | exact e_nk_i _ | exact e_nk_n | exact e_nk_r _ | exact e_bo_0 | exact e_bo_1 | exact e_bo_b _ | omega) only [e_cl_v, e_cl_x, e_add_0, e_add_s, Option.toList_some, Option.toList_none, List.cons_append, List.nil_append, iI_add, iI_sub, iI_mul, iI_lt, iI_eq, iI_le, r182_8, r182_9, r182_12, r182_90, r182_92, en, Bool.not_false, bI_t]
          rw [if_neg (by omega), if_neg (by omega)]
          exact G_less (by repeat (first | exact e_ll.rf | refine e_ll_c ?_ | refine e_ll_x ?_)) e1
        · rw [e_u_s, upd_n _ _ (by omega), upd_n _ _ (by omega), upd_n _ _ (by omega), upd_n _ _ (by omega), upd_n _ _ (by omega)]
        · rw [e_u_n _ _ (by decide)]
          exact i2 i hi
        · rw [e_u_s, upd_n _ _ (by decide), upd_n _ _ (by decide), upd_n _ _ (by decide), upd_s]
        · rw [e_u_s, upd_n _ _ (by decide), upd_n _ _ (by decide), upd_s]
        · rw [e_u_s, upd_n _ _ (by decide), upd_s]
        · rw [e_u_s, upd_s]
        · have h1 := hbr i hi
          have h2 := i3.2 i hi
          simp only
          omega
        · have h5 := h3 i hi
          have h6 := h4 l hF i hi
          simp only
          omega
        · have he := Full_len h1 hF
          have ht : t = [] := by
            rw [h2, List.length_append] at he
            exact List.length_eq_zero_iff.mp (by omega)
          rw [ht, List.append_nil] at h2
          rw [h2]
          exact Int.min_le_right _ _
        · rw [e_u_s, upd_n _ _ (by decide), upd_n _ _ (by decide), upd_n _ _ (by decide), upd_n _ _ (by decide), upd_s]
  termination_by n => n
end El28
