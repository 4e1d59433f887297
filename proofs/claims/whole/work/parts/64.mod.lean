section E64
variable {L : Nat} {xs : Nat → Int32} {d : Nat} {M : e_MI} {V : e_ML} {W : e_MD} {K : e_St} {h : e_H} {ρ ω β ε ρ2 ω2 β2 ε2 τ : Int → Int} {k : Int}
/-! changes of the present state -/
/-- only the present state changes -/
def frN (M M2 : e_MI) : Prop := ∀ a, a ≠ 185 → M2 a = M a
theorem frN.t {M2 M3 : e_MI} (h : frN M M2) (h2 : frN M2 M3) : frN M M3 := fun a x => by rw [h2 a x, h a x]
theorem KM_up (hK : e_KM M K) {z v : Int} (h0 : 0 ≤ z) : e_KM (e_u M 185 (upd (M 185) z.toNat (iI v))) (uI K z v) := by
  unfold e_KM
  rw [e_u_s]
  exact hK.up h0
/-- the state with another row -/
def rwS (K : e_St) (r : Int → Int) : e_St := fun z => if 241 ≤ z ∧ z < 257 then r (z - 241) else K z
theorem rwS_n {r : Int → Int} {z : Int} (h : z < 241 ∨ 257 ≤ z) : rwS K r z = K z := by unfold rwS; rw [if_neg (by omega)]
theorem rwS_r {r : Int → Int} {p : Int} (h0 : 0 ≤ p) (h1 : p < 16) : rwS K r (241 + p) = r p := by
  unfold rwS
  rw [if_pos (by omega), show 241 + p - 241 = p by omega]
theorem rwS_self : rwS K (rwK K) = K := by
  funext z
  unfold rwS rwK
  split
  · rw [show 241 + (z - 241) = z by omega]
  · rfl
theorem rwS_up {r : Int → Int} {p v : Int} (h0 : 0 ≤ p) (h1 : p < 16) : uI (rwS K r) (241 + p) v = rwS K (uI r p v) := by
  funext z
  unfold uI rwS
  by_cases hz : z = 241 + p
  · rw [if_pos hz, if_pos (by omega)]
    show v = if z - 241 = p then v else r (z - 241)
    rw [if_pos (by omega)]
  · rw [if_neg hz]
    by_cases hw : 241 ≤ z ∧ z < 257
    · rw [if_pos hw, if_pos hw]
      show r (z - 241) = if z - 241 = p then v else r (z - 241)
      rw [if_neg (by omega)]
    · rw [if_neg hw, if_neg hw]
/-- the works order by order: how many, and the row -/
def anW (o : Int) (s : Int × (Int → Int)) : Nat → Int × (Int → Int)
  | 0 => s
  | w + 1 => ((anW o s w).1 + 1, uI (anW o s w).2 (anW o s w).1 o)
def anO (K : e_St) (r : Int → Int) : Nat → Int × (Int → Int)
  | 0 => (0, r)
  | o + 1 => anW o (anO K r o) (K (40 + o)).toNat
def anR (K : e_St) (r : Int → Int) : Int → Int := (anO K r (K 310).toNat).2
theorem anW_1 (o : Int) (s : Int × (Int → Int)) : ∀ w : Nat, (anW o s w).1 = s.1 + w
  | 0 => by unfold anW; omega
  | w + 1 => by
    have := anW_1 o s w
    show (anW o s w).1 + 1 = _
    omega
theorem anO_1 (K : e_St) (r : Int → Int) (hK : ∀ o, 0 ≤ o → o < 8 → 0 ≤ K (40 + o)) : ∀ n : Nat, (n : Int) ≤ 8 → (anO K r n).1 = SU (fun o => K (40 + o)) n
  | 0, _ => rfl
  | n + 1, h => by
    have ih := anO_1 K r hK n (by omega)
    show (anW n (anO K r n) (K (40 + n)).toNat).1 = _
    have h1 := hK n (by omega) (by omega)
    rw [anW_1, ih, Int.natCast_add, show ((1 : Nat) : Int) = 1 from rfl, SU_s _ (by omega)]
    omega
theorem anW_sp {o : Int} {s : Int × (Int → Int)} (hs : 0 ≤ s.1) : ∀ w : Nat, (∀ p, p < s.1 → (anW o s w).2 p = s.2 p) ∧ (∀ p, s.1 ≤ p → p < s.1 + w → (anW o s w).2 p = o) ∧ ∀ p, s.1 + w ≤ p → (anW o s w).2 p = s.2 p
  | 0 => ⟨fun p _ => rfl, fun p a b => by omega, fun p _ => rfl⟩
  | w + 1 => by
    obtain ⟨h1, h2, h3⟩ := anW_sp (o := o) hs w
    have e := anW_1 o s w
    refine ⟨fun p hp => ?_, fun p a b => ?_, fun p hp => ?_⟩
    · show uI (anW o s w).2 (anW o s w).1 o p = _
      rw [uI_n _ _ (by omega)]
      exact h1 p hp
    · show uI (anW o s w).2 (anW o s w).1 o p = _
      unfold uI
      split
      · rfl
      · exact h2 p a (by omega)
    · show uI (anW o s w).2 (anW o s w).1 o p = _
      rw [uI_n _ _ (by omega)]
      exact h3 p (by omega)
theorem cnt_ext {ρ : Int → Int} {o a : Int} (h0 : 0 ≤ a) : ∀ n : Nat, (∀ p, a ≤ p → p < a + n → ρ p ≠ o) → cnt ρ o (a + n) = cnt ρ o a
  | 0, _ => by rw [show a + ((0 : Nat) : Int) = a by omega]
  | n + 1, h => by
    rw [show a + ((n + 1 : Nat) : Int) = a + n + 1 by omega, cnt_s _ _ (by omega), cnt_ext h0 n (fun p x y => h p x (by omega)), if_neg (h _ (by omega) (by omega))]
    omega
theorem cnt_all {ρ : Int → Int} {o a : Int} (h0 : 0 ≤ a) : ∀ n : Nat, (∀ p, a ≤ p → p < a + n → ρ p = o) → cnt ρ o (a + n) = cnt ρ o a + n
  | 0, _ => by rw [show a + ((0 : Nat) : Int) = a by omega]; omega
  | n + 1, h => by
    rw [show a + ((n + 1 : Nat) : Int) = a + n + 1 by omega, cnt_s _ _ (by omega), cnt_all h0 n (fun p x y => h p x (by omega)), if_pos (h _ (by omega) (by omega))]
    omega
theorem anO_sp (K : e_St) (r : Int → Int) (hK : ∀ o, 0 ≤ o → o < 8 → 0 ≤ K (40 + o)) : ∀ n : Nat, (n : Int) ≤ 8 → (∀ p, 0 ≤ p → p < (anO K r n).1 → 0 ≤ (anO K r n).2 p ∧ (anO K r n).2 p < n) ∧ (∀ o, 0 ≤ o → o < n → cnt (anO K r n).2 o (anO K r n).1 = K (40 + o)) ∧ ∀ p, (anO K r n).1 ≤ p → (anO K r n).2 p = r p
  | 0, _ => ⟨fun p a b => by
      have : p < 0 := b
      omega, fun o a b => by omega, fun p _ => rfl⟩
  | n + 1, h => by
    obtain ⟨h1, h2, h3⟩ := anO_sp K r hK n (by omega)
    have hs : 0 ≤ (anO K r n).1 := by
      rw [anO_1 K r hK n (by omega)]
      have := SU_mono (f := fun o => K (40 + o)) (i := 0) (n := (n : Int)) (fun i a b => hK i a (by omega)) (Int.le_refl _) (by omega)
      rw [SU_0] at this
      exact this
    have hw := hK n (by omega) (by omega)
    obtain ⟨g1, g2, g3⟩ := anW_sp (o := (n : Int)) (s := anO K r n) hs (K (40 + n)).toNat
    have e1 : (anO K r (n + 1)).1 = (anO K r n).1 + (K (40 + n)).toNat := anW_1 _ _ _
    have e2 : (anO K r (n + 1)).2 = (anW (n : Int) (anO K r n) (K (40 + n)).toNat).2 := rfl
    rw [e1, e2]
    refine ⟨fun p a b => ?_, fun o a b => ?_, fun p a => ?_⟩
    · by_cases hp : p < (anO K r n).1
      · rw [g1 p hp]
        have := h1 p a hp
        omega
      · rw [g2 p (by omega) b]
        omega
    · have hc : cnt (anW (n : Int) (anO K r n) (K (40 + n)).toNat).2 o (anO K r n).1 = cnt (anO K r n).2 o (anO K r n).1 := cnt_cong (fun p x y => g1 p y)
      by_cases ho : o = n
      · have hz : cnt (anO K r n).2 o (anO K r n).1 = 0 := by
          have := cnt_ext (ρ := (anO K r n).2) (o := o) (a := 0) (Int.le_refl _) (anO K r n).1.toNat (fun p x y => by
            have := h1 p x (by omega)
            omega)
          rw [show (0 : Int) + ((anO K r n).1.toNat : Int) = (anO K r n).1 by omega] at this
          exact this
        rw [cnt_all hs _ (fun p x y => by rw [g2 p x y, ho]), hc, hz, ho]
        omega
      · rw [cnt_ext hs _ (fun p x y => by rw [g2 p x y]; omega), hc]
        exact h2 o a (by omega)
    · rw [g3 p a]
      exact h3 p (by omega)
theorem mm_rowsAnew (hK : e_KM M K) (hr : kR K) (ha : aW K ≤ 16) : ∃ M2 : e_MI, e_lim L xs (d + 1) 189 0 [some (.ref 184), none, none, none] [] (e_hp M V W) = some (.inl none, e_hp M2 V W, 0, 0) ∧ e_KM M2 (rwS K (anR K (rwK K))) ∧ frN M M2 := by
  have hn := hr.n
  have hw0 : ∀ o, 0 ≤ o → o < 8 → 0 ≤ K (40 + o) := fun o a b => (hr.wk a b).1
  have h310 : ∀ r : Int → Int, rwS K r 310 = K 310 := fun r => rwS_n (by omega)
  have h40 : ∀ (r : Int → Int) (o : Int), 0 ≤ o → o < 8 → rwS K r (40 + o) = K (40 + o) := fun r o a b => rwS_n (by omega)
  have hs1 : ∀ j : Int, 0 ≤ j → j ≤ K 310 → (anO K (rwK K) j.toNat).1 = SU (fun o => K (40 + o)) j := fun j a b => by
    rw [anO_1 K _ hw0 j.toNat (by omega), Int.toNat_of_nonneg a]
  have hsm : ∀ i j : Int, 0 ≤ i → i ≤ j → j ≤ K 310 → SU (fun o => K (40 + o)) i ≤ SU (fun o => K (40 + o)) j := fun i j a b c => SU_mono (fun q x y => hw0 q x (by omega)) a b
  have key := G_lp (i := 0) (n := K 310) (I := fun i M1 => e_KM M1 (rwS K (anO K (rwK K) i.toNat).2) ∧ frN M M1) (P := fun i M1 => ∃ M2 : e_MI, e_lim L xs (d + 1) 189 4 [some (.ref 184), some (.int (iI (anO K (rwK K) i.toNat).1)), some (.int (iI i)), none] [] (e_hp M1 V W) = some (.inl none, e_hp M2 V W, 0, 0) ∧ e_KM M2 (rwS K (anR K (rwK K))) ∧ frN M M2) (fun j M1 a b hI hc => ?_) (fun M1 hI => ?_) hn.1 M ⟨by
    show e_KM M (rwS K (rwK K))
    rw [rwS_self]
    exact hK, fun _ _ => rfl⟩
  · obtain ⟨M2, e, r⟩ := key
    refine ⟨M2, ?_, r⟩
    rw [← e]
    simp (disch := first | assumption | exact e_nk_i _ | exact e_nk_n | exact e_nk_r _ | exact e_bo_0 | exact e_bo_1 | exact e_bo_b _ | omega) only [e_cl_v, e_cl_x, e_add_0, e_add_s, Option.toList_some, Option.toList_none, List.cons_append, List.nil_append, iI_add, iI_sub, iI_mul, iI_lt, iI_eq, iI_le, r189_0, r189_1, r189_2, r189_3]
    rfl
  · have hst : anO K (rwK K) (j + 1).toNat = anW j (anO K (rwK K) j.toNat) (K (40 + j)).toNat := by
      rw [show (j + 1).toNat = j.toNat + 1 by omega]
      show anW (j.toNat : Int) (anO K (rwK K) j.toNat) (K (40 + (j.toNat : Int))).toNat = _
      rw [Int.toNat_of_nonneg a]
    have hwj := hr.wk (o := j) a (by omega)
    have s1 := hs1 j a (by omega)
    have s2 := hsm 0 j (by omega) a (by omega)
    have s3 := hsm (j + 1) (K 310) (by omega) (by omega) (Int.le_refl _)
    rw [SU_s _ a] at s3
    rw [SU_0] at s2
    have s4 : SU (fun o => K (40 + o)) (K 310) = aW K := rfl
    have key2 := G_lp (i := 0) (n := K (40 + j)) (I := fun i M2 => e_KM M2 (rwS K (anW j (anO K (rwK K) j.toNat) i.toNat).2) ∧ frN M M2) (P := fun i M2 => ∃ M3 : e_MI, e_lim L xs (d + 1) 189 14 [some (.ref 184), some (.int (iI (anW j (anO K (rwK K) j.toNat) i.toNat).1)), some (.int (iI j)), some (.int (iI i))] [] (e_hp M2 V W) = some (.inl none, e_hp M3 V W, 0, 0) ∧ e_KM M3 (rwS K (anR K (rwK K))) ∧ frN M M3) (fun w M2 a2 b2 hI2 hc2 => ?_) (fun M2 hI2 => ?_) hwj.1 M1 hI
    · obtain ⟨M3, e, r⟩ := key2
      refine ⟨M3, ?_, r⟩
      have e1 := mm_many (L := L) (xs := xs) (d := d) (V := V) (W := W) hI.1
      rw [h310] at e1
      rw [← e, r189_4]
      simp (disch := first | assumption | exact e_nk_i _ | exact e_nk_n | exact e_nk_r _ | exact e_bo_0 | exact e_bo_1 | exact e_bo_b _ | omega) only [e_cl_v, e_cl_x, e_add_0, e_add_s, Option.toList_some, Option.toList_none, List.cons_append, List.nil_append, iI_add, iI_sub, iI_mul, iI_lt, iI_eq, iI_le, r189_5, r189_6, r189_9, r189_12, r189_13, e1]
      rw [if_pos b]
      rfl
    · have e2 := mm_worksOf (L := L) (xs := xs) (d := d) (V := V) (W := W) hI2.1 (o := j) a (by omega)
      rw [h40 _ j a (by omega)] at e2
      have w1 := anW_1 j (anO K (rwK K) j.toNat) w.toNat
      have hst2 : anW j (anO K (rwK K) j.toNat) (w + 1).toNat = ((anW j (anO K (rwK K) j.toNat) w.toNat).1 + 1, uI (anW j (anO K (rwK K) j.toNat) w.toNat).2 (anW j (anO K (rwK K) j.toNat) w.toNat).1 j) := by
        rw [show (w + 1).toNat = w.toNat + 1 by omega]
        rfl
      rw [hst2] at hc2
      generalize hq : (anW j (anO K (rwK K) j.toNat) w.toNat).1 = q at *
      have hq0 : 0 ≤ q ∧ q < 16 := by omega
      obtain ⟨M3, e, r⟩ := hc2 (e_u M2 185 (upd (M2 185) (241 + q).toNat (iI j))) ⟨by
        show e_KM _ (rwS K (uI _ q j))
        rw [← rwS_up hq0.1 hq0.2]
        exact KM_up hI2.1 (by omega), hI2.2.t (fun a x => e_u_n _ _ x)⟩
      refine ⟨M3, ?_, r⟩
      rw [← e, r189_14]
      simp (disch := first | assumption | exact e_nk_i _ | exact e_nk_n | exact e_nk_r _ | exact e_bo_0 | exact e_bo_1 | exact e_bo_b _ | omega) only [e_cl_v, e_cl_x, e_add_0, e_add_s, Option.toList_some, Option.toList_none, List.cons_append, List.nil_append, iI_add, iI_sub, iI_mul, iI_lt, iI_eq, iI_le, r189_15, r189_16, r189_17, r189_20, r189_23, r189_24, r189_27, r189_30, r189_31, r189_32, r189_33, r189_34, r189_37, r189_40, iI_vin, iI_nat, if_true, e2]
      rw [if_pos b2]
    · have e2 := mm_worksOf (L := L) (xs := xs) (d := d) (V := V) (W := W) hI2.1 (o := j) a (by omega)
      rw [h40 _ j a (by omega)] at e2
      rw [← hst] at hI2
      obtain ⟨M3, e, r⟩ := hc M2 hI2
      refine ⟨M3, ?_, r⟩
      rw [← hst, r189_14]
      simp (disch := first | assumption | exact e_nk_i _ | exact e_nk_n | exact e_nk_r _ | exact e_bo_0 | exact e_bo_1 | exact e_bo_b _ | omega) only [e_cl_v, e_cl_x, e_add_0, e_add_s, Option.toList_some, Option.toList_none, List.cons_append, List.nil_append, iI_add, iI_sub, iI_mul, iI_lt, iI_eq, iI_le, r189_15, r189_16, r189_17, r189_20, r189_43, r189_46, e2]
      rw [if_neg (by omega)]
      exact G_less (by repeat (first | exact e_ll.rf | refine e_ll_c ?_ | refine e_ll_x ?_)) e
  · have e1 := mm_many (L := L) (xs := xs) (d := d) (V := V) (W := W) hI.1
    rw [h310] at e1
    refine ⟨M1, ?_, hI.1, hI.2⟩
    rw [r189_4]
    simp (disch := first | assumption | exact e_nk_i _ | exact e_nk_n | exact e_nk_r _ | exact e_bo_0 | exact e_bo_1 | exact e_bo_b _ | omega) only [e_cl_v, e_cl_x, e_add_0, e_add_s, Option.toList_some, Option.toList_none, List.cons_append, List.nil_append, iI_add, iI_sub, iI_mul, iI_lt, iI_eq, iI_le, r189_5, r189_6, r189_9, r189_49, e1]
    rw [if_neg (by omega)]
end E64
