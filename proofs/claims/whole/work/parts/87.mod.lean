section E87
variable {L : Nat} {xs : Nat → Int32} {d : Nat} {M M2 M3 : e_MI} {V : e_ML} {W : e_MD} {K K2 : e_St} {h : e_H} {S : Int → e_St} {c cd : Int} {ρ ω β ε τ T U : Int → Int} {r : Option e_R} {an : Int32} {o z v : Int}
/-! changes of the reference -/
theorem RK.n (H : RK M K c S) (hK : e_KM M2 K2) (hg : kG K2) (hF : frN M M2) : RK M2 K2 c S := by
  obtain ⟨a1, a2, a3, a4, a5⟩ := H
  refine ⟨hK, hg, ?_, a4, a5.of fun a x y => hF a (by omega)⟩
  unfold e_SV
  rw [hF 184 (by decide), hF 186 (by decide)]
  exact a3
theorem AC.ok (hcd : cd = 0) (hr : r = some (.inl (some (.int an)), e_hp M3 V W, 0, 0)) (H3 : RK M3 K2 (svC c) (svS c S K)) (hF : frP (mT M) M3) (h0 : M3 184 0 = iI 0) : AC r M V W K c S K2 cd an := by
  subst hcd
  exact ⟨M3, an, hr, (frQ_mT M).p.t hF, h0, fun _ => ⟨rfl, H3⟩, fun a => absurd rfl a⟩
theorem coK_n {a b e f g : Int} (hn : 0 ≤ K 310 ∧ K 310 < 8) (hz : z ≠ K 310 ∧ z ≠ 8 + K 310 ∧ z ≠ 16 + K 310 ∧ z ≠ 24 + K 310 ∧ z ≠ 32 + K 310 ∧ z ≠ 40 + K 310 ∧ z ≠ 310) : coK K a b e f g z = K z := by
  unfold coK
  rw [uI_n _ _ (by omega), uI_n _ _ (by omega), uI_n _ _ (by omega), uI_n _ _ (by omega), uI_n _ _ (by omega), uI_n _ _ (by omega), uI_n _ _ (by omega)]
theorem coK_310 {a b e f g : Int} : coK K a b e f g 310 = K 310 + 1 := uI_s _ _ _
theorem coK_40 {a b e f g : Int} (hn : 0 ≤ K 310 ∧ K 310 < 8) : coK K a b e f g (40 + K 310) = 0 := by
  unfold coK
  rw [uI_n _ _ (by omega), uI_s]
theorem coK_8 {a b e f g : Int} (hn : 0 ≤ K 310 ∧ K 310 < 8) : coK K a b e f g (8 + K 310) = b := by
  unfold coK
  rw [uI_n _ _ (by omega), uI_n _ _ (by omega), uI_n _ _ (by omega), uI_n _ _ (by omega), uI_n _ _ (by omega), uI_s]
/-- an order that has no work yet -/
abbrev coA (a b e f g : Int) : Prop := (0 ≤ a ∧ a ≤ 3) ∧ (1 ≤ b ∧ b ≤ 9) ∧ (0 ≤ e ∧ e ≤ 200) ∧ (0 ≤ f ∧ f ≤ 500) ∧ (1 ≤ g ∧ g ≤ 9)
theorem coK_sp {a b e f g : Int} (hr : kR K) (hp : kP K) (hd : kD K) (hn : K 310 < 8) (ha : (0 ≤ a ∧ a ≤ 3) ∧ (1 ≤ b ∧ b ≤ 9) ∧ (0 ≤ e ∧ e ≤ 200) ∧ (0 ≤ f ∧ f ≤ 500) ∧ (0 ≤ g ∧ g ≤ 9)) : kR (coK K a b e f g) ∧ aW (coK K a b e f g) = aW K ∧ kP (coK K a b e f g) ∧ kD (coK K a b e f g) := by
  have hn8 := hr.n
  have hnn : 0 ≤ K 310 ∧ K 310 < 8 := ⟨hn8.1, hn⟩
  refine ⟨?_, ?_, ⟨fun o x y => ?_, fun o w x y p q => ?_⟩, kD_cong (fun z x => coK_n hnn (by omega)) hr hd⟩
  · unfold coK
    refine ((((((hr.up (z := K 310) (v := a) ?_).up (z := 8 + K 310) (v := b) ?_).up (z := 16 + K 310) (v := e) ?_).up (z := 24 + K 310) (v := f) ?_).up (z := 32 + K 310) (v := g) ?_).up (z := 40 + K 310) (v := 0) ?_).up (z := 310) (v := K 310 + 1) ?_
    · have := kb0 (z := K 310) hnn; omega
    · have := kb1 (z := 8 + K 310) (by omega); omega
    · have := kb2 (z := 16 + K 310) (by omega); omega
    · have := kb3 (z := 24 + K 310) (by omega); omega
    · have := kb4 (z := 32 + K 310) (by omega); omega
    · have := kb5 (z := 40 + K 310) (by omega); omega
    · have := kb15; omega
  · unfold aW
    rw [coK_310, SU_s _ hnn.1, coK_40 hnn, Int.add_zero]
    exact SU_cong (fun i x y => coK_n hnn (by omega))
  · rw [coK_310] at y
    by_cases hq : o = K 310
    · rw [hq, coK_8 hnn]
      omega
    · rw [coK_n hnn (by omega)]
      exact hp.1 o x (by omega)
  · rw [coK_310] at y
    by_cases hq : o = K 310
    · rw [hq, coK_40 hnn] at q
      omega
    · rw [coK_n hnn (by omega)] at q
      have hw := hr.wk (o := o) x (by omega)
      rw [coK_n hnn (by omega)]
      exact hp.2 o w x (by omega) p q
/-- kept plans go, the row comes anew -/
theorem rf_anew (H : RK M K c S) {K1 : e_St} {M1 : e_MI} (hK : e_KM M1 K1) (hF : frN M M1) (hr : kR K1) (ha : 0 ≤ aW K1 ∧ aW K1 ≤ 16) (hp : kP K1) (hk : ∀ i, 0 ≤ i → i < 48 → 0 ≤ K1 (257 + i) ∧ K1 (257 + i) ≤ 7) (hd : kD K1) : ∃ M2 M3 : e_MI, e_lim L xs (d + 1) 190 0 [some (.ref 184), none] [] (e_hp M1 V W) = some (.inl none, e_hp M2 V W, 0, 0) ∧ e_lim L xs (d + 1) 189 0 [some (.ref 184), none, none, none] [] (e_hp M2 V W) = some (.inl none, e_hp M3 V W, 0, 0) ∧ RK M3 (nwK K1) c S ∧ frN M M3 := by
  obtain ⟨M2, e2, k2, f2⟩ := mm_goesKept (L := L) (xs := xs) (d := d + 1) (V := V) (W := W) hK
  have hn := hr.n
  have eA : aW (gkK K1) = aW K1 := aW_cong (gkK_n (by omega)) (fun o a b => gkK_n (by omega))
  obtain ⟨M3, e3, k3, f3⟩ := mm_rowsAnew (L := L) (xs := xs) (d := d) (V := V) (W := W) k2 hr.gk (by rw [eA]; exact ha.2)
  have hF3 := (hF.t f2).t f3
  exact ⟨M2, M3, e2, e3, H.n k3 (kG_nw hr ha hp hk hd) hF3, hF3⟩
def cdOr (K : e_St) (a b e f g : Int) : Int := if coA a b e f g then (if K 310 < 8 then 0 else 2) else 1
theorem rf_order (H : RK M K c S) {a b e f g : Int} (ha : i32 a) (hb : i32 b) (he : i32 e) (hf : i32 f) (hg : i32 g) : AC (e_lim L xs (d + 2) 192 0 [some (.ref 184), some (.int (iI a)), some (.int (iI b)), some (.int (iI e)), some (.int (iI f)), some (.int (iI g)), none] [] (e_hp M V W)) M V W K c S (nwK (coK K a b e f g)) (cdOr K a b e f g) (iI (K 310)) := by
  have hn := H.r.n
  have h0 := mT_0 M
  unfold cdOr
  by_cases h1 : coA a b e f g
  · rw [if_pos h1]
    have h1' := h1
    unfold coA at h1'
    obtain ⟨q1, q2, q3, q4, q5⟩ := h1'
    have e1 := mm_inT (L := L) (xs := xs) (d := d + 1) (h := e_hp (mT M) V W) (x := a) (y2 := 0) (z2 := 3) q1 (by omega) (by omega)
    have e2 := mm_inT (L := L) (xs := xs) (d := d + 1) (h := e_hp (mT M) V W) (x := b) (y2 := 1) (z2 := 9) q2 (by omega) (by omega)
    have e3 := mm_inT (L := L) (xs := xs) (d := d + 1) (h := e_hp (mT M) V W) (x := e) (y2 := 0) (z2 := 200) q3 (by omega) (by omega)
    have e4 := mm_inT (L := L) (xs := xs) (d := d + 1) (h := e_hp (mT M) V W) (x := f) (y2 := 0) (z2 := 500) q4 (by omega) (by omega)
    have e5 := mm_inT (L := L) (xs := xs) (d := d + 1) (h := e_hp (mT M) V W) (x := g) (y2 := 1) (z2 := 9) q5 (by omega) (by omega)
    have e6 := mm_failsT (L := L) (xs := xs) (d := d + 1) (V := V) (W := W) (e := 1) h0 (by omega)
    have e7 := mm_many (L := L) (xs := xs) (d := d + 1) (V := V) (W := W) H.mT.km
    by_cases h2 : K 310 < 8
    · have e8 := mm_failsT (L := L) (xs := xs) (d := d + 1) (V := V) (W := W) (e := 2) h0 (by omega)
      obtain ⟨M1, e9, H1, F1, z1, -⟩ := rf_saves (L := L) (xs := xs) (d := d + 1) (V := V) (W := W) H.mT
      obtain ⟨M2, e10, k2, f2⟩ := mm_comes (L := L) (xs := xs) (d := d) (V := V) (W := W) H1.km ⟨hn.1, h2⟩ (a := a) (b := b) (c := e) (e := f) (f := g)
      obtain ⟨s1, s2, s3, s4⟩ := coK_sp (a := a) (b := b) (e := e) (f := f) (g := g) H.r H.g.2.2.1 H.g.2.2.2.2 h2 ⟨q1, q2, q3, q4, by omega⟩
      obtain ⟨M3, M4, e11, e12, H4, F4⟩ := rf_anew (L := L) (xs := xs) (d := d) (V := V) (W := W) H1 k2 f2 s1 (by rw [s2]; exact H.v.1) s3 (fun i x y => by
        rw [coK_n ⟨hn.1, h2⟩ (by omega)]
        exact H.g.2.2.2.1.2.2 i x y) s4
      rw [if_pos h2]
      refine AC.ok (M3 := M4) rfl ?_ H4 (F1.t F4.p) (by rw [F4 184 (by decide), z1, h0])
      simp (disch := first | assumption | exact e_nk_i _ | exact e_nk_n | exact e_nk_r _ | exact e_bo_0 | exact e_bo_1 | exact e_bo_b _ | omega) only [e_cl_v, e_cl_x, e_add_0, e_add_s, Option.toList_some, Option.toList_none, List.cons_append, List.nil_append, iI_add, iI_sub, iI_mul, iI_lt, iI_eq, iI_le, r192_0, r192_1, r192_2, r192_5, r192_6, r192_7, r192_8, r192_9, r192_12, r192_15, r192_16, r192_17, r192_19, r192_22, r192_25, r192_26, r192_27, r192_30, r192_33, r192_36, r192_38, r192_39, r192_42, r192_45, r192_48, r192_50, r192_51, r192_53, r192_56, r192_59, r192_60, r192_63, r192_64, r192_65, r192_68, r192_71, r192_72, r192_73, r192_76, r192_78, r192_81, r192_82, r192_85, r192_86, r192_87, r192_90, r192_93, r192_94, r192_95, r192_96, r192_99, r192_100, r192_101, r192_102, r192_103, r192_105, r192_107, r192_110, r192_112, r192_113, r192_116, r192_117, r192_120, r192_122, e1, e2, e3, e4, e5, e6, e7, e8, e9, e10, e11, e12]
      simp [h2]
    · have e8 := mm_failsF (L := L) (xs := xs) (d := d + 1) (V := V) (W := W) (e := 2) h0 (by omega)
      rw [if_neg h2]
      refine AC.bad H 2 (iI 0) (by omega) rfl ?_
      simp (disch := first | assumption | exact e_nk_i _ | exact e_nk_n | exact e_nk_r _ | exact e_bo_0 | exact e_bo_1 | exact e_bo_b _ | omega) only [e_cl_v, e_cl_x, e_add_0, e_add_s, Option.toList_some, Option.toList_none, List.cons_append, List.nil_append, iI_add, iI_sub, iI_mul, iI_lt, iI_eq, iI_le, r192_0, r192_1, r192_2, r192_5, r192_6, r192_7, r192_8, r192_9, r192_12, r192_15, r192_16, r192_17, r192_19, r192_22, r192_25, r192_26, r192_27, r192_30, r192_33, r192_36, r192_38, r192_39, r192_42, r192_45, r192_48, r192_50, r192_51, r192_53, r192_56, r192_59, r192_60, r192_63, r192_64, r192_65, r192_68, r192_71, r192_72, r192_73, r192_76, r192_78, r192_81, r192_82, r192_85, r192_86, r192_87, r192_90, r192_93, r192_94, r192_95, r192_96, r192_99, r192_100, r192_101, r192_102, r192_103, r192_105, r192_107, r192_110, r192_112, r192_113, r192_116, r192_117, r192_120, r192_122, e1, e2, e3, e4, e5, e6, e7, e8]
      simp [h2]
  · rw [if_neg h1]
    have e1 := mm_in (L := L) (xs := xs) (d := d + 1) (h := e_hp (mT M) V W) (x := a) (y2 := 0) (z2 := 3) ha (by omega) (by omega)
    have e2 := mm_in (L := L) (xs := xs) (d := d + 1) (h := e_hp (mT M) V W) (x := b) (y2 := 1) (z2 := 9) hb (by omega) (by omega)
    have e3 := mm_in (L := L) (xs := xs) (d := d + 1) (h := e_hp (mT M) V W) (x := e) (y2 := 0) (z2 := 200) he (by omega) (by omega)
    have e4 := mm_in (L := L) (xs := xs) (d := d + 1) (h := e_hp (mT M) V W) (x := f) (y2 := 0) (z2 := 500) hf (by omega) (by omega)
    have e5 := mm_in (L := L) (xs := xs) (d := d + 1) (h := e_hp (mT M) V W) (x := g) (y2 := 1) (z2 := 9) hg (by omega) (by omega)
    have e6 := mm_failsF (L := L) (xs := xs) (d := d + 1) (V := V) (W := W) (e := 1) h0 (by omega)
    refine AC.bad H 1 (iI 0) (by omega) rfl ?_
    simp (disch := first | assumption | exact e_nk_i _ | exact e_nk_n | exact e_nk_r _ | exact e_bo_0 | exact e_bo_1 | exact e_bo_b _ | omega) only [e_cl_v, e_cl_x, e_add_0, e_add_s, Option.toList_some, Option.toList_none, List.cons_append, List.nil_append, iI_add, iI_sub, iI_mul, iI_lt, iI_eq, iI_le, r192_0, r192_1, r192_2, r192_5, r192_6, r192_7, r192_8, r192_9, r192_12, r192_15, r192_16, r192_17, r192_19, r192_22, r192_25, r192_26, r192_27, r192_30, r192_33, r192_36, r192_38, r192_39, r192_42, r192_45, r192_48, r192_50, r192_51, r192_53, r192_56, r192_59, r192_60, r192_63, r192_64, r192_65, r192_68, r192_93, r192_94, e1, e2, e3, e4, e5, e6, bI_0, decide_eq_false_iff_not]
    unfold coA at h1
    try simp only [if_true, if_false]
    repeat' split
    all_goals first | omega | with_reducible rfl
theorem adK_n {m t l : Int} (ho : 0 ≤ o ∧ o ≤ 7) (hw : 0 ≤ K (40 + o) ∧ K (40 + o) ≤ 3) (hz : z ≠ 48 + (4 * o + K (40 + o)) ∧ z ≠ 80 + (4 * o + K (40 + o)) ∧ z ≠ 112 + (4 * o + K (40 + o)) ∧ z ≠ 40 + o) : adK K o m t l z = K z := by
  unfold adK
  rw [uI_n _ _ (by omega), uI_n _ _ (by omega), uI_n _ _ (by omega), uI_n _ _ (by omega)]
theorem adK_40 {m t l : Int} : adK K o m t l (40 + o) = K (40 + o) + 1 := uI_s _ _ _
theorem adK_80 {m t l : Int} (ho : 0 ≤ o ∧ o ≤ 7) (hw : 0 ≤ K (40 + o) ∧ K (40 + o) ≤ 3) : adK K o m t l (80 + (4 * o + K (40 + o))) = t := by
  unfold adK
  rw [uI_n _ _ (by omega), uI_n _ _ (by omega), uI_s]
theorem adK_sp {m t l : Int} (hr : kR K) (hp : kP K) (hd : kD K) (ho : 0 ≤ o ∧ o < K 310) (hw : K (40 + o) ≤ 3) (ha : (0 ≤ m ∧ m ≤ 3) ∧ (1 ≤ t ∧ t ≤ 9) ∧ (-1 ≤ l ∧ l ≤ 2)) : kR (adK K o m t l) ∧ aW (adK K o m t l) = aW K + 1 ∧ kP (adK K o m t l) ∧ kD (adK K o m t l) ∧ adK K o m t l 310 = K 310 := by
  have hn8 := hr.n
  have hw0 := hr.wk (o := o) ho.1 (by omega)
  have ho7 : 0 ≤ o ∧ o ≤ 7 := by omega
  have hww : 0 ≤ K (40 + o) ∧ K (40 + o) ≤ 3 := by omega
  have e310 : adK K o m t l 310 = K 310 := adK_n ho7 hww (by omega)
  refine ⟨?_, ?_, ⟨fun q x y => ?_, fun q w x y p u => ?_⟩, kD_cong (fun z x => adK_n ho7 hww (by omega)) hr hd, e310⟩
  · unfold adK
    refine (((hr.up (z := 48 + (4 * o + K (40 + o))) (v := m) ?_).up (z := 80 + (4 * o + K (40 + o))) (v := t) ?_).up (z := 112 + (4 * o + K (40 + o))) (v := l) ?_).up (z := 40 + o) (v := K (40 + o) + 1) ?_
    · have := kb6 (z := 48 + (4 * o + K (40 + o))) (by omega); omega
    · have := kb7 (z := 80 + (4 * o + K (40 + o))) (by omega); omega
    · have := kb8 (z := 112 + (4 * o + K (40 + o))) (by omega); omega
    · have := kb5 (z := 40 + o) (by omega); omega
  · unfold aW
    rw [e310, SU_cong (g := fun q => K (40 + q) + if o = q then 1 else 0) (fun q x y => ?_), SU_add _ _ hn8.1, SU_one ho.1 ho.2]
    by_cases hq : o = q
    · subst hq
      rw [adK_40, if_pos rfl]
    · rw [adK_n ho7 hww (by omega), if_neg hq, Int.add_zero]
  · rw [e310] at y
    rw [adK_n ho7 hww (by omega)]
    exact hp.1 q x y
  · rw [e310] at y
    have hwq := hr.wk (o := q) x (by omega)
    by_cases hq : q = o
    · subst hq
      rw [adK_40] at u
      by_cases hw2 : w = K (40 + q)
      · rw [hw2, show 80 + 4 * q + K (40 + q) = 80 + (4 * q + K (40 + q)) by omega, adK_80 ho7 hww]
        omega
      · rw [adK_n ho7 hww (by omega)]
        exact hp.2 q w x y p (by omega)
    · rw [adK_n ho7 hww (by omega)] at u
      rw [adK_n ho7 hww (by omega)]
      exact hp.2 q w x y p u
def cdWk (K : e_St) (o m t l : Int) : Int := if 0 ≤ o ∧ o ≤ K 310 - 1 then (if (0 ≤ m ∧ m ≤ 3) ∧ (1 ≤ t ∧ t ≤ 9) ∧ (-1 ≤ l ∧ l ≤ 2) then (if K (40 + o) < 4 ∧ aW K < 16 then 0 else 3) else 2) else 1
theorem rf_work (H : RK M K c S) {m t l : Int} (ho : i32 o) (hm : i32 m) (ht : i32 t) (hl : i32 l) : AC (e_lim L xs (d + 2) 194 0 [some (.ref 184), some (.int (iI o)), some (.int (iI m)), some (.int (iI t)), some (.int (iI l))] [] (e_hp M V W)) M V W K c S (nwK (adK K o m t l)) (cdWk K o m t l) (iI (K (40 + o) + 1)) := by
  have hn := H.r.n
  have h0 := mT_0 M
  unfold cdWk
  by_cases h1 : 0 ≤ o ∧ o ≤ K 310 - 1
  · have e1 := mm_noOrderT (L := L) (xs := xs) (d := d) (V := V) (W := W) H.mT.km H.r h0 h1
    have hw := H.r.wk (o := o) h1.1 (by omega)
    have hv := H.v.1
    rw [if_pos h1]
    by_cases h2 : (0 ≤ m ∧ m ≤ 3) ∧ (1 ≤ t ∧ t ≤ 9) ∧ (-1 ≤ l ∧ l ≤ 2)
    · obtain ⟨q1, q2, q3⟩ := h2
      have e2 := mm_inT (L := L) (xs := xs) (d := d + 1) (h := e_hp (mT M) V W) (x := m) (y2 := 0) (z2 := 3) q1 (by omega) (by omega)
      have e3 := mm_inT (L := L) (xs := xs) (d := d + 1) (h := e_hp (mT M) V W) (x := t) (y2 := 1) (z2 := 9) q2 (by omega) (by omega)
      have e4 := mm_inT (L := L) (xs := xs) (d := d + 1) (h := e_hp (mT M) V W) (x := l) (y2 := -1) (z2 := 2) q3 (by omega) (by omega)
      have e5 := mm_failsT (L := L) (xs := xs) (d := d + 1) (V := V) (W := W) (e := 2) h0 (by omega)
      have e6 := mm_worksOf (L := L) (xs := xs) (d := d + 1) (V := V) (W := W) H.mT.km (o := o) h1.1 (by omega)
      have e7 := mm_all (L := L) (xs := xs) (d := d) (V := V) (W := W) H.mT.km H.r
      rw [if_pos ⟨q1, q2, q3⟩]
      by_cases h3 : K (40 + o) < 4 ∧ aW K < 16
      · have e8 := mm_failsT (L := L) (xs := xs) (d := d + 1) (V := V) (W := W) (e := 3) h0 (by omega)
        obtain ⟨M1, e9, H1, F1, z1, -⟩ := rf_saves (L := L) (xs := xs) (d := d + 1) (V := V) (W := W) H.mT
        obtain ⟨M2, e10, k2, f2⟩ := mm_addsWork (L := L) (xs := xs) (d := d) (V := V) (W := W) H1.km (o := o) (m := m) (t := t) (l := l) (by omega) (by omega)
        obtain ⟨s1, s2, s3, s4, s5⟩ := adK_sp (o := o) (m := m) (t := t) (l := l) H.r H.g.2.2.1 H.g.2.2.2.2 (by omega) (by omega) ⟨q1, q2, q3⟩
        obtain ⟨M3, M4, e11, e12, H4, F4⟩ := rf_anew (L := L) (xs := xs) (d := d) (V := V) (W := W) H1 k2 f2 s1 (by rw [s2]; omega) s3 (fun i x y => by
          rw [adK_n (by omega) (by omega) (by omega)]
          exact H.g.2.2.2.1.2.2 i x y) s4
        have e13 := mm_worksOf (L := L) (xs := xs) (d := d + 1) (V := V) (W := W) H4.km (o := o) h1.1 (by omega)
        have e14 : nwK (adK K o m t l) (40 + o) = K (40 + o) + 1 := by
          unfold nwK
          rw [raK_n (by omega), gkK_n (by omega), adK_40]
        rw [e14] at e13
        rw [if_pos h3]
        refine AC.ok (M3 := M4) rfl ?_ H4 (F1.t F4.p) (by rw [F4 184 (by decide), z1, h0])
        simp (disch := first | assumption | exact e_nk_i _ | exact e_nk_n | exact e_nk_r _ | exact e_bo_0 | exact e_bo_1 | exact e_bo_b _ | omega) only [e_cl_v, e_cl_x, e_add_0, e_add_s, Option.toList_some, Option.toList_none, List.cons_append, List.nil_append, iI_add, iI_sub, iI_mul, iI_lt, iI_eq, iI_le, r194_0, r194_1, r194_2, r194_5, r194_6, r194_7, r194_10, r194_13, r194_14, r194_15, r194_16, r194_17, r194_20, r194_23, r194_24, r194_25, r194_27, r194_30, r194_33, r194_35, r194_36, r194_37, r194_40, r194_43, r194_44, r194_47, r194_48, r194_49, r194_52, r194_55, r194_56, r194_57, r194_58, r194_61, r194_62, r194_65, r194_66, r194_69, r194_71, r194_74, r194_75, r194_78, r194_79, r194_80, r194_83, r194_86, r194_87, r194_88, r194_89, r194_92, r194_93, r194_94, r194_95, r194_96, r194_98, r194_101, r194_102, r194_105, r194_106, r194_109, r194_110, r194_111, r194_114, e1, e2, e3, e4, e5, e6, e7, e8, e9, e10, e11, e12, e13]
        simp [h3]
      · have e8 := mm_failsF (L := L) (xs := xs) (d := d + 1) (V := V) (W := W) (e := 3) h0 (by omega)
        rw [if_neg h3]
        refine AC.bad H 3 (iI 0) (by omega) rfl ?_
        simp (disch := first | assumption | exact e_nk_i _ | exact e_nk_n | exact e_nk_r _ | exact e_bo_0 | exact e_bo_1 | exact e_bo_b _ | omega) only [e_cl_v, e_cl_x, e_add_0, e_add_s, Option.toList_some, Option.toList_none, List.cons_append, List.nil_append, iI_add, iI_sub, iI_mul, iI_lt, iI_eq, iI_le, r194_0, r194_1, r194_2, r194_5, r194_6, r194_7, r194_10, r194_13, r194_14, r194_15, r194_16, r194_17, r194_20, r194_23, r194_24, r194_25, r194_27, r194_30, r194_33, r194_35, r194_36, r194_37, r194_40, r194_43, r194_44, r194_47, r194_48, r194_49, r194_52, r194_55, r194_56, r194_57, r194_58, r194_61, r194_62, r194_65, r194_66, r194_69, r194_71, r194_74, r194_75, r194_78, r194_79, r194_80, r194_83, r194_86, r194_87, e1, e2, e3, e4, e5, e6, e7, e8]
        try simp only [if_true, if_false]
        repeat' split
        all_goals first | omega | with_reducible rfl
    · rw [if_neg h2]
      have e2 := mm_in (L := L) (xs := xs) (d := d + 1) (h := e_hp (mT M) V W) (x := m) (y2 := 0) (z2 := 3) hm (by omega) (by omega)
      have e3 := mm_in (L := L) (xs := xs) (d := d + 1) (h := e_hp (mT M) V W) (x := t) (y2 := 1) (z2 := 9) ht (by omega) (by omega)
      have e4 := mm_in (L := L) (xs := xs) (d := d + 1) (h := e_hp (mT M) V W) (x := l) (y2 := -1) (z2 := 2) hl (by omega) (by omega)
      have e5 := mm_failsF (L := L) (xs := xs) (d := d + 1) (V := V) (W := W) (e := 2) h0 (by omega)
      refine AC.bad H 2 (iI 0) (by omega) rfl ?_
      simp (disch := first | assumption | exact e_nk_i _ | exact e_nk_n | exact e_nk_r _ | exact e_bo_0 | exact e_bo_1 | exact e_bo_b _ | omega) only [e_cl_v, e_cl_x, e_add_0, e_add_s, Option.toList_some, Option.toList_none, List.cons_append, List.nil_append, iI_add, iI_sub, iI_mul, iI_lt, iI_eq, iI_le, r194_0, r194_1, r194_2, r194_5, r194_6, r194_7, r194_10, r194_13, r194_14, r194_15, r194_16, r194_17, r194_20, r194_23, r194_24, r194_25, r194_27, r194_30, r194_33, r194_35, r194_36, r194_37, r194_40, r194_43, r194_44, r194_47, r194_48, r194_49, r194_52, r194_86, r194_87, e1, e2, e3, e4, e5, bI_0, decide_eq_false_iff_not]
      try simp only [if_true, if_false]
      repeat' split
      all_goals first | omega | with_reducible rfl
  · have e1 := mm_noOrderF (L := L) (xs := xs) (d := d) (V := V) (W := W) H.mT.km H.r h0 ho h1
    rw [if_neg h1]
    refine AC.bad H 1 (iI 0) (by omega) rfl ?_
    simp (disch := first | assumption | exact e_nk_i _ | exact e_nk_n | exact e_nk_r _ | exact e_bo_0 | exact e_bo_1 | exact e_bo_b _ | omega) only [e_cl_v, e_cl_x, e_add_0, e_add_s, Option.toList_some, Option.toList_none, List.cons_append, List.nil_append, iI_add, iI_sub, iI_mul, iI_lt, iI_eq, iI_le, r194_0, r194_1, r194_2, r194_5, r194_6, r194_7, r194_10, r194_86, r194_87, e1]
    all_goals first | (simp; done) | rfl | (simp; rfl)
def cdSA (K : e_St) (o a : Int) : Int := if 0 ≤ o ∧ o ≤ K 310 - 1 then (if 1 ≤ a ∧ a ≤ 9 then 0 else 2) else 1
def saK (K : e_St) (o a : Int) : e_St := raK (uI K (8 + o) a)
theorem saK_sp {a : Int} (hg : kG K) (ho : 0 ≤ o ∧ o < K 310) (ha : 1 ≤ a ∧ a ≤ 9) : kR (uI K (8 + o) a) ∧ aW (uI K (8 + o) a) = aW K ∧ kG (saK K o a) := by
  obtain ⟨g1, g2, g3, g4, g5⟩ := hg
  have hn := g1.n
  have hr : kR (uI K (8 + o) a) := g1.up (by have := kb1 (z := 8 + o) (by omega); omega)
  have e310 : uI K (8 + o) a 310 = K 310 := uI_n _ _ (by omega)
  have e40 : ∀ q, 0 ≤ q → q < K 310 → uI K (8 + o) a (40 + q) = K (40 + q) := fun q x y => uI_n _ _ (by omega)
  have eA : aW (uI K (8 + o) a) = aW K := aW_cong e310 e40
  refine ⟨hr, eA, kG_ra hr (by rw [eA]; exact g2.1) ⟨fun q x y => ?_, fun q w x y p u => ?_⟩ (kK_cong e310 e40 (fun z x y => uI_n _ _ (by omega)) g2.1.2 g4) (kD_cong (fun z x => uI_n _ _ (by omega)) g1 g5)⟩
  · unfold uI
    split
    · omega
    · rw [e310] at y
      exact g3.1 q x y
  · rw [e310] at y
    have hw := g1.wk (o := q) x (by omega)
    rw [e40 q x y] at u
    rw [uI_n _ _ (by omega)]
    exact g3.2 q w x y p u
theorem rf_setAmount (H : RK M K c S) {a : Int} (ho : i32 o) (ha : i32 a) : AC (e_lim L xs (d + 2) 196 0 [some (.ref 184), some (.int (iI o)), some (.int (iI a)), none] [] (e_hp M V W)) M V W K c S (saK K o a) (cdSA K o a) (iI (K (8 + o))) := by
  have hn := H.r.n
  have h0 := mT_0 M
  unfold cdSA
  by_cases h1 : 0 ≤ o ∧ o ≤ K 310 - 1
  · have e1 := mm_noOrderT (L := L) (xs := xs) (d := d) (V := V) (W := W) H.mT.km H.r h0 h1
    rw [if_pos h1]
    by_cases h2 : 1 ≤ a ∧ a ≤ 9
    · have e2 := mm_inT (L := L) (xs := xs) (d := d + 1) (h := e_hp (mT M) V W) h2 (by omega) (by omega)
      have e3 := mm_failsT (L := L) (xs := xs) (d := d + 1) (V := V) (W := W) (e := 2) h0 (by omega)
      obtain ⟨M1, e4, H1, F1, z1, -⟩ := rf_saves (L := L) (xs := xs) (d := d + 1) (V := V) (W := W) H.mT
      have e5 := H1.km (8 + o) (by omega) (by omega)
      obtain ⟨s1, s2, s3⟩ := saK_sp (o := o) (a := a) H.g (by omega) h2
      have k2 : e_KM (e_u M1 185 (upd (M1 185) (8 + o).toNat (iI a))) (uI K (8 + o) a) := KM_up H1.km (by omega)
      obtain ⟨M3, e6, k3, f3⟩ := mm_rowsAnew (L := L) (xs := xs) (d := d) (V := V) (W := W) k2 s1 (by rw [s2]; exact H.v.1.2)
      have F3 : frN M1 M3 := frN.t (fun a x => e_u_n _ _ x) f3
      rw [if_pos h2]
      refine AC.ok (M3 := M3) rfl ?_ (H1.n k3 s3 F3) (F1.t F3.p) (by rw [F3 184 (by decide), z1, h0])
      simp (disch := first | assumption | exact e_nk_i _ | exact e_nk_n | exact e_nk_r _ | exact e_bo_0 | exact e_bo_1 | exact e_bo_b _ | omega) only [e_cl_v, e_cl_x, e_add_0, e_add_s, Option.toList_some, Option.toList_none, List.cons_append, List.nil_append, iI_add, iI_sub, iI_mul, iI_lt, iI_eq, iI_le, r196_0, r196_1, r196_2, r196_5, r196_6, r196_7, r196_10, r196_13, r196_14, r196_15, r196_16, r196_18, r196_21, r196_22, r196_25, r196_28, r196_29, r196_30, r196_31, r196_34, r196_35, r196_38, r196_40, r196_41, r196_42, r196_43, r196_44, r196_45, r196_48, r196_50, r196_51, r196_52, r196_53, r196_54, r196_55, r196_58, r196_59, e1, e2, e3, e4, iI_vin, iI_nat, if_true, e5, e6]
      all_goals first | (simp; done) | rfl | (simp; rfl)
    · have e2 := mm_inF (L := L) (xs := xs) (d := d + 1) (h := e_hp (mT M) V W) h2 ha (by omega) (by omega)
      have e3 := mm_failsF (L := L) (xs := xs) (d := d + 1) (V := V) (W := W) (e := 2) h0 (by omega)
      rw [if_neg h2]
      refine AC.bad H 2 (iI 0) (by omega) rfl ?_
      simp (disch := first | assumption | exact e_nk_i _ | exact e_nk_n | exact e_nk_r _ | exact e_bo_0 | exact e_bo_1 | exact e_bo_b _ | omega) only [e_cl_v, e_cl_x, e_add_0, e_add_s, Option.toList_some, Option.toList_none, List.cons_append, List.nil_append, iI_add, iI_sub, iI_mul, iI_lt, iI_eq, iI_le, r196_0, r196_1, r196_2, r196_5, r196_6, r196_7, r196_10, r196_13, r196_14, r196_15, r196_16, r196_18, r196_21, r196_22, r196_25, r196_28, r196_29, r196_30, r196_31, r196_34, r196_35, r196_38, r196_40, r196_41, r196_42, r196_43, r196_44, r196_45, r196_48, r196_50, r196_51, r196_52, r196_53, r196_54, r196_55, r196_58, r196_59, e1, e2, e3]
      all_goals first | (simp; done) | rfl | (simp; rfl)
  · have e1 := mm_noOrderF (L := L) (xs := xs) (d := d) (V := V) (W := W) H.mT.km H.r h0 ho h1
    rw [if_neg h1]
    refine AC.bad H 1 (iI 0) (by omega) rfl ?_
    simp (disch := first | assumption | exact e_nk_i _ | exact e_nk_n | exact e_nk_r _ | exact e_bo_0 | exact e_bo_1 | exact e_bo_b _ | omega) only [e_cl_v, e_cl_x, e_add_0, e_add_s, Option.toList_some, Option.toList_none, List.cons_append, List.nil_append, iI_add, iI_sub, iI_mul, iI_lt, iI_eq, iI_le, r196_0, r196_1, r196_2, r196_5, r196_6, r196_7, r196_10, r196_13, r196_14, r196_15, r196_16, r196_18, r196_21, r196_22, r196_25, r196_28, r196_29, r196_30, r196_31, r196_34, r196_35, r196_38, r196_40, r196_41, r196_42, r196_43, r196_44, r196_45, r196_48, r196_50, r196_51, r196_52, r196_53, r196_54, r196_55, r196_58, r196_59, e1]
    all_goals first | (simp; done) | rfl | (simp; rfl)
/-- a change of one number of the times -/
theorem kG_up (hg : kG K) (hz : (144 ≤ z ∧ z < 208) ∨ (238 ≤ z ∧ z < 241) ∨ z = 308 ∨ z = 309) (hv : kLo z ≤ v ∧ v ≤ kHi z) (hs : 144 ≤ z ∧ z < 208 → ∀ m f, 0 ≤ m → m < 4 → 0 ≤ f → f < 4 → z ≠ 144 + 16 * m + 4 * f + f) : kG (uI K z v) := by
  have hm := hg.1.rm
  refine kG_t hg (hg.1.up hv) (uI_n _ _ (by omega)) (fun i a => uI_n _ _ (by omega)) ⟨fun k a b => ?_, fun m f a b x y => ?_⟩
  · rw [uI_n _ _ (show (311 : Int) ≠ z by omega)] at b
    rw [uI_n _ _ (by omega), uI_n _ _ (by omega), uI_n _ _ (by omega)]
    exact hg.2.2.2.2.1 k a b
  · by_cases hq : 144 ≤ z ∧ z < 208
    · rw [uI_n _ _ (Ne.symm (hs hq m f a b x y))]
      exact hg.2.2.2.2.2 m f a b x y
    · rw [uI_n _ _ (by omega)]
      exact hg.2.2.2.2.2 m f a b x y
def cdSe (m f t v : Int) : Int := if (0 ≤ m ∧ m ≤ 3) ∧ (0 ≤ f ∧ f ≤ 3) ∧ (0 ≤ t ∧ t ≤ 3) ∧ (0 ≤ v ∧ v ≤ 20) ∧ f ≠ t then 0 else 1
theorem rf_setting (H : RK M K c S) {m f t : Int} (hm : i32 m) (hf : i32 f) (ht : i32 t) (hv : i32 v) : AC (e_lim L xs (d + 2) 205 0 [some (.ref 184), some (.int (iI m)), some (.int (iI f)), some (.int (iI t)), some (.int (iI v)), none] [] (e_hp M V W)) M V W K c S (uI K (144 + 16 * m + 4 * f + t) v) (cdSe m f t v) (iI (K (144 + 16 * m + 4 * f + t))) := by
  have h0 := mT_0 M
  unfold cdSe
  by_cases h1 : (0 ≤ m ∧ m ≤ 3) ∧ (0 ≤ f ∧ f ≤ 3) ∧ (0 ≤ t ∧ t ≤ 3) ∧ (0 ≤ v ∧ v ≤ 20) ∧ f ≠ t
  · obtain ⟨q1, q2, q3, q4, q5⟩ := h1
    have e1 := mm_isMachineT (L := L) (xs := xs) (d := d) (M := mT M) (V := V) (W := W) q1
    have e2 := mm_inT (L := L) (xs := xs) (d := d + 1) (h := e_hp (mT M) V W) (x := f) (y2 := 0) (z2 := 3) q2 (by omega) (by omega)
    have e3 := mm_inT (L := L) (xs := xs) (d := d + 1) (h := e_hp (mT M) V W) (x := t) (y2 := 0) (z2 := 3) q3 (by omega) (by omega)
    have e4 := mm_inT (L := L) (xs := xs) (d := d + 1) (h := e_hp (mT M) V W) (x := v) (y2 := 0) (z2 := 20) q4 (by omega) (by omega)
    have e5 := mm_failsT (L := L) (xs := xs) (d := d + 1) (V := V) (W := W) (e := 1) h0 (by omega)
    obtain ⟨M1, e6, H1, F1, z1, -⟩ := rf_saves (L := L) (xs := xs) (d := d + 1) (V := V) (W := W) H.mT
    have e7 := mm_settingOf (L := L) (xs := xs) (d := d + 1) (V := V) (W := W) H1.km (m := m) (f := f) (t := t) (by omega) (by omega) (by omega)
    have e8 : sT K m f t = K (144 + 16 * m + 4 * f + t) := by
      unfold sT
      rw [if_neg q5]
    rw [e8] at e7
    have hg := kG_up (z := 144 + 16 * m + 4 * f + t) (v := v) H.g (by omega) (by have := kb9 (z := 144 + 16 * m + 4 * f + t) (by omega); omega) (fun _ m2 f2 a b x y e => by
      obtain ⟨k, hk⟩ : ∃ k : Int, k = 4 * m2 + f2 - 4 * m - f := ⟨_, rfl⟩
      have h1 : t = f2 + 4 * k := by omega
      have h2 : k = 0 := by omega
      obtain ⟨j, hj⟩ : ∃ j : Int, j = m2 - m := ⟨_, rfl⟩
      have h3 : f - f2 = 4 * j := by omega
      have h4 : j = 0 := by omega
      omega)
    have F2 : frN M1 (e_u M1 185 (upd (M1 185) (144 + 16 * m + 4 * f + t).toNat (iI v))) := fun a x => e_u_n _ _ x
    rw [if_pos ⟨q1, q2, q3, q4, q5⟩]
    refine AC.ok (M3 := e_u M1 185 (upd (M1 185) (144 + 16 * m + 4 * f + t).toNat (iI v))) rfl ?_ (H1.n (KM_up H1.km (by omega)) hg F2) (F1.t F2.p) (by rw [F2 184 (by decide), z1, h0])
    simp (disch := first | assumption | exact e_nk_i _ | exact e_nk_n | exact e_nk_r _ | exact e_bo_0 | exact e_bo_1 | exact e_bo_b _ | omega) only [e_cl_v, e_cl_x, e_add_0, e_add_s, Option.toList_some, Option.toList_none, List.cons_append, List.nil_append, iI_add, iI_sub, iI_mul, iI_lt, iI_eq, iI_le, r205_0, r205_1, r205_2, r205_5, r205_6, r205_7, r205_8, r205_11, r205_14, r205_15, r205_16, r205_17, r205_20, r205_23, r205_24, r205_25, r205_26, r205_29, r205_32, r205_34, r205_35, r205_37, r205_40, r205_43, r205_44, r205_45, r205_48, r205_49, r205_52, r205_53, r205_54, r205_57, r205_60, r205_61, r205_62, r205_63, r205_66, r205_67, r205_68, r205_69, r205_70, r205_73, r205_75, r205_76, r205_79, r205_82, r205_84, r205_85, r205_86, r205_87, r205_88, r205_89, r205_90, r205_91, r205_92, r205_93, r205_95, r205_96, r205_98, e1, e2, e3, e4, e5, e6, e7, iI_vin, iI_nat, if_true]
    simp [q5]
  · have e1 := mm_isMachine (L := L) (xs := xs) (d := d) (M := mT M) (V := V) (W := W) hm
    have e2 := mm_in (L := L) (xs := xs) (d := d + 1) (h := e_hp (mT M) V W) (x := f) (y2 := 0) (z2 := 3) hf (by omega) (by omega)
    have e3 := mm_in (L := L) (xs := xs) (d := d + 1) (h := e_hp (mT M) V W) (x := t) (y2 := 0) (z2 := 3) ht (by omega) (by omega)
    have e4 := mm_in (L := L) (xs := xs) (d := d + 1) (h := e_hp (mT M) V W) (x := v) (y2 := 0) (z2 := 20) hv (by omega) (by omega)
    have e5 := mm_failsF (L := L) (xs := xs) (d := d + 1) (V := V) (W := W) (e := 1) h0 (by omega)
    have hf2 : -2147483648 ≤ f ∧ f < 2147483648 := hf
    have ht2 : -2147483648 ≤ t ∧ t < 2147483648 := ht
    rw [if_neg h1]
    refine AC.bad H 1 (iI 0) (by omega) rfl ?_
    simp (disch := first | assumption | exact e_nk_i _ | exact e_nk_n | exact e_nk_r _ | exact e_bo_0 | exact e_bo_1 | exact e_bo_b _ | omega) only [e_cl_v, e_cl_x, e_add_0, e_add_s, Option.toList_some, Option.toList_none, List.cons_append, List.nil_append, iI_add, iI_sub, iI_mul, iI_lt, iI_eq, iI_le, r205_0, r205_1, r205_2, r205_5, r205_6, r205_7, r205_8, r205_11, r205_14, r205_15, r205_16, r205_17, r205_20, r205_23, r205_24, r205_25, r205_26, r205_29, r205_32, r205_34, r205_35, r205_37, r205_40, r205_43, r205_44, r205_45, r205_48, r205_49, r205_52, r205_53, r205_54, r205_57, r205_60, r205_61, e1, e2, e3, e4, e5, bI_0, decide_eq_false_iff_not]
    try simp only [if_true, if_false]
    repeat' split
    all_goals first | omega | with_reducible rfl
theorem rf_noRest (H : RK M K c S) : AC (e_lim L xs (d + 1) 208 0 [some (.ref 184), none] [] (e_hp M V W)) M V W K c S (uI K 311 0) 0 (iI (K 311)) := by
  have h0 := mT_0 M
  obtain ⟨M1, e6, H1, F1, z1, -⟩ := rf_saves (L := L) (xs := xs) (d := d) (V := V) (W := W) H.mT
  have e7 := H1.km 311 (by omega) (by omega)
  have F2 : frN M1 (e_u M1 185 (upd (M1 185) (311 : Int).toNat (iI 0))) := fun a x => e_u_n _ _ x
  have hg : kG (uI K 311 0) := kG_t H.g (H.r.up (by have := kb16; omega)) (uI_n _ _ (by omega)) (fun i a => uI_n _ _ (by omega)) ⟨fun k a b => by
    rw [uI_s] at b
    omega, fun m f a b x y => by
    rw [uI_n _ _ (by omega)]
    exact H.g.2.2.2.2.2 m f a b x y⟩
  refine AC.ok (M3 := e_u M1 185 (upd (M1 185) (311 : Int).toNat (iI 0))) rfl ?_ (H1.n (KM_up H1.km (by omega)) hg F2) (F1.t F2.p) (by rw [F2 184 (by decide), z1, h0])
  simp (disch := first | assumption | exact e_nk_i _ | exact e_nk_n | exact e_nk_r _ | exact e_bo_0 | exact e_bo_1 | exact e_bo_b _ | omega) only [e_cl_v, e_cl_x, e_add_0, e_add_s, Option.toList_some, Option.toList_none, List.cons_append, List.nil_append, iI_add, iI_sub, iI_mul, iI_lt, iI_eq, iI_le, r208_0, r208_1, r208_2, r208_5, r208_6, r208_9, r208_10, r208_13, r208_16, r208_17, r208_18, r208_19, r208_22, r208_25, r208_26, r208_27, r208_28, e6, iI_vin, iI_nat, if_true, e7]
def cdWs (s n : Int) : Int := if (0 ≤ s ∧ s ≤ 2) ∧ 0 ≤ n ∧ n ≤ 4 then 0 else 1
theorem rf_workers (H : RK M K c S) {s n : Int} (hs : i32 s) (hn : i32 n) : AC (e_lim L xs (d + 1) 209 0 [some (.ref 184), some (.int (iI s)), some (.int (iI n)), none] [] (e_hp M V W)) M V W K c S (uI K (238 + s) n) (cdWs s n) (iI (K (238 + s))) := by
  have h0 := mT_0 M
  unfold cdWs
  by_cases h1 : (0 ≤ s ∧ s ≤ 2) ∧ 0 ≤ n ∧ n ≤ 4
  · obtain ⟨q1, q2⟩ := h1
    have e2 := mm_inT (L := L) (xs := xs) (d := d) (h := e_hp (mT M) V W) (x := s) (y2 := 0) (z2 := 2) q1 (by omega) (by omega)
    have e3 := mm_inT (L := L) (xs := xs) (d := d) (h := e_hp (mT M) V W) (x := n) (y2 := 0) (z2 := 4) q2 (by omega) (by omega)
    have e5 := mm_failsT (L := L) (xs := xs) (d := d) (V := V) (W := W) (e := 1) h0 (by omega)
    obtain ⟨M1, e6, H1, F1, z1, -⟩ := rf_saves (L := L) (xs := xs) (d := d) (V := V) (W := W) H.mT
    have e7 := H1.km (238 + s) (by omega) (by omega)
    have hg := kG_up (z := 238 + s) (v := n) H.g (by omega) (by have := kb11 (z := 238 + s) (by omega); omega) (fun q => by omega)
    have F2 : frN M1 (e_u M1 185 (upd (M1 185) (238 + s).toNat (iI n))) := fun a x => e_u_n _ _ x
    rw [if_pos ⟨q1, q2⟩]
    refine AC.ok (M3 := e_u M1 185 (upd (M1 185) (238 + s).toNat (iI n))) rfl ?_ (H1.n (KM_up H1.km (by omega)) hg F2) (F1.t F2.p) (by rw [F2 184 (by decide), z1, h0])
    simp (disch := first | assumption | exact e_nk_i _ | exact e_nk_n | exact e_nk_r _ | exact e_bo_0 | exact e_bo_1 | exact e_bo_b _ | omega) only [e_cl_v, e_cl_x, e_add_0, e_add_s, Option.toList_some, Option.toList_none, List.cons_append, List.nil_append, iI_add, iI_sub, iI_mul, iI_lt, iI_eq, iI_le, r209_0, r209_1, r209_2, r209_5, r209_6, r209_7, r209_8, r209_9, r209_12, r209_15, r209_16, r209_17, r209_18, r209_21, r209_24, r209_25, r209_28, r209_29, r209_30, r209_33, r209_36, r209_37, r209_38, r209_39, r209_42, r209_43, r209_46, r209_49, r209_50, r209_51, r209_52, r209_53, r209_54, r209_57, r209_60, r209_61, r209_62, r209_63, r209_64, r209_65, e2, e3, e5, e6, iI_vin, iI_nat, if_true, e7]
    all_goals first | (simp; done) | rfl | (simp; rfl)
  · have e2 := mm_in (L := L) (xs := xs) (d := d) (h := e_hp (mT M) V W) (x := s) (y2 := 0) (z2 := 2) hs (by omega) (by omega)
    have e3 := mm_in (L := L) (xs := xs) (d := d) (h := e_hp (mT M) V W) (x := n) (y2 := 0) (z2 := 4) hn (by omega) (by omega)
    have e5 := mm_failsF (L := L) (xs := xs) (d := d) (V := V) (W := W) (e := 1) h0 (by omega)
    rw [if_neg h1]
    refine AC.bad H 1 (iI 0) (by omega) rfl ?_
    simp (disch := first | assumption | exact e_nk_i _ | exact e_nk_n | exact e_nk_r _ | exact e_bo_0 | exact e_bo_1 | exact e_bo_b _ | omega) only [e_cl_v, e_cl_x, e_add_0, e_add_s, Option.toList_some, Option.toList_none, List.cons_append, List.nil_append, iI_add, iI_sub, iI_mul, iI_lt, iI_eq, iI_le, r209_0, r209_1, r209_2, r209_5, r209_6, r209_7, r209_8, r209_9, r209_12, r209_15, r209_16, r209_17, r209_18, r209_21, r209_24, r209_25, r209_28, r209_29, r209_30, r209_33, r209_36, r209_37, e2, e3, e5, bI_0, decide_eq_false_iff_not]
    try simp only [if_true, if_false]
    repeat' split
    all_goals first | omega | with_reducible rfl
def cdRa (v : Int) : Int := if 0 ≤ v ∧ v ≤ 1000 then 0 else 1
theorem rf_setRate (H : RK M K c S) {b : Bool} (hv : i32 v) : AC (e_lim L xs (d + 1) 261 0 [some (.ref 184), some (.int (bI b)), some (.int (iI v)), none, none] [] (e_hp M V W)) M V W K c S (uI K (308 + if b = true then 1 else 0) v) (cdRa v) (iI (K (308 + if b = true then 1 else 0))) := by
  have h0 := mT_0 M
  unfold cdRa
  by_cases h1 : 0 ≤ v ∧ v ≤ 1000
  · have e2 := mm_inT (L := L) (xs := xs) (d := d) (h := e_hp (mT M) V W) h1 (by omega) (by omega)
    have e5 := mm_failsT (L := L) (xs := xs) (d := d) (V := V) (W := W) (e := 1) h0 (by omega)
    obtain ⟨M1, e6, H1, F1, z1, -⟩ := rf_saves (L := L) (xs := xs) (d := d) (V := V) (W := W) H.mT
    obtain ⟨q, hq, hq2⟩ : ∃ q : Int, (308 + if b = true then 1 else 0) = 308 + q ∧ (if b = true then (1 : Int) else 0) = q := ⟨_, rfl, rfl⟩
    have hq3 : q = 0 ∨ q = 1 := by
      rw [← hq2]
      split <;> omega
    rw [hq]
    have e7 := H1.km (308 + q) (by omega) (by omega)
    have hg := kG_up (z := 308 + q) (v := v) H.g (by omega) (by have := kb14 (z := 308 + q) (by omega); omega) (fun q => by omega)
    have F2 : frN M1 (e_u M1 185 (upd (M1 185) (308 + q).toNat (iI v))) := fun a x => e_u_n _ _ x
    rw [if_pos h1]
    refine AC.ok (M3 := e_u M1 185 (upd (M1 185) (308 + q).toNat (iI v))) rfl ?_ (H1.n (KM_up H1.km (by omega)) hg F2) (F1.t F2.p) (by rw [F2 184 (by decide), z1, h0])
    cases b with
    | true =>
      have : q = 1 := by rw [← hq2]; rfl
      subst this
      simp (disch := first | assumption | exact e_nk_i _ | exact e_nk_n | exact e_nk_r _ | exact e_bo_0 | exact e_bo_1 | exact e_bo_b _ | omega) only [e_cl_v, e_cl_x, e_add_0, e_add_s, Option.toList_some, Option.toList_none, List.cons_append, List.nil_append, iI_add, iI_sub, iI_mul, iI_lt, iI_eq, iI_le, r261_0, r261_1, r261_2, r261_5, r261_6, r261_7, r261_8, r261_11, r261_14, r261_15, r261_18, r261_21, r261_22, r261_23, r261_24, r261_27, r261_30, r261_31, r261_34, r261_35, r261_38, r261_39, r261_40, r261_41, r261_42, r261_45, r261_46, r261_47, r261_49, r261_50, r261_53, r261_54, r261_55, r261_56, r261_58, e2, e5, e6, iI_vin, iI_nat, if_true, e7, bI_t]
      all_goals first | (simp; done) | rfl | (simp; rfl)
    | false =>
      have : q = 0 := by rw [← hq2]; rfl
      subst this
      simp (disch := first | assumption | exact e_nk_i _ | exact e_nk_n | exact e_nk_r _ | exact e_bo_0 | exact e_bo_1 | exact e_bo_b _ | omega) only [e_cl_v, e_cl_x, e_add_0, e_add_s, Option.toList_some, Option.toList_none, List.cons_append, List.nil_append, iI_add, iI_sub, iI_mul, iI_lt, iI_eq, iI_le, r261_0, r261_1, r261_2, r261_5, r261_6, r261_7, r261_8, r261_11, r261_14, r261_15, r261_18, r261_21, r261_22, r261_23, r261_24, r261_27, r261_30, r261_31, r261_34, r261_35, r261_38, r261_39, r261_40, r261_41, r261_42, r261_45, r261_46, r261_47, r261_49, r261_50, r261_53, r261_54, r261_55, r261_56, r261_58, e2, e5, e6, iI_vin, iI_nat, if_true, e7, bI_f]
      all_goals first | (simp; done) | rfl | (simp; rfl)
  · have e2 := mm_inF (L := L) (xs := xs) (d := d) (h := e_hp (mT M) V W) h1 hv (by omega) (by omega)
    have e5 := mm_failsF (L := L) (xs := xs) (d := d) (V := V) (W := W) (e := 1) h0 (by omega)
    rw [if_neg h1]
    refine AC.bad H 1 (iI 0) (by omega) rfl ?_
    simp (disch := first | assumption | exact e_nk_i _ | exact e_nk_n | exact e_nk_r _ | exact e_bo_0 | exact e_bo_1 | exact e_bo_b _ | omega) only [e_cl_v, e_cl_x, e_add_0, e_add_s, Option.toList_some, Option.toList_none, List.cons_append, List.nil_append, iI_add, iI_sub, iI_mul, iI_lt, iI_eq, iI_le, r261_0, r261_1, r261_2, r261_5, r261_6, r261_7, r261_8, r261_11, r261_14, r261_15, r261_18, r261_21, r261_22, e2, e5]
    all_goals first | (simp; done) | rfl | (simp; rfl)
end E87
