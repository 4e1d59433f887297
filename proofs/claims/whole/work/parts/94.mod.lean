section E94
variable {L : Nat} {xs : Nat → Int32} {d : Nat} {M M2 M3 : e_MI} {V : e_ML} {W : e_MD} {K K2 : e_St} {h : e_H} {S : Int → e_St} {c cd n er f t o m q j z i : Int} {s : Int × (Int → Int)} {ρ ω β ε τ T U : Int → Int} {r : Option e_R} {an : Int32}
def dpK (K : e_St) (o : Int) : e_St := dnK K o (K 310 - 1) 0 0
theorem dpP_iff : dnP o j 0 0 z = true ↔ ((0 ≤ z ∧ z < 48 ∧ o ≤ z % 8 ∧ z % 8 < j) ∨ (48 ≤ z ∧ z < 144 ∧ o ≤ (z - 48) % 32 / 4 ∧ (z - 48) % 32 / 4 < j)) := by
  rw [dnP_iff]
  constructor
  · rintro (x | x)
    · exact Or.inl (by omega)
    · exact Or.inr ⟨x.1, x.2.1, x.2.2.1, by omega⟩
  · rintro (x | x)
    · exact Or.inl (by omega)
    · exact Or.inr ⟨x.1, x.2.1, x.2.2.1, by omega⟩
theorem dpK_310 : dpK K o 310 = K 310 - 1 := rfl
theorem dpK_n (h : z ≠ 310) (h2 : z < 0 ∨ 144 ≤ z) : dpK K o z = K z := dnK_n h (by
  cases hb : dnP o (K 310 - 1) 0 0 z with
  | false => rfl
  | true =>
    rw [dpP_iff] at hb
    omega)
/-- the numbers of an order, of its works -/
theorem dpK_o (hg : q = 0 ∨ q = 8 ∨ q = 16 ∨ q = 24 ∨ q = 32 ∨ q = 40) (hi : 0 ≤ i ∧ i < K 310 - 1) (hn : K 310 ≤ 8) (ho : 0 ≤ o) : dpK K o (q + i) = if i < o then K (q + i) else K (q + (i + 1)) := by
  by_cases hio : i < o
  · rw [if_pos hio]
    refine dnK_n (by omega) ?_
    cases hb : dnP o (K 310 - 1) 0 0 (q + i) with
    | false => rfl
    | true =>
      rw [dpP_iff] at hb
      omega
  · rw [if_neg hio]
    have hp : dnP o (K 310 - 1) 0 0 (q + i) = true := dpP_iff.mpr (Or.inl (by omega))
    unfold dpK dnK
    rw [if_neg (by omega), if_pos hp, if_pos (by omega)]
    congr 1
    omega
theorem dpK_w {w : Int} (hg : q = 48 ∨ q = 80 ∨ q = 112) (hi : 0 ≤ i ∧ i < K 310 - 1) (hn : K 310 ≤ 8) (ho : 0 ≤ o) (hw : 0 ≤ w ∧ w < 4) : dpK K o (q + 4 * i + w) = if i < o then K (q + 4 * i + w) else K (q + 4 * (i + 1) + w) := by
  by_cases hio : i < o
  · rw [if_pos hio]
    refine dnK_n (by omega) ?_
    cases hb : dnP o (K 310 - 1) 0 0 (q + 4 * i + w) with
    | false => rfl
    | true =>
      rw [dpP_iff] at hb
      omega
  · rw [if_neg hio]
    have hp : dnP o (K 310 - 1) 0 0 (q + 4 * i + w) = true := dpP_iff.mpr (Or.inr (by omega))
    unfold dpK dnK
    rw [if_neg (by omega), if_pos hp, if_neg (by omega)]
    congr 1
    omega
theorem SU_skip {f : Int → Int} (ho : 0 ≤ o) : ∀ k : Nat, SU (fun q => if q < o then f q else f (q + 1)) (o + k) + f o = SU f (o + k + 1)
  | 0 => by
    rw [show o + ((0 : Nat) : Int) = o by omega, SU_s f ho, SU_cong (g := f) (fun i a b => if_pos b)]
  | k + 1 => by
    have ih := SU_skip (f := f) ho k
    rw [show o + ((k + 1 : Nat) : Int) = o + k + 1 by omega, SU_s _ (by omega), SU_s f (by omega : 0 ≤ o + (k : Int) + 1), ← ih, if_neg (by omega)]
    omega
theorem kb_1 (h : 0 ≤ z ∧ z < 48) (h2 : z % 8 < 7) : kLo (z + 1) = kLo z ∧ kHi (z + 1) = kHi z := by
  rcases (show z < 8 ∨ (8 ≤ z ∧ z < 16) ∨ (16 ≤ z ∧ z < 24) ∨ (24 ≤ z ∧ z < 32) ∨ (32 ≤ z ∧ z < 40) ∨ (40 ≤ z ∧ z < 48) by omega) with q | q | q | q | q | q
  · have e1 := kb0 (z := z) (by omega); have e2 := kb0 (z := z + 1) (by omega); omega
  · have e1 := kb1 (z := z) (by omega); have e2 := kb1 (z := z + 1) (by omega); omega
  · have e1 := kb2 (z := z) (by omega); have e2 := kb2 (z := z + 1) (by omega); omega
  · have e1 := kb3 (z := z) (by omega); have e2 := kb3 (z := z + 1) (by omega); omega
  · have e1 := kb4 (z := z) (by omega); have e2 := kb4 (z := z + 1) (by omega); omega
  · have e1 := kb5 (z := z) (by omega); have e2 := kb5 (z := z + 1) (by omega); omega
theorem kb_4 (h : 48 ≤ z ∧ z < 144) (h2 : (z - 48) % 32 / 4 < 7) : kLo (z + 4) = kLo z ∧ kHi (z + 4) = kHi z := by
  rcases (show (48 ≤ z ∧ z < 80) ∨ (80 ≤ z ∧ z < 112) ∨ (112 ≤ z ∧ z < 144) by omega) with q | q | q
  · have e1 := kb6 (z := z) (by omega); have e2 := kb6 (z := z + 4) (by omega); omega
  · have e1 := kb7 (z := z) (by omega); have e2 := kb7 (z := z + 4) (by omega); omega
  · have e1 := kb8 (z := z) (by omega); have e2 := kb8 (z := z + 4) (by omega); omega
theorem dpK_sp (hr : kR K) (hp : kP K) (hd : kD K) (ho : 0 ≤ o ∧ o < K 310) : kR (dpK K o) ∧ aW (dpK K o) + K (40 + o) = aW K ∧ kP (dpK K o) ∧ kD (dpK K o) := by
  have hn := hr.n
  refine ⟨kR.mk fun z a b => ?_, ?_, ⟨fun i a b => ?_, fun i w a b x y => ?_⟩, kD_cong (fun z a => dpK_n (by omega) (by omega)) hr hd⟩
  · by_cases h1 : z = 310
    · rw [h1, dpK_310]
      have := kb15
      omega
    · unfold dpK dnK
      rw [if_neg h1]
      split
      · next u =>
        rw [dpP_iff] at u
        rcases u with u | u
        · rw [if_pos u.2.1]
          have e := kb_1 (z := z) (by omega) (by omega)
          have := hr.b (z := z + 1) (by omega) (by omega)
          omega
        · rw [if_neg (by omega)]
          have e := kb_4 (z := z) (by omega) (by omega)
          have := hr.b (z := z + 4) (by omega) (by omega)
          omega
      · exact hr.b a b
  · unfold aW
    rw [dpK_310, SU_cong (g := fun q => if q < o then K (40 + q) else K (40 + (q + 1))) (fun q a b => dpK_o (by omega) ⟨a, b⟩ hn.2 ho.1)]
    have := SU_skip (f := fun q => K (40 + q)) ho.1 (K 310 - 1 - o).toNat
    rw [show o + ((K 310 - 1 - o).toNat : Int) = K 310 - 1 by omega, show K 310 - 1 + 1 = K 310 by omega] at this
    exact this
  · rw [dpK_310] at b
    rw [dpK_o (by omega) ⟨a, b⟩ hn.2 ho.1]
    split
    · exact hp.1 i a (by omega)
    · exact hp.1 (i + 1) (by omega) (by omega)
  · rw [dpK_310] at b
    rw [dpK_o (by omega) ⟨a, b⟩ hn.2 ho.1] at y
    have hw1 := hr.wk (o := i) a (by omega)
    have hw2 := hr.wk (o := i + 1) (by omega) (by omega)
    rw [dpK_w (by omega) ⟨a, b⟩ hn.2 ho.1 (by split at y <;> omega)]
    split
    · next u =>
      rw [if_pos u] at y
      exact hp.2 i w a (by omega) x y
    · next u =>
      rw [if_neg u] at y
      exact hp.2 (i + 1) w (by omega) (by omega) x y
theorem rf_drop (H : RK M K c S) (ho : i32 o) : AC (e_lim L xs (d + 2) 195 0 [some (.ref 184), some (.int (iI o)), none, none, none] [] (e_hp M V W)) M V W K c S (nwK (dpK K o)) (cdOn K o) (iI (K 310 - 1)) := by
  have h0 := mT_0 M
  have hn := H.r.n
  unfold cdOn
  by_cases h1 : 0 ≤ o ∧ o ≤ K 310 - 1
  · have e1 := mm_noOrderT (L := L) (xs := xs) (d := d) (V := V) (W := W) H.mT.km H.r h0 h1
    obtain ⟨M1, e2, H1, F1, z1, -⟩ := rf_saves (L := L) (xs := xs) (d := d + 1) (V := V) (W := W) H.mT
    have e3 := H1.km 310 (by omega) (by omega)
    have K0 : e_KM (e_u M1 185 (upd (M1 185) (310 : Int).toNat (iI (K 310 - 1)))) (dnK K o o 0 0) := e_ar.cong (KM_up H1.km (by omega)) (fun z a b => by
      unfold uI dnK
      split
      · rfl
      · have hf : dnP o o 0 0 z = false := by
          cases hb : dnP o o 0 0 z with
          | false => rfl
          | true =>
            rw [dpP_iff] at hb
            omega
        rw [hf]
        rfl)
    have key := G_lp (i := o) (n := K 310 - 1) (I := fun i M4 => e_KM M4 (dnK K o i 0 0) ∧ frN M1 M4) (P := fun i M4 => ∀ l3 l4 : Option Value, e_nk l3 = true → ∃ (M5 : e_MI) (l3b l4b : Option Value), e_lim L xs (d + 2) 195 33 [some (.ref 184), some (.int (iI o)), some (.int (iI i)), l3, l4] [] (e_hp M4 V W) = e_lim L xs (d + 2) 195 137 [some (.ref 184), some (.int (iI o)), some (.int (iI (K 310 - 1))), l3b, l4b] [] (e_hp M5 V W) ∧ e_KM M5 (dpK K o) ∧ frN M1 M5) (fun i M4 a b hI hc l3 l4 n3 => ?_) (fun M4 hI l3 l4 n3 => ?_) (by omega) _ ⟨K0, fun a x => e_u_n _ _ x⟩ none none e_nk_n
    · obtain ⟨M5, l3, l4, e5, k5, f5⟩ := key
      obtain ⟨s1, s2, s3, s4⟩ := dpK_sp (o := o) H.r H.g.2.2.1 H.g.2.2.2.2 (by omega)
      have hw := H.r.wk (o := o) h1.1 (by omega)
      have hv := H.v.1
      have hA : 0 ≤ aW (dpK K o) := by
        unfold aW
        have := SU_mono (f := fun q => dpK K o (40 + q)) (i := 0) (n := dpK K o 310) (fun j a b => by
          rw [dpK_310] at b
          exact (s1.wk a (by omega)).1) (Int.le_refl _) (by rw [dpK_310]; omega)
        exact this
      obtain ⟨M6, M7, e6, e7, H7, F7⟩ := rf_anew (L := L) (xs := xs) (d := d) (V := V) (W := W) H1 k5 f5 s1 (by omega) s3 (fun i a b => by
        rw [dpK_n (by omega) (by omega)]
        exact H.g.2.2.2.1.2.2 i a b) s4
      have e8 := mm_many (L := L) (xs := xs) (d := d + 1) (V := V) (W := W) H7.km
      have e9 : nwK (dpK K o) 310 = K 310 - 1 := by
        unfold nwK
        rw [raK_n (by omega), gkK_n (by omega)]
        rfl
      rw [e9] at e8
      rw [if_pos h1]
      refine AC.ok (M3 := M7) rfl ?_ H7 (F1.t F7.p) (by rw [F7 184 (by decide), z1, h0])
      simp (disch := first | assumption | exact e_nk_i _ | exact e_nk_n | exact e_nk_r _ | exact e_bo_0 | exact e_bo_1 | exact e_bo_b _ | omega) only [e_cl_v, e_cl_x, e_add_0, e_add_s, Option.toList_some, Option.toList_none, List.cons_append, List.nil_append, iI_add, iI_sub, iI_mul, iI_lt, iI_eq, iI_le, r195_0, r195_1, r195_2, r195_5, r195_6, r195_7, r195_10, r195_13, r195_14, r195_15, r195_16, r195_19, r195_20, r195_23, r195_26, r195_27, r195_28, r195_29, r195_30, r195_31, r195_32, e1, e2, iI_vin, iI_nat, if_true, e3]
      first
      | rw [e5]
      | (simp; rw [e5])
      simp (disch := first | assumption | exact e_nk_i _ | exact e_nk_n | exact e_nk_r _ | exact e_bo_0 | exact e_bo_1 | exact e_bo_b _ | omega) only [e_cl_v, e_cl_x, e_add_0, e_add_s, Option.toList_some, Option.toList_none, List.cons_append, List.nil_append, iI_add, iI_sub, iI_mul, iI_lt, iI_eq, iI_le, r195_137, r195_138, r195_141, r195_142, r195_145, r195_146, r195_149, e6, e7, e8]
    · obtain ⟨M5, e5, k5, f5⟩ := mm_dropJ (L := L) (xs := xs) (d := d + 2) (V := V) (W := W) (l1 := some (.int (iI o))) (l3 := l3) (l4 := l4) hI.1 ⟨h1.1, a⟩ (by omega) n3
      obtain ⟨M6, l3b, l4b, e6, r6⟩ := hc M5 ⟨k5, hI.2.t f5⟩ (some (.int (iI 4))) (some (.int (iI 144))) (e_nk_i _)
      refine ⟨M6, l3b, l4b, ?_, r6⟩
      have e7 := mm_many (L := L) (xs := xs) (d := d + 1) (V := V) (W := W) hI.1
      have e8 : dnK K o i 0 0 310 = K 310 - 1 := rfl
      rw [e8] at e7
      rw [← e6, r195_33]
      simp (disch := first | assumption | exact e_nk_i _ | exact e_nk_n | exact e_nk_r _ | exact e_bo_0 | exact e_bo_1 | exact e_bo_b _ | omega) only [e_cl_v, e_cl_x, e_add_0, e_add_s, Option.toList_some, Option.toList_none, List.cons_append, List.nil_append, iI_add, iI_sub, iI_mul, iI_lt, iI_eq, iI_le, r195_34, r195_35, r195_38, e7]
      rw [if_pos b, e5]
      simp (disch := first | assumption | exact e_nk_i _ | exact e_nk_n | exact e_nk_r _ | exact e_bo_0 | exact e_bo_1 | exact e_bo_b _ | omega) only [e_cl_v, e_cl_x, e_add_0, e_add_s, Option.toList_some, Option.toList_none, List.cons_append, List.nil_append, iI_add, iI_sub, iI_mul, iI_lt, iI_eq, iI_le, r195_131, r195_134]
    · have e7 := mm_many (L := L) (xs := xs) (d := d + 1) (V := V) (W := W) hI.1
      have e8 : dnK K o (K 310 - 1) 0 0 310 = K 310 - 1 := rfl
      rw [e8] at e7
      refine ⟨M4, l3, l4, ?_, hI⟩
      rw [r195_33]
      simp (disch := first | assumption | exact e_nk_i _ | exact e_nk_n | exact e_nk_r _ | exact e_bo_0 | exact e_bo_1 | exact e_bo_b _ | omega) only [e_cl_v, e_cl_x, e_add_0, e_add_s, Option.toList_some, Option.toList_none, List.cons_append, List.nil_append, iI_add, iI_sub, iI_mul, iI_lt, iI_eq, iI_le, r195_34, r195_35, r195_38, e7]
      rw [if_neg (by omega)]
  · have e1 := mm_noOrderF (L := L) (xs := xs) (d := d) (V := V) (W := W) H.mT.km H.r h0 ho h1
    rw [if_neg h1]
    refine AC.bad H 1 (iI 0) (by omega) rfl ?_
    simp (disch := first | assumption | exact e_nk_i _ | exact e_nk_n | exact e_nk_r _ | exact e_bo_0 | exact e_bo_1 | exact e_bo_b _ | omega) only [e_cl_v, e_cl_x, e_add_0, e_add_s, Option.toList_some, Option.toList_none, List.cons_append, List.nil_append, iI_add, iI_sub, iI_mul, iI_lt, iI_eq, iI_le, r195_0, r195_1, r195_2, r195_5, r195_6, r195_7, r195_10, r195_13, r195_14, r195_15, e1]
    all_goals first | (simp; done) | rfl | (simp; rfl)
/-! a lot is cut -/
def cu0 (K : e_St) (o a : Int) : e_St := uI K (8 + o) (K (8 + o) - a)
def cuS (K : e_St) (o a : Int) : Nat → e_St
  | 0 => coK (cu0 K o a) (K o) a (K (16 + o)) (K (24 + o)) (K (32 + o))
  | w + 1 => adK (cuS K o a w) (K 310) (K (48 + 4 * o + w)) (K (80 + 4 * o + w)) (K (112 + 4 * o + w))
def cuK (K : e_St) (o a : Int) : e_St := cuS K o a (K (40 + o)).toNat
theorem cu0_sp {a : Int} (hr : kR K) (hp : kP K) (hd : kD K) (ho : 0 ≤ o ∧ o < K 310) (ha : 1 ≤ a ∧ a ≤ K (8 + o) - 1) : kR (cu0 K o a) ∧ aW (cu0 K o a) = aW K ∧ kP (cu0 K o a) ∧ kD (cu0 K o a) ∧ cu0 K o a 310 = K 310 ∧ ∀ z, z ≠ 8 + o → cu0 K o a z = K z := by
  have hn := hr.n
  have h8 := hr.am (o := o) ho.1 (by omega)
  have hz : ∀ z, z ≠ 8 + o → cu0 K o a z = K z := fun z x => uI_n _ _ x
  refine ⟨hr.up (by have := kb1 (z := 8 + o) (by omega); omega), aW_cong (hz _ (by omega)) (fun q x y => hz _ (by omega)), ⟨fun q x y => ?_, fun q w x y u v => ?_⟩, kD_cong (fun z x => hz _ (by omega)) hr hd, hz _ (by omega), hz⟩
  · rw [hz 310 (by omega)] at y
    by_cases hq : q = o
    · subst hq
      unfold cu0
      rw [uI_s]
      omega
    · rw [hz _ (by omega)]
      exact hp.1 q x y
  · rw [hz 310 (by omega)] at y
    have hw := hr.wk (o := q) x (by omega)
    rw [hz _ (by omega)] at v
    rw [hz _ (by omega)]
    exact hp.2 q w x y u v
theorem cuS_sp {a : Int} (hr : kR K) (hp : kP K) (hd : kD K) (ho : 0 ≤ o ∧ o < K 310) (hn : K 310 < 8) (ha : 1 ≤ a ∧ a ≤ K (8 + o) - 1) : ∀ w : Nat, (w : Int) ≤ K (40 + o) → kR (cuS K o a w) ∧ aW (cuS K o a w) = aW K + w ∧ kP (cuS K o a w) ∧ kD (cuS K o a w) ∧ cuS K o a w 310 = K 310 + 1 ∧ cuS K o a w (40 + K 310) = w ∧ (∀ z, z ≠ 8 + o → z ≠ K 310 → z ≠ 8 + K 310 → z ≠ 16 + K 310 → z ≠ 24 + K 310 → z ≠ 32 + K 310 → z ≠ 40 + K 310 → z ≠ 310 → ¬(48 + 4 * K 310 ≤ z ∧ z < 52 + 4 * K 310) → ¬(80 + 4 * K 310 ≤ z ∧ z < 84 + 4 * K 310) → ¬(112 + 4 * K 310 ≤ z ∧ z < 116 + 4 * K 310) → cuS K o a w z = K z)
  | 0, _ => by
    obtain ⟨s1, s2, s3, s4, s5, s6⟩ := cu0_sp (a := a) hr hp hd ho ha
    have hn8 := hr.n
    have h8 := hr.am (o := o) ho.1 (by omega)
    have g1 := hr.kd (o := o) ho.1 (by omega)
    have g2 := hr.re (o := o) ho.1 (by omega)
    have g3 := hr.du (o := o) ho.1 (by omega)
    have g4 := hr.we (o := o) ho.1 (by omega)
    obtain ⟨t1, t2, t3, t4⟩ := coK_sp (K := cu0 K o a) (a := K o) (b := a) (e := K (16 + o)) (f := K (24 + o)) (g := K (32 + o)) s1 s3 s4 (by rw [s5]; exact hn) ⟨g1, by omega, g2, g3, g4⟩
    have hnn : 0 ≤ cu0 K o a 310 ∧ cu0 K o a 310 < 8 := by rw [s5]; omega
    refine ⟨t1, by unfold cuS; rw [t2, s2]; omega, t3, t4, ?_, ?_, fun z x0 x1 x2 x3 x4 x5 x6 x7 _ _ _ => ?_⟩
    · unfold cuS
      rw [coK_310, s5]
    · unfold cuS
      have := coK_40 (K := cu0 K o a) (a := K o) (b := a) (e := K (16 + o)) (f := K (24 + o)) (g := K (32 + o)) hnn
      rw [s5] at this
      rw [this]
      rfl
    · unfold cuS
      rw [coK_n hnn (by rw [s5]; omega)]
      exact s6 z x0
  | w + 1, hw => by
    obtain ⟨s1, s2, s3, s4, s5, s6, s7⟩ := cuS_sp (a := a) hr hp hd ho hn ha w (by omega)
    have hn8 := hr.n
    have hwk := hr.wk (o := o) ho.1 (by omega)
    have g1 := hr.mc (i := 4 * o + w) (by omega) (by omega)
    have g2 := hr.tm (i := 4 * o + w) (by omega) (by omega)
    have g3 := hr.tl (i := 4 * o + w) (by omega) (by omega)
    have g4 := hp.2 o w ho.1 ho.2 (by omega) (by omega)
    rw [show 48 + (4 * o + (w : Int)) = 48 + 4 * o + w by omega] at g1
    rw [show 80 + (4 * o + (w : Int)) = 80 + 4 * o + w by omega] at g2
    rw [show 112 + (4 * o + (w : Int)) = 112 + 4 * o + w by omega] at g3
    obtain ⟨t1, t2, t3, t4, t5⟩ := adK_sp (K := cuS K o a w) (o := K 310) (m := K (48 + 4 * o + w)) (t := K (80 + 4 * o + w)) (l := K (112 + 4 * o + w)) s1 s3 s4 (by rw [s5]; omega) (by rw [s6]; omega) ⟨g1, ⟨g4, g2.2⟩, g3⟩
    refine ⟨t1, by show aW (adK _ _ _ _ _) = _; rw [t2, s2]; push_cast; omega, t3, t4, by show adK _ _ _ _ _ 310 = _; rw [t5, s5], ?_, fun z x0 x1 x2 x3 x4 x5 x6 x7 x8 x9 x10 => ?_⟩
    · show adK _ _ _ _ _ _ = _
      rw [adK_40, s6]
      push_cast
      rfl
    · show adK _ _ _ _ _ z = _
      rw [adK_n (by omega) (by rw [s6]; omega) (by rw [s6]; omega)]
      exact s7 z x0 x1 x2 x3 x4 x5 x6 x7 x8 x9 x10
def cdCu (K : e_St) (o a : Int) : Int := if 0 ≤ o ∧ o ≤ K 310 - 1 then (if 1 ≤ a ∧ a ≤ K (8 + o) - 1 then (if K 310 < 8 ∧ aW K + K (40 + o) ≤ 16 then 0 else 3) else 2) else 1
theorem rf_cut (H : RK M K c S) {a : Int} (ho : i32 o) (ha : i32 a) : AC (e_lim L xs (d + 2) 197 0 [some (.ref 184), some (.int (iI o)), some (.int (iI a)), none, none] [] (e_hp M V W)) M V W K c S (nwK (cuK K o a)) (cdCu K o a) (iI (K 310)) := by
  have h0 := mT_0 M
  have hn := H.r.n
  have hv := H.v.1
  unfold cdCu
  by_cases h1 : 0 ≤ o ∧ o ≤ K 310 - 1
  · have e1 := mm_noOrderT (L := L) (xs := xs) (d := d) (V := V) (W := W) H.mT.km H.r h0 h1
    have e2 := H.mT.km (8 + o) (by omega) (by omega)
    have r2 := H.r.am (o := o) h1.1 (by omega)
    have hwk := H.r.wk (o := o) h1.1 (by omega)
    rw [if_pos h1]
    by_cases h2 : 1 ≤ a ∧ a ≤ K (8 + o) - 1
    · have e3 := mm_inT (L := L) (xs := xs) (d := d + 1) (h := e_hp (mT M) V W) h2 (by omega) (by omega)
      have e4 := mm_failsT (L := L) (xs := xs) (d := d + 1) (V := V) (W := W) (e := 2) h0 (by omega)
      have e5 := mm_many (L := L) (xs := xs) (d := d + 1) (V := V) (W := W) H.mT.km
      have e6 := mm_all (L := L) (xs := xs) (d := d) (V := V) (W := W) H.mT.km H.r
      have e7 := mm_worksOf (L := L) (xs := xs) (d := d + 1) (V := V) (W := W) H.mT.km (o := o) h1.1 (by omega)
      rw [if_pos h2]
      by_cases h3 : K 310 < 8 ∧ aW K + K (40 + o) ≤ 16
      · have e8 := mm_failsT (L := L) (xs := xs) (d := d + 1) (V := V) (W := W) (e := 3) h0 (by omega)
        obtain ⟨M1, e9, H1, F1, z1, -⟩ := rf_saves (L := L) (xs := xs) (d := d + 1) (V := V) (W := W) H.mT
        have ho2 : 0 ≤ o ∧ o < K 310 := by omega
        obtain ⟨s1, s2, s3, s4, s5, s6⟩ := cu0_sp (a := a) H.r H.g.2.2.1 H.g.2.2.2.2 ho2 h2
        have a1 := H1.km (8 + o) (by omega) (by omega)
        have K1 : e_KM (e_u M1 185 (upd (M1 185) (8 + o).toNat (iI (K (8 + o) - a)))) (cu0 K o a) := KM_up H1.km (by omega)
        have b1 := K1 o (by omega) (by omega)
        have b2 := K1 (16 + o) (by omega) (by omega)
        have b3 := K1 (24 + o) (by omega) (by omega)
        have b4 := K1 (32 + o) (by omega) (by omega)
        rw [s6 _ (by omega)] at b1 b2 b3 b4
        obtain ⟨M2, e10, k2, f2⟩ := mm_comes (L := L) (xs := xs) (d := d) (V := V) (W := W) K1 (by rw [s5]; omega) (a := K o) (b := a) (c := K (16 + o)) (e := K (24 + o)) (f := K (32 + o))
        rw [s5] at e10
        have F2 : frN M1 M2 := frN.t (fun a x => e_u_n _ _ x) f2
        have key := G_lp (i := 0) (n := K (40 + o)) (I := fun i M4 => e_KM M4 (cuS K o a i.toNat) ∧ frN M1 M4) (P := fun i M4 => ∃ M5 : e_MI, e_lim L xs (d + 2) 197 137 [some (.ref 184), some (.int (iI o)), some (.int (iI a)), some (.int (iI (K 310))), some (.int (iI i))] [] (e_hp M4 V W) = e_lim L xs (d + 2) 197 200 [some (.ref 184), some (.int (iI o)), some (.int (iI a)), some (.int (iI (K 310))), some (.int (iI (K (40 + o))))] [] (e_hp M5 V W) ∧ e_KM M5 (cuK K o a) ∧ frN M1 M5) (fun i M4 x y hI hc => ?_) (fun M4 hI => ?_) hwk.1 M2 ⟨k2, F2⟩
        · obtain ⟨M5, e11, k5, f5⟩ := key
          obtain ⟨t1, t2, t3, t4, t5, t6, t7⟩ := cuS_sp (a := a) H.r H.g.2.2.1 H.g.2.2.2.2 ho2 h3.1 h2 (K (40 + o)).toNat (by omega)
          obtain ⟨M6, M7, e12, e13, H7, F7⟩ := rf_anew (L := L) (xs := xs) (d := d) (V := V) (W := W) H1 k5 f5 t1 (by show 0 ≤ aW (cuS K o a (K (40 + o)).toNat) ∧ aW (cuS K o a (K (40 + o)).toNat) ≤ 16; omega) t3 (fun i x y => by
            show 0 ≤ cuS K o a (K (40 + o)).toNat (257 + i) ∧ cuS K o a (K (40 + o)).toNat (257 + i) ≤ 7
            rw [t7 _ (by omega) (by omega) (by omega) (by omega) (by omega) (by omega) (by omega) (by omega) (by omega) (by omega) (by omega)]
            exact H.g.2.2.2.1.2.2 i x y) t4
          rw [if_pos h3]
          refine AC.ok (M3 := M7) rfl ?_ H7 (F1.t F7.p) (by rw [F7 184 (by decide), z1, h0])
          have b0 : (0 : Int) + o = o := Int.zero_add o
          simp (disch := first | assumption | exact e_nk_i _ | exact e_nk_n | exact e_nk_r _ | exact e_bo_0 | exact e_bo_1 | exact e_bo_b _ | omega) only [e_cl_v, e_cl_x, e_add_0, e_add_s, Option.toList_some, Option.toList_none, List.cons_append, List.nil_append, iI_add, iI_sub, iI_mul, iI_lt, iI_eq, iI_le, r197_0, r197_1, r197_2, r197_5, r197_6, r197_7, r197_10, r197_13, r197_14, r197_15, r197_16, r197_17, r197_20, r197_22, r197_23, r197_24, r197_25, r197_26, r197_27, r197_30, r197_31, r197_34, r197_37, r197_38, r197_39, r197_42, r197_44, r197_47, r197_48, r197_51, r197_52, r197_53, r197_56, r197_57, r197_59, r197_62, r197_63, r197_66, r197_67, r197_68, r197_71, r197_74, r197_75, r197_76, r197_77, r197_80, r197_81, r197_84, r197_86, r197_87, r197_88, r197_89, r197_90, r197_91, r197_92, r197_93, r197_94, r197_95, r197_98, r197_99, r197_100, r197_101, r197_102, r197_103, r197_104, r197_107, r197_109, r197_110, r197_111, r197_112, r197_113, r197_116, r197_118, r197_119, r197_120, r197_121, r197_122, r197_125, r197_127, r197_128, r197_129, r197_130, r197_133, r197_134, r197_135, e1, iI_vin, iI_nat, if_true, e2, e3, e4, e5, e6, e7, e8, e9, a1, b0, b1, b2, b3, b4, e10]
          simp only [if_pos h3.1, if_neg (show ¬ (16 < aW K + K (40 + o)) by omega)]
          first
          | rw [e11]
          | (simp; rw [e11])
          simp (disch := first | assumption | exact e_nk_i _ | exact e_nk_n | exact e_nk_r _ | exact e_bo_0 | exact e_bo_1 | exact e_bo_b _ | omega) only [e_cl_v, e_cl_x, e_add_0, e_add_s, Option.toList_some, Option.toList_none, List.cons_append, List.nil_append, iI_add, iI_sub, iI_mul, iI_lt, iI_eq, iI_le, r197_200, r197_201, r197_204, r197_205, r197_208, r197_209, e12, e13]
        · obtain ⟨p, hp⟩ : ∃ p : Nat, i = (p : Int) := ⟨i.toNat, by omega⟩
          subst hp
          have hq1 : ((p : Int) + 1).toNat = p + 1 := by omega
          rw [Int.toNat_natCast] at hI
          rw [hq1] at hc
          obtain ⟨t1, t2, t3, t4, t5, t6, t7⟩ := cuS_sp (a := a) H.r H.g.2.2.1 H.g.2.2.2.2 ho2 h3.1 h2 p (by omega)
          have c7 := mm_worksOf (L := L) (xs := xs) (d := d + 1) (V := V) (W := W) hI.1 (o := o) h1.1 (by omega)
          have c1 := hI.1 (48 + 4 * o + p) (by omega) (by omega)
          have c2 := hI.1 (80 + 4 * o + p) (by omega) (by omega)
          have c3 := hI.1 (112 + 4 * o + p) (by omega) (by omega)
          rw [t7 _ (by omega) (by omega) (by omega) (by omega) (by omega) (by omega) (by omega) (by omega) (by omega) (by omega) (by omega)] at c7 c1 c2 c3
          obtain ⟨M5, c4, k5, f5⟩ := mm_addsWork (L := L) (xs := xs) (d := d) (V := V) (W := W) hI.1 (o := K 310) (m := K (48 + 4 * o + p)) (t := K (80 + 4 * o + p)) (l := K (112 + 4 * o + p)) (by omega) (by rw [t6]; omega)
          obtain ⟨M6, e, r6⟩ := hc M5 ⟨k5, hI.2.t f5⟩
          refine ⟨M6, ?_, r6⟩
          rw [← e, r197_137]
          simp (disch := first | assumption | exact e_nk_i _ | exact e_nk_n | exact e_nk_r _ | exact e_bo_0 | exact e_bo_1 | exact e_bo_b _ | omega) only [e_cl_v, e_cl_x, e_add_0, e_add_s, Option.toList_some, Option.toList_none, List.cons_append, List.nil_append, iI_add, iI_sub, iI_mul, iI_lt, iI_eq, iI_le, r197_139, r197_140, r197_141, r197_144, r197_147, r197_148, r197_149, r197_150, r197_153, r197_155, r197_156, r197_157, r197_158, r197_159, r197_161, r197_162, r197_163, r197_164, r197_167, r197_169, r197_170, r197_171, r197_172, r197_173, r197_175, r197_176, r197_177, r197_178, r197_181, r197_183, r197_184, r197_185, r197_186, r197_187, r197_189, r197_190, r197_191, r197_194, r197_197, iI_vin, iI_nat, if_true, c7, c1, c2, c3, c4]
          rw [if_pos y]
        · have c7 := mm_worksOf (L := L) (xs := xs) (d := d + 1) (V := V) (W := W) hI.1 (o := o) h1.1 (by omega)
          obtain ⟨t1, t2, t3, t4, t5, t6, t7⟩ := cuS_sp (a := a) H.r H.g.2.2.1 H.g.2.2.2.2 ho2 h3.1 h2 (K (40 + o)).toNat (by omega)
          rw [t7 _ (by omega) (by omega) (by omega) (by omega) (by omega) (by omega) (by omega) (by omega) (by omega) (by omega) (by omega)] at c7
          refine ⟨M4, ?_, hI⟩
          rw [r197_137]
          simp (disch := first | assumption | exact e_nk_i _ | exact e_nk_n | exact e_nk_r _ | exact e_bo_0 | exact e_bo_1 | exact e_bo_b _ | omega) only [e_cl_v, e_cl_x, e_add_0, e_add_s, Option.toList_some, Option.toList_none, List.cons_append, List.nil_append, iI_add, iI_sub, iI_mul, iI_lt, iI_eq, iI_le, r197_139, r197_140, r197_141, r197_144, c7]
          rw [if_neg (by omega)]
      · have e8 := mm_failsF (L := L) (xs := xs) (d := d + 1) (V := V) (W := W) (e := 3) h0 (by omega)
        rw [if_neg h3]
        refine AC.bad H 3 (iI 0) (by omega) rfl ?_
        simp (disch := first | assumption | exact e_nk_i _ | exact e_nk_n | exact e_nk_r _ | exact e_bo_0 | exact e_bo_1 | exact e_bo_b _ | omega) only [e_cl_v, e_cl_x, e_add_0, e_add_s, Option.toList_some, Option.toList_none, List.cons_append, List.nil_append, iI_add, iI_sub, iI_mul, iI_lt, iI_eq, iI_le, r197_0, r197_1, r197_2, r197_5, r197_6, r197_7, r197_10, r197_13, r197_14, r197_15, r197_16, r197_17, r197_20, r197_22, r197_23, r197_24, r197_25, r197_26, r197_27, r197_30, r197_31, r197_34, r197_37, r197_38, r197_39, r197_42, r197_44, r197_47, r197_48, r197_51, r197_52, r197_53, r197_56, r197_57, r197_59, r197_62, r197_63, r197_66, r197_67, r197_68, r197_71, r197_74, r197_75, e1, iI_vin, iI_nat, if_true, e2, e3, e4, e5, e6, e7, e8]
        try simp only [if_true, if_false]
        repeat' split
        all_goals first | omega | with_reducible rfl
    · have e3 := mm_inF (L := L) (xs := xs) (d := d + 1) (h := e_hp (mT M) V W) h2 ha (by omega) (by omega)
      have e4 := mm_failsF (L := L) (xs := xs) (d := d + 1) (V := V) (W := W) (e := 2) h0 (by omega)
      rw [if_neg h2]
      refine AC.bad H 2 (iI 0) (by omega) rfl ?_
      simp (disch := first | assumption | exact e_nk_i _ | exact e_nk_n | exact e_nk_r _ | exact e_bo_0 | exact e_bo_1 | exact e_bo_b _ | omega) only [e_cl_v, e_cl_x, e_add_0, e_add_s, Option.toList_some, Option.toList_none, List.cons_append, List.nil_append, iI_add, iI_sub, iI_mul, iI_lt, iI_eq, iI_le, r197_0, r197_1, r197_2, r197_5, r197_6, r197_7, r197_10, r197_13, r197_14, r197_15, r197_16, r197_17, r197_20, r197_22, r197_23, r197_24, r197_25, r197_26, r197_27, r197_30, r197_31, r197_34, r197_74, r197_75, e1, iI_vin, iI_nat, if_true, e2, e3, e4]
      all_goals first | (simp; done) | rfl | (simp; rfl)
  · have e1 := mm_noOrderF (L := L) (xs := xs) (d := d) (V := V) (W := W) H.mT.km H.r h0 ho h1
    rw [if_neg h1]
    refine AC.bad H 1 (iI 0) (by omega) rfl ?_
    simp (disch := first | assumption | exact e_nk_i _ | exact e_nk_n | exact e_nk_r _ | exact e_bo_0 | exact e_bo_1 | exact e_bo_b _ | omega) only [e_cl_v, e_cl_x, e_add_0, e_add_s, Option.toList_some, Option.toList_none, List.cons_append, List.nil_append, iI_add, iI_sub, iI_mul, iI_lt, iI_eq, iI_le, r197_0, r197_1, r197_2, r197_5, r197_6, r197_7, r197_10, r197_74, r197_75, e1]
    all_goals first | (simp; done) | rfl | (simp; rfl)
end E94
