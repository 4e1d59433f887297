section Ea2
variable {L : Nat} {xs : Nat → Int32} {d : Nat} {M M2 M3 : e_MI} {V : e_ML} {W : e_MD} {K K2 : e_St} {h : e_H} {S : Int → e_St} {c cd n er o q k i w : Int} {ρ ω β ε τ : Int → Int} {r : Option e_R} {an : Int32}
/-! the best move -/
theorem lg_lt {a b : Int} (ha : -2147483648 ≤ a ∧ a < 2147483648) (hb : -2147483648 ≤ b ∧ b < 2147483648) : lg_cmp (lI a) (lI b) < iI 0 ↔ a < b := (lg_cmp_lt _ _).trans (lI_lt ha hb)
theorem ctW_rg (hr : kR K) {e : Int → Int} (he : ∀ o, 0 ≤ o → o < K 310 → 0 ≤ e o ∧ e o ≤ 2001) : 0 ≤ ctW K e ∧ ctW K e ≤ 144072000 := by
  have hn := hr.n
  have h1 := SU_le (f := ctO K e) (n := K 310) (c := 18009000) (fun o a b => by
    have x := he o a b
    have du := hr.du (o := o) a (by omega)
    have we := hr.we (o := o) a (by omega)
    have r0 := hr.r0
    have r1 := hr.r1
    unfold ctO
    obtain ⟨y, hyy⟩ : ∃ y, y = e o - K (24 + o) := ⟨_, rfl⟩
    rw [← hyy]
    have key : ∀ z w : Int, 0 ≤ z → z ≤ 2001000 → 0 ≤ w → w ≤ 9 → 0 ≤ z * w ∧ z * w ≤ 18009000 := fun z w p1 p2 p3 p4 => ⟨Int.mul_nonneg p1 p3, by
      have := Int.mul_le_mul p2 p4 p3 (by omega : (0 : Int) ≤ 2001000)
      omega⟩
    have key2 : ∀ z w : Int, 0 ≤ z → z ≤ 2001 → 0 ≤ w → w ≤ 1000 → 0 ≤ z * w ∧ z * w ≤ 2001000 := fun z w p1 p2 p3 p4 => ⟨Int.mul_nonneg p1 p3, by
      have := Int.mul_le_mul p2 p4 p3 (by omega : (0 : Int) ≤ 2001)
      omega⟩
    have hy : -500 ≤ y ∧ y ≤ 2001 := by omega
    split
    · have p := key2 y (K 309) (by omega) hy.2 r1.1 r1.2
      exact key _ _ p.1 p.2 we.1 we.2
    · have p := key2 (0 - y) (K 308) (by omega) (by omega) r0.1 r0.2
      exact key _ _ p.1 p.2 we.1 we.2) hn.1
  unfold ctW
  omega
abbrev imT : Type := Int × Int × Int × Int
def imS (K : e_St) (a b : Int) (s : imT) : imT := if a = b ∨ fiR K (mvR (rwK K) a b) (aW K) = false then s else if s.1 < mX (scE K (mvR (rwK K) a b)) (aW K) ∨ (mX (scE K (mvR (rwK K) a b)) (aW K) = s.1 ∧ s.2.1 ≤ ctW K (enO K (mvR (rwK K) a b))) then s else (mX (scE K (mvR (rwK K) a b)) (aW K), ctW K (enO K (mvR (rwK K) a b)), a, b)
def imB (K : e_St) (a : Int) (s : imT) : Nat → imT
  | 0 => s
  | b + 1 => imS K a b (imB K a s b)
def imA (K : e_St) (s : imT) : Nat → imT
  | 0 => s
  | a + 1 => imB K a (imA K s a) (aW K).toNat
def imX (K : e_St) : imT := imA K (edW K, ctW K (enO K (rwK K)), -1, -1) (aW K).toNat
def imI (K : e_St) (s : imT) : Prop := (0 ≤ s.1 ∧ s.1 ≤ 2001) ∧ (0 ≤ s.2.1 ∧ s.2.1 ≤ 144072000) ∧ ((s.2.2.1 = -1 ∧ s.2.2.2 = -1) ∨ ((0 ≤ s.2.2.1 ∧ s.2.2.1 < aW K) ∧ 0 ≤ s.2.2.2 ∧ s.2.2.2 < aW K))
theorem mm_imB (H : RK M K c S) (h0 : M 184 0 = iI 0) {a : Int} (ha : 0 ≤ a ∧ a < aW K) {s : imT} (hs : imI K s) : ∀ l9 : Option Value, ∃ (M2 : e_MI) (l9b : Option Value), (∀ R : e_R, e_lim L xs (d + 7) 269 52 [some (.ref 184), some (.int (iI w)), some (.int (iI (imB K a s (aW K).toNat).1)), some (.long (lI (imB K a s (aW K).toNat).2.1)), none, some (.int (iI (imB K a s (aW K).toNat).2.2.1)), some (.int (iI (imB K a s (aW K).toNat).2.2.2)), some (.int (iI a)), some (.int (iI (aW K))), l9b] [] (e_hp M2 V W) = some R → e_lim L xs (d + 7) 269 52 [some (.ref 184), some (.int (iI w)), some (.int (iI s.1)), some (.long (lI s.2.1)), none, some (.int (iI s.2.2.1)), some (.int (iI s.2.2.2)), some (.int (iI a)), some (.int (iI 0)), l9] [] (e_hp M V W) = some R) ∧ RK M2 K c S ∧ frQ M M2 ∧ M2 184 0 = iI 0 ∧ imI K (imB K a s (aW K).toNat) := by
  have hv := H.v
  have hr := H.r
  have hv16 := hv.1.2
  have hv0 := hv.1.1
  have key := G_lp (i := 0) (n := aW K) (I := fun i M1 => RK M1 K c S ∧ frQ M M1 ∧ M1 184 0 = iI 0 ∧ imI K (imB K a s i.toNat)) (P := fun i M1 => ∀ l9 : Option Value, ∃ (M2 : e_MI) (l9b : Option Value), (∀ R : e_R, e_lim L xs (d + 7) 269 52 [some (.ref 184), some (.int (iI w)), some (.int (iI (imB K a s (aW K).toNat).1)), some (.long (lI (imB K a s (aW K).toNat).2.1)), none, some (.int (iI (imB K a s (aW K).toNat).2.2.1)), some (.int (iI (imB K a s (aW K).toNat).2.2.2)), some (.int (iI a)), some (.int (iI (aW K))), l9b] [] (e_hp M2 V W) = some R → e_lim L xs (d + 7) 269 52 [some (.ref 184), some (.int (iI w)), some (.int (iI (imB K a s i.toNat).1)), some (.long (lI (imB K a s i.toNat).2.1)), none, some (.int (iI (imB K a s i.toNat).2.2.1)), some (.int (iI (imB K a s i.toNat).2.2.2)), some (.int (iI a)), some (.int (iI i)), l9] [] (e_hp M1 V W) = some R) ∧ RK M2 K c S ∧ frQ M M2 ∧ M2 184 0 = iI 0 ∧ imI K (imB K a s (aW K).toNat)) (fun b M1 x y hI hc => ?_) (fun M1 hI => ?_) hv.1.1 M ⟨H, frQ.rf M, h0, hs⟩
  · exact key
  · intro l9
    obtain ⟨H1, F1, z1, hs1⟩ := hI
    have hst : imB K a s (b + 1).toNat = imS K a b (imB K a s b.toNat) := by
      rw [show (b + 1).toNat = b.toNat + 1 by omega]
      show imS K a (b.toNat : Int) _ = _
      rw [Int.toNat_of_nonneg x]
    rw [hst] at hc
    generalize imB K a s b.toNat = s1 at *
    have hs10 := hs1
    obtain ⟨g1, g2, g3⟩ := hs1
    have e1 := mm_all2 (L := L) (xs := xs) (d := d + 5) (V := V) (W := W) H1.km hr.n
    obtain ⟨M2, e2, ha2, F2, H2⟩ := rf_moves (L := L) (xs := xs) (d := d + 4) (V := V) (W := W) H1 (f := a) (t := b) ha ⟨x, y⟩
    have z2 : M2 184 0 = iI 0 := by rw [F2 184 (by decide), z1]
    by_cases hab : a = b
    · have hi : imS K a b s1 = s1 := by
        unfold imS
        rw [if_pos (Or.inl hab)]
      rw [hi] at hc
      obtain ⟨M3, l9b, e, r⟩ := hc M2 ⟨H2, F1.t F2.q, z2, hs10⟩ l9
      refine ⟨M3, l9b, fun R hR => ?_, r⟩
      have e := e R hR
      rw [← e, r269_52]
      simp (disch := first | assumption | exact e_nk_i _ | exact e_nk_n | exact e_nk_r _ | exact e_bo_0 | exact e_bo_1 | exact e_bo_b _ | omega) only [e_cl_v, e_cl_x, e_add_0, e_add_s, Option.toList_some, Option.toList_none, List.cons_append, List.nil_append, iI_add, iI_sub, iI_mul, iI_lt, iI_eq, iI_le, r269_54, r269_55, r269_58, r269_61, r269_62, r269_64, r269_66, r269_69, r269_71, r269_73, r269_136, r269_139, e1, e2]
      rw [if_pos y, if_pos hab]
    · have hmv := mvR_v (τ := rwK K) hv.2 ha ⟨x, y⟩
      have e3 := mm_all2 (L := L) (xs := xs) (d := d + 5) (V := V) (W := W) H2.km hr.n
      obtain ⟨M3, ρ, ω, β, ε, e4, H3, F3, hS3, hg3, hz3, z3, -⟩ := rf_timesTried (L := L) (xs := xs) (d := d + 2) (V := V) (W := W) H2 (n := aW K) hv.1.1 hv.1.2 ha2 (fun p u v => ⟨(hmv.c hr u v).1, (hmv.c hr u v).2.2⟩)
      rw [z2] at z3
      cases hb : fiR K (mvR (rwK K) a b) (aW K) with
      | false =>
        have hi : imS K a b s1 = s1 := by
          unfold imS
          rw [if_pos (Or.inr hb)]
        rw [hi] at hc
        rw [hb, bI_f] at e4
        obtain ⟨M4, l9b, e, r⟩ := hc M3 ⟨H3, (F1.t F2.q).t F3, z3, hs10⟩ l9
        refine ⟨M4, l9b, fun R hR => ?_, r⟩
        have e := e R hR
        rw [← e, r269_52]
        simp (disch := first | assumption | exact e_nk_i _ | exact e_nk_n | exact e_nk_r _ | exact e_bo_0 | exact e_bo_1 | exact e_bo_b _ | omega) only [e_cl_v, e_cl_x, e_add_0, e_add_s, Option.toList_some, Option.toList_none, List.cons_append, List.nil_append, iI_add, iI_sub, iI_mul, iI_lt, iI_eq, iI_le, r269_54, r269_55, r269_58, r269_61, r269_62, r269_64, r269_66, r269_69, r269_71, r269_73, r269_76, r269_77, r269_78, r269_81, r269_84, r269_87, r269_136, r269_139, e1, e2, e3, e4]
        rw [if_pos y, if_neg hab]
        simp
      | true =>
        rw [hb, bI_t] at e4
        have hg := hg3 hb
        have e5 := mm_endNow (L := L) (xs := xs) (d := d + 6) (V := V) (W := W) hv.1 hz3 hS3
        have hmx : mX ε (aW K) = mX (scE K (mvR (rwK K) a b)) (aW K) := mX_cong hv.1.1 fun p u v => (hg p u v).2.2.2
        have r5 := mX_rg (f := ε) (n := aW K) (c := 2001) hv.1.1 (by omega) (fun p u v => (hS3.2.2.2.2.2.2.2 p u (by omega)).2)
        rw [hmx] at e5 r5
        have e6 := mm_costNow (L := L) (xs := xs) (d := d + 4) (V := V) (W := W) H3.km hr hmv hv.1 hS3 hg
        have r6 := ctW_rg hr (e := enO K (mvR (rwK K) a b)) (fun o u v => enO_rg hr hmv hv.1 hS3 hg ⟨u, v⟩)
        have hi : imS K a b s1 = if s1.1 < mX (scE K (mvR (rwK K) a b)) (aW K) ∨ (mX (scE K (mvR (rwK K) a b)) (aW K) = s1.1 ∧ s1.2.1 ≤ ctW K (enO K (mvR (rwK K) a b))) then s1 else (mX (scE K (mvR (rwK K) a b)) (aW K), ctW K (enO K (mvR (rwK K) a b)), a, b) := by
          unfold imS
          rw [if_neg (fun z => z.elim hab (fun z => by rw [hb] at z; cases z))]
        rw [hi] at hc
        generalize mX (scE K (mvR (rwK K) a b)) (aW K) = e at *
        generalize ctW K (enO K (mvR (rwK K) a b)) = ct at *
        have lt := lg_lt (a := ct) (b := s1.2.1) (by omega) (by omega)
        by_cases hq : s1.1 < e ∨ (e = s1.1 ∧ s1.2.1 ≤ ct)
        · rw [if_pos hq] at hc
          obtain ⟨M4, l9b, ee, r⟩ := hc M3 ⟨H3, (F1.t F2.q).t F3, z3, hs10⟩ (some (.int (iI e)))
          refine ⟨M4, l9b, fun R hR => ?_, r⟩
          have ee := ee R hR
          rw [← ee, r269_52]
          simp (disch := first | assumption | exact e_nk_i _ | exact e_nk_n | exact e_nk_r _ | exact e_bo_0 | exact e_bo_1 | exact e_bo_b _ | omega) only [e_cl_v, e_cl_x, e_add_0, e_add_s, Option.toList_some, Option.toList_none, List.cons_append, List.nil_append, iI_add, iI_sub, iI_mul, iI_lt, iI_eq, iI_le, r269_54, r269_55, r269_58, r269_61, r269_62, r269_64, r269_66, r269_69, r269_71, r269_73, r269_76, r269_77, r269_78, r269_81, r269_84, r269_87, r269_90, r269_91, r269_94, r269_96, r269_98, r269_99, r269_102, r269_104, r269_105, r269_108, r269_109, r269_112, r269_113, r269_114, r269_117, r269_120, r269_122, r269_123, r269_124, r269_127, r269_128, r269_130, r269_132, r269_134, r269_136, r269_139, e1, e2, e3, e4, e5, e6, lt]
          rw [if_pos y, if_neg hab]
          rcases hq with z | z
          · simp [z]
          · have z4 : ¬ s1.1 < e := by omega
            have z5 : ¬ ct < s1.2.1 := by omega
            simp [z.1, z5]
        · rw [if_neg hq] at hc
          obtain ⟨M4, l9b, ee, r⟩ := hc M3 ⟨H3, (F1.t F2.q).t F3, z3, by unfold imI; simp only; omega⟩ (some (.int (iI e)))
          refine ⟨M4, l9b, fun R hR => ?_, r⟩
          have ee := ee R hR
          rw [← ee, r269_52]
          simp (disch := first | assumption | exact e_nk_i _ | exact e_nk_n | exact e_nk_r _ | exact e_bo_0 | exact e_bo_1 | exact e_bo_b _ | omega) only [e_cl_v, e_cl_x, e_add_0, e_add_s, Option.toList_some, Option.toList_none, List.cons_append, List.nil_append, iI_add, iI_sub, iI_mul, iI_lt, iI_eq, iI_le, r269_54, r269_55, r269_58, r269_61, r269_62, r269_64, r269_66, r269_69, r269_71, r269_73, r269_76, r269_77, r269_78, r269_81, r269_84, r269_87, r269_90, r269_91, r269_94, r269_96, r269_98, r269_99, r269_102, r269_104, r269_105, r269_108, r269_109, r269_112, r269_113, r269_114, r269_117, r269_120, r269_122, r269_123, r269_124, r269_127, r269_128, r269_130, r269_132, r269_134, r269_136, r269_139, e1, e2, e3, e4, e5, e6, lt]
          rw [if_pos y, if_neg hab]
          have z4 : ¬ s1.1 < e := by omega
          by_cases z5 : e = s1.1
          · have z6 : ct < s1.2.1 := by omega
            simp [z5, z6]
          · simp [z4, z5]
  · intro l9
    exact ⟨M1, l9, fun R hR => hR, hI⟩
theorem mm_imA (H : RK M K c S) (h0 : M 184 0 = iI 0) {s : imT} (hs : imI K s) : ∀ l8 l9 : Option Value, ∃ (M2 : e_MI) (l8b l9b : Option Value), (∀ R : e_R, e_lim L xs (d + 7) 269 40 [some (.ref 184), some (.int (iI w)), some (.int (iI (imA K s (aW K).toNat).1)), some (.long (lI (imA K s (aW K).toNat).2.1)), none, some (.int (iI (imA K s (aW K).toNat).2.2.1)), some (.int (iI (imA K s (aW K).toNat).2.2.2)), some (.int (iI (aW K))), l8b, l9b] [] (e_hp M2 V W) = some R → e_lim L xs (d + 7) 269 40 [some (.ref 184), some (.int (iI w)), some (.int (iI s.1)), some (.long (lI s.2.1)), none, some (.int (iI s.2.2.1)), some (.int (iI s.2.2.2)), some (.int (iI 0)), l8, l9] [] (e_hp M V W) = some R) ∧ RK M2 K c S ∧ frQ M M2 ∧ M2 184 0 = iI 0 ∧ imI K (imA K s (aW K).toNat) := by
  have hv := H.v
  have hr := H.r
  have hv16 := hv.1.2
  have hv0 := hv.1.1
  have key := G_lp (i := 0) (n := aW K) (I := fun i M1 => RK M1 K c S ∧ frQ M M1 ∧ M1 184 0 = iI 0 ∧ imI K (imA K s i.toNat)) (P := fun i M1 => ∀ l8 l9 : Option Value, ∃ (M2 : e_MI) (l8b l9b : Option Value), (∀ R : e_R, e_lim L xs (d + 7) 269 40 [some (.ref 184), some (.int (iI w)), some (.int (iI (imA K s (aW K).toNat).1)), some (.long (lI (imA K s (aW K).toNat).2.1)), none, some (.int (iI (imA K s (aW K).toNat).2.2.1)), some (.int (iI (imA K s (aW K).toNat).2.2.2)), some (.int (iI (aW K))), l8b, l9b] [] (e_hp M2 V W) = some R → e_lim L xs (d + 7) 269 40 [some (.ref 184), some (.int (iI w)), some (.int (iI (imA K s i.toNat).1)), some (.long (lI (imA K s i.toNat).2.1)), none, some (.int (iI (imA K s i.toNat).2.2.1)), some (.int (iI (imA K s i.toNat).2.2.2)), some (.int (iI i)), l8, l9] [] (e_hp M1 V W) = some R) ∧ RK M2 K c S ∧ frQ M M2 ∧ M2 184 0 = iI 0 ∧ imI K (imA K s (aW K).toNat)) (fun a M1 x y hI hc => ?_) (fun M1 hI => ?_) hv.1.1 M ⟨H, frQ.rf M, h0, hs⟩
  · exact key
  · intro l8 l9
    obtain ⟨H1, F1, z1, hs1⟩ := hI
    have hst : imA K s (a + 1).toNat = imB K a (imA K s a.toNat) (aW K).toNat := by
      rw [show (a + 1).toNat = a.toNat + 1 by omega]
      show imB K (a.toNat : Int) _ _ = _
      rw [Int.toNat_of_nonneg x]
    rw [hst] at hc
    generalize imA K s a.toNat = s1 at *
    have e1 := mm_all2 (L := L) (xs := xs) (d := d + 5) (V := V) (W := W) H1.km hr.n
    obtain ⟨M2, l9b, e2, H2, F2, z2, hs2⟩ := mm_imB (L := L) (xs := xs) (d := d) (V := V) (W := W) (w := w) H1 z1 (a := a) ⟨x, y⟩ hs1 l9
    have e3 := mm_all2 (L := L) (xs := xs) (d := d + 5) (V := V) (W := W) H2.km hr.n
    obtain ⟨M3, l8c, l9c, e, r⟩ := hc M2 ⟨H2, F1.t F2, z2, hs2⟩ (some (.int (iI (aW K)))) l9b
    refine ⟨M3, l8c, l9c, fun R hR => ?_, r⟩
    have e := e R hR
    rw [r269_40]
    simp (disch := first | assumption | exact e_nk_i _ | exact e_nk_n | exact e_nk_r _ | exact e_bo_0 | exact e_bo_1 | exact e_bo_b _ | omega) only [e_cl_v, e_cl_x, e_add_0, e_add_s, Option.toList_some, Option.toList_none, List.cons_append, List.nil_append, iI_add, iI_sub, iI_mul, iI_lt, iI_eq, iI_le, r269_42, r269_43, r269_46, r269_49, r269_50, e1]
    rw [if_pos y]
    refine e2 R ?_
    rw [← e, r269_52]
    simp (disch := first | assumption | exact e_nk_i _ | exact e_nk_n | exact e_nk_r _ | exact e_bo_0 | exact e_bo_1 | exact e_bo_b _ | omega) only [e_cl_v, e_cl_x, e_add_0, e_add_s, Option.toList_some, Option.toList_none, List.cons_append, List.nil_append, iI_add, iI_sub, iI_mul, iI_lt, iI_eq, iI_le, r269_54, r269_55, r269_58, r269_142, r269_145, e3]
    rw [if_neg (by omega)]
  · intro l8 l9
    exact ⟨M1, l8, l9, fun R hR => hR, hI⟩
theorem imI_ok (hr : kR K) (hv : kV K) (hS : e_SC M ρ ω β ε) (hg : agR K (rwK K) (aW K) ρ ω β ε) : imI K (edW K, ctW K (enO K (rwK K)), -1, -1) := by
  have h16 := hv.1.2
  have r5 := mX_rg (f := ε) (n := aW K) (c := 2001) hv.1.1 (by omega) (fun p u v => (hS.2.2.2.2.2.2.2 p u (by omega)).2)
  rw [edW_eq hv.1.1 hg] at r5
  have r6 := ctW_rg hr (e := enO K (rwK K)) (fun o u v => enO_rg hr hv.2 hv.1 hS hg ⟨u, v⟩)
  exact ⟨r5, r6, Or.inl ⟨rfl, rfl⟩⟩
def imK (K : e_St) : e_St := if (imX K).2.2.1 = -1 then K else mvK K (imX K).2.2.1 (imX K).2.2.2
def anIm (K : e_St) : Int := if (imX K).2.2.1 = -1 then -1 else edW K - (imX K).1
theorem rf_improve (H : RK M K c S) : AC (e_lim L xs (d + 7) 269 0 [some (.ref 184), none, none, none, none, none, none, none, none, none] [] (e_hp M V W)) M V W K c S (imK K) (cdT K 1) (iI (anIm K)) := by
  have hv := H.v
  have hr := H.r
  have hv16 := hv.1.2
  have hv0 := hv.1.1
  obtain ⟨M1, ρ, ω, β, ε, e1, H1, F1, hS, hg, hz, z1⟩ := rf_noTimes (L := L) (xs := xs) (d := d) (V := V) (W := W) H.mT (mT_0 M) (e := 1) (by omega)
  unfold cdT
  cases hb : ft K with
  | false =>
    rw [hb] at e1 z1
    refine ⟨M1, iI 0, ?_, ((frQ_mT M).t F1).p, z1, (fun q => by cases q), fun _ => H1⟩
    simp (disch := first | assumption | exact e_nk_i _ | exact e_nk_n | exact e_nk_r _ | exact e_bo_0 | exact e_bo_1 | exact e_bo_b _ | omega) only [e_cl_v, e_cl_x, e_add_0, e_add_s, Option.toList_some, Option.toList_none, List.cons_append, List.nil_append, iI_add, iI_sub, iI_mul, iI_lt, iI_eq, iI_le, r269_0, r269_1, r269_2, r269_5, r269_6, r269_7, r269_10, r269_13, r269_14, e1, bI_0]
    simp
  | true =>
    rw [hb] at e1 z1
    have hg := hg hb
    obtain ⟨M2, e2, H2, F2, z2, g2⟩ := rf_saves (L := L) (xs := xs) (d := d + 6) (V := V) (W := W) H1
    have hS2 : e_SC M2 ρ ω β ε := hS.of fun a x y => g2 a (by omega) (by omega)
    have z2' : M2 184 0 = iI 0 := by rw [z2, z1]; rfl
    have hI := imI_ok hr hv hS hg
    -- the end and the cost now: saves leaves size as it was
    obtain ⟨M2s, e2s, hu2, hF2s⟩ := mm_saves (L := L) (xs := xs) (d := d + 6) (V := V) (W := W) H1.km H1.u
    have hMM : e_hp M2 V W = e_hp M2s V W := by
      have := e2.symm.trans e2s
      simpa using this
    have hz2 : M2s 184 9 = iI (aW K) := by rw [hF2s.2 9 (by decide), hz]
    have hS2s : e_SC M2s ρ ω β ε := hS.of fun a x y => hF2s.1 a (by omega) (by omega)
    have e3 := mm_endNow (L := L) (xs := xs) (d := d + 6) (V := V) (W := W) hv.1 hz2 hS2s
    rw [edW_eq hv.1.1 hg, ← hMM] at e3
    have e4 := mm_costNow (L := L) (xs := xs) (d := d + 4) (V := V) (W := W) (hF2s.KM H1.km) hr hv.2 hv.1 hS2s hg
    rw [← hMM] at e4
    obtain ⟨M3, l8, l9, e5, H3, F3, z3, hI3⟩ := mm_imA (L := L) (xs := xs) (d := d) (V := V) (W := W) (w := edW K) H2 z2' hI none none
    have head : ∀ R : e_R, e_lim L xs (d + 7) 269 40 [some (.ref 184), some (.int (iI (edW K))), some (.int (iI (edW K))), some (.long (lI (ctW K (enO K (rwK K))))), none, some (.int (iI (-1))), some (.int (iI (-1))), some (.int (iI 0)), none, none] [] (e_hp M2 V W) = some R → e_lim L xs (d + 7) 269 0 [some (.ref 184), none, none, none, none, none, none, none, none, none] [] (e_hp M V W) = some R := fun R hR => by
      have e4' : e_lim L xs (d + 6) 262 0 [some (.ref 184), none, none, none, none, none, none] [] (e_hp M2 V W) = some (.inl (some (.long (lI (ctW K (enO K (rwK K)))))), e_hp M2 V W, 0, 0) := e4
      rw [← hR]
      simp (disch := first | assumption | exact e_nk_i _ | exact e_nk_n | exact e_nk_r _ | exact e_bo_0 | exact e_bo_1 | exact e_bo_b _ | omega) only [e_cl_v, e_cl_x, e_add_0, e_add_s, Option.toList_some, Option.toList_none, List.cons_append, List.nil_append, iI_add, iI_sub, iI_mul, iI_lt, iI_eq, iI_le, r269_0, r269_1, r269_2, r269_5, r269_6, r269_7, r269_10, r269_13, r269_14, r269_15, r269_16, r269_19, r269_20, r269_23, r269_24, r269_25, r269_26, r269_27, r269_30, r269_31, r269_32, r269_34, r269_35, r269_37, r269_38, e1, e2, e3, e4', bI_0]
      simp
    have H3' : RK M3 K (svC c) (svS c S K) := H3
    have hfrom : imA K (edW K, ctW K (enO K (rwK K)), -1, -1) (aW K).toNat = imX K := rfl
    rw [hfrom] at e5 hI3
    have hn := mm_all2 (L := L) (xs := xs) (d := d + 5) (V := V) (W := W) H3.km hr.n
    have F3' : frP (mT M) M3 := (F1.p.t F2).t F3.p
    obtain ⟨i1, i2, i3⟩ := hI3
    by_cases hq : (imX K).2.2.1 = -1
    · refine AC.ok (M3 := M3) rfl ?_ (by unfold imK; rw [if_pos hq]; exact H3') F3' z3
      unfold anIm
      rw [if_pos hq]
      refine head _ (e5 _ ?_)
      rw [r269_40]
      simp (disch := first | assumption | exact e_nk_i _ | exact e_nk_n | exact e_nk_r _ | exact e_bo_0 | exact e_bo_1 | exact e_bo_b _ | omega) only [e_cl_v, e_cl_x, e_add_0, e_add_s, Option.toList_some, Option.toList_none, List.cons_append, List.nil_append, iI_add, iI_sub, iI_mul, iI_lt, iI_eq, iI_le, r269_42, r269_43, r269_46, r269_148, r269_150, r269_151, r269_154, r269_155, hn]
      rw [if_neg (by omega)]
      simp [hq]
    · have i4 : (0 ≤ (imX K).2.2.1 ∧ (imX K).2.2.1 < aW K) ∧ 0 ≤ (imX K).2.2.2 ∧ (imX K).2.2.2 < aW K := by omega
      obtain ⟨M4, e6, ha4, F4, H4⟩ := rf_moves (L := L) (xs := xs) (d := d + 4) (V := V) (W := W) H3' i4.1 i4.2
      have hmv := mvR_v (τ := rwK K) hv.2 i4.1 i4.2
      obtain ⟨M5, e7, k5, f5⟩ := mm_takesTried (L := L) (xs := xs) (d := d + 4) (V := V) (W := W) H4.km hr hv.1 ha4
      refine AC.ok (M3 := M5) rfl ?_ (by unfold imK; rw [if_neg hq]; exact H4.n k5 (kG_rt H.g hmv) f5) ((F3'.t F4.q.p).t f5.p) (by rw [f5 184 (by decide), F4 184 (by decide), z3])
      unfold anIm
      rw [if_neg hq]
      refine head _ (e5 _ ?_)
      rw [r269_40]
      simp (disch := first | assumption | exact e_nk_i _ | exact e_nk_n | exact e_nk_r _ | exact e_bo_0 | exact e_bo_1 | exact e_bo_b _ | omega) only [e_cl_v, e_cl_x, e_add_0, e_add_s, Option.toList_some, Option.toList_none, List.cons_append, List.nil_append, iI_add, iI_sub, iI_mul, iI_lt, iI_eq, iI_le, r269_42, r269_43, r269_46, r269_148, r269_150, r269_151, r269_154, r269_155, r269_156, r269_157, r269_159, r269_161, r269_164, r269_165, r269_168, r269_169, r269_170, r269_171, hn, e6, e7]
      rw [if_neg (by omega), if_neg hq]
end Ea2
