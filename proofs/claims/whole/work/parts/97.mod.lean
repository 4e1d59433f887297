section E97
variable {L : Nat} {xs : Nat → Int32} {d : Nat} {M M2 M3 : e_MI} {V : e_ML} {W : e_MD} {K K2 : e_St} {h : e_H} {S : Int → e_St} {c cd n er o q k i : Int} {ρ ω β ε τ : Int → Int} {r : Option e_R} {an : Int32}
/-! all rows, one behind the other -/
abbrev exT : Type := Int × (Int → Int)
/-- the first orders, one after the other, at place k -/
def exO (K : e_St) (f : (Int → Int) → Int → exT → exT) (τ : Int → Int) (k : Int) (s : exT) : Nat → exT
  | 0 => s
  | o + 1 => if cnt τ o k = K (40 + o) ∨ scB K (uI τ k o) k = 2001 then exO K f τ k s o else f (uI τ k o) (k + 1) (exO K f τ k s o)
def exR (K : e_St) : Nat → (Int → Int) → Int → exT → exT
  | 0, τ, k, s => if s.1 ≠ -1 ∧ s.1 ≤ mX (scE K τ) k then s else (mX (scE K τ) k, τ)
  | m + 1, τ, k, s => exO K (exR K m) τ k s (K 310).toNat
def frZ (M M2 : e_MI) : Prop := (∀ a, a ≠ 184 → a ≠ 188 → a ≠ 189 → a ≠ 190 → a ≠ 191 → a ≠ 193 → a ≠ 194 → M2 a = M a) ∧ ∀ j, j ≠ 9 → M2 184 j = M 184 j
theorem frZ.t (h : frZ M M2) (h2 : frZ M2 M3) : frZ M M3 := ⟨fun a x0 x1 x2 x3 x4 x5 x6 => by rw [h2.1 a x0 x1 x2 x3 x4 x5 x6, h.1 a x0 x1 x2 x3 x4 x5 x6], fun j x => by rw [h2.2 j x, h.2 j x]⟩
theorem frZ.km (h : frZ M M2) (hK : e_KM M K) : e_KM M2 K := by
  unfold e_KM
  rw [h.1 185 (by decide) (by decide) (by decide) (by decide) (by decide) (by decide) (by decide)]
  exact hK
theorem frR.z (h : frR M M2) : frZ M M2 := ⟨fun a x0 x1 x2 x3 x4 x5 x6 => h a x1 x2 x3 x4, fun j x => by rw [h 184 (by decide) (by decide) (by decide) (by decide)]⟩
theorem frZ.fq (h : frZ M M2) : frQ M M2 := frQ.mk (fun a x y => h.1 a x (by omega) (by omega) (by omega) (by omega) (by omega) (by omega)) (fun j x => h.2 j (by omega))
theorem frZ.rf (M : e_MI) : frZ M M := ⟨fun _ _ _ _ _ _ _ _ => rfl, fun _ _ => rfl⟩
def wkI (M : e_MI) (K : e_St) (τ : Int → Int) (k : Int) (s : exT) : Prop := (∃ ρ ω β ε : Int → Int, e_SC M ρ ω β ε ∧ agR K τ k ρ ω β ε) ∧ (s.1 ≠ -1 → e_ar (M 193) (aW K) s.2) ∧ -1 ≤ s.1 ∧ s.1 ≤ 2001
/-- a whole row -/
theorem mm_walkEnd (hn : aW K ≤ 16) (hS : e_SC M ρ ω β ε) (hg : agR K τ (aW K) ρ ω β ε) {s : exT} (h2 : s.1 ≠ -1 → e_ar (M 193) (aW K) s.2) (h3 : -1 ≤ s.1 ∧ s.1 ≤ 2001) (hk : 0 ≤ k ∧ k + 1 = aW K) {o : Int32} {l5 l6 : Option Value} : ∃ (M2 : e_MI) (l5b l6b : Option Value), (∀ R : e_R, e_lim L xs (d + 4) 243 27 [some (.ref 184), some (.int (iI (aW K))), some (.int (iI (exR K 0 τ (aW K) s).1)), some (.int (iI k)), some (.int o), l5b, l6b] [] (e_hp M2 V W) = some R → e_lim L xs (d + 4) 243 93 [some (.ref 184), some (.int (iI (aW K))), some (.int (iI s.1)), some (.int (iI k)), some (.int o), l5, l6] [] (e_hp M V W) = some R) ∧ wkI M2 K τ (aW K) (exR K 0 τ (aW K) s) ∧ frZ M M2 ∧ M2 194 = M 194 := by
  have hS0 := hS
  have hz : e_u M 184 (upd (M 184) 9 (iI (aW K))) 184 9 = iI (aW K) := by rw [e_u_s, upd_s]
  have hS1 : e_SC (e_u M 184 (upd (M 184) 9 (iI (aW K)))) ρ ω β ε := hS.of fun a x y => e_u_n _ _ (by omega)
  have e1 := mm_endNow (L := L) (xs := xs) (d := d + 3) (V := V) (W := W) (n := aW K) ⟨by omega, hn⟩ hz hS1
  have hmx : mX ε (aW K) = mX (scE K τ) (aW K) := mX_cong (by omega) fun p a b => (hg p a b).2.2.2
  have hmr := mX_rg (f := ε) (n := aW K) (c := 2001) (by omega) (by omega) (fun p a b => (hS0.2.2.2.2.2.2.2 p a (by omega)).2)
  rw [hmx] at e1 hmr
  have hM1 : ∀ a, a ≠ 184 → e_u M 184 (upd (M 184) 9 (iI (aW K))) a = M a := fun a x => e_u_n _ _ x
  have F1 : frZ M (e_u M 184 (upd (M 184) 9 (iI (aW K)))) := ⟨fun a x0 x1 x2 x3 x4 x5 x6 => e_u_n _ _ x0, fun j x => by rw [e_u_s, upd_n _ _ x]⟩
  have hex : exR K 0 τ (aW K) s = if s.1 ≠ -1 ∧ s.1 ≤ mX (scE K τ) (aW K) then s else (mX (scE K τ) (aW K), τ) := rfl
  rw [hex]
  generalize mX (scE K τ) (aW K) = e at *
  by_cases hq : s.1 ≠ -1 ∧ s.1 ≤ e
  · rw [if_pos hq]
    refine ⟨_, some (.int (iI e)), l6, fun R hR => ?_, ⟨⟨ρ, ω, β, ε, hS1, hg⟩, fun a => by rw [hM1 _ (by decide)]; exact h2 a, h3⟩, F1, hM1 _ (by decide)⟩
    simp (disch := first | assumption | exact e_nk_i _ | exact e_nk_n | exact e_nk_r _ | exact e_bo_0 | exact e_bo_1 | exact e_bo_b _ | omega) only [e_cl_v, e_cl_x, e_add_0, e_add_s, Option.toList_some, Option.toList_none, List.cons_append, List.nil_append, iI_add, iI_sub, iI_mul, iI_lt, iI_eq, iI_le, r243_93, r243_94, r243_95, r243_96, r243_97, r243_100, r243_103, r243_104, r243_107, r243_108, r243_109, r243_110, r243_113, r243_114, r243_115, r243_118, r243_119, r243_122, r243_124, r243_125, r243_126, r243_129, r243_131, r243_132, r243_135, e1]
    rw [if_neg (by omega), if_neg hq.1, if_neg (by omega)]
    exact hR
  · rw [if_neg hq]
    have key := G_lp (i := 0) (n := aW K) (I := fun i M1 => e_ar (M1 193) i τ ∧ ∀ a, a ≠ 193 → M1 a = e_u M 184 (upd (M 184) 9 (iI (aW K))) a) (P := fun i M1 => ∃ M2 : e_MI, (∀ R : e_R, e_lim L xs (d + 4) 243 27 [some (.ref 184), some (.int (iI (aW K))), some (.int (iI e)), some (.int (iI k)), some (.int o), some (.int (iI e)), some (.int (iI (aW K)))] [] (e_hp M2 V W) = some R → e_lim L xs (d + 4) 243 144 [some (.ref 184), some (.int (iI (aW K))), some (.int (iI e)), some (.int (iI k)), some (.int o), some (.int (iI e)), some (.int (iI i))] [] (e_hp M1 V W) = some R) ∧ e_ar (M2 193) (aW K) τ ∧ ∀ a, a ≠ 193 → M2 a = e_u M 184 (upd (M 184) 9 (iI (aW K))) a) (fun j M1 a b hI hc => ?_) (fun M1 hI => ?_) (by omega) (e_u M 184 (upd (M 184) 9 (iI (aW K)))) ⟨fun z a b => by omega, fun _ _ => rfl⟩
    · obtain ⟨M2, e2, ha, hF⟩ := key
      refine ⟨M2, some (.int (iI e)), some (.int (iI (aW K))), fun R hR => ?_, ⟨⟨ρ, ω, β, ε, hS1.of fun a x y => hF a (by omega), hg⟩, fun _ => ha, by simp only; omega⟩, F1.t ⟨fun a x0 x1 x2 x3 x4 x5 x6 => hF a x5, fun j x => by rw [hF 184 (by decide)]⟩, by rw [hF _ (by decide), hM1 _ (by decide)]⟩
      have e2 := e2 R hR
      rw [← e2]
      simp (disch := first | assumption | exact e_nk_i _ | exact e_nk_n | exact e_nk_r _ | exact e_bo_0 | exact e_bo_1 | exact e_bo_b _ | omega) only [e_cl_v, e_cl_x, e_add_0, e_add_s, Option.toList_some, Option.toList_none, List.cons_append, List.nil_append, iI_add, iI_sub, iI_mul, iI_lt, iI_eq, iI_le, r243_93, r243_94, r243_95, r243_96, r243_97, r243_100, r243_103, r243_104, r243_107, r243_108, r243_109, r243_110, r243_113, r243_114, r243_115, r243_118, r243_119, r243_122, r243_124, r243_125, r243_126, r243_129, r243_131, r243_132, r243_135, r243_138, r243_140, r243_141, r243_142, e1]
      rw [if_neg (by omega)]
      by_cases z1 : s.1 = -1
      · rw [if_pos z1]
      · rw [if_neg z1, if_pos (by omega)]
    · obtain ⟨i1, i2⟩ := hI
      have g1 := hS0.1 j a (by omega)
      rw [(hg j a b).1, ← hM1 188 (by decide), ← i2 188 (by decide)] at g1
      obtain ⟨M2, e2, r⟩ := hc (e_u M1 193 (upd (M1 193) j.toNat (iI (τ j)))) ⟨by rw [e_u_s]; exact i1.mr a, fun a x => by rw [e_u_n _ _ x, i2 a x]⟩
      refine ⟨M2, fun R hR => ?_, r⟩
      have e2 := e2 R hR
      rw [← e2, r243_144]
      simp (disch := first | assumption | exact e_nk_i _ | exact e_nk_n | exact e_nk_r _ | exact e_bo_0 | exact e_bo_1 | exact e_bo_b _ | omega) only [e_cl_v, e_cl_x, e_add_0, e_add_s, Option.toList_some, Option.toList_none, List.cons_append, List.nil_append, iI_add, iI_sub, iI_mul, iI_lt, iI_eq, iI_le, r243_146, r243_147, r243_150, r243_151, r243_154, r243_156, r243_157, r243_160, r243_162, r243_163, r243_164, r243_167, iI_vin, iI_nat, if_true, g1]
      rw [if_pos b]
    · refine ⟨M1, fun R hR => ?_, hI⟩
      rw [r243_144]
      simp (disch := first | assumption | exact e_nk_i _ | exact e_nk_n | exact e_nk_r _ | exact e_bo_0 | exact e_bo_1 | exact e_bo_b _ | omega) only [e_cl_v, e_cl_x, e_add_0, e_add_s, Option.toList_some, Option.toList_none, List.cons_append, List.nil_append, iI_add, iI_sub, iI_mul, iI_lt, iI_eq, iI_le, r243_146, r243_147, r243_170]
      rw [if_neg (by omega)]
      exact hR
set_option maxHeartbeats 4000000 in
/-- all orders at place k, one after the other -/
theorem mm_walkK (hr : kR K) (hn : aW K ≤ 16) {f : (Int → Int) → Int → exT → exT} {s : exT} (hk : 0 ≤ k ∧ k < aW K) (hp : pfx K τ k) (visit : (∀ (o : Int) (s : exT) (M : e_MI) (l5 l6 : Option Value), 0 ≤ o → o < K 310 → cnt τ o k < K (40 + o) → (∃ ρ ω β ε : Int → Int, e_SC M ρ ω β ε ∧ agR K (uI τ k o) (k + 1) ρ ω β ε) → (s.1 ≠ -1 → e_ar (M 193) (aW K) s.2) → (-1 ≤ s.1 ∧ s.1 ≤ 2001) → e_KM M K → ∃ (M2 : e_MI) (l4b l5b l6b : Option Value), (∀ R : e_R, e_lim L xs (d + 4) 243 27 [some (.ref 184), some (.int (iI (aW K))), some (.int (iI (f (uI τ k o) (k + 1) s).1)), some (.int (iI k)), l4b, l5b, l6b] [] (e_hp M2 V W) = some R → e_lim L xs (d + 4) 243 93 [some (.ref 184), some (.int (iI (aW K))), some (.int (iI s.1)), some (.int (iI k)), some (.int (iI o)), l5, l6] [] (e_hp M V W) = some R) ∧ wkI M2 K τ k (f (uI τ k o) (k + 1) s) ∧ frZ M M2 ∧ ∀ j : Int, 0 ≤ j → j < k + 1 → M2 194 j.toNat = M 194 j.toNat)) (hK : e_KM M K) (hw : wkI M K τ k s) (hx : M 194 k.toNat = iI 0) {l4 l5 l6 : Option Value} : ∃ (M2 : e_MI) (l4b l5b l6b : Option Value), (∀ R : e_R, e_lim L xs (d + 4) 243 27 [some (.ref 184), some (.int (iI (aW K))), some (.int (iI (exO K f τ k s (K 310).toNat).1)), some (.int (iI (k - 1))), l4b, l5b, l6b] [] (e_hp M2 V W) = some R → e_lim L xs (d + 4) 243 27 [some (.ref 184), some (.int (iI (aW K))), some (.int (iI s.1)), some (.int (iI k)), l4, l5, l6] [] (e_hp M V W) = some R) ∧ wkI M2 K τ k (exO K f τ k s (K 310).toNat) ∧ frZ M M2 ∧ ∀ j : Int, 0 ≤ j → j < k → M2 194 j.toNat = M 194 j.toNat := by
  have hn8 := hr.n
  have key := G_lp (i := 0) (n := K 310) (I := fun i M1 => wkI M1 K τ k (exO K f τ k s i.toNat) ∧ frZ M M1 ∧ M1 194 k.toNat = iI i ∧ ∀ j : Int, 0 ≤ j → j < k → M1 194 j.toNat = M 194 j.toNat) (P := fun i M1 => ∀ l4 l5 l6 : Option Value, ∃ (M2 : e_MI) (l4b l5b l6b : Option Value), (∀ R : e_R, e_lim L xs (d + 4) 243 27 [some (.ref 184), some (.int (iI (aW K))), some (.int (iI (exO K f τ k s (K 310).toNat).1)), some (.int (iI (k - 1))), l4b, l5b, l6b] [] (e_hp M2 V W) = some R → e_lim L xs (d + 4) 243 27 [some (.ref 184), some (.int (iI (aW K))), some (.int (iI (exO K f τ k s i.toNat).1)), some (.int (iI k)), l4, l5, l6] [] (e_hp M1 V W) = some R) ∧ wkI M2 K τ k (exO K f τ k s (K 310).toNat) ∧ frZ M M2 ∧ ∀ j : Int, 0 ≤ j → j < k → M2 194 j.toNat = M 194 j.toNat) (fun o M1 a b hI hc => ?_) (fun M1 hI => ?_) hn8.1 M ⟨hw, frZ.rf M, hx, fun _ _ _ => rfl⟩ l4 l5 l6
  · exact key
  · intro l4 l5 l6
    obtain ⟨⟨⟨ρ, ω, β, ε, hS, hg⟩, h2, h3⟩, hF, i3, i4⟩ := hI
    have hst : exO K f τ k s (o + 1).toNat = if cnt τ o k = K (40 + o) ∨ scB K (uI τ k o) k = 2001 then exO K f τ k s o.toNat else f (uI τ k o) (k + 1) (exO K f τ k s o.toNat) := by
      rw [show (o + 1).toNat = o.toNat + 1 by omega]
      show (if cnt τ (o.toNat : Int) k = K (40 + (o.toNat : Int)) ∨ scB K (uI τ k (o.toNat : Int)) k = 2001 then _ else f (uI τ k (o.toNat : Int)) (k + 1) _) = _
      rw [Int.toNat_of_nonneg a]
    rw [hst] at hc
    generalize exO K f τ k s o.toNat = s1 at *
    -- the counter has gone on
    obtain ⟨M1b, hM1b⟩ : ∃ M1b, M1b = e_u M1 194 (upd (M1 194) k.toNat (iI (o + 1))) := ⟨_, rfl⟩
    have m1 : ∀ a, a ≠ 194 → M1b a = M1 a := fun a x => by rw [hM1b, e_u_n _ _ x]
    have m2 : M1b 194 k.toNat = iI (o + 1) := by rw [hM1b, e_u_s, upd_s]
    have m3 : ∀ j : Int, 0 ≤ j → j < k → M1b 194 j.toNat = M 194 j.toNat := fun j x y => by rw [hM1b, e_u_s, upd_n _ _ (by omega), i4 j x y]
    have F1 : frZ M M1b := hF.t ⟨fun a x0 x1 x2 x3 x4 x5 x6 => m1 a x6, fun j x => by rw [m1 184 (by decide)]⟩
    have hK1 := F1.km hK
    have hK0 := hF.km hK
    have hS1 : e_SC M1b ρ ω β ε := hS.of fun a x y => m1 a (by omega)
    have e1 := mm_many (L := L) (xs := xs) (d := d + 3) (V := V) (W := W) hK0
    have e2 := mm_worksOf (L := L) (xs := xs) (d := d + 3) (V := V) (W := W) hK1 (o := o) a (by omega)
    have e3 := mm_stands (L := L) (xs := xs) (d := d + 3) (V := V) (W := W) hS1 (o := o) (n := k) (by omega) (by omega)
    have hcc : cnt ρ o k = cnt τ o k := cnt_cong fun p x y => (hg p x y).1
    rw [hcc] at e3
    have hwk := hr.wk (o := o) a (by omega)
    have hco := hp.2 o a b
    have hc0 := cnt_rg τ o hk.1
    have head : ∀ R : e_R, (cnt τ o k = K (40 + o) → e_lim L xs (d + 4) 243 27 [some (.ref 184), some (.int (iI (aW K))), some (.int (iI s1.1)), some (.int (iI k)), some (.int (iI o)), l5, l6] [] (e_hp M1b V W) = some R) → (cnt τ o k ≠ K (40 + o) → e_lim L xs (d + 4) 243 80 [some (.ref 184), some (.int (iI (aW K))), some (.int (iI s1.1)), some (.int (iI k)), some (.int (iI o)), l5, l6] [] (e_hp M1b V W) = some R) → e_lim L xs (d + 4) 243 27 [some (.ref 184), some (.int (iI (aW K))), some (.int (iI s1.1)), some (.int (iI k)), l4, l5, l6] [] (e_hp M1 V W) = some R := fun R r1 r2 => by
      rw [r243_27]
      simp (disch := first | assumption | exact e_nk_i _ | exact e_nk_n | exact e_nk_r _ | exact e_bo_0 | exact e_bo_1 | exact e_bo_b _ | omega) only [e_cl_v, e_cl_x, e_add_0, e_add_s, Option.toList_some, Option.toList_none, List.cons_append, List.nil_append, iI_add, iI_sub, iI_mul, iI_lt, iI_eq, iI_le, r243_28, r243_31, r243_32, r243_35, r243_36, r243_37, r243_39, r243_41, r243_42, r243_45, r243_48, r243_51, r243_54, r243_55, r243_58, r243_59, r243_60, r243_61, r243_62, r243_63, r243_64, r243_65, r243_67, r243_68, r243_71, r243_72, r243_74, r243_77, iI_vin, iI_nat, if_true, i3, e1]
      rw [if_neg (by omega), if_neg (by omega), ← hM1b]
      simp (disch := first | assumption | exact e_nk_i _ | exact e_nk_n | exact e_nk_r _ | exact e_bo_0 | exact e_bo_1 | exact e_bo_b _ | omega) only [e_cl_v, e_cl_x, e_add_0, e_add_s, Option.toList_some, Option.toList_none, List.cons_append, List.nil_append, iI_add, iI_sub, iI_mul, iI_lt, iI_eq, iI_le, r243_64, r243_65, r243_67, r243_68, r243_71, r243_72, r243_74, r243_77, e2, e3]
      by_cases z : cnt τ o k = K (40 + o)
      · rw [if_pos z]
        exact r1 z
      · rw [if_neg z]
        exact r2 z
    by_cases c1 : cnt τ o k = K (40 + o)
    · rw [if_pos (Or.inl c1)] at hc
      obtain ⟨M2, l4b, l5b, l6b, e, r⟩ := hc M1b ⟨⟨⟨ρ, ω, β, ε, hS1, hg⟩, fun x => by rw [m1 _ (by decide)]; exact h2 x, h3⟩, F1, m2, m3⟩ (some (.int (iI o))) l5 l6
      exact ⟨M2, l4b, l5b, l6b, fun R hR => head R (fun _ => e R hR) (fun z => absurd c1 z), r⟩
    · obtain ⟨M3, ρ3, ω3, β3, ε3, e4, hS3, hg3, hF3⟩ := rf_puts (L := L) (xs := xs) (d := d) (V := V) (W := W) hK1 hr hS1 hg ⟨hk.1, by omega⟩ (o := o) (by omega) (by omega)
      have F3 : frZ M M3 := F1.t (frR.z hF3)
      have n3 : M3 194 = M1b 194 := hF3 194 (by decide) (by decide) (by decide) (by decide)
      have b3 : s1.1 ≠ -1 → e_ar (M3 193) (aW K) s1.2 := fun x => by
        rw [hF3 193 (by decide) (by decide) (by decide) (by decide), m1 _ (by decide)]
        exact h2 x
      by_cases c2 : scB K (uI τ k o) k = 2001
      · rw [if_pos (Or.inr c2)] at hc
        obtain ⟨M2, l4b, l5b, l6b, e, r⟩ := hc M3 ⟨⟨⟨ρ3, ω3, β3, ε3, hS3, agR_tau (fun p a b => uI_n _ _ (by omega)) (hg3.le (by omega : k ≤ k + 1))⟩, b3, h3⟩, F3, by rw [n3]; exact m2, fun j x y => by rw [n3]; exact m3 j x y⟩ (some (.int (iI o))) l5 l6
        refine ⟨M2, l4b, l5b, l6b, fun R hR => head R (fun z => absurd z c1) (fun _ => ?_), r⟩
        have e := e R hR
        rw [← e]
        rw [decide_eq_false (fun a => a c2), bI_f] at e4
        simp (disch := first | assumption | exact e_nk_i _ | exact e_nk_n | exact e_nk_r _ | exact e_bo_0 | exact e_bo_1 | exact e_bo_b _ | omega) only [e_cl_v, e_cl_x, e_add_0, e_add_s, Option.toList_some, Option.toList_none, List.cons_append, List.nil_append, iI_add, iI_sub, iI_mul, iI_lt, iI_eq, iI_le, r243_80, r243_81, r243_82, r243_84, r243_87, r243_90, e4]
        simp
      · rw [if_neg (fun z => z.elim c1 c2)] at hc
        obtain ⟨M4, l4v, l5v, l6v, e5, w4, F4, n4⟩ := visit o s1 M3 l5 l6 a b (by omega) ⟨ρ3, ω3, β3, ε3, hS3, hg3⟩ b3 h3 (F3.km hK)
        obtain ⟨M2, l4b, l5b, l6b, e, r⟩ := hc M4 ⟨w4, F3.t F4, by rw [n4 k hk.1 (by omega), n3]; exact m2, fun j x y => by rw [n4 j x (by omega), n3]; exact m3 j x y⟩ l4v l5v l6v
        refine ⟨M2, l4b, l5b, l6b, fun R hR => head R (fun z => absurd z c1) (fun _ => ?_), r⟩
        have e := e5 R (e R hR)
        rw [← e]
        rw [decide_eq_true c2, bI_t] at e4
        simp (disch := first | assumption | exact e_nk_i _ | exact e_nk_n | exact e_nk_r _ | exact e_bo_0 | exact e_bo_1 | exact e_bo_b _ | omega) only [e_cl_v, e_cl_x, e_add_0, e_add_s, Option.toList_some, Option.toList_none, List.cons_append, List.nil_append, iI_add, iI_sub, iI_mul, iI_lt, iI_eq, iI_le, r243_80, r243_81, r243_82, r243_84, r243_87, r243_90, e4]
        simp
  · intro l4 l5 l6
    obtain ⟨hw1, hF, i3, i4⟩ := hI
    have e1 := mm_many (L := L) (xs := xs) (d := d + 3) (V := V) (W := W) (hF.km hK)
    refine ⟨M1, some (.int (iI (K 310))), l5, l6, fun R hR => ?_, hw1, hF, i4⟩
    rw [r243_27]
    simp (disch := first | assumption | exact e_nk_i _ | exact e_nk_n | exact e_nk_r _ | exact e_bo_0 | exact e_bo_1 | exact e_bo_b _ | omega) only [e_cl_v, e_cl_x, e_add_0, e_add_s, Option.toList_some, Option.toList_none, List.cons_append, List.nil_append, iI_add, iI_sub, iI_mul, iI_lt, iI_eq, iI_le, r243_28, r243_31, r243_32, r243_35, r243_36, r243_37, r243_39, r243_41, r243_42, r243_45, r243_48, r243_51, iI_vin, iI_nat, if_true, i3, e1]
    rw [if_neg (by omega)]
    simpa [Int.sub_eq_add_neg] using hR
set_option maxHeartbeats 4000000 in
theorem mm_walk (hr : kR K) (hn : aW K ≤ 16) : ∀ (m : Nat) (k : Int) (τ : Int → Int) (s : exT) (M : e_MI), k + m + 1 = aW K → 0 ≤ k → pfx K τ k → e_KM M K → wkI M K τ k s → M 194 k.toNat = iI 0 → ∀ l4 l5 l6 : Option Value, ∃ (M2 : e_MI) (l4b l5b l6b : Option Value), (∀ R : e_R, e_lim L xs (d + 4) 243 27 [some (.ref 184), some (.int (iI (aW K))), some (.int (iI (exR K (m + 1) τ k s).1)), some (.int (iI (k - 1))), l4b, l5b, l6b] [] (e_hp M2 V W) = some R → e_lim L xs (d + 4) 243 27 [some (.ref 184), some (.int (iI (aW K))), some (.int (iI s.1)), some (.int (iI k)), l4, l5, l6] [] (e_hp M V W) = some R) ∧ wkI M2 K τ k (exR K (m + 1) τ k s) ∧ frZ M M2 ∧ ∀ j : Int, 0 ≤ j → j < k → M2 194 j.toNat = M 194 j.toNat := by
  intro m
  induction m with
  | zero =>
    intro k τ s M hkm hk hp hK hw hx l4 l5 l6
    refine mm_walkK hr hn (f := exR K 0) ⟨hk, by omega⟩ hp (fun o s M l5 l6 a b hc hS h2 h3 hK => ?_) hK hw hx
    obtain ⟨ρ, ω, β, ε, hS, hg⟩ := hS
    have hke : k + 1 = aW K := by omega
    rw [hke] at hg ⊢
    obtain ⟨M2, l5b, l6b, e, ⟨⟨ρ2, ω2, β2, ε2, hS2, hg2⟩, w2, w3⟩, hF, hn2⟩ := mm_walkEnd (L := L) (xs := xs) (d := d) (V := V) (W := W) hn hS hg h2 h3 ⟨hk, hke⟩ (o := iI o) (l5 := l5) (l6 := l6)
    exact ⟨M2, some (.int (iI o)), l5b, l6b, e, ⟨⟨ρ2, ω2, β2, ε2, hS2, agR_tau (fun p a b => uI_n _ _ (by omega)) (hg2.le (by omega))⟩, w2, w3⟩, hF, fun j x y => by rw [hn2]⟩
  | succ m ih =>
    intro k τ s M hkm hk hp hK hw hx l4 l5 l6
    refine mm_walkK hr hn (f := exR K (m + 1)) ⟨hk, by omega⟩ hp (fun o s M l5 l6 a b hc hS h2 h3 hK => ?_) hK hw hx
    obtain ⟨ρ, ω, β, ε, hS, hg⟩ := hS
    have m1 : ∀ a, a ≠ 194 → e_u M 194 (upd (M 194) (k + 1).toNat (iI 0)) a = M a := fun a x => e_u_n _ _ x
    have F1 : frZ M (e_u M 194 (upd (M 194) (k + 1).toNat (iI 0))) := ⟨fun a x0 x1 x2 x3 x4 x5 x6 => m1 a x6, fun j x => by rw [m1 184 (by decide)]⟩
    obtain ⟨M2, l4b, l5b, l6b, e, ⟨⟨ρ2, ω2, β2, ε2, hS2, hg2⟩, w2, w3⟩, hF, hn2⟩ := ih (k + 1) (uI τ k o) s (e_u M 194 (upd (M 194) (k + 1).toNat (iI 0))) (by omega) (by omega) (hp.up hk ⟨a, b⟩ hc) (F1.km hK) ⟨⟨ρ, ω, β, ε, hS.of fun a x y => m1 a (by omega), hg⟩, fun x => by rw [m1 _ (by decide)]; exact h2 x, h3⟩ (by rw [e_u_s, upd_s]) (some (.int (iI o))) l5 l6
    refine ⟨M2, l4b, l5b, l6b, fun R hR => ?_, ⟨⟨ρ2, ω2, β2, ε2, hS2, agR_tau (fun p a b => uI_n _ _ (by omega)) (hg2.le (by omega : k ≤ k + 1))⟩, w2, w3⟩, F1.t hF, fun j x y => by rw [hn2 j x y, e_u_s, upd_n _ _ (by omega)]⟩
    rw [show k + 1 - 1 = k by omega] at e
    have e := e R hR
    rw [← e]
    simp (disch := first | assumption | exact e_nk_i _ | exact e_nk_n | exact e_nk_r _ | exact e_bo_0 | exact e_bo_1 | exact e_bo_b _ | omega) only [e_cl_v, e_cl_x, e_add_0, e_add_s, Option.toList_some, Option.toList_none, List.cons_append, List.nil_append, iI_add, iI_sub, iI_mul, iI_lt, iI_eq, iI_le, r243_93, r243_94, r243_95, r243_96, r243_97, r243_100, r243_103, r243_104, r243_107, r243_108, r243_109, r243_110, iI_vin, iI_nat, if_true]
    rw [if_pos (by omega)]
end E97
