section E95
variable {L : Nat} {xs : Nat → Int32} {d : Nat} {M M2 M3 : e_MI} {V : e_ML} {W : e_MD} {K K2 : e_St} {h : e_H} {S : Int → e_St} {c cd n er o q k i : Int} {ρ ω β ε τ : Int → Int} {r : Option e_R} {an : Int32}
/-! plans by a rule -/
/-- the first k places of a row -/
def pfx (K : e_St) (τ : Int → Int) (k : Int) : Prop := (∀ p, 0 ≤ p → p < k → 0 ≤ τ p ∧ τ p < K 310) ∧ ∀ o, 0 ≤ o → o < K 310 → cnt τ o k ≤ K (40 + o)
theorem pfx.up (h : pfx K τ k) (hk : 0 ≤ k) (ho : 0 ≤ o ∧ o < K 310) (hc : cnt τ o k < K (40 + o)) : pfx K (uI τ k o) (k + 1) := by
  refine ⟨fun p a b => ?_, fun x a b => ?_⟩
  · unfold uI
    split
    · exact ho
    · exact h.1 p a (by omega)
  · rw [cnt_s _ _ hk, uI_s, cnt_cong (ρ2 := τ) (fun p a b => uI_n _ _ (by omega))]
    have := h.2 x a b
    split
    · next u => subst u; omega
    · omega
theorem pfx.le (hr : kR K) (h : pfx K τ k) (hk : 0 ≤ k) : k ≤ aW K := by
  have h1 := cnt_sum (ρ := τ) hr.n.1 k hk h.1
  have h2 := SU_le2 hr.n.1 h.2
  have h3 : SU (fun q => K (40 + q)) (K 310) = aW K := rfl
  omega
theorem pfx.v (hr : kR K) (h : pfx K τ (aW K)) (hn : 0 ≤ aW K) : vR K τ := ⟨h.1, fun o a b => SU_eq (f := fun o => cnt τ o (aW K)) (g := fun o => K (40 + o)) hr.n.1 h.2 (cnt_sum (ρ := τ) hr.n.1 (aW K) hn h.1) o a b⟩
theorem pfx.ex (hr : kR K) (h : pfx K τ k) (hk : 0 ≤ k) (hl : k < aW K) : ∃ o, 0 ≤ o ∧ o < K 310 ∧ cnt τ o k < K (40 + o) := by
  by_cases hq : ∃ o, 0 ≤ o ∧ o < K 310 ∧ cnt τ o k < K (40 + o)
  · exact hq
  · exfalso
    have h1 := cnt_sum (ρ := τ) hr.n.1 k hk h.1
    have h2 := SU_cong (f := fun o => cnt τ o k) (g := fun o => K (40 + o)) (n := K 310) (fun o a b => by
      have := h.2 o a b
      by_cases z : cnt τ o k = K (40 + o)
      · exact z
      · exact absurd ⟨o, a, b, by omega⟩ hq)
    have h3 : SU (fun q => K (40 + q)) (K 310) = aW K := rfl
    omega
/-- the choice for place k among the first orders: which, its begin, how good it is -/
def plC (K : e_St) (q : Int) (τ : Int → Int) (k : Int) : Nat → Int × Int × Int
  | 0 => (-1, 0, 0)
  | o + 1 => if cnt τ o k = K (40 + o) then plC K q τ k o else if (plC K q τ k o).1 ≠ -1 ∧ ((plC K q τ k o).2.1 < scB K (uI τ k o) k ∨ (scB K (uI τ k o) k = (plC K q τ k o).2.1 ∧ (plC K q τ k o).2.2 ≤ kyW K q o (cnt τ o k))) then plC K q τ k o else (o, scB K (uI τ k o) k, kyW K q o (cnt τ o k))
def plT (K : e_St) (q : Int) : Nat → Int → Int
  | 0 => fun _ => 0
  | k + 1 => uI (plT K q k) k (plC K q (plT K q k) k (K 310).toNat).1
def plR (K : e_St) (q : Int) : Int → Int := plT K q (aW K).toNat
theorem plC_sp (h : pfx K τ k) : ∀ o : Nat, (o : Int) ≤ K 310 → ((plC K q τ k o).1 = -1 ∧ ∀ x : Int, 0 ≤ x → x < o → cnt τ x k = K (40 + x)) ∨ (0 ≤ (plC K q τ k o).1 ∧ (plC K q τ k o).1 < o ∧ cnt τ (plC K q τ k o).1 k < K (40 + (plC K q τ k o).1))
  | 0, _ => Or.inl ⟨rfl, fun x a b => by omega⟩
  | o + 1, ho => by
    have ih := plC_sp h o (by omega)
    have hc := h.2 o (by omega) (by omega)
    unfold plC
    by_cases h1 : cnt τ o k = K (40 + o)
    · rw [if_pos h1]
      rcases ih with ⟨a, b⟩ | ⟨a, b, e⟩
      · refine Or.inl ⟨a, fun x y z => ?_⟩
        by_cases hx : x = o
        · rw [hx]; exact h1
        · exact b x y (by omega)
      · exact Or.inr ⟨a, by omega, e⟩
    · rw [if_neg h1]
      split
      · next u =>
        rcases ih with ⟨a, b⟩ | ⟨a, b, e⟩
        · exact absurd a u.1
        · exact Or.inr ⟨a, by omega, e⟩
      · exact Or.inr ⟨by simp only; omega, by simp only; omega, by simp only; omega⟩
theorem plC_ok (hr : kR K) (h : pfx K τ k) (hk : 0 ≤ k) (hl : k < aW K) : (0 ≤ (plC K q τ k (K 310).toNat).1 ∧ (plC K q τ k (K 310).toNat).1 < K 310) ∧ cnt τ (plC K q τ k (K 310).toNat).1 k < K (40 + (plC K q τ k (K 310).toNat).1) := by
  have hn := hr.n
  rcases plC_sp (q := q) h (K 310).toNat (by omega) with ⟨a, b⟩ | ⟨a, b, e⟩
  · obtain ⟨o, x, y, z⟩ := h.ex hr hk hl
    have := b o x (by omega)
    omega
  · exact ⟨⟨a, by omega⟩, e⟩
theorem plT_pfx (hr : kR K) : ∀ k : Nat, (k : Int) ≤ aW K → pfx K (plT K q k) k
  | 0, _ => ⟨fun p a b => by omega, fun o a b => by
      have hn := hr.n
      have hw := hr.wk (o := o) a (by omega)
      have : cnt (plT K q 0) o 0 = 0 := rfl
      show cnt (plT K q 0) o 0 ≤ K (40 + o)
      omega⟩
  | k + 1, h => by
    have ih := plT_pfx hr k (by omega)
    obtain ⟨c1, c2⟩ := plC_ok (q := q) hr ih (by omega) (by omega)
    have := ih.up (by omega) c1 c2
    rw [show ((k + 1 : Nat) : Int) = k + 1 by omega]
    exact this
theorem plR_v (hr : kR K) (hn : 0 ≤ aW K) : vR K (plR K q) := by
  have := plT_pfx (q := q) hr (aW K).toNat (by omega)
  rw [Int.toNat_of_nonneg hn] at this
  exact this.v hr hn
theorem kyW_rg (hr : kR K) {w : Int} (ho : 0 ≤ o ∧ o ≤ 7) (hw : 0 ≤ w ∧ w ≤ 3) : -1000 ≤ kyW K q o w ∧ kyW K q o w ≤ 1000 := by
  have h1 := tF_rg hr (o := o) (f := w) ho
  have h2 := hr.du (o := o) ho.1 (by omega)
  have h3 := hr.we (o := o) ho.1 (by omega)
  have h4 : 0 ≤ tk K o w ∧ tk K o w ≤ 81 := by
    have a := hr.am (o := o) ho.1 (by omega)
    have b := hr.tm (i := 4 * o + w) (by omega) (by omega)
    rw [show 80 + (4 * o + w) = 80 + 4 * o + w by omega] at b
    unfold tk
    exact ⟨Int.mul_nonneg a.1 b.1, by
      have := Int.mul_le_mul a.2 b.2 b.1 (by omega : (0 : Int) ≤ 9)
      omega⟩
  unfold kyW
  repeat' split
  all_goals omega
theorem fiR_s {n : Int} (hn : 0 ≤ n) : fiR K τ (n + 1) = (fiR K τ n && decide (scB K τ n ≠ 2001)) := by
  apply bool_eq
  rw [Bool.and_eq_true, decide_eq_true_iff, fiR_iff (by omega), fiR_iff hn]
  constructor
  · intro h
    exact ⟨fun p a b => h p a (by omega), h n hn (by omega)⟩
  · rintro ⟨h1, h2⟩ p a b
    by_cases hp : p = n
    · rw [hp]; exact h2
    · exact h1 p a (by omega)
theorem fiR_tau {n : Int} {τ2 : Int → Int} (hn : 0 ≤ n) (h : ∀ p, 0 ≤ p → p < n → τ p = τ2 p) : fiR K τ n = fiR K τ2 n := by
  apply bool_eq
  rw [fiR_iff hn, fiR_iff hn]
  constructor
  · intro g p a b
    rw [← (sc_tauI (K := K) h a b).1]
    exact g p a b
  · intro g p a b
    rw [(sc_tauI (K := K) h a b).1]
    exact g p a b
theorem bI_and (a b : Bool) : bI a &&& bI b = bI (a && b) := by cases a <;> cases b <;> decide
/-- an order at place k, in a row that is timed up to there -/
theorem rf_puts (hK : e_KM M K) (hr : kR K) (hS : e_SC M ρ ω β ε) (hg : agR K τ k ρ ω β ε) (hk : 0 ≤ k ∧ k < 16) (ho : 0 ≤ o ∧ o ≤ 7) (hc : cnt τ o k ≤ 3) : ∃ (M2 : e_MI) (ρ2 ω2 β2 ε2 : Int → Int), e_lim L xs (d + 3) 218 0 [some (.ref 184), some (.int (iI k)), some (.int (iI o)), none, none, none, none, none] [] (e_hp M V W) = some (.inl (some (.int (bI (decide (scB K (uI τ k o) k ≠ 2001))))), e_hp M2 V W, 0, 0) ∧ e_SC M2 ρ2 ω2 β2 ε2 ∧ agR K (uI τ k o) (k + 1) ρ2 ω2 β2 ε2 ∧ ∀ a, a ≠ 188 → a ≠ 189 → a ≠ 190 → a ≠ 191 → M2 a = M a := by
  have hc2 : cnt ρ o k = cnt τ o k := cnt_cong fun p a b => (hg p a b).1
  have hg2 : agR K (uI τ k o) k ρ ω β ε := agR_tau (fun p a b => (uI_n _ _ (by omega)).symm) hg
  obtain ⟨M2, e, hS2, hF⟩ := mm_puts (L := L) (xs := xs) (d := d) (V := V) (W := W) hK hr hS hk ho (by omega)
  have hg3 := hg2.put hk.1 (o := o) (uI_s τ k o).symm
  have hb := (hg3 k hk.1 (by omega)).2.2.1
  rw [hb] at e
  exact ⟨M2, _, _, _, _, e, hS2, hg3, hF⟩
def frR (M M2 : e_MI) : Prop := ∀ a, a ≠ 188 → a ≠ 189 → a ≠ 190 → a ≠ 191 → M2 a = M a
theorem frR.t (h : frR M M2) (h2 : frR M2 M3) : frR M M3 := fun a x0 x1 x2 x3 => by rw [h2 a x0 x1 x2 x3, h a x0 x1 x2 x3]
theorem frR.fq (h : frR M M2) : frQ M M2 := frQ.mk (fun a x y => h a (by omega) (by omega) (by omega) (by omega)) (fun j x => by rw [h 184 (by decide) (by decide) (by decide) (by decide)])
theorem frR.km (h : frR M M2) (hK : e_KM M K) : e_KM M2 K := by
  unfold e_KM
  rw [h 185 (by decide) (by decide) (by decide) (by decide)]
  exact hK
theorem agR.le {n m : Int} (h : agR K τ n ρ ω β ε) (hm : m ≤ n) : agR K τ m ρ ω β ε := fun p a b => h p a (by omega)
set_option maxHeartbeats 2000000 in
/-- all orders are tried at place k -/
theorem mm_planIn (hr : kR K) (hK : e_KM M K) (hS : e_SC M ρ ω β ε) (hg : agR K τ k ρ ω β ε) (hp : pfx K τ k) (hk : 0 ≤ k ∧ k < aW K) (hn16 : aW K ≤ 16) (hq : 0 ≤ q ∧ q ≤ 5) {is : Int32} {l2 l9 l10 l11 : Option Value} : ∃ (M2 : e_MI) (ρ2 ω2 β2 ε2 : Int → Int) (l9b l10b l11b : Option Value), (∀ R : e_R, e_lim L xs (d + 4) 227 201 [some (.ref 184), some (.int (iI q)), l2, some (.int is), some (.int (iI k)), some (.int (iI (plC K q τ k (K 310).toNat).1)), some (.int (iI (plC K q τ k (K 310).toNat).2.1)), some (.int (iI (plC K q τ k (K 310).toNat).2.2)), some (.int (iI (K 310))), l9b, l10b, l11b] [] (e_hp M2 V W) = some R → e_lim L xs (d + 4) 227 53 [some (.ref 184), some (.int (iI q)), l2, some (.int is), some (.int (iI k)), some (.int (iI (-1))), some (.int (iI 0)), some (.int (iI 0)), some (.int (iI 0)), l9, l10, l11] [] (e_hp M V W) = some R) ∧ e_SC M2 ρ2 ω2 β2 ε2 ∧ agR K τ k ρ2 ω2 β2 ε2 ∧ frR M M2 := by
  have hn := hr.n
  have key := G_lp (i := 0) (n := K 310) (I := fun i M1 => (∃ ρ ω β ε : Int → Int, e_SC M1 ρ ω β ε ∧ agR K τ k ρ ω β ε) ∧ frR M M1 ∧ (-1 ≤ (plC K q τ k i.toNat).1 ∧ (plC K q τ k i.toNat).1 ≤ 8) ∧ (0 ≤ (plC K q τ k i.toNat).2.1 ∧ (plC K q τ k i.toNat).2.1 ≤ 2001) ∧ -1000 ≤ (plC K q τ k i.toNat).2.2 ∧ (plC K q τ k i.toNat).2.2 ≤ 1000) (P := fun i M1 => ∀ l9 l10 l11 : Option Value, ∃ (M2 : e_MI) (ρ2 ω2 β2 ε2 : Int → Int) (l9b l10b l11b : Option Value), (∀ R : e_R, e_lim L xs (d + 4) 227 201 [some (.ref 184), some (.int (iI q)), l2, some (.int is), some (.int (iI k)), some (.int (iI (plC K q τ k (K 310).toNat).1)), some (.int (iI (plC K q τ k (K 310).toNat).2.1)), some (.int (iI (plC K q τ k (K 310).toNat).2.2)), some (.int (iI (K 310))), l9b, l10b, l11b] [] (e_hp M2 V W) = some R → e_lim L xs (d + 4) 227 53 [some (.ref 184), some (.int (iI q)), l2, some (.int is), some (.int (iI k)), some (.int (iI (plC K q τ k i.toNat).1)), some (.int (iI (plC K q τ k i.toNat).2.1)), some (.int (iI (plC K q τ k i.toNat).2.2)), some (.int (iI i)), l9, l10, l11] [] (e_hp M1 V W) = some R) ∧ e_SC M2 ρ2 ω2 β2 ε2 ∧ agR K τ k ρ2 ω2 β2 ε2 ∧ frR M M2) (fun o M1 a b hI hc => ?_) (fun M1 hI => ?_) hn.1 M ⟨⟨ρ, ω, β, ε, hS, hg⟩, fun _ _ _ _ _ => rfl, by show (-1 : Int) ≤ -1 ∧ (-1 : Int) ≤ 8; omega, by show (0 : Int) ≤ 0 ∧ (0 : Int) ≤ 2001; omega, by show (-1000 : Int) ≤ 0 ∧ (0 : Int) ≤ 1000; omega⟩ l9 l10 l11
  · exact key
  · intro l9 l10 l11
    obtain ⟨⟨ρ, ω, β, ε, hS, hg⟩, hF, r1, r2, r3⟩ := hI
    have hK1 := hF.km hK
    have e1 := mm_many (L := L) (xs := xs) (d := d + 3) (V := V) (W := W) hK1
    have e2 := mm_worksOf (L := L) (xs := xs) (d := d + 3) (V := V) (W := W) hK1 (o := o) a (by omega)
    have hwk := hr.wk (o := o) a (by omega)
    have hco := hp.2 o a b
    have hc0 := cnt_rg τ o hk.1
    have hst : plC K q τ k (o + 1).toNat = if cnt τ o k = K (40 + o) then plC K q τ k o.toNat else if (plC K q τ k o.toNat).1 ≠ -1 ∧ ((plC K q τ k o.toNat).2.1 < scB K (uI τ k o) k ∨ (scB K (uI τ k o) k = (plC K q τ k o.toNat).2.1 ∧ (plC K q τ k o.toNat).2.2 ≤ kyW K q o (cnt τ o k))) then plC K q τ k o.toNat else (o, scB K (uI τ k o) k, kyW K q o (cnt τ o k)) := by
      rw [show (o + 1).toNat = o.toNat + 1 by omega]
      show (if cnt τ (o.toNat : Int) k = K (40 + (o.toNat : Int)) then _ else if _ ∧ (_ < scB K (uI τ k (o.toNat : Int)) k ∨ (scB K (uI τ k (o.toNat : Int)) k = _ ∧ _ ≤ kyW K q (o.toNat : Int) (cnt τ (o.toNat : Int) k))) then _ else ((o.toNat : Int), scB K (uI τ k (o.toNat : Int)) k, kyW K q (o.toNat : Int) (cnt τ (o.toNat : Int) k))) = _
      rw [Int.toNat_of_nonneg a]
    -- how often the order stands
    have cntL : ∀ (l11 : Option Value) {B F E : Int32} {R : e_R}, e_lim L xs (d + 4) 227 103 [some (.ref 184), some (.int (iI q)), l2, some (.int is), some (.int (iI k)), some (.int B), some (.int F), some (.int E), some (.int (iI o)), some (.int (iI (cnt τ o k))), some (.int (iI k)), l11] [] (e_hp M1 V W) = some R → e_lim L xs (d + 4) 227 68 [some (.ref 184), some (.int (iI q)), l2, some (.int is), some (.int (iI k)), some (.int B), some (.int F), some (.int E), some (.int (iI o)), some (.int (iI 0)), some (.int (iI 0)), l11] [] (e_hp M1 V W) = some R := fun l11 {B F E R} he => by
      have : e_lim L xs (d + 4) 227 68 [some (.ref 184), some (.int (iI q)), l2, some (.int is), some (.int (iI k)), some (.int B), some (.int F), some (.int E), some (.int (iI o)), some (.int (iI (cnt τ o 0))), some (.int (iI 0)), l11] [] (e_hp M1 V W) = some R := by
        refine G_loopI (C := fun i => e_lim L xs (d + 4) 227 68 [some (.ref 184), some (.int (iI q)), l2, some (.int is), some (.int (iI k)), some (.int B), some (.int F), some (.int E), some (.int (iI o)), some (.int (iI (cnt τ o i))), some (.int (iI i)), l11] [] (e_hp M1 V W)) (i := 0) hk.1 (fun j a b hc => ?_) ?_
        · have g1 := hS.1 j a (by omega)
          have g2 := hp.1 j a b
          rw [(hg j a b).1] at g1
          rw [cnt_s _ _ a] at hc
          rw [r227_68]
          simp (disch := first | assumption | exact e_nk_i _ | exact e_nk_n | exact e_nk_r _ | exact e_bo_0 | exact e_bo_1 | exact e_bo_b _ | omega) only [e_cl_v, e_cl_x, e_add_0, e_add_s, Option.toList_some, Option.toList_none, List.cons_append, List.nil_append, iI_add, iI_sub, iI_mul, iI_lt, iI_eq, iI_le, r227_70, r227_72, r227_75, r227_77, r227_78, r227_81, r227_83, r227_84, r227_86, r227_89, r227_90, r227_93, r227_94, r227_95, r227_97, r227_100, iI_vin, iI_nat, if_true, g1]
          rw [if_pos b]
          by_cases z : τ j = o
          · rw [if_pos z] at hc ⊢
            exact hc
          · rw [if_neg z] at hc ⊢
            exact hc
        · rw [r227_68]
          simp (disch := first | assumption | exact e_nk_i _ | exact e_nk_n | exact e_nk_r _ | exact e_bo_0 | exact e_bo_1 | exact e_bo_b _ | omega) only [e_cl_v, e_cl_x, e_add_0, e_add_s, Option.toList_some, Option.toList_none, List.cons_append, List.nil_append, iI_add, iI_sub, iI_mul, iI_lt, iI_eq, iI_le, r227_70, r227_72]
          rw [if_neg (by omega)]
          exact he
      exact this
    generalize hC : plC K q τ k o.toNat = C at *
    by_cases h1 : cnt τ o k = K (40 + o)
    · rw [if_pos h1] at hst
      rw [hst] at hc
      obtain ⟨M2, ρ2, ω2, β2, ε2, l9b, l10b, l11b, e, r⟩ := hc M1 ⟨⟨ρ, ω, β, ε, hS, hg⟩, hF, r1, r2, r3⟩ (some (.int (iI (cnt τ o k)))) (some (.int (iI k))) l11
      refine ⟨M2, ρ2, ω2, β2, ε2, l9b, l10b, l11b, fun R hR => ?_, r⟩
      have e := e R hR
      rw [r227_53]
      simp (disch := first | assumption | exact e_nk_i _ | exact e_nk_n | exact e_nk_r _ | exact e_bo_0 | exact e_bo_1 | exact e_bo_b _ | omega) only [e_cl_v, e_cl_x, e_add_0, e_add_s, Option.toList_some, Option.toList_none, List.cons_append, List.nil_append, iI_add, iI_sub, iI_mul, iI_lt, iI_eq, iI_le, r227_55, r227_56, r227_59, r227_62, r227_63, r227_65, r227_66, e1]
      rw [if_pos b]
      refine cntL l11 ?_
      rw [← e]
      simp (disch := first | assumption | exact e_nk_i _ | exact e_nk_n | exact e_nk_r _ | exact e_bo_0 | exact e_bo_1 | exact e_bo_b _ | omega) only [e_cl_v, e_cl_x, e_add_0, e_add_s, Option.toList_some, Option.toList_none, List.cons_append, List.nil_append, iI_add, iI_sub, iI_mul, iI_lt, iI_eq, iI_le, r227_103, r227_105, r227_106, r227_108, r227_111, r227_114, r227_195, r227_198, e2]
      rw [if_pos h1]
    · rw [if_neg h1] at hst
      obtain ⟨M2, ρ2, ω2, β2, ε2, e3, hS2, hg2, hF2⟩ := rf_puts (L := L) (xs := xs) (d := d) (V := V) (W := W) hK1 hr hS hg ⟨hk.1, by omega⟩ (o := o) (by omega) (by omega)
      have e4 := mm_key (L := L) (xs := xs) (d := d + 1) (V := V) (W := W) ((hF.t hF2).km hK) hr (r := q) (o := o) (w := cnt τ o k) hq (by omega) (by omega)
      have r4 := kyW_rg hr (q := q) (o := o) (w := cnt τ o k) (by omega) (by omega)
      have g5 := hS2.2.2.1 k hk.1 (by omega)
      have r5 := hS2.2.2.2.2.2.2.1 k hk.1 (by omega)
      rw [(hg2 k hk.1 (by omega)).2.2.1] at g5 r5
      have hg3 : agR K τ k ρ2 ω2 β2 ε2 := agR_tau (fun p a b => uI_n _ _ (by omega)) (hg2.le (by omega : k ≤ k + 1))
      have hI2 : (∃ ρ ω β ε : Int → Int, e_SC M2 ρ ω β ε ∧ agR K τ k ρ ω β ε) ∧ frR M M2 := ⟨⟨ρ2, ω2, β2, ε2, hS2, hg3⟩, hF.t hF2⟩
      by_cases h2 : C.1 ≠ -1 ∧ (C.2.1 < scB K (uI τ k o) k ∨ (scB K (uI τ k o) k = C.2.1 ∧ C.2.2 ≤ kyW K q o (cnt τ o k)))
      · rw [if_pos h2] at hst
        rw [hst] at hc
        obtain ⟨M3, ρ3, ω3, β3, ε3, l9b, l10b, l11b, e, r⟩ := hc M2 ⟨hI2.1, hI2.2, r1, r2, r3⟩ (some (.int (iI (cnt τ o k)))) (some (.int (bI (decide (scB K (uI τ k o) k ≠ 2001))))) (some (.int (iI (kyW K q o (cnt τ o k)))))
        refine ⟨M3, ρ3, ω3, β3, ε3, l9b, l10b, l11b, fun R hR => ?_, r⟩
        have e := e R hR
        rw [r227_53]
        simp (disch := first | assumption | exact e_nk_i _ | exact e_nk_n | exact e_nk_r _ | exact e_bo_0 | exact e_bo_1 | exact e_bo_b _ | omega) only [e_cl_v, e_cl_x, e_add_0, e_add_s, Option.toList_some, Option.toList_none, List.cons_append, List.nil_append, iI_add, iI_sub, iI_mul, iI_lt, iI_eq, iI_le, r227_55, r227_56, r227_59, r227_62, r227_63, r227_65, r227_66, e1]
        rw [if_pos b]
        refine cntL l11 ?_
        rw [← e]
        simp (disch := first | assumption | exact e_nk_i _ | exact e_nk_n | exact e_nk_r _ | exact e_bo_0 | exact e_bo_1 | exact e_bo_b _ | omega) only [e_cl_v, e_cl_x, e_add_0, e_add_s, Option.toList_some, Option.toList_none, List.cons_append, List.nil_append, iI_add, iI_sub, iI_mul, iI_lt, iI_eq, iI_le, r227_103, r227_105, r227_106, r227_108, r227_111, r227_114, r227_117, r227_118, r227_120, r227_122, r227_125, r227_127, r227_128, r227_129, r227_131, r227_133, r227_136, r227_138, r227_140, r227_141, r227_144, r227_145, r227_148, r227_150, r227_151, r227_153, r227_156, r227_157, r227_160, r227_162, r227_163, r227_165, r227_168, r227_170, r227_172, r227_175, r227_178, r227_180, r227_182, r227_183, r227_186, r227_188, r227_189, r227_191, r227_193, r227_195, r227_198, iI_vin, iI_nat, if_true, e2, e3, e4, g5]
        rw [if_neg h1, if_neg h2.1]
        rcases h2.2 with z | z
        · rw [if_pos z]
        · rw [if_neg (by omega), if_pos z.1, if_neg (by omega)]
      · rw [if_neg h2] at hst
        rw [hst] at hc
        obtain ⟨M3, ρ3, ω3, β3, ε3, l9b, l10b, l11b, e, r⟩ := hc M2 ⟨hI2.1, hI2.2, by simp only; omega, by simp only; omega, by simp only; omega⟩ (some (.int (iI (cnt τ o k)))) (some (.int (bI (decide (scB K (uI τ k o) k ≠ 2001))))) (some (.int (iI (kyW K q o (cnt τ o k)))))
        refine ⟨M3, ρ3, ω3, β3, ε3, l9b, l10b, l11b, fun R hR => ?_, r⟩
        have e := e R hR
        rw [r227_53]
        simp (disch := first | assumption | exact e_nk_i _ | exact e_nk_n | exact e_nk_r _ | exact e_bo_0 | exact e_bo_1 | exact e_bo_b _ | omega) only [e_cl_v, e_cl_x, e_add_0, e_add_s, Option.toList_some, Option.toList_none, List.cons_append, List.nil_append, iI_add, iI_sub, iI_mul, iI_lt, iI_eq, iI_le, r227_55, r227_56, r227_59, r227_62, r227_63, r227_65, r227_66, e1]
        rw [if_pos b]
        refine cntL l11 ?_
        rw [← e]
        simp (disch := first | assumption | exact e_nk_i _ | exact e_nk_n | exact e_nk_r _ | exact e_bo_0 | exact e_bo_1 | exact e_bo_b _ | omega) only [e_cl_v, e_cl_x, e_add_0, e_add_s, Option.toList_some, Option.toList_none, List.cons_append, List.nil_append, iI_add, iI_sub, iI_mul, iI_lt, iI_eq, iI_le, r227_103, r227_105, r227_106, r227_108, r227_111, r227_114, r227_117, r227_118, r227_120, r227_122, r227_125, r227_127, r227_128, r227_129, r227_131, r227_133, r227_136, r227_138, r227_140, r227_141, r227_144, r227_145, r227_148, r227_150, r227_151, r227_153, r227_156, r227_157, r227_160, r227_162, r227_163, r227_165, r227_168, r227_170, r227_172, r227_175, r227_178, r227_180, r227_182, r227_183, r227_186, r227_188, r227_189, r227_191, r227_193, r227_195, r227_198, iI_vin, iI_nat, if_true, e2, e3, e4, g5]
        rw [if_neg h1]
        by_cases z1 : C.1 = -1
        · rw [if_pos z1]
        · rw [if_neg z1, if_neg (fun z => h2 ⟨z1, Or.inl z⟩)]
          by_cases z2 : scB K (uI τ k o) k = C.2.1
          · rw [if_pos z2, if_pos (by
              by_cases z3 : kyW K q o (cnt τ o k) < C.2.2
              · exact z3
              · exact absurd ⟨z1, Or.inr ⟨z2, by omega⟩⟩ h2)]
          · rw [if_neg z2]
  · intro l9 l10 l11
    obtain ⟨⟨ρ, ω, β, ε, hS, hg⟩, hF, r1, r2, r3⟩ := hI
    have e1 := mm_many (L := L) (xs := xs) (d := d + 3) (V := V) (W := W) (hF.km hK)
    refine ⟨M1, ρ, ω, β, ε, l9, l10, l11, fun R hR => ?_, hS, hg, hF⟩
    rw [r227_53]
    simp (disch := first | assumption | exact e_nk_i _ | exact e_nk_n | exact e_nk_r _ | exact e_bo_0 | exact e_bo_1 | exact e_bo_b _ | omega) only [e_cl_v, e_cl_x, e_add_0, e_add_s, Option.toList_some, Option.toList_none, List.cons_append, List.nil_append, iI_add, iI_sub, iI_mul, iI_lt, iI_eq, iI_le, r227_55, r227_56, r227_59, e1]
    rw [if_neg (by omega)]
    exact hR
end E95
