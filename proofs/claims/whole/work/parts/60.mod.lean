section E60
variable {L : Nat} {xs : Nat → Int32} {d : Nat} {M : e_MI} {V : e_ML} {W : e_MD} {K : e_St} {h : e_H} {ρ ω β ε ρ2 ω2 β2 ε2 τ : Int → Int} {k : Int}
/-- the memory once nothing is thrown -/
abbrev mT (M : e_MI) : e_MI := e_u M 184 (upd (M 184) 0 (iI 0))
theorem mT_a (M : e_MI) {a : Nat} (h : a ≠ 184) : mT M a = M a := e_u_n _ _ h
theorem mT_j (M : e_MI) {j : Nat} (h : j ≠ 0) : mT M 184 j = M 184 j := by
  show e_u M 184 (upd (M 184) 0 (iI 0)) 184 j = M 184 j
  rw [e_u_s, upd_n _ _ h]
theorem mT_0 (M : e_MI) : mT M 184 0 = iI 0 := by
  show e_u M 184 (upd (M 184) 0 (iI 0)) 184 0 = iI 0
  rw [e_u_s, upd_s]
theorem mT_K (hK : e_KM M K) : e_KM (mT M) K := by
  unfold e_KM
  rw [mT_a M (by decide)]
  exact hK
theorem e_SC.of {M2 : e_MI} (hS : e_SC M ρ ω β ε) (h : ∀ a, 188 ≤ a → a ≤ 191 → M2 a = M a) : e_SC M2 ρ ω β ε := by
  unfold e_SC
  rw [h 188 (by decide) (by decide), h 189 (by decide) (by decide), h 190 (by decide) (by decide), h 191 (by decide) (by decide)]
  exact hS
theorem mT_S (hS : e_SC M ρ ω β ε) : e_SC (mT M) ρ ω β ε := hS.of fun a x z => mT_a M (by omega)
/-- the greatest bound of all -/
def boF (K : e_St) : Int → Int := fun o => if 0 < K (40 + o) then K (16 + o) + tF K o 0 else 0
def boM (K : e_St) : Nat → Int
  | 0 => mX (boF K) (K 310)
  | m + 1 => if boM K m < bdW K m then bdW K m else boM K m
def boW (K : e_St) : Int := boM K 4
theorem bdW_rg (hr : kR K) {m : Int} : -1 ≤ bdW K m ∧ bdW K m ≤ 5000 := by
  have hn := hr.n
  have hb := bdO_rg (K := K) hr (m := m) (K 310).toNat (by omega)
  have e3 := lO_rg (m := m) hr
  obtain ⟨i1, i2⟩ := hb
  unfold bdW
  split <;> omega
theorem boF_rg (hr : kR K) {j : Int} (h0 : 0 ≤ j) (h1 : j ≤ K 310) : 0 ≤ mX (boF K) j ∧ mX (boF K) j ≤ 1000 := by
  have hn := hr.n
  refine mX_rg h0 (by omega) (fun p a b => ?_)
  have r1 := hr.re (o := p) a (by omega)
  have r2 := tF_rg hr (o := p) (f := 0) (by omega)
  unfold boF
  split <;> omega
theorem boM_rg (hr : kR K) : ∀ m : Nat, 0 ≤ boM K m ∧ boM K m ≤ 5000
  | 0 => by
    have := boF_rg hr hr.n.1 (Int.le_refl _)
    unfold boM
    omega
  | m + 1 => by
    have h1 := boM_rg hr m
    have h2 := bdW_rg hr (m := (m : Int))
    unfold boM
    split <;> omega
theorem mm_bound (hK : e_KM M K) (hr : kR K) : e_lim L xs (d + 4) 241 0 [some (.ref 184), none, none] [] (e_hp M V W) = some (.inl (some (.int (iI (boW K)))), e_hp (mT M) V W, 0, 0) := by
  have hn := hr.n
  have hK1 := mT_K hK
  have e1 := mm_many (L := L) (xs := xs) (d := d + 3) (V := V) (W := W) hK1
  simp (disch := first | assumption | exact e_nk_i _ | exact e_nk_n | exact e_nk_r _ | exact e_bo_0 | exact e_bo_1 | exact e_bo_b _ | omega) only [e_cl_v, e_cl_x, e_add_0, e_add_s, Option.toList_some, Option.toList_none, List.cons_append, List.nil_append, iI_add, iI_sub, iI_mul, iI_lt, iI_eq, iI_le, r241_0, r241_1, r241_2, r241_5, r241_6, r241_7, r241_8]
  rw [show (iI 0 : Int32) = iI (mX (boF K) 0) from rfl]
  refine G_loopI (C := fun i => e_lim L xs (d + 4) 241 9 [some (.ref 184), some (.int (iI (mX (boF K) i))), some (.int (iI i))] [] (e_hp (mT M) V W)) (i := 0) hn.1 (fun j a b hc => ?_) ?_
  · have e2 := mm_worksOf (L := L) (xs := xs) (d := d + 3) (V := V) (W := W) hK1 (o := j) a (by omega)
    have e3 := mm_timeFrom (L := L) (xs := xs) (d := d + 2) (V := V) (W := W) hK1 hr (o := j) (f := 0) (by omega) (by omega)
    have e4 := hK1 (16 + j) (by omega) (by omega)
    have r1 := hr.re (o := j) a (by omega)
    have r2 := tF_rg hr (o := j) (f := 0) (by omega)
    have r3 := boF_rg hr a (by omega)
    have r4 := hr.wk (o := j) a (by omega)
    rw [mX_s _ a] at hc
    have hf : boF K j = if 0 < K (40 + j) then K (16 + j) + tF K j 0 else 0 := rfl
    rw [r241_9]
    simp (disch := first | assumption | exact e_nk_i _ | exact e_nk_n | exact e_nk_r _ | exact e_bo_0 | exact e_bo_1 | exact e_bo_b _ | omega) only [e_cl_v, e_cl_x, e_add_0, e_add_s, Option.toList_some, Option.toList_none, List.cons_append, List.nil_append, iI_add, iI_sub, iI_mul, iI_lt, iI_eq, iI_le, r241_10, r241_11, r241_14, r241_17, r241_18, r241_19, r241_22, r241_25, r241_26, r241_29, r241_31, r241_32, r241_33, r241_34, r241_35, r241_36, r241_37, r241_40, r241_41, r241_42, r241_45, r241_46, r241_49, r241_51, r241_52, r241_53, r241_54, r241_55, r241_56, r241_57, r241_60, r241_61, r241_62, r241_65, iI_vin, iI_nat, if_true, e1, e2, e3, e4]
    rw [if_pos b]
    by_cases z : 0 < K (40 + j)
    · rw [if_pos z] at hf
      rw [if_neg (show ¬ K (40 + j) ≤ 0 by omega)]
      rw [hf] at hc
      by_cases z2 : mX (boF K) j < K (16 + j) + tF K j 0
      · rw [if_pos z2] at hc ⊢
        exact hc
      · rw [if_neg z2] at hc ⊢
        exact hc
    · rw [if_neg z] at hf
      rw [hf, if_neg (by omega)] at hc
      rw [if_pos (show K (40 + j) ≤ 0 by omega)]
      exact hc
  · rw [r241_9]
    simp (disch := first | assumption | exact e_nk_i _ | exact e_nk_n | exact e_nk_r _ | exact e_bo_0 | exact e_bo_1 | exact e_bo_b _ | omega) only [e_cl_v, e_cl_x, e_add_0, e_add_s, Option.toList_some, Option.toList_none, List.cons_append, List.nil_append, iI_add, iI_sub, iI_mul, iI_lt, iI_eq, iI_le, r241_10, r241_11, r241_14, r241_68, r241_69, e1]
    rw [if_neg (by omega)]
    rw [show mX (boF K) (K 310) = boM K (0 : Int).toNat from rfl]
    refine G_loopI (C := fun i => e_lim L xs (d + 4) 241 70 [some (.ref 184), some (.int (iI (boM K i.toNat))), some (.int (iI i))] [] (e_hp (mT M) V W)) (i := 0) (n := 4) (by omega) (fun j a b hc => ?_) ?_
    · have e2 := mm_boundOf (L := L) (xs := xs) (d := d) (V := V) (W := W) hK1 hr (m := j) (by omega)
      have r1 := bdW_rg hr (m := j)
      have r2 := boM_rg hr j.toNat
      have hst : boM K (j + 1).toNat = if boM K j.toNat < bdW K j then bdW K j else boM K j.toNat := by
        rw [show (j + 1).toNat = j.toNat + 1 by omega]
        show (if boM K j.toNat < bdW K (j.toNat : Int) then _ else _) = _
        rw [Int.toNat_of_nonneg a]
      rw [hst] at hc
      rw [r241_70]
      rw [show (d + 4 : Nat) = d + 3 + 1 from rfl]
      simp (disch := first | assumption | exact e_nk_i _ | exact e_nk_n | exact e_nk_r _ | exact e_bo_0 | exact e_bo_1 | exact e_bo_b _ | omega) only [e_cl_v, e_cl_x, e_add_0, e_add_s, Option.toList_some, Option.toList_none, List.cons_append, List.nil_append, iI_add, iI_sub, iI_mul, iI_lt, iI_eq, iI_le, r241_71, r241_72, r241_75, r241_76, r241_77, r241_80, r241_81, r241_84, r241_85, r241_86, r241_89, r241_90, r241_93, e2]
      rw [if_pos b]
      by_cases z2 : boM K j.toNat < bdW K j
      · rw [if_pos z2] at hc ⊢
        exact hc
      · rw [if_neg z2] at hc ⊢
        exact hc
    · rw [r241_70]
      simp (disch := first | assumption | exact e_nk_i _ | exact e_nk_n | exact e_nk_r _ | exact e_bo_0 | exact e_bo_1 | exact e_bo_b _ | omega) only [e_cl_v, e_cl_x, e_add_0, e_add_s, Option.toList_some, Option.toList_none, List.cons_append, List.nil_append, iI_add, iI_sub, iI_mul, iI_lt, iI_eq, iI_le, r241_71, r241_72, r241_75, r241_76, r241_77, r241_80, r241_81, r241_84, r241_85, r241_86, r241_89, r241_90, r241_93, r241_96, r241_97]
      rw [if_neg (by omega)]
      rfl
/-! critical works -/
/-- the first of the places that end last -/
def lsF (ε : Int → Int) : Nat → Int
  | 0 => -1
  | k + 1 => if lsF ε k = -1 ∨ ε (lsF ε k) < ε k then k else lsF ε k
def lsW (ε : Int → Int) (n : Int) : Int := lsF ε n.toNat
theorem lsF_rg (ε : Int → Int) : ∀ k : Nat, -1 ≤ lsF ε k ∧ lsF ε k < k
  | 0 => by unfold lsF; omega
  | k + 1 => by
    have := lsF_rg ε k
    unfold lsF
    split <;> omega
theorem lsF_cong : ∀ k : Nat, (∀ p : Int, 0 ≤ p → p < k → ε p = ε2 p) → lsF ε k = lsF ε2 k
  | 0, _ => rfl
  | k + 1, h => by
    have ih := lsF_cong k (fun p a b => h p a (by omega))
    have hg := lsF_rg ε2 k
    unfold lsF
    rw [ih, h k (by omega) (by omega)]
    by_cases hq : lsF ε2 k = -1
    · rw [if_pos (Or.inl hq), if_pos (Or.inl hq)]
    · rw [h (lsF ε2 k) (by omega) (by omega)]
def chW (a : Int → Int) (k : Int) : Nat → Int
  | 0 => k
  | i + 1 => if chW a k i = -1 then -1 else a (chW a k i)
/-- how many places a chain has -/
def chN (a : Int → Int) (k : Int) : Int := zLP (fun i => decide (chW a k i.toNat ≠ -1)) 17 + 1
theorem chW_dn {a : Int → Int} (ha : ∀ k, 0 ≤ k → k < 16 → a k = -1 ∨ (0 ≤ a k ∧ a k < k)) {k : Int} (hk : -1 ≤ k ∧ k < 16) : ∀ i : Nat, chW a k i = -1 ∨ (0 ≤ chW a k i ∧ chW a k i + i ≤ 15)
  | 0 => by unfold chW; omega
  | i + 1 => by
    have ih := chW_dn ha hk i
    unfold chW
    rcases ih with c | c
    · rw [if_pos c]
      exact Or.inl rfl
    · rw [if_neg (by omega)]
      have := ha (chW a k i) (by omega) (by omega)
      omega
theorem chN_sp {a : Int → Int} (ha : ∀ k, 0 ≤ k → k < 16 → a k = -1 ∨ (0 ≤ a k ∧ a k < k)) {k : Int} (hk : -1 ≤ k ∧ k < 16) : (0 ≤ chN a k ∧ chN a k ≤ 16) ∧ (∀ i : Nat, (i : Int) < chN a k → 0 ≤ chW a k i ∧ chW a k i ≤ 15) ∧ chW a k (chN a k).toNat = -1 := by
  have mono : ∀ i j : Nat, chW a k i = -1 → chW a k (i + j) = -1 := by
    intro i j
    induction j with
    | zero => exact id
    | succ j ih =>
      intro h
      show (if chW a k (i + j) = -1 then -1 else a (chW a k (i + j))) = -1
      rw [if_pos (ih h)]
  have dn := chW_dn ha hk
  rcases zLP_cases (fun i => decide (chW a k i.toNat ≠ -1)) 17 (by omega) with ⟨x, z⟩ | ⟨x, z, c, e⟩
  · have hN : chN a k = 0 := by unfold chN; rw [x]; rfl
    rw [hN]
    refine ⟨by omega, fun i hi => by omega, ?_⟩
    have := z 0 (by omega) (by omega)
    simpa using this
  · have hN : chN a k = zLP (fun i => decide (chW a k i.toNat ≠ -1)) 17 + 1 := rfl
    generalize hq : zLP (fun i => decide (chW a k i.toNat ≠ -1)) 17 = q at *
    have c1 : chW a k q.toNat ≠ -1 := by simpa using c
    have c2 := dn q.toNat
    have hq15 : q ≤ 15 := by omega
    rw [hN]
    refine ⟨by omega, fun i hi => ?_, ?_⟩
    · have := dn i
      rcases this with y | y
      · have := mono i (q.toNat - i) y
        rw [show i + (q.toNat - i) = q.toNat by omega] at this
        exact absurd this c1
      · omega
    · have := e (q + 1) (by omega) (by omega)
      simpa using this
theorem chW_cong {a b : Int → Int} {n : Int} (ha : ∀ k, 0 ≤ k → k < n → a k = b k) (hb : ∀ k, 0 ≤ k → k < n → a k = -1 ∨ (0 ≤ a k ∧ a k < k)) {k : Int} (hk : -1 ≤ k ∧ k < n) : ∀ i : Nat, chW a k i = chW b k i ∧ -1 ≤ chW a k i ∧ chW a k i < n
  | 0 => by unfold chW; omega
  | i + 1 => by
    obtain ⟨e, r1, r2⟩ := chW_cong ha hb hk i
    unfold chW
    rw [← e]
    by_cases hq : chW a k i = -1
    · rw [if_pos hq, if_pos hq]
      omega
    · rw [if_neg hq, if_neg hq, ← ha _ (by omega) r2]
      have := hb (chW a k i) (by omega) r2
      omega
theorem mm_findsCritical (hK : e_KM M K) (hr : kR K) (hS : e_SC M ρ ω β ε) {n : Int} (hn : 0 ≤ n ∧ n ≤ 16) (hz : M 184 9 = iI n) : ∃ M2 : e_MI, e_lim L xs (d + 3) 246 0 [some (.ref 184), none, none] [] (e_hp M V W) = some (.inl none, e_hp M2 V W, 0, 0) ∧ (∀ a, a ≠ 184 → a ≠ 195 → M2 a = M a) ∧ (∀ j, j ≠ 14 → M2 184 j = M 184 j) ∧ M2 184 14 = iI (chN (ahW K ρ ω β ε) (lsW ε n)) ∧ ∀ i : Nat, (i : Int) < chN (ahW K ρ ω β ε) (lsW ε n) → M2 195 i = iI (chW (ahW K ρ ω β ε) (lsW ε n) i) := by
  have hl := lsF_rg ε n.toNat
  have hsp := chN_sp (a := ahW K ρ ω β ε) (fun k a b => ahW_rg K ρ ω β ε a) (k := lsW ε n) (by unfold lsW; omega)
  generalize hN : chN (ahW K ρ ω β ε) (lsW ε n) = N at *
  obtain ⟨hN1, hch, hend⟩ := hsp
  have key := G_lp (i := 0) (n := N) (I := fun i M1 => (∀ a, a ≠ 184 → a ≠ 195 → M1 a = M a) ∧ (∀ j, j ≠ 14 → M1 184 j = M 184 j) ∧ M1 184 14 = iI i ∧ ∀ j : Nat, (j : Int) < i → M1 195 j = iI (chW (ahW K ρ ω β ε) (lsW ε n) j)) (P := fun i M1 => ∃ M2 : e_MI, e_lim L xs (d + 3) 246 45 [some (.ref 184), some (.int (iI (chW (ahW K ρ ω β ε) (lsW ε n) i.toNat))), none] [] (e_hp M1 V W) = some (.inl none, e_hp M2 V W, 0, 0) ∧ (∀ a, a ≠ 184 → a ≠ 195 → M2 a = M a) ∧ (∀ j, j ≠ 14 → M2 184 j = M 184 j) ∧ M2 184 14 = iI N ∧ ∀ i : Nat, (i : Int) < N → M2 195 i = iI (chW (ahW K ρ ω β ε) (lsW ε n) i)) (fun j M1 a b hI hc => ?_) (fun M1 hI => ?_) hN1.1 (e_u M 184 (upd (M 184) 14 (iI 0))) ⟨fun a x z => e_u_n _ _ x, fun j x => by rw [e_u_s, upd_n _ _ x], by rw [e_u_s, upd_s], fun j hj => by omega⟩
  · obtain ⟨M2, e, r⟩ := key
    refine ⟨M2, ?_, r⟩
    obtain ⟨h1, h2, h3, h4, g1, g2, g3, g4⟩ := hS
    simp (disch := first | assumption | exact e_nk_i _ | exact e_nk_n | exact e_nk_r _ | exact e_bo_0 | exact e_bo_1 | exact e_bo_b _ | omega) only [e_cl_v, e_cl_x, e_add_0, e_add_s, Option.toList_some, Option.toList_none, List.cons_append, List.nil_append, iI_add, iI_sub, iI_mul, iI_lt, iI_eq, iI_le, r246_0, r246_1, r246_2, r246_5, r246_6, r246_7, r246_8]
    rw [show (iI (-1) : Int32) = iI (lsF ε (0 : Int).toNat) from rfl]
    refine G_loopI (C := fun i => e_lim L xs (d + 3) 246 9 [some (.ref 184), some (.int (iI (lsF ε i.toNat))), some (.int (iI i))] [] (e_hp (e_u M 184 (upd (M 184) 14 (iI 0))) V W)) (i := 0) hn.1 (fun j a b hc => ?_) ?_
    · have hg := lsF_rg ε j.toNat
      have e4 := h4 j a (by omega)
      have q4 := g4 j a (by omega)
      have hst : lsF ε (j + 1).toNat = if lsF ε j.toNat = -1 ∨ ε (lsF ε j.toNat) < ε j then j else lsF ε j.toNat := by
        rw [show (j + 1).toNat = j.toNat + 1 by omega]
        show (if lsF ε j.toNat = -1 ∨ ε (lsF ε j.toNat) < ε (j.toNat : Int) then (j.toNat : Int) else lsF ε j.toNat) = _
        rw [Int.toNat_of_nonneg a]
      rw [hst] at hc
      rw [r246_9]
      by_cases z : lsF ε j.toNat = -1
      · rw [if_pos (Or.inl z)] at hc
        rw [z]
        simp (disch := first | assumption | exact e_nk_i _ | exact e_nk_n | exact e_nk_r _ | exact e_bo_0 | exact e_bo_1 | exact e_bo_b _ | omega) only [e_cl_v, e_cl_x, e_add_0, e_add_s, Option.toList_some, Option.toList_none, List.cons_append, List.nil_append, iI_add, iI_sub, iI_mul, iI_lt, iI_eq, iI_le, r246_10, r246_11, r246_14, r246_17, r246_18, r246_19, r246_22, r246_23, r246_26, r246_27, r246_28, r246_29, r246_32, r246_33, r246_34, r246_37, r246_38, r246_39, r246_42, iI_vin, iI_nat, if_true, e_u_s, e_u_n, upd_n, hz, e4]
        rw [if_pos b]
        exact hc
      · have e5 := h4 (lsF ε j.toNat) (by omega) (by omega)
        have q5 := g4 (lsF ε j.toNat) (by omega) (by omega)
        simp (disch := first | assumption | exact e_nk_i _ | exact e_nk_n | exact e_nk_r _ | exact e_bo_0 | exact e_bo_1 | exact e_bo_b _ | omega) only [e_cl_v, e_cl_x, e_add_0, e_add_s, Option.toList_some, Option.toList_none, List.cons_append, List.nil_append, iI_add, iI_sub, iI_mul, iI_lt, iI_eq, iI_le, r246_10, r246_11, r246_14, r246_17, r246_18, r246_19, r246_22, r246_23, r246_26, r246_27, r246_28, r246_29, r246_32, r246_33, r246_34, r246_37, r246_38, r246_39, r246_42, iI_vin, iI_nat, if_true, e_u_s, e_u_n, upd_n, hz, e4, e5]
        rw [if_pos b, if_neg z]
        by_cases z2 : ε (lsF ε j.toNat) < ε j
        · rw [if_pos (Or.inr z2)] at hc
          rw [if_pos z2]
          exact hc
        · rw [if_neg (fun y => y.elim z z2)] at hc
          rw [if_neg z2]
          exact hc
    · rw [r246_9]
      simp (disch := first | assumption | exact e_nk_i _ | exact e_nk_n | exact e_nk_r _ | exact e_bo_0 | exact e_bo_1 | exact e_bo_b _ | omega) only [e_cl_v, e_cl_x, e_add_0, e_add_s, Option.toList_some, Option.toList_none, List.cons_append, List.nil_append, iI_add, iI_sub, iI_mul, iI_lt, iI_eq, iI_le, r246_10, r246_11, r246_14, e_u_s, upd_n, hz]
      rw [if_neg (by omega)]
      exact G_less (l2 := [some (.ref 184), some (.int (iI (lsF ε n.toNat))), none]) (by repeat (first | exact e_ll.rf | refine e_ll_c ?_ | refine e_ll_x ?_)) e
  · obtain ⟨i1, i2, i3, i4⟩ := hI
    have q := hch j.toNat (by omega)
    have hst : chW (ahW K ρ ω β ε) (lsW ε n) (j + 1).toNat = ahW K ρ ω β ε (chW (ahW K ρ ω β ε) (lsW ε n) j.toNat) := by
      rw [show (j + 1).toNat = j.toNat + 1 by omega]
      show (if chW (ahW K ρ ω β ε) (lsW ε n) j.toNat = -1 then -1 else _) = _
      rw [if_neg (by omega)]
    have hm : ∀ a, a ≠ 184 → a ≠ 195 → e_u (e_u M1 195 (upd (M1 195) j.toNat (iI (chW (ahW K ρ ω β ε) (lsW ε n) j.toNat)))) 184 (upd (M1 184) 14 (iI (j + 1))) a = M a := fun a x z => by rw [e_u_n _ _ x, e_u_n _ _ z, i1 a x z]
    have hS1 : e_SC (e_u (e_u M1 195 (upd (M1 195) j.toNat (iI (chW (ahW K ρ ω β ε) (lsW ε n) j.toNat)))) 184 (upd (M1 184) 14 (iI (j + 1)))) ρ ω β ε := hS.of fun a x z => hm a (by omega) (by omega)
    have hK1 : e_KM (e_u (e_u M1 195 (upd (M1 195) j.toNat (iI (chW (ahW K ρ ω β ε) (lsW ε n) j.toNat)))) 184 (upd (M1 184) 14 (iI (j + 1)))) K := by
      unfold e_KM
      rw [hm _ (by decide) (by decide)]
      exact hK
    have e1 := mm_aheadOf (L := L) (xs := xs) (d := d) (V := V) (W := W) hK1 hr hS1 (k := chW (ahW K ρ ω β ε) (lsW ε n) j.toNat) (by omega)
    obtain ⟨M2, e, r⟩ := hc _ ⟨hm, fun i x => by rw [e_u_s, upd_n _ _ x, i2 i x], by rw [e_u_s, upd_s], fun i hi => by
      rw [e_u_n _ _ (by decide), e_u_s]
      by_cases hq : i = j.toNat
      · rw [hq, upd_s]
      · rw [upd_n _ _ hq]
        exact i4 i (by omega)⟩
    refine ⟨M2, ?_, r⟩
    rw [← e, hst, r246_45]
    rw [show (d + 3 : Nat) = d + 2 + 1 from rfl]
    simp (disch := first | assumption | exact e_nk_i _ | exact e_nk_n | exact e_nk_r _ | exact e_bo_0 | exact e_bo_1 | exact e_bo_b _ | omega) only [e_cl_v, e_cl_x, e_add_0, e_add_s, Option.toList_some, Option.toList_none, List.cons_append, List.nil_append, iI_add, iI_sub, iI_mul, iI_lt, iI_eq, iI_le, r246_46, r246_47, r246_50, r246_51, r246_54, r246_55, r246_58, r246_59, r246_60, r246_61, r246_62, r246_65, r246_66, r246_67, r246_70, r246_71, r246_72, r246_75, r246_76, iI_vin, iI_nat, if_true, e_u_s, e_u_n, upd_n, i3, e1]
    rw [if_neg (by omega)]
  · obtain ⟨i1, i2, i3, i4⟩ := hI
    refine ⟨M1, ?_, i1, i2, i3, i4⟩
    rw [hend, r246_45]
    simp (disch := first | assumption | exact e_nk_i _ | exact e_nk_n | exact e_nk_r _ | exact e_bo_0 | exact e_bo_1 | exact e_bo_b _ | omega) only [e_cl_v, e_cl_x, e_add_0, e_add_s, Option.toList_some, Option.toList_none, List.cons_append, List.nil_append, iI_add, iI_sub, iI_mul, iI_lt, iI_eq, iI_le, r246_46, r246_47, r246_79]
    simp
end E60
