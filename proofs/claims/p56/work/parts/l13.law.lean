section El13
variable {L : Nat} {xs : Nat → Int32} {d : Nat} {M M1 M2 M3 : e_MI} {V V2 : e_ML} {W : e_MD} {K K2 : e_St} {S : Int → e_St} {h : e_H} {c o j w z m k q p i f n a b t x B : Int} {τ β ε : Int → Int}
/-! the law's own timing of a row -/
theorem upd_uu (f : Nat → Int32) (k : Nat) (x y : Int32) : upd (upd f k x) k y = upd f k y := by
  funext i
  unfold upd
  split <;> rfl
/-- the first k places' orders and works -/
def LRW (M : e_MI) (τ : Int → Int) (k : Int) : Prop := ∀ p, 0 ≤ p → p < k → M 199 p.toNat = iI (τ p) ∧ M 200 p.toNat = iI (scW τ p)
/-- what a timing leaves as it was -/
def fT (M M2 : e_MI) : Prop := ∀ a, a ≠ 200 → a ≠ 201 → a ≠ 202 → M2 a = M a
theorem fT.rf (M : e_MI) : fT M M := fun _ _ _ _ => rfl
theorem fT.tr (h : fT M M2) (h2 : fT M2 M3) : fT M M3 := fun a x y z => by rw [h2 a x y z, h a x y z]
theorem fT.l (h : fT M M2) : fL M M2 := ⟨fun a x => h a (by omega) (by omega) (by omega), fun a x y => h a (by omega) (by omega) (by omega), fun j x => by rw [h 184 (by decide) (by decide) (by decide)]⟩
theorem wk_at (hr : kR K) (hv : vP K τ n) (h0 : 0 ≤ p) (h1 : p < n) : (0 ≤ τ p ∧ τ p < K 310) ∧ (0 ≤ scW τ p ∧ scW τ p < K (40 + τ p)) ∧ K (40 + τ p) ≤ 4 ∧ K 310 ≤ 8 := by
  have a := hv p h0 h1
  have b := hv.rg hr h0 h1
  have c := hr.n
  have e := hr.wk (o := τ p) a.1.1 (by omega)
  have f : scW τ p = cnt τ (τ p) p := rfl
  omega
theorem l_isLatest (H : LA M K) (hr : kR K) (hv : vP K τ k) (hR : LRW M τ k) (hk : k ≤ 16) (hp : 0 ≤ p ∧ p < k) (hm : 0 ≤ m ∧ m ≤ 3) : e_lim L xs d 171 0 [some (.ref 184), some (.int (iI p)), some (.int (iI k)), some (.int (iI m)), none] [] (e_hp M V W) = some (.inl (some (.int (bI (decide (zLP (fun q => decide (mcA K τ (scW τ) q = m)) k ≤ p))))), e_hp M V W, 0, 0) := by
  simp (disch := first | assumption | exact e_nk_i _ | exact e_nk_n | exact e_nk_r _ | exact e_bo_0 | exact e_bo_1 | exact e_bo_b _ | omega) only [e_cl_v, e_cl_x, e_add_0, e_add_s, Option.toList_some, Option.toList_none, List.cons_append, List.nil_append, iI_add, iI_sub, iI_mul, iI_lt, iI_eq, iI_le, r171_0, r171_1, r171_2, r171_3]
  have hz := zLP_cases (fun q => decide (mcA K τ (scW τ) q = m)) k (by omega)
  refine G_find (C := fun j => e_lim L xs d 171 5 [some (.ref 184), some (.int (iI p)), some (.int (iI k)), some (.int (iI m)), some (.int (iI j))] [] (e_hp M V W)) (p := fun q => decide (mcA K τ (scW τ) q = m)) (i := p + 1) (n := k) (by omega) (fun j a b hq hc => ?_) (fun j a b hq _ => ?_) (fun hall => ?_)
  · have w := wk_at hr hv (p := j) (by omega) b
    obtain ⟨e1, e2⟩ := hR j (by omega) b
    have e3 := H.mc w.1.1 w.1.2 w.2.1.1 w.2.1.2
    have r3 := hr.mc (i := 4 * τ j + scW τ j) (by omega) (by omega)
    rw [show 48 + (4 * τ j + scW τ j) = 48 + 4 * τ j + scW τ j by omega] at r3
    rw [decide_eq_false_iff_not] at hq
    unfold mcA at hq
    rw [r171_5]
    simp (disch := first | assumption | exact e_nk_i _ | exact e_nk_n | exact e_nk_r _ | exact e_bo_0 | exact e_bo_1 | exact e_bo_b _ | omega) only [e_cl_v, e_cl_x, e_add_0, e_add_s, Option.toList_some, Option.toList_none, List.cons_append, List.nil_append, iI_add, iI_sub, iI_mul, iI_lt, iI_eq, iI_le, r171_7, r171_8, r171_11, r171_12, r171_15, r171_16, r171_17, r171_20, r171_22, r171_23, r171_24, r171_25, r171_28, r171_30, r171_31, r171_32, r171_33, r171_34, r171_37, r171_38, r171_39, r171_42, iI_vin, iI_nat, if_true, e1, e2, e3]
    rw [if_pos b, if_neg hq]
    exact hc
  · have w := wk_at hr hv (p := j) (by omega) b
    obtain ⟨e1, e2⟩ := hR j (by omega) b
    have e3 := H.mc w.1.1 w.1.2 w.2.1.1 w.2.1.2
    have r3 := hr.mc (i := 4 * τ j + scW τ j) (by omega) (by omega)
    rw [show 48 + (4 * τ j + scW τ j) = 48 + 4 * τ j + scW τ j by omega] at r3
    have hne : ¬ zLP (fun q => decide (mcA K τ (scW τ) q = m)) k ≤ p := fun hle => by
      rcases hz with ⟨y1, y2⟩ | ⟨y1, y2, y3, y4⟩
      · rw [y2 j (by omega) b] at hq; cases hq
      · rw [y4 j (by omega) b] at hq; cases hq
    rw [decide_eq_true_eq] at hq
    unfold mcA at hq
    rw [decide_eq_false hne, r171_5]
    simp (disch := first | assumption | exact e_nk_i _ | exact e_nk_n | exact e_nk_r _ | exact e_bo_0 | exact e_bo_1 | exact e_bo_b _ | omega) only [e_cl_v, e_cl_x, e_add_0, e_add_s, Option.toList_some, Option.toList_none, List.cons_append, List.nil_append, iI_add, iI_sub, iI_mul, iI_lt, iI_eq, iI_le, r171_7, r171_8, r171_11, r171_12, r171_15, r171_16, r171_17, r171_20, r171_22, r171_23, r171_24, r171_25, r171_28, r171_30, r171_31, r171_32, r171_33, r171_34, r171_37, r171_38, r171_39, r171_42, iI_vin, iI_nat, if_true, e1, e2, e3]
    rw [if_pos b, if_pos hq]
    rfl
  · have hle : zLP (fun q => decide (mcA K τ (scW τ) q = m)) k ≤ p := by
      rcases hz with ⟨y1, y2⟩ | ⟨y1, y2, y3, y4⟩
      · omega
      · by_cases hlt : p < zLP (fun q => decide (mcA K τ (scW τ) q = m)) k
        · rw [hall _ (by omega) y2] at y3; cases y3
        · omega
    rw [decide_eq_true hle, r171_5]
    simp (disch := first | assumption | exact e_nk_i _ | exact e_nk_n | exact e_nk_r _ | exact e_bo_0 | exact e_bo_1 | exact e_bo_b _ | omega) only [e_cl_v, e_cl_x, e_add_0, e_add_s, Option.toList_some, Option.toList_none, List.cons_append, List.nil_append, iI_add, iI_sub, iI_mul, iI_lt, iI_eq, iI_le, r171_7, r171_8, r171_45, r171_46]
    rw [if_neg (by omega)]
    rfl
/-- the search for a begin -/
theorem l_search {r : e_R} {its : Int} (HB : LB M K) (hr : kR K) (hE : LE M β ε k) (hk : 0 ≤ k ∧ k ≤ 16) (hm : 0 ≤ m ∧ m ≤ 3) (ht : 1 ≤ t ∧ t ≤ 81) (ho : i32 o) (hi : i32 its) {l1 : Option Value}
    (h1 : zFF (blB K β ε k m) t b = 2001 → some (.inl (some (.int (bI false))), e_hp M V W, 0, 0) = some r)
    (h2 : zFF (blB K β ε k m) t b ≠ 2001 → e_lim L xs (d + 1) 170 309 [some (.ref 184), l1, some (.int (iI k)), some (.int (iI o)), some (.int (iI (zFF (blB K β ε k m) t b))), some (.int (iI m)), some (.int (iI its)), some (.int (iI t)), none] [] (e_hp M V W) = some r) :
    ∀ (g : Nat) (y : Int), 0 ≤ y → y ≤ 2200 → (2001 - y).toNat ≤ g → zFF (blB K β ε k m) t y = zFF (blB K β ε k m) t b → e_lim L xs (d + 1) 170 262 [some (.ref 184), l1, some (.int (iI k)), some (.int (iI o)), some (.int (iI y)), some (.int (iI m)), some (.int (iI its)), some (.int (iI t)), none] [] (e_hp M V W) = some r
  | g, y, h0, hy, hg, he => by
    have hz := zFF_eq (blB K β ε k m) t y (by omega) h0
    rw [r170_262]
    by_cases c1 : y + t ≤ 2000
    · have e1 := l_canBe (L := L) (xs := xs) (d := d) (V := V) (W := W) HB hr hE hk hm (f := y) (x := y + t) (by omega) (by omega)
      rw [show y + t - y = t by omega] at e1
      rw [if_pos c1] at hz
      simp (disch := first | assumption | exact e_nk_i _ | exact e_nk_n | exact e_nk_r _ | exact e_bo_0 | exact e_bo_1 | exact e_bo_b _ | omega) only [e_cl_v, e_cl_x, e_add_0, e_add_s, Option.toList_some, Option.toList_none, List.cons_append, List.nil_append, iI_add, iI_sub, iI_mul, iI_lt, iI_eq, iI_le, r170_264, r170_266, r170_267, r170_270, r170_273, r170_274, r170_275, r170_277, r170_279, r170_281, r170_283, r170_284, r170_287, e1]
      rw [if_neg (by omega)]
      by_cases c2 : lB (blB K β ε k m) y t = -1
      · rw [if_pos c2] at hz
        rw [decide_eq_true c2, bI_t, if_neg (by decide)]
        simp (disch := first | assumption | exact e_nk_i _ | exact e_nk_n | exact e_nk_r _ | exact e_bo_0 | exact e_bo_1 | exact e_bo_b _ | omega) only [e_cl_v, e_cl_x, e_add_0, e_add_s, Option.toList_some, Option.toList_none, List.cons_append, List.nil_append, iI_add, iI_sub, iI_mul, iI_lt, iI_eq, iI_le, r170_296, r170_298, r170_300, r170_301, r170_304]
        rw [if_neg (by omega)]
        rw [← he, hz] at h2
        exact h2 (by omega)
      · rw [if_neg c2] at hz
        rw [decide_eq_false c2, bI_f, if_pos rfl]
        simp (disch := first | assumption | exact e_nk_i _ | exact e_nk_n | exact e_nk_r _ | exact e_bo_0 | exact e_bo_1 | exact e_bo_b _ | omega) only [e_cl_v, e_cl_x, e_add_0, e_add_s, Option.toList_some, Option.toList_none, List.cons_append, List.nil_append, iI_add, iI_sub, iI_mul, iI_lt, iI_eq, iI_le, r170_290, r170_293]
        match g, hg with
        | 0, hg => omega
        | g + 1, hg => exact l_search HB hr hE hk hm ht ho hi h1 h2 g (y + 1) (by omega) (by omega) (by omega) (by rw [← hz]; exact he)
    · rw [if_neg c1] at hz
      simp (disch := first | assumption | exact e_nk_i _ | exact e_nk_n | exact e_nk_r _ | exact e_bo_0 | exact e_bo_1 | exact e_bo_b _ | omega) only [e_cl_v, e_cl_x, e_add_0, e_add_s, Option.toList_some, Option.toList_none, List.cons_append, List.nil_append, iI_add, iI_sub, iI_mul, iI_lt, iI_eq, iI_le, r170_264, r170_266, r170_267, r170_270]
      rw [if_pos (by omega)]
      simp (disch := first | assumption | exact e_nk_i _ | exact e_nk_n | exact e_nk_r _ | exact e_bo_0 | exact e_bo_1 | exact e_bo_b _ | omega) only [e_cl_v, e_cl_x, e_add_0, e_add_s, Option.toList_some, Option.toList_none, List.cons_append, List.nil_append, iI_add, iI_sub, iI_mul, iI_lt, iI_eq, iI_le, r170_296, r170_298, r170_300, r170_301, r170_304]
      rw [if_pos (by omega)]
      simp (disch := first | assumption | exact e_nk_i _ | exact e_nk_n | exact e_nk_r _ | exact e_bo_0 | exact e_bo_1 | exact e_bo_b _ | omega) only [e_cl_v, e_cl_x, e_add_0, e_add_s, Option.toList_some, Option.toList_none, List.cons_append, List.nil_append, iI_add, iI_sub, iI_mul, iI_lt, iI_eq, iI_le, r170_307, r170_308]
      exact h1 (by rw [← he, hz])
end El13
