section Ec07
variable {L : Nat} {xs : Nat → Int32} {d : Nat} {M M2 M3 : e_MI} {V : e_ML} {W : e_MD} {K : e_St} {h : e_H} {s t a n : Nat} {o j w z m k q p i f l b e mc tl v T to : Int} {sc : Bool} {ρ ν μ χ β ε τ u : Int → Int}
theorem m_shiftOf (hz : 0 ≤ z ∧ z < 3000) : e_lim L xs d 154 0 [some (.int (iI z))] [] h = some (.inl (some (.int (iI (z % 24 / 8)))), h, 0, 0) := by
  have e24 : iI z - iI z / iI 24 * iI 24 = iI (z % 24) := iI_rem hz.1 (by omega) (by omega) (by omega)
  have e8 : iI (z % 24) / iI 8 = iI (z % 24 / 8) := iI_div (by omega) (by omega) (by omega) (by omega)
  have n24 : iI 24 ≠ 0 := iI_ne (by omega) (by omega)
  have n8 : iI 8 ≠ 0 := iI_ne (by omega) (by omega)
  rw [r154_0, r154_1, r154_3 n24, e24, r154_4, r154_6 n8, e8, r154_7]
/-- whether no worker is free -/
def fuB (K : e_St) (u : Int → Int) (x : Int) : Bool := decide (K (238 + x % 24 / 8) < 4 ∧ K (238 + x % 24 / 8) ≤ u x)
def tbS (K : e_St) (u : Int → Int) (f to : Int) : Int := if lB (fuB K u) f (to - f) = -1 then f else lB (fuB K u) f (to - f) + 1
theorem tg_shortage (ht : e_isT t) (H : SH M 1 K) (hr : kR K) (hu : e_ar (M (t + 15)) 2000 u) (hur : ∀ x, 0 ≤ x → x < 2000 → 0 ≤ u x ∧ u x ≤ 16) (hf : 0 ≤ f ∧ f < to) (hto : to ≤ 2000) : e_lim L xs (d + 2) 71 0 [some (.ref t), some (.ref 1), some (.int (iI f)), some (.int (iI to)), none, none, none] [] (e_hp M V W) = some (.inl (some (.int (iI (tbS K u f to)))), e_hp M V W, 0, 0) := by
  have main : ∀ (n : Nat) (l : Int) (l4 l6 : Option Value), e_nk l4 = true → (l - f + 1).toNat ≤ n → f - 1 ≤ l → l < to → (∀ x, l < x → x < to → fuB K u x = false) → e_lim L xs (d + 2) 71 8 [some (.ref t), some (.ref 1), some (.int (iI f)), some (.int (iI to)), l4, some (.int (iI l)), l6] [] (e_hp M V W) = some (.inl (some (.int (iI (tbS K u f to)))), e_hp M V W, 0, 0) := by
    intro n
    induction n with
    | zero =>
      intro l l4 l6 n4 hn h1 h2 hx
      have hl : l = f - 1 := by omega
      have hz : lB (fuB K u) f (to - f) = -1 := lB_none hf.1 (by omega) (fun x a b => hx x (by omega) (by omega))
      unfold tbS
      rw [hz, if_pos rfl, r71_8]
      simp (disch := first | assumption | exact e_nk_i _ | exact e_nk_n | exact e_nk_r _ | exact e_bo_0 | exact e_bo_1 | exact e_bo_b _ | omega) only [e_cl_v, e_cl_x, e_add_0, e_add_s, Option.toList_some, Option.toList_none, List.cons_append, List.nil_append, iI_add, iI_sub, iI_mul, iI_lt, iI_eq, iI_le, r71_10, r71_11, r71_70, r71_71]
      rw [if_pos (by omega)]
    | succ n ih =>
      intro l l4 l6 n4 hn h1 h2 hx
      by_cases hl : l < f
      · have hz : lB (fuB K u) f (to - f) = -1 := lB_none hf.1 (by omega) (fun x a b => hx x (by omega) (by omega))
        unfold tbS
        rw [hz, if_pos rfl, r71_8]
        simp (disch := first | assumption | exact e_nk_i _ | exact e_nk_n | exact e_nk_r _ | exact e_bo_0 | exact e_bo_1 | exact e_bo_b _ | omega) only [e_cl_v, e_cl_x, e_add_0, e_add_s, Option.toList_some, Option.toList_none, List.cons_append, List.nil_append, iI_add, iI_sub, iI_mul, iI_lt, iI_eq, iI_le, r71_10, r71_11, r71_70, r71_71]
        rw [if_pos (by omega)]
      · obtain ⟨fi, hfi⟩ : ∃ fi : Int, fi = max f (l - l % 8) := ⟨_, rfl⟩
        have e8 : iI l - iI l / iI 8 * iI 8 = iI (l % 8) := iI_rem (by omega) (by omega) (by omega) (by omega)
        have n8 : iI 8 ≠ 0 := iI_ne (by omega) (by omega)
        have hm3 : 0 ≤ l % 24 / 8 ∧ l % 24 / 8 < 3 := by omega
        have e1 := m_shiftOf (L := L) (xs := xs) (d := d + 1) (h := e_hp M V W) (z := l) (by omega)
        have e2 := m_atI (L := L) (xs := xs) (d := d + 1) (M := M) (V := V) (W := W) (a := 6) (n := 3) si_6 (z := l % 24 / 8) hm3.1 hm3.2 (H.sf hm3.1 hm3.2)
        have rw2 := hr.wo (i := l % 24 / 8) hm3.1 hm3.2
        have e3 := tg_lastFull (L := L) (xs := xs) (d := d) (M := M) (V := V) (W := W) ht hu hur (f := fi) (l := l) (w := K (238 + l % 24 / 8)) (by omega) (by omega) rw2
        have hcg : lB (fun x => decide (K (238 + l % 24 / 8) < 4 ∧ K (238 + l % 24 / 8) ≤ u x)) fi (l - fi + 1) = lB (fuB K u) fi (l - fi + 1) := lB_cong (fun x a b => by
          unfold fuB
          have : x % 24 / 8 = l % 24 / 8 := by omega
          rw [this])
        rw [hcg] at e3
        rcases lB_cases (fuB K u) fi (l - fi + 1) (by omega) (by omega) with ⟨c1, c2⟩ | ⟨c1, c2, c3, c4⟩
        · rw [c1] at e3
          have hi := ih (fi - 1) (some (.int (iI fi))) (some (.int (iI (-1)))) (e_nk_i _) (by omega) (by omega) (by omega) (fun x a b => by
            by_cases hxl : x ≤ l
            · exact c2 x (by omega) (by omega)
            · exact hx x (by omega) b)
          rw [← hi, r71_8]
          simp (disch := first | assumption | exact e_nk_i _ | exact e_nk_n | exact e_nk_r _ | exact e_bo_0 | exact e_bo_1 | exact e_bo_b _ | omega) only [e_cl_v, e_cl_x, e_add_0, e_add_s, Option.toList_some, Option.toList_none, List.cons_append, List.nil_append, iI_add, iI_sub, iI_mul, iI_lt, iI_eq, iI_le, r71_10, r71_11, r71_14, r71_15, r71_17, r71_19, r71_21, r71_22, r71_23, r71_26, r71_28, r71_29, r71_31, r71_33, r71_34, r71_37, r71_39, r71_42, r71_45, r71_48, r71_50, r71_52, r71_53, r71_56, r71_58, r71_59, r71_60, r71_61, r71_63, r71_64, r71_65, r71_67, e8, iI_mx, ← hfi, e1, e2, e3]
          rw [if_neg hl]
          simp
        · have hh : lB (fuB K u) f (to - f) = lB (fuB K u) fi (l - fi + 1) := lB_hit hf.1 (by omega) (by omega) c3 (fun x a b => by
            by_cases hxl : x ≤ l
            · exact c4 x a (by omega)
            · exact hx x (by omega) (by omega))
          unfold tbS
          rw [hh, if_neg (by omega)]
          generalize lB (fuB K u) fi (l - fi + 1) = r at *
          rw [r71_8]
          simp (disch := first | assumption | exact e_nk_i _ | exact e_nk_n | exact e_nk_r _ | exact e_bo_0 | exact e_bo_1 | exact e_bo_b _ | omega) only [e_cl_v, e_cl_x, e_add_0, e_add_s, Option.toList_some, Option.toList_none, List.cons_append, List.nil_append, iI_add, iI_sub, iI_mul, iI_lt, iI_eq, iI_le, r71_10, r71_11, r71_14, r71_15, r71_17, r71_19, r71_21, r71_22, r71_23, r71_26, r71_28, r71_29, r71_31, r71_33, r71_34, r71_37, r71_39, r71_42, r71_45, r71_48, r71_50, r71_52, r71_53, r71_56, r71_58, r71_59, r71_60, r71_61, r71_63, r71_64, r71_65, r71_67, e8, iI_mx, ← hfi, e1, e2, e3]
          rw [if_neg hl, if_neg (by omega)]
  have h0 := main (to - f).toNat (to - 1) (some (.int (iI to))) none (e_nk_i _) (by omega) (by omega) (by omega) (fun x a b => by omega)
  rw [← h0]
  simp (disch := first | assumption | exact e_nk_i _ | exact e_nk_n | exact e_nk_r _ | exact e_bo_0 | exact e_bo_1 | exact e_bo_b _ | omega) only [e_cl_v, e_cl_x, e_add_0, e_add_s, Option.toList_some, Option.toList_none, List.cons_append, List.nil_append, iI_add, iI_sub, iI_mul, iI_lt, iI_eq, iI_le, r71_0, r71_1, r71_3, r71_4, r71_5, r71_6]
/-! jumps over blocked times -/
theorem zFF_run {p : Int → Bool} {T b c : Int} (hT : 1 ≤ T) (h0 : 0 ≤ b) (hbc : b ≤ c) (hp : ∀ x, b ≤ x → x < c → p x = true) : zFF p T b = zFF p T c := by
  have : ∀ n : Nat, b + n ≤ c → zFF p T b = zFF p T (b + n) := by
    intro n
    induction n with
    | zero => intro _; rw [show b + ((0 : Nat) : Int) = b by omega]
    | succ n ih =>
      intro hn
      rw [ih (by omega), zFF_jump (t := b + n) (by omega) (by omega) (by omega) (hp _ (by omega) (by omega))]
      congr 1
      omega
  have h1 := this (c - b).toNat (by omega)
  rw [show b + ((c - b).toNat : Int) = c by omega] at h1
  exact h1
/-- past a rest that meets the window -/
theorem zFF_rest {p : Int → Bool} {T b r1 r2 : Int} (hT : 1 ≤ T) (h0 : 0 ≤ b) (h1 : r1 < b + T) (h2 : b < r2) (hp : ∀ x, r1 ≤ x → x < r2 → p x = true) (hr : r1 < r2) : zFF p T b = zFF p T r2 := by
  by_cases hb : b ≤ r1
  · rw [zFF_jump (t := r1) h0 hb h1 (hp r1 (by omega) hr)]
    exact zFF_run hT (by omega) (by omega) (fun x a c => hp x (by omega) c)
  · exact zFF_run hT h0 (by omega) (fun x a c => hp x (by omega) c)
theorem tbR_cases (hd : kD K) (hm : 0 ≤ K 311) (f t : Int) : (tbR K m f t = f ∧ ∀ k, 0 ≤ k → k < K 311 → ¬(K (208 + k) = m ∧ K (218 + k) < t ∧ f < K (228 + k))) ∨ (f < tbR K m f t ∧ tbR K m f t ≤ 2000 ∧ ∃ k, 0 ≤ k ∧ k < K 311 ∧ K (208 + k) = m ∧ K (218 + k) < t ∧ tbR K m f t = K (228 + k) ∧ K (218 + k) < K (228 + k) ∧ 0 ≤ K (218 + k)) := by
  by_cases hex : ∃ k, 0 ≤ k ∧ k < K 311 ∧ rsQ K m f t k = true
  · right
    have hz := (zAN_iff (p := rsQ K m f t) hm).mpr hex
    -- the first such
    have gen : ∀ n : Nat, (n : Int) ≤ K 311 → (∀ q, 0 ≤ q → q < (n : Int) → rsQ K m f t q = false) ∨ ∃ j, 0 ≤ j ∧ j < (n : Int) ∧ rsQ K m f t j = true ∧ ∀ q, 0 ≤ q → q < j → rsQ K m f t q = false := by
      intro n
      induction n with
      | zero => intro _; exact Or.inl fun q a b => by omega
      | succ n ih =>
        intro hn
        rcases ih (by omega) with x | ⟨j, a, b, c⟩
        · by_cases hq : rsQ K m f t n = true
          · exact Or.inr ⟨n, by omega, by omega, hq, x⟩
          · refine Or.inl fun q a b => ?_
            by_cases hqn : q = n
            · rw [hqn]; simpa using hq
            · exact x q a (by omega)
        · exact Or.inr ⟨j, a, by omega, c⟩
    obtain ⟨k0, a0, b0, c0⟩ := hex
    rcases gen (K 311).toNat (by omega) with x | ⟨j, a, b, c, e⟩
    · rw [x k0 a0 (by omega)] at c0
      cases c0
    · have hfs := fsN_hit a (show j < K 311 by omega) c e
      have hc := c
      unfold rsQ at hc
      rw [decide_eq_true_eq] at hc
      have hD := hd.1 j a (by omega)
      unfold tbR
      rw [hfs, if_neg (by omega)]
      exact ⟨hc.2.2, hD.2.2, j, a, by omega, hc.1, hc.2.1, rfl, hD.2.1.2, hD.2.1.1⟩
  · left
    have hn : ∀ q, 0 ≤ q → q < K 311 → rsQ K m f t q = false := fun q a b => by
      cases hb : rsQ K m f t q with
      | false => rfl
      | true => exact absurd ⟨q, a, b, hb⟩ hex
    unfold tbR
    rw [fsN_none hm hn, if_pos rfl]
    refine ⟨rfl, fun k a b hq => ?_⟩
    have := hn k a b
    unfold rsQ at this
    rw [decide_eq_false_iff_not] at this
    exact this hq
theorem rsB_iff (hm : 0 ≤ K 311) (x : Int) : rsB K m x = true ↔ ∃ k, 0 ≤ k ∧ k < K 311 ∧ K (208 + k) = m ∧ K (218 + k) ≤ x ∧ x < K (228 + k) := by
  unfold rsB
  rw [zAN_iff hm]
  constructor
  · rintro ⟨j, a, b, c⟩
    rw [decide_eq_true_eq] at c
    exact ⟨j, a, b, c.1, c.2.1, by omega⟩
  · rintro ⟨j, a, b, c1, c2, c3⟩
    exact ⟨j, a, b, decide_eq_true ⟨c1, c2, by omega⟩⟩
end Ec07
