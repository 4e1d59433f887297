section Ec03
variable {L : Nat} {xs : Nat → Int32} {d : Nat} {M M2 M3 : e_MI} {V : e_ML} {W : e_MD} {K : e_St} {h : e_H} {s t a : Nat} {o j w z m k q p i f b e : Int} {sc : Bool} {ρ ν μ χ β ε τ u : Int → Int}
/-! the class's timing: places that are laid -/
def laF (f : Int → Int) (k v : Int) : Int := zLP (fun q => decide (f q = v)) k
def tbF (χ : Int → Int) (p : Int) : Int := if χ p = -1 then -1 else oAh χ p
def tgA (M : e_MI) (t : Nat) (k : Int) (ρ ν μ χ β ε : Int → Int) : Prop := e_ar (M (t + 1)) k ρ ∧ e_ar (M (t + 2)) k ν ∧ e_ar (M (t + 3)) k μ ∧ e_ar (M (t + 4)) k χ ∧ e_ar (M (t + 5)) k β ∧ e_ar (M (t + 6)) k ε
def tgB (M : e_MI) (t : Nat) (k : Int) (ρ ν μ χ : Int → Int) : Prop := e_ar (M (t + 7)) k (oAh ρ) ∧ e_ar (M (t + 8)) k (oAh μ) ∧ e_ar (M (t + 9)) k (tbF χ) ∧ ∀ p, 0 ≤ p → p < k → M (t + 10) (ρ p * 4 + ν p).toNat = iI p
def tgC (M : e_MI) (t : Nat) (k : Int) (ρ μ χ : Int → Int) : Prop := e_ar (M (t + 11)) 8 (laF ρ k) ∧ e_ar (M (t + 12)) 4 (laF μ k) ∧ e_ar (M (t + 13)) 3 (laF χ k) ∧ e_ar (M (t + 14)) 8 (fun o => cnt ρ o k)
def tgU (M : e_MI) (t : Nat) (sc : Bool) (k : Int) (β ε : Int → Int) : Prop := e_ar (M (t + 15)) 2000 (fun x => if sc = true then bz β ε k x else 0)
def tgR (k : Int) (ρ ν μ χ β ε : Int → Int) : Prop := ∀ p, 0 ≤ p → p < k → (0 ≤ ρ p ∧ ρ p ≤ 7) ∧ (0 ≤ ν p ∧ ν p ≤ 3) ∧ (0 ≤ μ p ∧ μ p ≤ 3) ∧ (-1 ≤ χ p ∧ χ p ≤ 2) ∧ (0 ≤ β p ∧ β p ≤ 2001) ∧ (0 ≤ ε p ∧ ε p ≤ 2001) ∧ ν p = cnt ρ (ρ p) p
/-- the timing at t has laid k places -/
def TG (M : e_MI) (t : Nat) (sc : Bool) (k : Int) (ρ ν μ χ β ε : Int → Int) : Prop := (M t 1 = bI sc ∧ M t 2 = iI k ∧ 0 ≤ k ∧ k ≤ 16) ∧ tgA M t k ρ ν μ χ β ε ∧ tgB M t k ρ ν μ χ ∧ tgC M t k ρ μ χ ∧ tgU M t sc k β ε ∧ tgR k ρ ν μ χ β ε
theorem laF_s (f : Int → Int) {k : Int} (v : Int) (hk : 0 ≤ k) : laF f (k + 1) v = if f k = v then k else laF f k v := by
  unfold laF
  rw [zLP_s _ hk]
  simp only [decide_eq_true_eq]
theorem laF_rg (f : Int → Int) (v : Int) (hk : 0 ≤ k) : laF f k v = -1 ∨ ((0 ≤ laF f k v ∧ laF f k v < k) ∧ f (laF f k v) = v) := by
  unfold laF
  rcases zLP_cases (fun q => decide (f q = v)) k hk with ⟨x, y⟩ | ⟨x, y, z, w⟩
  · exact Or.inl x
  · exact Or.inr ⟨⟨x, y⟩, of_decide_eq_true z⟩
theorem laF_cong {f g : Int → Int} (v : Int) (h : ∀ p, 0 ≤ p → p < k → f p = g p) : laF f k v = laF g k v := zLP_cong fun p a b => by rw [h p a b]
theorem iI_mx (a b : Int) : (if a < b then iI b else iI a) = iI (max a b) := by
  by_cases h : a < b
  · rw [if_pos h, Int.max_eq_right (by omega)]
  · rw [if_neg h, Int.max_eq_left (by omega)]
theorem iI_mn (a b : Int) : (if b < a then iI b else iI a) = iI (min a b) := by
  by_cases h : b < a
  · rw [if_pos h, Int.min_eq_right (by omega)]
  · rw [if_neg h, Int.min_eq_left (by omega)]
/-- workers used, more or fewer -/
theorem t_useWorkers (ht : e_isT t) (hp : 0 ≤ p ∧ p < 16) (hb : M (t + 5) p.toNat = iI b) (he : M (t + 6) p.toNat = iI e) (rb : 0 ≤ b ∧ b ≤ 2001) (re : 0 ≤ e ∧ e ≤ 2001) (hs : M t 1 = bI sc) (hu : e_ar (M (t + 15)) 2000 u) : ∃ g : Nat → Int32, e_lim L xs (d + 1) 75 0 [some (.ref t), some (.int (iI p)), some (.int (iI q)), none, none] [] (e_hp M V W) = some (.inl none, e_hp (e_u M (t + 15) g) V W, 0, 0) ∧ e_ar g 2000 (fun x => if sc = true ∧ b ≤ x ∧ x < e then u x + q else u x) := by
  have e1 := m_atI (L := L) (xs := xs) (d := d) (M := M) (V := V) (W := W) ht.i5 (z := p) hp.1 (by omega) hb
  have e2 := m_atI (L := L) (xs := xs) (d := d) (M := M) (V := V) (W := W) ht.i6 (z := p) hp.1 (by omega) he
  obtain ⟨lim, hlim⟩ : ∃ lim : Int, lim = if sc = true then min e 2000 else 0 := ⟨_, rfl⟩
  have hl0 : 0 ≤ lim ∧ lim ≤ 2000 := by
    rw [hlim]
    split <;> omega
  have head : e_lim L xs (d + 1) 75 0 [some (.ref t), some (.int (iI p)), some (.int (iI q)), none, none] [] (e_hp M V W) = e_lim L xs (d + 1) 75 40 [some (.ref t), some (.int (iI p)), some (.int (iI q)), some (.int (iI lim)), some (.int (iI b))] [] (e_hp M V W) := by
    have hmx : max b 0 = b := by omega
    cases sc with
    | true =>
      rw [bI_t] at hs
      rw [if_pos rfl] at hlim
      simp (disch := first | assumption | exact e_nk_i _ | exact e_nk_n | exact e_nk_r _ | exact e_bo_0 | exact e_bo_1 | exact e_bo_b _ | omega) only [e_cl_v, e_cl_x, e_add_0, e_add_s, Option.toList_some, Option.toList_none, List.cons_append, List.nil_append, iI_add, iI_sub, iI_mul, iI_lt, iI_eq, iI_le, r75_0, r75_1, r75_4, r75_7, r75_8, r75_11, r75_12, r75_15, r75_18, r75_21, r75_24, r75_25, r75_26, r75_27, r75_30, r75_31, r75_34, r75_35, r75_38, hs, e1, e2, iI_mx, iI_mn, hmx, hlim]
      simp
    | false =>
      rw [bI_f] at hs
      rw [if_neg (by decide)] at hlim
      simp (disch := first | assumption | exact e_nk_i _ | exact e_nk_n | exact e_nk_r _ | exact e_bo_0 | exact e_bo_1 | exact e_bo_b _ | omega) only [e_cl_v, e_cl_x, e_add_0, e_add_s, Option.toList_some, Option.toList_none, List.cons_append, List.nil_append, iI_add, iI_sub, iI_mul, iI_lt, iI_eq, iI_le, r75_0, r75_1, r75_4, r75_7, r75_8, r75_11, r75_12, r75_15, r75_18, r75_21, r75_24, r75_25, r75_26, r75_27, r75_30, r75_31, r75_34, r75_35, r75_38, hs, e1, e2, iI_mx, iI_mn, hmx, hlim]
      simp
  have key := G_lp (i := b) (n := max b lim) (I := fun i M1 => ∃ g, M1 = e_u M (t + 15) g ∧ e_ar g 2000 (fun x => if b ≤ x ∧ x < i then u x + q else u x)) (P := fun i M1 => ∃ g : Nat → Int32, e_lim L xs (d + 1) 75 40 [some (.ref t), some (.int (iI p)), some (.int (iI q)), some (.int (iI lim)), some (.int (iI i))] [] (e_hp M1 V W) = some (.inl none, e_hp (e_u M (t + 15) g) V W, 0, 0) ∧ e_ar g 2000 (fun x => if sc = true ∧ b ≤ x ∧ x < e then u x + q else u x)) (fun j M1 x y hI hc => ?_) (fun M1 hI => ?_) (by omega) M ⟨M (t + 15), (e_u_rf M (t + 15)).symm, hu.cong (fun z x y => by rw [if_neg (by omega)])⟩
  · obtain ⟨g, e3, r⟩ := key
    exact ⟨g, by rw [head]; exact e3, r⟩
  · obtain ⟨g, hM, hg⟩ := hI
    have g1 := hg j (by omega) (by omega)
    simp only at g1
    rw [if_neg (by omega)] at g1
    obtain ⟨g2, e3, r⟩ := hc (e_u M (t + 15) (upd g j.toNat (iI (u j + q)))) ⟨_, rfl, (hg.up (z0 := j) (v := u j + q) (by omega)).cong (fun z x y => by
      unfold uI
      by_cases hz : z = j
      · rw [if_pos hz, if_pos (by omega), hz]
      · rw [if_neg hz]
        simp only
        by_cases hz2 : b ≤ z ∧ z < j
        · rw [if_pos hz2, if_pos (by omega)]
        · rw [if_neg hz2, if_neg (by omega)])⟩
    refine ⟨g2, ?_, r⟩
    rw [← e3, hM, r75_40]
    simp (disch := first | assumption | exact e_nk_i _ | exact e_nk_n | exact e_nk_r _ | exact e_bo_0 | exact e_bo_1 | exact e_bo_b _ | omega) only [e_cl_v, e_cl_x, e_add_0, e_add_s, Option.toList_some, Option.toList_none, List.cons_append, List.nil_append, iI_add, iI_sub, iI_mul, iI_lt, iI_eq, iI_le, r75_42, r75_43, r75_46, r75_47, r75_50, r75_52, r75_53, r75_54, r75_55, r75_56, r75_57, r75_60, iI_vin, iI_nat, if_true, e_u_s, e_u_u, g1]
    rw [if_pos (by omega)]
  · obtain ⟨g, hM, hg⟩ := hI
    refine ⟨g, ?_, hg.cong (fun z x y => ?_)⟩
    · rw [hM, r75_40]
      simp (disch := first | assumption | exact e_nk_i _ | exact e_nk_n | exact e_nk_r _ | exact e_bo_0 | exact e_bo_1 | exact e_bo_b _ | omega) only [e_cl_v, e_cl_x, e_add_0, e_add_s, Option.toList_some, Option.toList_none, List.cons_append, List.nil_append, iI_add, iI_sub, iI_mul, iI_lt, iI_eq, iI_le, r75_42, r75_43, r75_63]
      rw [if_neg (by omega)]
    · cases sc with
      | true =>
        rw [if_pos rfl] at hlim
        by_cases hz : b ≤ z ∧ z < e
        · rw [if_pos (by omega), if_pos ⟨rfl, hz⟩]
        · rw [if_neg (by omega), if_neg (fun q => hz q.2)]
      | false =>
        rw [if_neg (by decide)] at hlim
        rw [if_neg (by omega), if_neg (fun q => by cases q.1)]
end Ec03
