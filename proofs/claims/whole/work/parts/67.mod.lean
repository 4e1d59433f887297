section E67
variable {L : Nat} {xs : Nat → Int32} {d : Nat} {M : e_MI} {V : e_ML} {W : e_MD} {K : e_St} {h : e_H} {τ : Int → Int} {k : Int}
/-- a row with a place moved -/
def mvW (r : Int → Int) (f j : Int) : Int := if j < f then r j else r (j + 1)
def mvR (r : Int → Int) (f t : Int) : Int → Int := fun p => if p = t then r f else if p < t then mvW r f p else mvW r f (p - 1)
def frY (M M2 : e_MI) : Prop := ∀ a, a ≠ 192 → M2 a = M a
theorem frY.t {M2 M3 : e_MI} (h : frY M M2) (h2 : frY M2 M3) : frY M M3 := fun a x => by rw [h2 a x, h a x]
theorem frY.KM {M2 : e_MI} (h : frY M M2) (hK : e_KM M K) : e_KM M2 K := by
  unfold e_KM
  rw [h _ (by decide)]
  exact hK
theorem mm_moves (hK : e_KM M K) (hr : kR K) (hn : 0 ≤ aW K ∧ aW K ≤ 16) {f t : Int} (hf : 0 ≤ f ∧ f < aW K) (ht : 0 ≤ t ∧ t < aW K) : ∃ M2 : e_MI, e_lim L xs (d + 2) 265 0 [some (.ref 184), some (.int (iI f)), some (.int (iI t)), none, none] [] (e_hp M V W) = some (.inl none, e_hp M2 V W, 0, 0) ∧ e_ar (M2 192) (aW K) (mvR (rwK K) f t) ∧ frY M M2 := by
  have e1 : ∀ M1 : e_MI, e_KM M1 K → e_lim L xs (d + 1) 185 0 [some (.ref 184), none, none] [] (e_hp M1 V W) = some (.inl (some (.int (iI (aW K)))), e_hp M1 V W, 0, 0) := fun M1 h1 => mm_all2 (L := L) (xs := xs) (d := d) (V := V) (W := W) h1 hr.n
  have key := G_lp (i := 0) (n := aW K) (I := fun i M1 => (∀ j, 0 ≤ j → j < (if i ≤ f then i else i - 1) → M1 192 (if j < t then j else j + 1).toNat = iI (mvW (rwK K) f j)) ∧ frY M M1) (P := fun i M1 => ∃ M2 : e_MI, e_lim L xs (d + 2) 265 5 [some (.ref 184), some (.int (iI f)), some (.int (iI t)), some (.int (iI (if i ≤ f then i else i - 1))), some (.int (iI i))] [] (e_hp M1 V W) = some (.inl none, e_hp M2 V W, 0, 0) ∧ e_ar (M2 192) (aW K) (mvR (rwK K) f t) ∧ frY M M2) (fun j M1 a b hI hc => ?_) (fun M1 hI => ?_) hn.1 M ⟨fun j a b => by
      rw [if_pos hf.1] at b
      omega, fun _ _ => rfl⟩
  · obtain ⟨M2, e, r⟩ := key
    refine ⟨M2, ?_, r⟩
    rw [← e, if_pos hf.1]
    simp (disch := first | assumption | exact e_nk_i _ | exact e_nk_n | exact e_nk_r _ | exact e_bo_0 | exact e_bo_1 | exact e_bo_b _ | omega) only [e_cl_v, e_cl_x, e_add_0, e_add_s, Option.toList_some, Option.toList_none, List.cons_append, List.nil_append, iI_add, iI_sub, iI_mul, iI_lt, iI_eq, iI_le, r265_0, r265_1, r265_2, r265_3]
  · obtain ⟨i1, i2⟩ := hI
    have e2 := e1 M1 (i2.KM hK)
    have e3 := (i2.KM hK) (241 + j) (by omega) (by omega)
    by_cases hj : j = f
    · obtain ⟨M2, e, r⟩ := hc M1 ⟨fun q x y => i1 q x (by
        rw [if_neg (by omega)] at y
        rw [if_pos (by omega)]
        omega), i2⟩
      refine ⟨M2, ?_, r⟩
      rw [if_neg (by omega), show j + 1 - 1 = j by omega] at e
      rw [if_pos (by omega), ← e, r265_5]
      simp (disch := first | assumption | exact e_nk_i _ | exact e_nk_n | exact e_nk_r _ | exact e_bo_0 | exact e_bo_1 | exact e_bo_b _ | omega) only [e_cl_v, e_cl_x, e_add_0, e_add_s, Option.toList_some, Option.toList_none, List.cons_append, List.nil_append, iI_add, iI_sub, iI_mul, iI_lt, iI_eq, iI_le, r265_7, r265_8, r265_11, r265_14, r265_16, r265_17, r265_20, r265_54, r265_57, e2]
      rw [if_pos b, if_pos hj]
    · have hn1 : (if j + 1 ≤ f then j + 1 else j + 1 - 1) = (if j ≤ f then j else j - 1) + 1 := by
        split <;> split <;> omega
      have hw : mvW (rwK K) f (if j ≤ f then j else j - 1) = K (241 + j) := by
        unfold mvW rwK
        by_cases z : j ≤ f
        · rw [if_pos z, if_pos (by omega)]
        · rw [if_neg z, if_neg (by omega), show 241 + (j - 1 + 1) = 241 + j by omega]
      rw [hn1] at hc
      have hq0 : 0 ≤ (if j ≤ f then j else j - 1) ∧ (if j ≤ f then j else j - 1) ≤ 14 := by
        split <;> omega
      generalize hq : (if j ≤ f then j else j - 1) = q at *
      obtain ⟨M2, e, r⟩ := hc (e_u M1 192 (upd (M1 192) (if q < t then q else q + 1).toNat (iI (K (241 + j))))) ⟨fun p x y => by
        rw [e_u_s]
        by_cases hp : p = q
        · rw [hp, upd_s, hw]
        · rw [upd_n _ _ (by split <;> split <;> omega)]
          exact i1 p x (by omega), i2.t (fun a x => e_u_n _ _ x)⟩
      refine ⟨M2, ?_, r⟩
      rw [← e, r265_5]
      simp (disch := first | assumption | exact e_nk_i _ | exact e_nk_n | exact e_nk_r _ | exact e_bo_0 | exact e_bo_1 | exact e_bo_b _ | omega) only [e_cl_v, e_cl_x, e_add_0, e_add_s, Option.toList_some, Option.toList_none, List.cons_append, List.nil_append, iI_add, iI_sub, iI_mul, iI_lt, iI_eq, iI_le, r265_7, r265_8, r265_11, r265_14, r265_16, r265_17, r265_20, r265_23, r265_24, r265_27, r265_28, r265_29, r265_32, r265_33, r265_36, r265_37, r265_38, r265_39, r265_40, r265_43, r265_46, r265_48, r265_49, r265_50, r265_51, r265_54, r265_57, iI_vin, iI_nat, if_true, e2, e3]
      rw [if_pos b, if_neg hj]
      by_cases z : q < t
      · rw [if_pos z, if_pos z]
      · rw [if_neg z, if_neg z]
  · obtain ⟨i1, i2⟩ := hI
    have e2 := e1 M1 (i2.KM hK)
    have e3 := (i2.KM hK) (241 + f) (by omega) (by omega)
    refine ⟨e_u M1 192 (upd (M1 192) t.toNat (iI (K (241 + f)))), ?_, fun p a b => ?_, i2.t (fun a x => e_u_n _ _ x)⟩
    · rw [r265_5]
      simp (disch := first | assumption | exact e_nk_i _ | exact e_nk_n | exact e_nk_r _ | exact e_bo_0 | exact e_bo_1 | exact e_bo_b _ | omega) only [e_cl_v, e_cl_x, e_add_0, e_add_s, Option.toList_some, Option.toList_none, List.cons_append, List.nil_append, iI_add, iI_sub, iI_mul, iI_lt, iI_eq, iI_le, r265_7, r265_8, r265_11, r265_60, r265_61, r265_64, r265_65, r265_66, r265_69, r265_72, r265_73, r265_74, r265_75, r265_76, iI_vin, iI_nat, if_true, e2, e3]
      rw [if_neg (by omega)]
    · rw [e_u_s]
      unfold mvR
      by_cases hp : p = t
      · rw [hp, upd_s, if_pos rfl]
        rfl
      · rw [upd_n _ _ (by omega), if_neg hp]
        rw [if_neg (by omega)] at i1
        by_cases z : p < t
        · have := i1 p a (by omega)
          rw [if_pos z] at this
          rw [if_pos z]
          exact this
        · have := i1 (p - 1) (by omega) (by omega)
          rw [if_neg (by omega), show p - 1 + 1 = p by omega] at this
          rw [if_neg z]
          exact this
end E67
