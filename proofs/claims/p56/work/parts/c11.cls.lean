section Ec11
variable {L : Nat} {xs : Nat → Int32} {d : Nat} {M M2 M3 : e_MI} {V : e_ML} {W : e_MD} {K : e_St} {h : e_H} {s t a n : Nat} {o j w z m k q p i f l b e mc tl v T x N : Int} {sc : Bool} {ρ ν μ χ β ε τ u : Int → Int}
theorem tg_emptied (ht : e_isT t) (h11 : 11 ≤ t) : ∀ (k : Nat) (M : e_MI), TG M t sc k ρ ν μ χ β ε → ∃ M2 : e_MI, e_lim L xs (d + 3) 62 5 [some (.ref t), some (.ref 1), some (.int (iI k))] [] (e_hp M V W) = e_lim L xs (d + 3) 62 5 [some (.ref t), some (.ref 1), some (.int (iI 0))] [] (e_hp M2 V W) ∧ TG M2 t sc 0 ρ ν μ χ β ε ∧ (∀ a, a < t ∨ t + 15 < a → M2 a = M a) ∧ M2 t 0 = M t 0
  | 0, M, hG => ⟨M, rfl, hG, fun _ _ => rfl, rfl⟩
  | k + 1, M, hG => by
    have h16 := hG.1.2.2.2
    obtain ⟨M1, e1, hG1, f1, z1⟩ := tg_takeBack (L := L) (xs := xs) (d := d) (V := V) (W := W) (k := (k : Int)) ht h11 (by rw [show (k : Int) + 1 = ((k + 1 : Nat) : Int) by omega]; exact hG) (by omega)
    obtain ⟨M2, e2, hG2, f2, z2⟩ := tg_emptied ht h11 k M1 hG1
    refine ⟨M2, ?_, hG2, fun a x => by rw [f2 a x, f1 a x], by rw [z2, z1]⟩
    rw [← e2, r62_5]
    simp (disch := first | assumption | exact e_nk_i _ | exact e_nk_n | exact e_nk_r _ | exact e_bo_0 | exact e_bo_1 | exact e_bo_b _ | omega) only [e_cl_v, e_cl_x, e_add_0, e_add_s, Option.toList_some, Option.toList_none, List.cons_append, List.nil_append, iI_add, iI_sub, iI_mul, iI_lt, iI_eq, iI_le, r62_6, r62_9, r62_10, r62_13, r62_16, e1]
    rw [if_neg (by omega), show ((k + 1 : Nat) : Int) + -1 = (k : Int) by omega]
theorem tg_restart (ht : e_isT t) (h11 : 11 ≤ t) (H : SH M 1 K) (hr : kR K) (hT : TG0 M t) (τ : Int → Int) : ∃ M2 : e_MI, e_lim L xs (d + 3) 62 0 [some (.ref t), some (.ref 1), none] [] (e_hp M V W) = some (.inl none, e_hp M2 V W, 0, 0) ∧ TT M2 t K τ 0 ∧ (∀ a, a < t ∨ t + 15 < a → M2 a = M a) ∧ M2 t 0 = M t 0 := by
  obtain ⟨sc, k, ρ, ν, μ, χ, β, ε, hG⟩ := hT
  have hk := hG.1.2.2
  obtain ⟨M1, e1, hG1, f1, z1⟩ := tg_emptied (L := L) (xs := xs) (d := d) (V := V) (W := W) ht h11 k.toNat M (by rw [Int.toNat_of_nonneg hk.1]; exact hG)
  rw [Int.toNat_of_nonneg hk.1] at e1
  have e2 := s_isShort (L := L) (xs := xs) (d := d + 2) (V := V) (W := W) (H.of fun a x y => f1 a (by omega)) hr
  have t2 := hG.1.2.1
  obtain ⟨⟨g1, g2, -⟩, -, -, c, hu, -⟩ := hG1
  refine ⟨e_u M1 t (upd (M1 t) 1 (bI (scK K))), ?_, ⟨ρ, ν, μ, χ, β, ε, ⟨⟨?_, ?_, by omega, by omega⟩, ⟨fun z x y => by omega, fun z x y => by omega, fun z x y => by omega, fun z x y => by omega, fun z x y => by omega, fun z x y => by omega⟩, ⟨fun z x y => by omega, fun z x y => by omega, fun z x y => by omega, fun z x y => by omega⟩, ?_, ?_, fun z x y => by omega⟩, fun z x y => by omega⟩, fun a x => by rw [e_u_n _ _ (by omega), f1 a x], by rw [e_u_s, upd_n _ _ (by decide), z1]⟩
  · simp (disch := first | assumption | exact e_nk_i _ | exact e_nk_n | exact e_nk_r _ | exact e_bo_0 | exact e_bo_1 | exact e_bo_b _ | omega) only [e_cl_v, e_cl_x, e_add_0, e_add_s, Option.toList_some, Option.toList_none, List.cons_append, List.nil_append, iI_add, iI_sub, iI_mul, iI_lt, iI_eq, iI_le, r62_0, r62_1, r62_4, t2]
    rw [e1, r62_5]
    simp (disch := first | assumption | exact e_nk_i _ | exact e_nk_n | exact e_nk_r _ | exact e_bo_0 | exact e_bo_1 | exact e_bo_b _ | omega) only [e_cl_v, e_cl_x, e_add_0, e_add_s, Option.toList_some, Option.toList_none, List.cons_append, List.nil_append, iI_add, iI_sub, iI_mul, iI_lt, iI_eq, iI_le, r62_6, r62_19, r62_20, r62_21, r62_24, r62_27, e2]
    simp
  · rw [e_u_s, upd_s]
  · rw [e_u_s, upd_n _ _ (by decide)]
    exact g2
  · unfold tgC
    rw [e_u_n _ _ (by omega), e_u_n _ _ (by omega), e_u_n _ _ (by omega), e_u_n _ _ (by omega)]
    exact c
  · unfold tgU
    rw [e_u_n _ _ (by omega)]
    refine hu.cong (fun z x y => ?_)
    have : bz β ε 0 z = 0 := rfl
    rw [this]
    simp
/-- where following a row ends -/
def fwE (M : e_MI) (t : Nat) (K : e_St) (τ : Int → Int) (n : Int) : Prop := M t 0 = bI (fiR K τ n) ∧ ∃ c, 0 ≤ c ∧ c ≤ n ∧ TT M t K τ c ∧ (fiR K τ n = true → c = n)
theorem fiR_s2 (h0 : 0 ≤ p) (h1 : p < N) (h : scB K τ p = 2001) : fiR K τ N = false := fiR_f h0 h1 h
end Ec11
