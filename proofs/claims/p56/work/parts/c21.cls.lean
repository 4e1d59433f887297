section Ec21
variable {L : Nat} {xs : Nat → Int32} {d : Nat} {M M2 M3 : e_MI} {V : e_ML} {W : e_MD} {K K2 : e_St} {S : Int → e_St} {h : e_H} {s s0 s1 t t2 a b2 n : Nat} {c o j w z m k q p i f l b e mc tl v T x N : Int} {sc : Bool} {ρ ν μ χ β ε τ u : Int → Int}
/-! the class's row anew -/
/-- the shop at s but for its rows -/
def SB (M : e_MI) (s : Nat) (K : e_St) : Prop :=
  (M s 0 = iI (K 310) ∧ M s 1 = iI (aW K) ∧ M s 2 = iI (K 311)) ∧
  (∀ o j, 0 ≤ o → o < K 310 → 0 ≤ j → j < 6 → M (s + 1) (o * 6 + j).toNat = iI (K (8 * j + o))) ∧
  (∀ o w j, 0 ≤ o → o < K 310 → 0 ≤ w → w < K (40 + o) → 0 ≤ j → j < 3 → M (s + 2) ((o * 4 + w) * 3 + j).toNat = iI (K (48 + 32 * j + 4 * o + w))) ∧
  (∀ i, 0 ≤ i → i < 64 → M (s + 3) i.toNat = iI (K (144 + i))) ∧
  (∀ k j, 0 ≤ k → k < K 311 → 0 ≤ j → j < 3 → M (s + 4) (k * 3 + j).toNat = iI (K (208 + 10 * j + k))) ∧
  (∀ i, 0 ≤ i → i < 3 → M (s + 5) i.toNat = iI (K (238 + i))) ∧
  (∀ i, 0 ≤ i → i < 2 → M (s + 6) i.toNat = iI (K (308 + i)))
theorem SH.sb (H : SH M s K) : SB M s K := ⟨H.1, H.2.1, H.2.2.1, H.2.2.2.1, H.2.2.2.2.1, H.2.2.2.2.2.1, H.2.2.2.2.2.2.1⟩
theorem SB.of (H : SB M s K) (h : ∀ a, s ≤ a → a ≤ s + 6 → M2 a = M a) : SB M2 s K := by
  unfold SB
  rw [h s (by omega) (by omega), h (s + 1) (by omega) (by omega), h (s + 2) (by omega) (by omega), h (s + 3) (by omega) (by omega), h (s + 4) (by omega) (by omega), h (s + 5) (by omega) (by omega), h (s + 6) (by omega) (by omega)]
  exact H
/-- the same state but for rows and what is kept -/
theorem SB.kk (H : SB M s K) (hr : kR K) (h : ∀ z, z < 241 ∨ 308 ≤ z → K2 z = K z) : SB M s K2 ∧ aW K2 = aW K := by
  have hn := hr.n
  have hm := hr.rm
  have ha : aW K2 = aW K := by
    unfold aW
    rw [h 310 (by omega)]
    exact SU_cong fun i a b => h _ (by omega)
  refine ⟨⟨by rw [h 310 (by omega), h 311 (by omega), ha]; exact H.1, fun o j a b c e => ?_, fun o w j a b c e f g => ?_, fun i a b => ?_, fun k j a b c e => ?_, fun i a b => ?_, fun i a b => ?_⟩, ha⟩
  · rw [h 310 (by omega)] at b
    rw [h _ (by omega)]
    exact H.2.1 o j a b c e
  · rw [h 310 (by omega)] at b
    rw [h _ (by omega)] at e
    have := hr.wk (o := o) a (by omega)
    rw [h _ (by omega)]
    exact H.2.2.1 o w j a b c e f g
  · rw [h _ (by omega)]
    exact H.2.2.2.1 i a b
  · rw [h 311 (by omega)] at b
    rw [h _ (by omega)]
    exact H.2.2.2.2.1 k j a b c e
  · rw [h _ (by omega)]
    exact H.2.2.2.2.2.1 i a b
  · rw [h _ (by omega)]
    exact H.2.2.2.2.2.2 i a b
theorem SH_mk (H : SB M s K) (h7 : ∀ p, 0 ≤ p → p < aW K → M (s + 7) p.toNat = iI (K (241 + p))) (h8 : ∀ i, 0 ≤ i → i < 3 → M (s + 8) i.toNat = iI (K (305 + i))) (h9 : ∀ q p, 0 ≤ q → q < 3 → K (305 + q) = 1 → 0 ≤ p → p < aW K → M (s + 9) (q * 16 + p).toNat = iI (K (257 + 16 * q + p))) : SH M s K := ⟨H.1, H.2.1, H.2.2.1, H.2.2.2.1, H.2.2.2.2.1, H.2.2.2.2.2.1, H.2.2.2.2.2.2, h7, h8, h9⟩
theorem sb_worksIn (H : SB M 1 K) (hn : K 310 ≤ 8) (h0 : 0 ≤ o) (h1 : o < K 310) : e_lim L xs (d + 1) 29 0 [some (.ref 1), some (.int (iI o))] [] (e_hp M V W) = some (.inl (some (.int (iI (K (40 + o))))), e_hp M V W, 0, 0) := by
  have e1 := m_atI (L := L) (xs := xs) (d := d) (M := M) (V := V) (W := W) (a := 2) (n := 48) si_2 (z := o * 6 + 5) (by omega) (by omega) (H.2.1 o 5 h0 h1 (by omega) (by omega))
  simp (disch := first | assumption | exact e_nk_i _ | exact e_nk_n | exact e_nk_r _ | exact e_bo_0 | exact e_bo_1 | exact e_bo_b _ | omega) only [e_cl_v, e_cl_x, e_add_0, e_add_s, Option.toList_some, Option.toList_none, List.cons_append, List.nil_append, iI_add, iI_sub, iI_mul, iI_lt, iI_eq, iI_le, r29_0, r29_1, r29_4, r29_5, r29_7, r29_8, r29_9, r29_10, r29_13, e1]
  rfl
theorem s_layRow (H : SB M 1 K) (hr : kR K) (ha : aW K ≤ 16) : ∃ M2 : e_MI, e_lim L xs (d + 2) 42 0 [some (.ref 1), none, none, none, none] [] (e_hp M V W) = some (.inl none, e_hp M2 V W, 0, 0) ∧ e_ar (M2 8) (aW K) (anR K (rwK K)) ∧ ∀ a, a ≠ 8 → M2 a = M a := by
  have hn := hr.n
  have hw0 : ∀ o, 0 ≤ o → o < 8 → 0 ≤ K (40 + o) := fun o a b => (hr.wk a b).1
  have hs1 : ∀ j : Int, 0 ≤ j → j ≤ K 310 → (anO K (rwK K) j.toNat).1 = SU (fun o => K (40 + o)) j := fun j a b => by
    rw [anO_1 K _ hw0 j.toNat (by omega), Int.toNat_of_nonneg a]
  have hsm : ∀ i j : Int, 0 ≤ i → i ≤ j → j ≤ K 310 → SU (fun o => K (40 + o)) i ≤ SU (fun o => K (40 + o)) j := fun i j a b c => SU_mono (fun q x y => hw0 q x (by omega)) a b
  have key := G_lp (i := 0) (n := K 310) (I := fun i M1 => (∀ a, a ≠ 8 → M1 a = M a) ∧ e_ar (M1 8) (anO K (rwK K) i.toNat).1 (anO K (rwK K) i.toNat).2) (P := fun i M1 => ∃ M2 : e_MI, e_lim L xs (d + 2) 42 4 [some (.ref 1), some (.int (iI (anO K (rwK K) i.toNat).1)), some (.int (iI i)), none, none] [] (e_hp M1 V W) = some (.inl none, e_hp M2 V W, 0, 0) ∧ e_ar (M2 8) (aW K) (anR K (rwK K)) ∧ ∀ a, a ≠ 8 → M2 a = M a) (fun j M1 a b hI hc => ?_) (fun M1 hI => ?_) hn.1 M ⟨fun _ _ => rfl, fun z x y => by
    have : (anO K (rwK K) (0 : Int).toNat).1 = 0 := rfl
    omega⟩
  · obtain ⟨M2, e, r⟩ := key
    refine ⟨M2, ?_, r⟩
    rw [← e]
    simp (disch := first | assumption | exact e_nk_i _ | exact e_nk_n | exact e_nk_r _ | exact e_bo_0 | exact e_bo_1 | exact e_bo_b _ | omega) only [e_cl_v, e_cl_x, e_add_0, e_add_s, Option.toList_some, Option.toList_none, List.cons_append, List.nil_append, iI_add, iI_sub, iI_mul, iI_lt, iI_eq, iI_le, r42_0, r42_1, r42_2, r42_3]
    rfl
  · have hst : anO K (rwK K) (j + 1).toNat = anW j (anO K (rwK K) j.toNat) (K (40 + j)).toNat := by
      rw [show (j + 1).toNat = j.toNat + 1 by omega]
      show anW (j.toNat : Int) (anO K (rwK K) j.toNat) (K (40 + (j.toNat : Int))).toNat = _
      rw [Int.toNat_of_nonneg a]
    have hwj := hr.wk (o := j) a (by omega)
    have s1 := hs1 j a (by omega)
    have s2 := hsm 0 j (by omega) a (by omega)
    have s3 := hsm (j + 1) (K 310) (by omega) (by omega) (Int.le_refl _)
    rw [SU_s _ a] at s3
    rw [SU_0] at s2
    have s4 : SU (fun o => K (40 + o)) (K 310) = aW K := rfl
    have H1 : SB M1 1 K := H.of fun q x y => hI.1 q (by omega)
    have ew := sb_worksIn (L := L) (xs := xs) (d := d) (V := V) (W := W) H1 hn.2 a b
    have en : M1 1 0 = iI (K 310) := H1.1.1
    have key2 := G_lp (i := 0) (n := K (40 + j)) (I := fun i M2 => (∀ a, a ≠ 8 → M2 a = M a) ∧ e_ar (M2 8) (anW j (anO K (rwK K) j.toNat) i.toNat).1 (anW j (anO K (rwK K) j.toNat) i.toNat).2) (P := fun i M2 => ∃ M3 : e_MI, e_lim L xs (d + 2) 42 21 [some (.ref 1), some (.int (iI (anW j (anO K (rwK K) j.toNat) i.toNat).1)), some (.int (iI j)), some (.int (iI (K (40 + j)))), some (.int (iI i))] [] (e_hp M2 V W) = some (.inl none, e_hp M3 V W, 0, 0) ∧ e_ar (M3 8) (aW K) (anR K (rwK K)) ∧ ∀ a, a ≠ 8 → M3 a = M a) (fun w M2 a2 b2 hI2 hc2 => ?_) (fun M2 hI2 => ?_) hwj.1 M1 hI
    · obtain ⟨M3, e, r⟩ := key2
      refine ⟨M3, ?_, r⟩
      rw [← e, r42_4]
      simp (disch := first | assumption | exact e_nk_i _ | exact e_nk_n | exact e_nk_r _ | exact e_bo_0 | exact e_bo_1 | exact e_bo_b _ | omega) only [e_cl_v, e_cl_x, e_add_0, e_add_s, Option.toList_some, Option.toList_none, List.cons_append, List.nil_append, iI_add, iI_sub, iI_mul, iI_lt, iI_eq, iI_le, r42_5, r42_6, r42_9, r42_12, r42_13, r42_14, r42_17, r42_18, r42_19, en, ew]
      rw [if_pos b]
      rfl
    · have w1 := anW_1 j (anO K (rwK K) j.toNat) w.toNat
      have hst2 : anW j (anO K (rwK K) j.toNat) (w + 1).toNat = ((anW j (anO K (rwK K) j.toNat) w.toNat).1 + 1, uI (anW j (anO K (rwK K) j.toNat) w.toNat).2 (anW j (anO K (rwK K) j.toNat) w.toNat).1 j) := by
        rw [show (w + 1).toNat = w.toNat + 1 by omega]
        rfl
      rw [hst2] at hc2
      generalize hq : (anW j (anO K (rwK K) j.toNat) w.toNat).1 = q at *
      have hq0 : 0 ≤ q ∧ q < 16 := by omega
      have e1 := m_putI (L := L) (xs := xs) (d := d + 1) (M := M2) (V := V) (W := W) (v := iI j) si_8 (z := q) hq0.1 (by omega)
      obtain ⟨M3, e, r⟩ := hc2 (e_u M2 8 (upd (M2 8) q.toNat (iI j))) ⟨fun a x => by rw [e_u_n _ _ x]; exact hI2.1 a x, by rw [e_u_s]; exact hI2.2.more hq0.1⟩
      refine ⟨M3, ?_, r⟩
      rw [← e, r42_21]
      simp (disch := first | assumption | exact e_nk_i _ | exact e_nk_n | exact e_nk_r _ | exact e_bo_0 | exact e_bo_1 | exact e_bo_b _ | omega) only [e_cl_v, e_cl_x, e_add_0, e_add_s, Option.toList_some, Option.toList_none, List.cons_append, List.nil_append, iI_add, iI_sub, iI_mul, iI_lt, iI_eq, iI_le, r42_23, r42_24, r42_27, r42_28, r42_31, r42_32, r42_33, r42_36, r42_39, r42_42, e1]
      rw [if_pos b2]
    · rw [← hst] at hI2
      obtain ⟨M3, e, r⟩ := hc M2 hI2
      refine ⟨M3, ?_, r⟩
      rw [← hst, r42_21]
      simp (disch := first | assumption | exact e_nk_i _ | exact e_nk_n | exact e_nk_r _ | exact e_bo_0 | exact e_bo_1 | exact e_bo_b _ | omega) only [e_cl_v, e_cl_x, e_add_0, e_add_s, Option.toList_some, Option.toList_none, List.cons_append, List.nil_append, iI_add, iI_sub, iI_mul, iI_lt, iI_eq, iI_le, r42_23, r42_24, r42_45, r42_48]
      rw [if_neg (by omega)]
      exact G_less (by repeat (first | exact e_ll.rf | refine e_ll_c ?_ | refine e_ll_x ?_)) e
  · refine ⟨M1, ?_, ?_, hI.1⟩
    · have en : M1 1 0 = iI (K 310) := by rw [hI.1 1 (by omega)]; exact H.1.1
      rw [r42_4]
      simp (disch := first | assumption | exact e_nk_i _ | exact e_nk_n | exact e_nk_r _ | exact e_bo_0 | exact e_bo_1 | exact e_bo_b _ | omega) only [e_cl_v, e_cl_x, e_add_0, e_add_s, Option.toList_some, Option.toList_none, List.cons_append, List.nil_append, iI_add, iI_sub, iI_mul, iI_lt, iI_eq, iI_le, r42_5, r42_6, r42_9, r42_51, en]
      rw [if_neg (by omega)]
    · have := hI.2
      rw [hs1 _ hn.1 (Int.le_refl _)] at this
      exact this
theorem m_fillN {v : Int32} (ha : e_isI a n) : ∃ M2 : e_MI, e_lim L xs d 163 0 [some (.ref a), some (.int v), none] [] (e_hp M V W) = some (.inl none, e_hp M2 V W, 0, 0) ∧ (∀ i : Nat, i < n → M2 a i = v) ∧ ∀ q, q ≠ a → M2 q = M q := by
  have hn := e_nI_lt a
  rw [ha.n] at hn
  have hA := ha.A
  have hnA := ha.n
  have key := G_lp (i := 0) (n := (n : Int)) (I := fun i M1 => (∀ q, q ≠ a → M1 q = M q) ∧ ∀ k : Nat, (k : Int) < i → M1 a k = v) (P := fun i M1 => ∃ M2 : e_MI, e_lim L xs d 163 2 [some (.ref a), some (.int v), some (.int (iI i))] [] (e_hp M1 V W) = some (.inl none, e_hp M2 V W, 0, 0) ∧ (∀ i : Nat, i < n → M2 a i = v) ∧ ∀ q, q ≠ a → M2 q = M q) (fun j M1 x y hI hc => ?_) (fun M1 hI => ?_) (by omega) M ⟨fun _ _ => rfl, fun k hk => by omega⟩
  · obtain ⟨M2, e, r⟩ := key
    refine ⟨M2, ?_, r⟩
    rw [← e]
    simp (disch := first | assumption | exact e_nk_i _ | exact e_nk_n | exact e_nk_r _ | exact e_bo_0 | exact e_bo_1 | exact e_bo_b _ | omega) only [e_cl_v, e_cl_x, e_add_0, e_add_s, Option.toList_some, Option.toList_none, List.cons_append, List.nil_append, iI_add, iI_sub, iI_mul, iI_lt, iI_eq, iI_le, r163_0, r163_1]
  · obtain ⟨M2, e, r⟩ := hc (e_u M1 a (upd (M1 a) j.toNat v)) ⟨fun q z => by rw [e_u_n _ _ z]; exact hI.1 q z, fun k hk => by
      rw [e_u_s]
      unfold upd
      split
      · rfl
      · exact hI.2 k (by omega)⟩
    refine ⟨M2, ?_, r⟩
    rw [← e, r163_2]
    simp (disch := first | assumption | exact e_nk_i _ | exact e_nk_n | exact e_nk_r _ | exact e_bo_0 | exact e_bo_1 | exact e_bo_b _ | omega) only [e_cl_v, e_cl_x, e_add_0, e_add_s, Option.toList_some, Option.toList_none, List.cons_append, List.nil_append, iI_add, iI_sub, iI_mul, iI_lt, iI_eq, iI_le, r163_3, r163_4, r163_5, r163_8, r163_9, r163_10, r163_11, r163_12, r163_15, hnA, iI_vin, iI_nat, if_true]
    rw [if_pos y]
  · refine ⟨M1, ?_, fun i hi => hI.2 i (by omega), hI.1⟩
    rw [r163_2]
    simp (disch := first | assumption | exact e_nk_i _ | exact e_nk_n | exact e_nk_r _ | exact e_bo_0 | exact e_bo_1 | exact e_bo_b _ | omega) only [e_cl_v, e_cl_x, e_add_0, e_add_s, Option.toList_some, Option.toList_none, List.cons_append, List.nil_append, iI_add, iI_sub, iI_mul, iI_lt, iI_eq, iI_le, r163_3, r163_4, r163_5, r163_18, hnA]
    rw [if_neg (by omega)]
end Ec21
