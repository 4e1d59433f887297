section El10
variable {L : Nat} {xs : Nat → Int32} {d : Nat} {M M2 M3 : e_MI} {V V2 : e_ML} {W : e_MD} {K K2 : e_St} {S : Int → e_St} {h : e_H} {c o w z m k q p i f n a b : Int} {τ : Int → Int}
/-! the law's own cells: what was drawn (184: its object, 185 to 198: its rows of numbers) -/
def LA (M : e_MI) (K : e_St) : Prop :=
  (M 184 16 = iI (K 310) ∧ M 184 17 = iI (aW K)) ∧ (∀ o, 0 ≤ o → o < K 310 → M 185 o.toNat = iI (K o) ∧ M 186 o.toNat = iI (K (8 + o)) ∧ M 187 o.toNat = iI (K (16 + o)) ∧ M 188 o.toNat = iI (K (24 + o)) ∧ M 189 o.toNat = iI (K (32 + o)) ∧ M 190 o.toNat = iI (K (40 + o))) ∧
  (∀ o w, 0 ≤ o → o < K 310 → 0 ≤ w → w < K (40 + o) → M 191 (4 * o + w).toNat = iI (K (48 + 4 * o + w)) ∧ M 192 (4 * o + w).toNat = iI (K (80 + 4 * o + w)) ∧ M 193 (4 * o + w).toNat = iI (K (112 + 4 * o + w))) ∧ ∀ i, 0 ≤ i → i < 64 → M 194 i.toNat = iI (K (144 + i))
/-- workers, rests -/
def LB (M : e_MI) (K : e_St) : Prop := M 184 18 = iI (K 311) ∧ (∀ i, 0 ≤ i → i < 3 → M 195 i.toNat = iI (K (238 + i))) ∧ ∀ k, 0 ≤ k → k < K 311 → M 196 k.toNat = iI (K (208 + k)) ∧ M 197 k.toNat = iI (K (218 + k)) ∧ M 198 k.toNat = iI (K (228 + k))
/-- rates -/
def LC (M : e_MI) (K : e_St) : Prop := M 184 19 = iI (K 309) ∧ M 184 20 = iI (K 308)
/-- what the law's questions leave as it was -/
def fL (M M2 : e_MI) : Prop := (∀ a, a < 184 → M2 a = M a) ∧ (∀ a, 184 < a → a < 199 → M2 a = M a) ∧ ∀ j, j = 16 ∨ j = 17 ∨ j = 18 ∨ j = 19 ∨ j = 20 → M2 184 j = M 184 j
theorem fL.rf (M : e_MI) : fL M M := ⟨fun _ _ => rfl, fun _ _ _ => rfl, fun _ _ => rfl⟩
theorem fL.t (h : fL M M2) (h2 : fL M2 M3) : fL M M3 := ⟨fun a x => by rw [h2.1 a x, h.1 a x], fun a x y => by rw [h2.2.1 a x y, h.2.1 a x y], fun j x => by rw [h2.2.2 j x, h.2.2 j x]⟩
theorem LA.of (H : LA M K) (h : fL M M2) : LA M2 K := by
  obtain ⟨⟨a1, a2⟩, a3, a4, a5⟩ := H
  refine ⟨⟨by rw [h.2.2 16 (by omega)]; exact a1, by rw [h.2.2 17 (by omega)]; exact a2⟩, fun o x y => ?_, fun o w x y z t => ?_, fun i x y => ?_⟩
  · rw [h.2.1 185 (by decide) (by decide), h.2.1 186 (by decide) (by decide), h.2.1 187 (by decide) (by decide), h.2.1 188 (by decide) (by decide), h.2.1 189 (by decide) (by decide), h.2.1 190 (by decide) (by decide)]
    exact a3 o x y
  · rw [h.2.1 191 (by decide) (by decide), h.2.1 192 (by decide) (by decide), h.2.1 193 (by decide) (by decide)]
    exact a4 o w x y z t
  · rw [h.2.1 194 (by decide) (by decide)]
    exact a5 i x y
theorem LB.of (H : LB M K) (h : fL M M2) : LB M2 K := by
  obtain ⟨a1, a2, a3⟩ := H
  refine ⟨by rw [h.2.2 18 (by omega)]; exact a1, fun i x y => ?_, fun k x y => ?_⟩
  · rw [h.2.1 195 (by decide) (by decide)]
    exact a2 i x y
  · rw [h.2.1 196 (by decide) (by decide), h.2.1 197 (by decide) (by decide), h.2.1 198 (by decide) (by decide)]
    exact a3 k x y
theorem LC.of (H : LC M K) (h : fL M M2) : LC M2 K := ⟨by rw [h.2.2 19 (by omega)]; exact H.1, by rw [h.2.2 20 (by omega)]; exact H.2⟩
theorem LA.nn (H : LA M K) : M 184 16 = iI (K 310) := H.1.1
theorem LA.ws (H : LA M K) : M 184 17 = iI (aW K) := H.1.2
theorem LA.kd (H : LA M K) (h0 : 0 ≤ o) (h1 : o < K 310) : M 185 o.toNat = iI (K o) := (H.2.1 o h0 h1).1
theorem LA.am (H : LA M K) (h0 : 0 ≤ o) (h1 : o < K 310) : M 186 o.toNat = iI (K (8 + o)) := (H.2.1 o h0 h1).2.1
theorem LA.re (H : LA M K) (h0 : 0 ≤ o) (h1 : o < K 310) : M 187 o.toNat = iI (K (16 + o)) := (H.2.1 o h0 h1).2.2.1
theorem LA.du (H : LA M K) (h0 : 0 ≤ o) (h1 : o < K 310) : M 188 o.toNat = iI (K (24 + o)) := (H.2.1 o h0 h1).2.2.2.1
theorem LA.we (H : LA M K) (h0 : 0 ≤ o) (h1 : o < K 310) : M 189 o.toNat = iI (K (32 + o)) := (H.2.1 o h0 h1).2.2.2.2.1
theorem LA.mn (H : LA M K) (h0 : 0 ≤ o) (h1 : o < K 310) : M 190 o.toNat = iI (K (40 + o)) := (H.2.1 o h0 h1).2.2.2.2.2
theorem LA.mc (H : LA M K) (h0 : 0 ≤ o) (h1 : o < K 310) (h2 : 0 ≤ w) (h3 : w < K (40 + o)) : M 191 (4 * o + w).toNat = iI (K (48 + 4 * o + w)) := (H.2.2.1 o w h0 h1 h2 h3).1
theorem LA.tm (H : LA M K) (h0 : 0 ≤ o) (h1 : o < K 310) (h2 : 0 ≤ w) (h3 : w < K (40 + o)) : M 192 (4 * o + w).toNat = iI (K (80 + 4 * o + w)) := (H.2.2.1 o w h0 h1 h2 h3).2.1
theorem LA.tl (H : LA M K) (h0 : 0 ≤ o) (h1 : o < K 310) (h2 : 0 ≤ w) (h3 : w < K (40 + o)) : M 193 (4 * o + w).toNat = iI (K (112 + 4 * o + w)) := (H.2.2.1 o w h0 h1 h2 h3).2.2
theorem LA.se (H : LA M K) (h0 : 0 ≤ i) (h1 : i < 64) : M 194 i.toNat = iI (K (144 + i)) := H.2.2.2 i h0 h1
theorem l_takes (H : LA M K) (hr : kR K) (ho : 0 ≤ o ∧ o < K 310) (hw : 0 ≤ w ∧ w < K (40 + o)) : e_lim L xs d 167 0 [some (.ref 184), some (.int (iI o)), some (.int (iI w))] [] (e_hp M V W) = some (.inl (some (.int (iI (tk K o w)))), e_hp M V W, 0, 0) := by
  have hn := hr.n
  have h4 := hr.wk (o := o) ho.1 (by omega)
  have e1 := H.am ho.1 ho.2
  have e2 := H.tm ho.1 ho.2 hw.1 hw.2
  simp (disch := first | assumption | exact e_nk_i _ | exact e_nk_n | exact e_nk_r _ | exact e_bo_0 | exact e_bo_1 | exact e_bo_b _ | omega) only [e_cl_v, e_cl_x, e_add_0, e_add_s, Option.toList_some, Option.toList_none, List.cons_append, List.nil_append, iI_add, iI_sub, iI_mul, iI_lt, iI_eq, iI_le, r167_0, r167_1, r167_4, r167_5, r167_6, r167_7, r167_10, r167_11, r167_12, r167_13, r167_14, r167_15, r167_16, r167_17, iI_vin, iI_nat, if_true, e1, e2]
  rfl
theorem l_set (H : LA M K) (h0 : 0 ≤ m ∧ m ≤ 3) (h1 : 0 ≤ a ∧ a ≤ 3) (h2 : 0 ≤ b ∧ b ≤ 3) : e_lim L xs d 168 0 [some (.ref 184), some (.int (iI m)), some (.int (iI a)), some (.int (iI b))] [] (e_hp M V W) = some (.inl (some (.int (iI (sT K m a b)))), e_hp M V W, 0, 0) := by
  have e1 := H.se (i := 16 * m + 4 * a + b) (by omega) (by omega)
  unfold sT
  by_cases hq : a = b
  · rw [if_pos hq]
    simp (disch := first | assumption | exact e_nk_i _ | exact e_nk_n | exact e_nk_r _ | exact e_bo_0 | exact e_bo_1 | exact e_bo_b _ | omega) only [e_cl_v, e_cl_x, e_add_0, e_add_s, Option.toList_some, Option.toList_none, List.cons_append, List.nil_append, iI_add, iI_sub, iI_mul, iI_lt, iI_eq, iI_le, r168_0, r168_1, r168_2, r168_5, r168_6, r168_9, r168_10, r168_13, r168_15, r168_16, r168_17, r168_18, r168_19, r168_20, r168_21, r168_22, r168_23, r168_24]
    rw [if_pos hq]
  · rw [if_neg hq]
    simp (disch := first | assumption | exact e_nk_i _ | exact e_nk_n | exact e_nk_r _ | exact e_bo_0 | exact e_bo_1 | exact e_bo_b _ | omega) only [e_cl_v, e_cl_x, e_add_0, e_add_s, Option.toList_some, Option.toList_none, List.cons_append, List.nil_append, iI_add, iI_sub, iI_mul, iI_lt, iI_eq, iI_le, r168_0, r168_1, r168_2, r168_5, r168_6, r168_9, r168_10, r168_13, r168_15, r168_16, r168_17, r168_18, r168_19, r168_20, r168_21, r168_22, r168_23, r168_24, iI_vin, iI_nat, if_true, e1]
    rw [if_neg hq, show 144 + (16 * m + 4 * a + b) = 144 + 16 * m + 4 * a + b by omega]
/-! the mixer -/
theorem u16 (x : Int32) : ∃ q : Int, (x.toUInt32 >>> ((iI 16).toUInt32 &&& Int32.toUInt32 31)).toInt32 = iI q ∧ 0 ≤ q ∧ q < 65536 := by
  have e0 : (iI 16).toUInt32 &&& Int32.toUInt32 31 = 16 := by decide
  rw [e0]
  generalize hu : x.toUInt32 >>> 16 = u
  have hn : u.toNat < 65536 := by
    rw [← hu, UInt32.toNat_shiftRight]
    have : (16 : UInt32).toNat % 32 = 16 := by decide
    rw [this, Nat.shiftRight_eq_div_pow]
    have := x.toUInt32.toNat_lt
    omega
  refine ⟨(u.toInt32).toInt, ?_, ?_⟩
  · unfold iI
    rw [Int32.ofInt_toInt]
  · have e1 : u.toInt32.toInt = (u.toNat : Int) := by
      show u.toBitVec.toInt = _
      rw [BitVec.toInt_eq_toNat_of_lt (by show 2 * u.toBitVec.toNat < _; have : u.toBitVec.toNat = u.toNat := rfl; omega)]
      rfl
    omega
/-- what a drawn number leaves as it was -/
def fX (M M2 : e_MI) : Prop := (∀ a, a ≠ 184 → M2 a = M a) ∧ ∀ j, j ≠ 0 → M2 184 j = M 184 j
theorem fX.t (h : fX M M2) (h2 : fX M2 M3) : fX M M3 := ⟨fun a x => by rw [h2.1 a x, h.1 a x], fun j x => by rw [h2.2 j x, h.2 j x]⟩
theorem fX.l (h : fX M M2) : fL M M2 := ⟨fun a x => h.1 a (by omega), fun a x y => h.1 a (by omega), fun j x => h.2 j (by omega)⟩
theorem l_next (hn : 0 < n ∧ n ≤ 100000) : ∃ (M2 : e_MI) (z : Int), e_lim L xs d 165 0 [some (.ref 184), some (.int (iI n))] [] (e_hp M V W) = some (.inl (some (.int (iI z))), e_hp M2 V W, 0, 0) ∧ (0 ≤ z ∧ z < n) ∧ fX M M2 := by
  obtain ⟨q, e1, h0, h1⟩ := u16 (M 184 0 * iI 1103515245 + iI 12345)
  have hne := iI_ne (b := n) hn.1 (by omega)
  have e2 := iI_rem (a := q) (b := n) h0 (by omega) hn.1 (by omega)
  refine ⟨e_u M 184 (upd (M 184) 0 (M 184 0 * iI 1103515245 + iI 12345)), q % n, ?_, ⟨Int.emod_nonneg _ (by omega), Int.emod_lt_of_pos _ hn.1⟩, fun a x => e_u_n _ _ x, fun j x => by rw [e_u_s, upd_n _ _ x]⟩
  simp only [r165_0, r165_1, r165_2, r165_5, r165_7, r165_8, r165_11, r165_12, r165_15, r165_16, r165_19, r165_21, r165_22, r165_23, r165_24, e_u_s, upd_s, e1, e2, hne, ne_eq, not_false_eq_true]
/-- all numbers stirred into one: some number -/
theorem l_stirred (hL : L ≤ 260) : ∃ v : Int32, e_lim L xs d 187 0 [some (.ref e_SCR), none, none, none, none, none] [] h = some (.inl (some (.int v)), h, 0, 0) := by
  have key := G_lpG (T := Int32 × Option Value) (i := 0) (n := (L : Int)) (I := fun _ s => e_nk s.2 = true) (P := fun j s => ∃ v : Int32, e_lim L xs d 187 12 [some (.ref e_SCR), some (.int s.1), some (.ref e_SCR), some (.int (iI (L : Int))), some (.int (iI j)), s.2] [] h = some (.inl (some (.int v)), h, 0, 0)) (fun j s x y hI hc => ?_) (fun s hI => ?_) (by omega) (iI 59300, none) rfl
  · obtain ⟨v, e⟩ := key
    refine ⟨v, ?_⟩
    rw [← e]
    simp (disch := first | assumption | exact e_nk_i _ | exact e_nk_n | exact e_nk_r _ | exact e_bo_0 | exact e_bo_1 | exact e_bo_b _ | omega) only [e_cl_v, e_cl_x, e_add_0, e_add_s, Option.toList_some, Option.toList_none, List.cons_append, List.nil_append, iI_add, iI_sub, iI_mul, iI_lt, iI_eq, iI_le, r187_0, r187_3, r187_4, r187_5, r187_6, r187_7, r187_8, r187_9, r187_10]
  · obtain ⟨v, e⟩ := hc (((s.1 ^^^ xs j.toNat) * iI 1103515245 + iI 12345) ^^^ (((s.1 ^^^ xs j.toNat) * iI 1103515245 + iI 12345).toUInt32 >>> ((iI 15).toUInt32 &&& Int32.toUInt32 31)).toInt32, some (.int (xs j.toNat))) rfl
    refine ⟨v, ?_⟩
    rw [r187_12]
    simp (disch := first | assumption | exact e_nk_i _ | exact e_nk_n | exact e_nk_r _ | exact e_bo_0 | exact e_bo_1 | exact e_bo_b _ | omega) only [e_cl_v, e_cl_x, e_add_0, e_add_s, Option.toList_some, Option.toList_none, List.cons_append, List.nil_append, iI_add, iI_sub, iI_mul, iI_lt, iI_eq, iI_le, r187_14, r187_15, r187_18, r187_19, r187_21, r187_22, r187_24, r187_25, r187_27, r187_28, r187_30, r187_31, r187_34, r187_35, r187_36, r187_37, r187_38, r187_40, r187_41, r187_42, r187_43, r187_46]
    rw [if_pos (by omega)]
    exact e
  · rw [r187_12]
    simp (disch := first | assumption | exact e_nk_i _ | exact e_nk_n | exact e_nk_r _ | exact e_bo_0 | exact e_bo_1 | exact e_bo_b _ | omega) only [e_cl_v, e_cl_x, e_add_0, e_add_s, Option.toList_some, Option.toList_none, List.cons_append, List.nil_append, iI_add, iI_sub, iI_mul, iI_lt, iI_eq, iI_le, r187_14, r187_15, r187_49, r187_50]
    rw [if_neg (by omega)]
    exact ⟨_, rfl⟩
end El10
