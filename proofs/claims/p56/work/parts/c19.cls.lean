section Ec19
variable {L : Nat} {xs : Nat → Int32} {d : Nat} {M M2 M3 : e_MI} {V : e_ML} {W : e_MD} {K K2 : e_St} {h : e_H} {s s0 s1 t t2 a b2 n : Nat} {o j w z m k q p i f l b e mc tl v T x N : Int} {sc : Bool} {ρ ν μ χ β ε τ u : Int → Int}
/-! the class copies a shop -/
/-- as many cells as the shop's arrays have -/
def shL (i : Nat) : Nat := if i = 1 then 48 else if i = 2 then 96 else if i = 3 then 64 else if i = 4 then 30 else if i = 5 then 3 else if i = 6 then 2 else if i = 7 then 16 else if i = 8 then 3 else 48
theorem SH.cp (H : SH M s1 K) (hr : kR K) (ha : 0 ≤ aW K ∧ aW K ≤ 16) (h0 : ∀ j : Nat, j < 3 → M2 s0 j = M s1 j) (hi : ∀ i k : Nat, 1 ≤ i → i ≤ 9 → k < shL i → M2 (s0 + i) k = M (s1 + i) k) : SH M2 s0 K := by
  have hn := hr.n
  have hm := hr.rm
  refine ⟨⟨by rw [h0 0 (by omega)]; exact H.cn, by rw [h0 1 (by omega)]; exact H.cw, by rw [h0 2 (by omega)]; exact H.cr⟩, fun o j a b c e => ?_, fun o w j a b c e f g => ?_, fun i a b => ?_, fun k j a b c e => ?_, fun i a b => ?_, fun i a b => ?_, fun p a b => ?_, fun i a b => ?_, fun q p a b c e f => ?_⟩
  · rw [hi 1 _ (by omega) (by omega) (by show _ < 48; omega)]
    exact H.oc a b c e
  · have := hr.wk (o := o) a (by omega)
    rw [hi 2 _ (by omega) (by omega) (by show _ < 96; omega)]
    exact H.wc a b c e f g
  · rw [hi 3 _ (by omega) (by omega) (by show _ < 64; omega)]
    exact H.se a b
  · rw [hi 4 _ (by omega) (by omega) (by show _ < 30; omega)]
    exact H.re a b c e
  · rw [hi 5 _ (by omega) (by omega) (by show _ < 3; omega)]
    exact H.sf a b
  · rw [hi 6 _ (by omega) (by omega) (by show _ < 2; omega)]
    exact H.ra a b
  · rw [hi 7 _ (by omega) (by omega) (by show _ < 16; omega)]
    exact H.ro a b
  · rw [hi 8 _ (by omega) (by omega) (by show _ < 3; omega)]
    exact H.kp a b
  · rw [hi 9 _ (by omega) (by omega) (by show _ < 48; omega)]
    exact H.kr a b c e f
theorem s_copyFrom (hs0 : e_isS s0) (hs1 : e_isS s1) (hne : s0 + 9 < s1 ∨ s1 + 9 < s0) (H : SH M s1 K) (hr : kR K) (ha : 0 ≤ aW K ∧ aW K ≤ 16) : ∃ M2 : e_MI, e_lim L xs (d + 2) 26 0 [some (.ref s0), some (.ref s1)] [] (e_hp M V W) = some (.inl none, e_hp M2 V W, 0, 0) ∧ SH M2 s0 K ∧ ∀ a, a < s0 ∨ s0 + 9 < a → M2 a = M a := by
  obtain ⟨g1, c1, q1⟩ := m_copyN (L := L) (xs := xs) (d := d) (V := V) (W := W) (M := (e_u (e_u (e_u M s0 (upd (M s0) 0 (M s1 0))) s0 (upd (upd (M s0) 0 (M s1 0)) 1 (M s1 1))) s0 (upd (upd (upd (M s0) 0 (M s1 0)) 1 (M s1 1)) 2 (M s1 2)))) hs1.i1 hs0.i1
  generalize hM1 : (e_u (e_u (e_u M s0 (upd (M s0) 0 (M s1 0))) s0 (upd (upd (M s0) 0 (M s1 0)) 1 (M s1 1))) s0 (upd (upd (upd (M s0) 0 (M s1 0)) 1 (M s1 1)) 2 (M s1 2))) = M1 at c1 q1
  obtain ⟨g2, c2, q2⟩ := m_copyN (L := L) (xs := xs) (d := d) (V := V) (W := W) (M := e_u M1 (s0 + 1) g1) hs1.i2 hs0.i2
  obtain ⟨g3, c3, q3⟩ := m_copyN (L := L) (xs := xs) (d := d) (V := V) (W := W) (M := e_u (e_u M1 (s0 + 1) g1) (s0 + 2) g2) hs1.i3 hs0.i3
  obtain ⟨g4, c4, q4⟩ := m_copyN (L := L) (xs := xs) (d := d) (V := V) (W := W) (M := e_u (e_u (e_u M1 (s0 + 1) g1) (s0 + 2) g2) (s0 + 3) g3) hs1.i4 hs0.i4
  obtain ⟨g5, c5, q5⟩ := m_copyN (L := L) (xs := xs) (d := d) (V := V) (W := W) (M := e_u (e_u (e_u (e_u M1 (s0 + 1) g1) (s0 + 2) g2) (s0 + 3) g3) (s0 + 4) g4) hs1.i5 hs0.i5
  obtain ⟨g6, c6, q6⟩ := m_copyN (L := L) (xs := xs) (d := d) (V := V) (W := W) (M := e_u (e_u (e_u (e_u (e_u M1 (s0 + 1) g1) (s0 + 2) g2) (s0 + 3) g3) (s0 + 4) g4) (s0 + 5) g5) hs1.i6 hs0.i6
  obtain ⟨g7, c7, q7⟩ := m_copyN (L := L) (xs := xs) (d := d) (V := V) (W := W) (M := e_u (e_u (e_u (e_u (e_u (e_u M1 (s0 + 1) g1) (s0 + 2) g2) (s0 + 3) g3) (s0 + 4) g4) (s0 + 5) g5) (s0 + 6) g6) hs1.i7 hs0.i7
  obtain ⟨g8, c8, q8⟩ := m_copyN (L := L) (xs := xs) (d := d) (V := V) (W := W) (M := e_u (e_u (e_u (e_u (e_u (e_u (e_u M1 (s0 + 1) g1) (s0 + 2) g2) (s0 + 3) g3) (s0 + 4) g4) (s0 + 5) g5) (s0 + 6) g6) (s0 + 7) g7) hs1.i8 hs0.i8
  obtain ⟨g9, c9, q9⟩ := m_copyN (L := L) (xs := xs) (d := d) (V := V) (W := W) (M := e_u (e_u (e_u (e_u (e_u (e_u (e_u (e_u M1 (s0 + 1) g1) (s0 + 2) g2) (s0 + 3) g3) (s0 + 4) g4) (s0 + 5) g5) (s0 + 6) g6) (s0 + 7) g7) (s0 + 8) g8) hs1.i9 hs0.i9
  have hf : ∀ a, a ≠ s0 → M1 a = M a := fun a hz => by rw [← hM1, e_u_n _ _ hz, e_u_n _ _ hz, e_u_n _ _ hz]
  have hz : ∀ j : Nat, j < 3 → M1 s0 j = M s1 j := fun j hj => by
    rw [← hM1, e_u_s]
    unfold upd
    rcases (show j = 0 ∨ j = 1 ∨ j = 2 by omega) with r | r | r <;> subst r <;> rfl
  refine ⟨e_u (e_u (e_u (e_u (e_u (e_u (e_u (e_u (e_u M1 (s0 + 1) g1) (s0 + 2) g2) (s0 + 3) g3) (s0 + 4) g4) (s0 + 5) g5) (s0 + 6) g6) (s0 + 7) g7) (s0 + 8) g8) (s0 + 9) g9, ?_, ?_, fun a hz2 => ?_⟩
  · simp (disch := first | assumption | exact e_nk_i _ | exact e_nk_n | exact e_nk_r _ | exact e_bo_0 | exact e_bo_1 | exact e_bo_b _ | omega) only [e_cl_v, e_cl_x, e_add_0, e_add_s, Option.toList_some, Option.toList_none, List.cons_append, List.nil_append, iI_add, iI_sub, iI_mul, iI_lt, iI_eq, iI_le, r26_0, r26_1, r26_2, r26_5, r26_8, r26_9, r26_10, r26_13, r26_16, r26_17, r26_18, r26_21, r26_24, r26_25, r26_28, r26_29, r26_32, r26_35, r26_36, r26_39, r26_40, r26_43, r26_46, r26_47, r26_50, r26_51, r26_54, r26_57, r26_58, r26_61, r26_62, r26_65, r26_68, r26_69, r26_72, r26_73, r26_76, r26_79, r26_80, r26_83, r26_84, r26_87, r26_90, r26_91, r26_94, r26_95, r26_98, r26_101, r26_102, r26_105, r26_106, r26_109, r26_112, r26_113, r26_116, r26_117, r26_120, r26_123, e_u_n, e_u_s, hM1, c1, c2, c3, c4, c5, c6, c7, c8, c9]
  · refine H.cp hr ha (fun j hj => ?_) (fun i k h1 h2 h3 => ?_)
    · simp (disch := omega) only [e_u_n, e_u_s]
      exact hz j hj
    · simp (disch := omega) only [e_u_n] at q1 q2 q3 q4 q5 q6 q7 q8 q9
      rcases (show i = 1 ∨ i = 2 ∨ i = 3 ∨ i = 4 ∨ i = 5 ∨ i = 6 ∨ i = 7 ∨ i = 8 ∨ i = 9 by omega) with r | r | r | r | r | r | r | r | r <;> subst r <;> simp (disch := omega) only [e_u_n, e_u_s]
      · rw [q1 k h3, hf _ (by omega)]
      · rw [q2 k h3, hf _ (by omega)]
      · rw [q3 k h3, hf _ (by omega)]
      · rw [q4 k h3, hf _ (by omega)]
      · rw [q5 k h3, hf _ (by omega)]
      · rw [q6 k h3, hf _ (by omega)]
      · rw [q7 k h3, hf _ (by omega)]
      · rw [q8 k h3, hf _ (by omega)]
      · rw [q9 k h3, hf _ (by omega)]
  · simp (disch := omega) only [e_u_n]
    exact hf a (by omega)
end Ec19
