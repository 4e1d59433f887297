section El41
variable {L : Nat} {xs : Nat → Int32} {d : Nat} {M M1 M2 M3 : e_MI} {V V1 V2 : e_ML} {W : e_MD} {K K2 : e_St} {S : Int → e_St} {h : e_H} {c o j w z m k q p i f b t n x its er u v : Int} {U : Int → Int} {s : Int × (Int → Int)} {a : Nat}
/-! the law -/
theorem l_law (hL : L ≤ 260) (H : DD M K c S) (h0 : K 310 = 0) (h17 : M 184 17 = iI 0) (h190 : ∀ o : Int, 0 ≤ o → o < 8 → M 190 o.toNat = iI 0) (h194 : ∀ i : Int, 0 ≤ i → i < 64 → M 194 i.toNat = iI (K (144 + i))) (Ht : TC M s er w U) (hs : s.1 = 0) : ∃ (M2 : e_MI) (V2 : e_ML), e_lim L xs 1000 e_LAW 7 [some (.ref e_SCR), none] [.ref 184] (e_hp M V W) = some (.inl (some (.int (iI 1))), e_hp M2 V2 W, 0, 0) := by
  obtain ⟨v, e0⟩ := l_stirred (L := L) (xs := xs) (d := 999) (h := e_hp M V W) hL
  generalize hN : e_u M 184 (upd (M 184) 0 v) = N
  have a1 : ∀ b, b ≠ 184 → N b = M b := fun b x => by rw [← hN, e_u_n _ _ x]
  have b1 : ∀ q : Nat, N 184 q = if q = 0 then v else M 184 q := fun q => by rw [← hN, e_u_s]; rfl
  have HN : DD N K c S := ⟨⟨H.1.1.of (fun a x y => a1 a (by omega)), H.1.2⟩, H.2.1, H.2.2.1, by rw [b1, if_neg (by decide)]; exact H.2.2.2⟩
  obtain ⟨M1, K1, c1, S1, e1, H1, k1, t1⟩ := l_isDrawn (L := L) (xs := xs) (d := 990) (V := V) (W := W) HN h0 (by rw [b1, if_neg (by decide)]; exact h17) (fun o x y => by rw [a1 190 (by decide)]; exact h190 o x y) (fun i x y => by rw [a1 194 (by decide)]; exact h194 i x y)
  obtain ⟨M2, e2, f2, -⟩ := l_isPlan (L := L) (xs := xs) (d := 992) (V := V) (W := W) H1
  have H2 := H1.of f2.l
  obtain ⟨M3, e3, H3, t3⟩ := l_isOne (L := L) (xs := xs) (d := 984) (V := V) (W := W) H2
  obtain ⟨M4, q, e4, r4, f4⟩ := l_next (L := L) (xs := xs) (d := 999) (V := V) (W := W) (M := M3) (n := 6) (by omega)
  have H4 := H3.of f4.l
  obtain ⟨M5, e5, q5, -, g5⟩ := x_plan (L := L) (xs := xs) (d := 992) (V := V) (W := W) H4.ck H4.g (q := q) (by unfold i32; omega)
  rw [if_pos (by omega)] at e5
  have hp : kG (pnK K1 q) ∧ eqL K1 (pnK K1 q) := ⟨kG_rt H4.g (plR_v H4.g.1 H4.g.2.1.1.1), eqL_rt⟩
  have H5 : CL M5 (pnK K1 q) (svC c1) (svS c1 S1 K1) := H4.ch (q5 (by omega)) (fun a x => g5 a (by omega)) hp.1 hp.2
  obtain ⟨M6, e6, f6, -⟩ := l_isPlan (L := L) (xs := xs) (d := 992) (V := V) (W := W) H5
  have H6 := H5.of f6.l
  obtain ⟨M7, e7, H7, t7⟩ := l_isWithout (L := L) (xs := xs) (d := 991) (V := V) (W := W) H6 (by rw [hp.2 310 (by omega)]; exact k1)
  have tp : fTp M M7 := fun a x y => by rw [t7 a x y, f6.fp a x y, g5 a (by omega), f4.pp.fp a x y, t3 a x y, f2.fp a x y, t1 a x y, a1 a (by omega)]
  obtain ⟨M8, V8, K8, c8, S8, e8, H8⟩ := l_isMoved (L := L) (xs := xs) (d := 991) (V := V) (W := W) H7 (Ht.of tp) hs
  obtain ⟨M9, K9, c9, S9, e9, H9⟩ := l_isLeast (L := L) (xs := xs) (d := 973) (V := V8) (W := W) H8
  obtain ⟨M10, e10, f10, -⟩ := l_isPlan (L := L) (xs := xs) (d := 992) (V := V8) (W := W) H9
  have h10 : ¬ (iI 1 = iI 0) := by decide
  have h1z : ¬ ((1 : Int) = 0) := by omega
  refine ⟨M10, V8, ?_⟩
  have e0 : e_lim L xs 999 187 0 [some (.ref e_SCR), none, none, none, none, none] [] (e_hp M V W) = some (.inl (some (.int v)), e_hp M V W, 0, 0) := e0
  have e1 : e_lim L xs 999 166 0 [some (.ref 184), none, none, none, none, none, none] [] (e_hp N V W) = some (.inl (some (.int (bI true))), e_hp M1 V W, 0, 0) := e1
  have e2 : e_lim L xs 999 176 0 [some (.ref 184), none, none, none, none, none, none] [] (e_hp M1 V W) = some (.inl (some (.int (bI true))), e_hp M2 V W, 0, 0) := e2
  have e3 : e_lim L xs 999 183 0 [some (.ref 184), none, none, none] [] (e_hp M2 V W) = some (.inl (some (.int (bI true))), e_hp M3 V W, 0, 0) := e3
  have e5 : e_lim L xs 999 112 0 [some (.ref 0), some (.int (iI q))] [] (e_hp M4 V W) = some (.inl (some (.int (bI (fiR K1 (plR K1 q) (aW K1))))), e_hp M5 V W, 0, 0) := e5
  have e6 : e_lim L xs 999 176 0 [some (.ref 184), none, none, none, none, none, none] [] (e_hp M5 V W) = some (.inl (some (.int (bI true))), e_hp M6 V W, 0, 0) := e6
  have e7 : e_lim L xs 999 186 0 [some (.ref 184), none, none, none, none, none] [] (e_hp M6 V W) = some (.inl (some (.int (bI true))), e_hp M7 V W, 0, 0) := e7
  have e8 : e_lim L xs 999 185 0 [some (.ref 184), none, none, none, none, none, none, none, none] [] (e_hp M7 V W) = some (.inl (some (.int (bI true))), e_hp M8 V8 W, 0, 0) := e8
  have e9 : e_lim L xs 999 180 0 [some (.ref 184), none] [] (e_hp M8 V8 W) = some (.inl (some (.int (bI true))), e_hp M9 V8 W, 0, 0) := e9
  have e10 : e_lim L xs 999 176 0 [some (.ref 184), none, none, none, none, none, none] [] (e_hp M9 V8 W) = some (.inl (some (.int (bI true))), e_hp M10 V8 W, 0, 0) := e10
  show e_lim L xs (999 + 1) 188 7 [some (.ref e_SCR), none] [.ref 184] (e_hp M V W) = _
  simp (disch := first | assumption | exact e_nk_i _ | exact e_nk_n | exact e_nk_r _ | exact e_bo_0 | exact e_bo_1 | exact e_bo_b _ | omega) only [e_cl_v, e_cl_x, e_add_0, e_add_s, Option.toList_some, Option.toList_none, List.cons_append, List.nil_append, iI_add, iI_sub, iI_mul, iI_lt, iI_eq, iI_le, r188_7, r188_8, r188_9, r188_10, r188_13, e0, hN]
  simp (disch := first | assumption | exact e_nk_i _ | exact e_nk_n | exact e_nk_r _ | exact e_bo_0 | exact e_bo_1 | exact e_bo_b _ | omega) only [e_cl_v, e_cl_x, e_add_0, e_add_s, Option.toList_some, Option.toList_none, List.cons_append, List.nil_append, iI_add, iI_sub, iI_mul, iI_lt, iI_eq, iI_le, r188_16, r188_17, r188_20, r188_23, r188_24, r188_27, r188_30, r188_31, r188_34, e1, e2, e3, bI_t, if_neg h10, if_neg h1z]
  simp (disch := first | assumption | exact e_nk_i _ | exact e_nk_n | exact e_nk_r _ | exact e_bo_0 | exact e_bo_1 | exact e_bo_b _ | omega) only [e_cl_v, e_cl_x, e_add_0, e_add_s, Option.toList_some, Option.toList_none, List.cons_append, List.nil_append, iI_add, iI_sub, iI_mul, iI_lt, iI_eq, iI_le, r188_39, r188_40, r188_43, r188_44, r188_46, r188_49, r188_52, r188_53, r188_54, r188_57, r188_60, r188_61, r188_64, r188_67, r188_68, r188_71, r188_74, r188_75, r188_78, r188_81, r188_82, r188_85, r188_88, r188_89, r188_92, r188_93, e4, e5, e6, e7, e8, e9, e10, bI_t, if_neg h10, if_neg h1z]
end El41
