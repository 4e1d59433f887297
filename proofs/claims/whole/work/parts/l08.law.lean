/-! one turn of the law keeps what holds between two calls -/
section El8
variable {L : Nat} {xs : Nat → Int32} {d : Nat} {M M2 M3 : e_MI} {V V2 : e_ML} {W W2 : e_MD} {K K2 : e_St} {S : Int → e_St} {c cd i er w : Int} {s : Int × (Int → Int)} {U : Int → Int} {r : Option e_R} {an : Int32}
def LI (M : e_MI) : Prop := ∃ (K : e_St) (c : Int) (S : Int → e_St) (s : Int × (Int → Int)) (er w : Int) (U : Int → Int), RK M K c S ∧ CK M K c S ∧ TC M s er w U ∧ TP M s er w U
def LSx (L : Nat) (xs : Nat → Int32) (i : Int) (pc : Nat) (M : e_MI) (V : e_ML) (W : e_MD) : Prop := ∃ (M2 : e_MI) (V2 : e_ML) (W2 : e_MD) (a b : Nat), (a ≤ 1 ∧ b ≤ 6) ∧ LI M2 ∧ ∀ (x : Option Value ⊕ Nat) (h3 : e_H) (a3 b3 : Nat), e_lim L xs 1000 331 3141 [some (.ref e_SCR), some (.ref 0), some (.ref 184), some (.ref 202), some (.ref 203), some (.int (iI i)), none, none, none] [] (e_hp M2 V2 W2) = some (x, h3, a3, b3) → e_lim L xs 1000 331 pc [some (.ref e_SCR), some (.ref 0), some (.ref 184), some (.ref 202), some (.ref 203), some (.int (iI i)), none, none, none] [] (e_hp M V W) = some (x, h3, a + a3, b + b3)
theorem RK.fr (H : RK M K c S) (hf : ∀ a, 183 < a → M2 a = M a) : RK M2 K c S := H.of (hf 185 (by omega)) (hf 186 (by omega)) (by rw [hf 184 (by omega)]) (H.s.of fun a x y => hf a (by omega))
theorem TP.fr (H : TP M s er w U) (hf : ∀ a, 183 < a → M2 a = M a) : TP M2 s er w U := by
  unfold TP
  rw [hf 184 (by omega), hf 199 (by omega), hf 201 (by omega)]
  exact H
theorem TP.pp (H : TP M s er w U) (hq : frP M M2) : TP M2 s er w U := by
  obtain ⟨a1, ⟨a2, a3⟩, a4, a5, a6⟩ := hq
  unfold TP
  rw [a2, a3, a4, a5, a6]
  exact H
theorem CK.m (H : CK M K c S) (hf : ∀ a, a < 184 → M2 a = M a) : CK M2 K c S := H.of fun a x y => hf a (by omega)
theorem TC.m (H : TC M s er w U) (hf : ∀ a, a < 184 → M2 a = M a) : TC M2 s er w U := H.of fun a x y => hf a (by omega)
theorem AQ.li (hA : AQ r M V W K c S cd an) (hC : CK M K c S) (hT : TC M s er w U) (hP : TP M s er w U) : ∃ (M2 : e_MI) (z : Int32), r = some (.inl (some (.int z)), e_hp M2 V W, 0, 0) ∧ LI M2 ∧ M2 184 0 = iI cd ∧ (cd = 0 → z = an) := by
  obtain ⟨M2, z, e, hR, hq, h0, hz⟩ := hA
  exact ⟨M2, z, e, ⟨K, c, S, s, er, w, U, hR, hC.m hq.1, hT.m hq.1, hP.pp hq.p⟩, h0, hz⟩
theorem AC.li (hA : AC r M V W K c S K2 cd an) (hCk : cd = 0 → CK M K2 (svC c) (svS c S K)) (hCb : cd ≠ 0 → CK M K c S) (hT : TC M s er w U) (hP : TP M s er w U) : ∃ (M2 : e_MI) (z : Int32), r = some (.inl (some (.int z)), e_hp M2 V W, 0, 0) ∧ LI M2 ∧ M2 184 0 = iI cd ∧ (cd = 0 → z = an) := by
  obtain ⟨M2, z, e, hq, h0, hk, hb⟩ := hA
  by_cases hc : cd = 0
  · exact ⟨M2, z, e, ⟨K2, svC c, svS c S K, s, er, w, U, (hk hc).2, (hCk hc).m hq.1, hT.m hq.1, hP.pp hq⟩, h0, fun h => (hk h).1⟩
  · exact ⟨M2, z, e, ⟨K, c, S, s, er, w, U, hb hc, (hCb hc).m hq.1, hT.m hq.1, hP.pp hq⟩, h0, fun h => absurd h hc⟩
theorem AC.kg (hA : AC r M V W K c S K2 cd an) (hc : cd = 0) : kG K2 := by
  obtain ⟨M2, z, e, hq, h0, hk, hb⟩ := hA
  exact (hk hc).2.g
theorem out_0 (V : e_ML) (y : Int64) : e_u V 202 (vp_updL (V 202) 0 y) 202 0 = y := by
  rw [e_u_s]
  rfl
theorem out_1 (W : e_MD) (y : UInt64) : e_u W 203 (vf_upd (W 203) 0 y) 203 0 = y := by
  rw [e_u_s]
  rfl
theorem ls0 (H : LI M) (h0 : 0 ≤ i) (h1 : i + 5 < (L : Int)) (hL : L ≤ 3072) : LSx L xs i 272 M V W := by
  obtain ⟨K, c, S, s, er, w, U, hR, hC, hT, hP⟩ := H
  obtain ⟨p1, e1, i1⟩ := iI_of (xs (i + 1).toNat)
  obtain ⟨p2, e2, i2⟩ := iI_of (xs (i + 2).toNat)
  obtain ⟨p3, e3, i3⟩ := iI_of (xs (i + 3).toNat)
  obtain ⟨p4, e4, i4⟩ := iI_of (xs (i + 4).toNat)
  obtain ⟨p5, e5, i5⟩ := iI_of (xs (i + 5).toNat)
  have hG := fun (h : cdOr K p1 p2 p3 p4 p5 = 0) => (rf_order (L := L) (xs := xs) (d := 997) (M := M) (V := V) (W := W) hR i1 i2 i3 i4 i5).kg h
  obtain ⟨M1, hx, hok, hbad, hf⟩ := x_order (L := L) (xs := xs) (d := 991) (M := M) (V := V) (W := W) hC hR.g i1 i2 i3 i4 i5 (fun q1 q2 => ⟨(coK_sp hR.r hR.g.2.2.1 hR.g.2.2.2.2 q2 ⟨by omega, by omega, by omega, by omega, by omega⟩).1, hG (by ((unfold cdOr coA); first | (rw [if_pos q1, if_pos q2]) | ((repeat' split) <;> first | rfl | (exfalso; omega))))⟩)
  have hR1 := hR.fr (fun a q => hf a (by omega))
  have hP1 := hP.fr (fun a q => hf a (by omega))
  have hT1 := hT.of (fun a q r => hf a (by omega))
  have hA := fun (V : e_ML) (W : e_MD) => (rf_order (L := L) (xs := xs) (d := 997) (M := M1) (V := V) (W := W) hR1 i1 i2 i3 i4 i5)
  by_cases c1 : ((0 ≤ p1 ∧ p1 ≤ 3) ∧ (1 ≤ p2 ∧ p2 ≤ 9)) ∧ ((0 ≤ p3 ∧ p3 ≤ 200) ∧ (0 ≤ p4 ∧ p4 ≤ 500)) ∧ (1 ≤ p5 ∧ p5 ≤ 9)
  · rw [if_pos c1] at hx
    by_cases c2 : K 310 < 8
    · rw [if_pos c2] at hx
      have hcd : cdOr K p1 p2 p3 p4 p5 = 0 := by ((unfold cdOr coA); first | (rw [if_pos c1, if_pos c2]) | ((repeat' split) <;> first | rfl | (exfalso; omega)))
      obtain ⟨M2, z, em, hI, hk, hz⟩ := (hA (e_u V 202 (vp_updL (V 202) 0 (Int32.toInt64 (iI (K 310))))) W).li (fun _ => hok ⟨c1, c2⟩) (fun h => absurd hcd h) hT1 hP1
      exact ⟨M2, _, _, 0, 0, ⟨by omega, by omega⟩, hI, fun x h3 a3 b3 hr => lc0 (d := 998) (k := 0) h0 h1 hL (by rw [e1, e2, e3, e4, e5]; exact wo_order (d := 998) hx) (by rw [e1, e2, e3, e4, e5]; exact em) (hk.trans (congrArg iI hcd)) ⟨by omega, by omega⟩ (fun _ => by rw [out_0, hz hcd]; first | done | rfl) hr⟩
    · rw [if_neg c2] at hx
      have hcd : cdOr K p1 p2 p3 p4 p5 = 2 := by ((unfold cdOr coA); first | (rw [if_pos c1, if_neg c2]) | ((repeat' split) <;> first | rfl | (exfalso; omega)))
      obtain ⟨M2, z, em, hI, hk, hz⟩ := (hA V W).li (fun h => absurd (hcd.symm.trans h) (by decide)) (fun _ => by rw [hbad (fun q => c2 q.2)]; exact hC) hT1 hP1
      exact ⟨M2, _, _, 1, 6, ⟨by omega, by omega⟩, hI, fun x h3 a3 b3 hr => lc0 (d := 998) (k := 2) h0 h1 hL (by rw [e1, e2, e3, e4, e5]; exact wb1_order (d := 998) hx) (by rw [e1, e2, e3, e4, e5]; exact em) (hk.trans (congrArg iI hcd)) ⟨by omega, by omega⟩ (fun q => absurd q (by decide)) hr⟩
  · rw [if_neg c1] at hx
    have hcd : cdOr K p1 p2 p3 p4 p5 = 1 := by ((unfold cdOr coA); first | (rw [if_neg c1]) | ((repeat' split) <;> first | rfl | (exfalso; omega)))
    obtain ⟨M2, z, em, hI, hk, hz⟩ := (hA V W).li (fun h => absurd (hcd.symm.trans h) (by decide)) (fun _ => by rw [hbad (fun q => c1 q.1)]; exact hC) hT1 hP1
    exact ⟨M2, _, _, 1, 6, ⟨by omega, by omega⟩, hI, fun x h3 a3 b3 hr => lc0 (d := 998) (k := 1) h0 h1 hL (by rw [e1, e2, e3, e4, e5]; exact wb0_order (d := 998) hx) (by rw [e1, e2, e3, e4, e5]; exact em) (hk.trans (congrArg iI hcd)) ⟨by omega, by omega⟩ (fun q => absurd q (by decide)) hr⟩
theorem ls1 (H : LI M) (h0 : 0 ≤ i) (h1 : i + 5 < (L : Int)) (hL : L ≤ 3072) : LSx L xs i 376 M V W := by
  obtain ⟨K, c, S, s, er, w, U, hR, hC, hT, hP⟩ := H
  obtain ⟨p1, e1, i1⟩ := iI_of (xs (i + 1).toNat)
  obtain ⟨p2, e2, i2⟩ := iI_of (xs (i + 2).toNat)
  obtain ⟨p3, e3, i3⟩ := iI_of (xs (i + 3).toNat)
  obtain ⟨p4, e4, i4⟩ := iI_of (xs (i + 4).toNat)
  have hG := fun (h : cdWk K p1 p2 p3 p4 = 0) => (rf_work (L := L) (xs := xs) (d := 997) (M := M) (V := V) (W := W) hR i1 i2 i3 i4).kg h
  obtain ⟨M1, hx, hok, hbad, hf⟩ := x_work (L := L) (xs := xs) (d := 991) (M := M) (V := V) (W := W) hC hR.g i1 i2 i3 i4 (fun q1 q2 q3 => hG (by ((unfold cdWk); first | (rw [if_pos q1, if_pos q2, if_pos q3]) | ((repeat' split) <;> first | rfl | (exfalso; omega)))))
  have hR1 := hR.fr (fun a q => hf a (by omega))
  have hP1 := hP.fr (fun a q => hf a (by omega))
  have hT1 := hT.of (fun a q r => hf a (by omega))
  have hA := fun (V : e_ML) (W : e_MD) => (rf_work (L := L) (xs := xs) (d := 997) (M := M1) (V := V) (W := W) hR1 i1 i2 i3 i4)
  by_cases c1 : 0 ≤ p1 ∧ p1 ≤ K 310 - 1
  · rw [if_pos c1] at hx
    by_cases c2 : (0 ≤ p2 ∧ p2 ≤ 3) ∧ (1 ≤ p3 ∧ p3 ≤ 9) ∧ (-1 ≤ p4 ∧ p4 ≤ 2)
    · rw [if_pos c2] at hx
      by_cases c3 : K (40 + p1) < 4 ∧ aW K < 16
      · rw [if_pos c3] at hx
        have hcd : cdWk K p1 p2 p3 p4 = 0 := by ((unfold cdWk); first | (rw [if_pos c1, if_pos c2, if_pos c3]) | ((repeat' split) <;> first | rfl | (exfalso; omega)))
        obtain ⟨M2, z, em, hI, hk, hz⟩ := (hA (e_u V 202 (vp_updL (V 202) 0 (Int32.toInt64 (iI (K (40 + p1) + 1))))) W).li (fun _ => hok ⟨c1, c2, c3⟩) (fun h => absurd hcd h) hT1 hP1
        exact ⟨M2, _, _, 0, 0, ⟨by omega, by omega⟩, hI, fun x h3 a3 b3 hr => lc1 (d := 998) (k := 0) h0 h1 hL (by rw [e1, e2, e3, e4]; exact wo_work (d := 998) hx) (by rw [e1, e2, e3, e4]; exact em) (hk.trans (congrArg iI hcd)) ⟨by omega, by omega⟩ (fun _ => by rw [out_0, hz hcd]; first | done | rfl) hr⟩
      · rw [if_neg c3] at hx
        have hcd : cdWk K p1 p2 p3 p4 = 3 := by ((unfold cdWk); first | (rw [if_pos c1, if_pos c2, if_neg c3]) | ((repeat' split) <;> first | rfl | (exfalso; omega)))
        obtain ⟨M2, z, em, hI, hk, hz⟩ := (hA V W).li (fun h => absurd (hcd.symm.trans h) (by decide)) (fun _ => by rw [hbad (fun q => c3 q.2.2)]; exact hC) hT1 hP1
        exact ⟨M2, _, _, 1, 6, ⟨by omega, by omega⟩, hI, fun x h3 a3 b3 hr => lc1 (d := 998) (k := 3) h0 h1 hL (by rw [e1, e2, e3, e4]; exact wb1_work (d := 998) hx) (by rw [e1, e2, e3, e4]; exact em) (hk.trans (congrArg iI hcd)) ⟨by omega, by omega⟩ (fun q => absurd q (by decide)) hr⟩
    · rw [if_neg c2] at hx
      have hcd : cdWk K p1 p2 p3 p4 = 2 := by ((unfold cdWk); first | (rw [if_pos c1, if_neg c2]) | ((repeat' split) <;> first | rfl | (exfalso; omega)))
      obtain ⟨M2, z, em, hI, hk, hz⟩ := (hA V W).li (fun h => absurd (hcd.symm.trans h) (by decide)) (fun _ => by rw [hbad (fun q => c2 q.2.1)]; exact hC) hT1 hP1
      exact ⟨M2, _, _, 1, 6, ⟨by omega, by omega⟩, hI, fun x h3 a3 b3 hr => lc1 (d := 998) (k := 2) h0 h1 hL (by rw [e1, e2, e3, e4]; exact wb0_work (d := 998) hx) (by rw [e1, e2, e3, e4]; exact em) (hk.trans (congrArg iI hcd)) ⟨by omega, by omega⟩ (fun q => absurd q (by decide)) hr⟩
  · rw [if_neg c1] at hx
    have hcd : cdWk K p1 p2 p3 p4 = 1 := by ((unfold cdWk); first | (rw [if_neg c1]) | ((repeat' split) <;> first | rfl | (exfalso; omega)))
    obtain ⟨M2, z, em, hI, hk, hz⟩ := (hA V W).li (fun h => absurd (hcd.symm.trans h) (by decide)) (fun _ => by rw [hbad (fun q => c1 q.1)]; exact hC) hT1 hP1
    exact ⟨M2, _, _, 1, 6, ⟨by omega, by omega⟩, hI, fun x h3 a3 b3 hr => lc1 (d := 998) (k := 1) h0 h1 hL (by rw [e1, e2, e3, e4]; exact wb2_work (d := 998) hx) (by rw [e1, e2, e3, e4]; exact em) (hk.trans (congrArg iI hcd)) ⟨by omega, by omega⟩ (fun q => absurd q (by decide)) hr⟩
theorem ls2 (H : LI M) (h0 : 0 ≤ i) (h1 : i + 5 < (L : Int)) (hL : L ≤ 3072) : LSx L xs i 468 M V W := by
  obtain ⟨K, c, S, s, er, w, U, hR, hC, hT, hP⟩ := H
  obtain ⟨p1, e1, i1⟩ := iI_of (xs (i + 1).toNat)
  have hG := fun (h : cdOn K p1 = 0) => (rf_drop (L := L) (xs := xs) (d := 997) (M := M) (V := V) (W := W) hR i1).kg h
  obtain ⟨M1, hx, hok, hbad, hf⟩ := x_drop (L := L) (xs := xs) (d := 991) (M := M) (V := V) (W := W) hC hR.g i1 (fun q1 => hG (by ((unfold cdOn); first | (rw [if_pos q1]) | ((repeat' split) <;> first | rfl | (exfalso; omega)))))
  have hR1 := hR.fr (fun a q => hf a (by omega))
  have hP1 := hP.fr (fun a q => hf a (by omega))
  have hT1 := hT.of (fun a q r => hf a (by omega))
  have hA := fun (V : e_ML) (W : e_MD) => (rf_drop (L := L) (xs := xs) (d := 997) (M := M1) (V := V) (W := W) hR1 i1)
  by_cases c1 : 0 ≤ p1 ∧ p1 ≤ K 310 - 1
  · rw [if_pos c1] at hx
    have hcd : cdOn K p1 = 0 := by ((unfold cdOn); first | (rw [if_pos c1]) | ((repeat' split) <;> first | rfl | (exfalso; omega)))
    obtain ⟨M2, z, em, hI, hk, hz⟩ := (hA (e_u V 202 (vp_updL (V 202) 0 (Int32.toInt64 (iI (K 310 - 1))))) W).li (fun _ => hok c1) (fun h => absurd hcd h) hT1 hP1
    exact ⟨M2, _, _, 0, 0, ⟨by omega, by omega⟩, hI, fun x h3 a3 b3 hr => lc2 (d := 998) (k := 0) h0 h1 hL (by rw [e1]; exact wo_drop (d := 998) hx) (by rw [e1]; exact em) (hk.trans (congrArg iI hcd)) ⟨by omega, by omega⟩ (fun _ => by rw [out_0, hz hcd]; first | done | rfl) hr⟩
  · rw [if_neg c1] at hx
    have hcd : cdOn K p1 = 1 := by ((unfold cdOn); first | (rw [if_neg c1]) | ((repeat' split) <;> first | rfl | (exfalso; omega)))
    obtain ⟨M2, z, em, hI, hk, hz⟩ := (hA V W).li (fun h => absurd (hcd.symm.trans h) (by decide)) (fun _ => by rw [hbad (fun q => c1 q)]; exact hC) hT1 hP1
    exact ⟨M2, _, _, 1, 6, ⟨by omega, by omega⟩, hI, fun x h3 a3 b3 hr => lc2 (d := 998) (k := 1) h0 h1 hL (by rw [e1]; exact wb2_drop (d := 998) hx) (by rw [e1]; exact em) (hk.trans (congrArg iI hcd)) ⟨by omega, by omega⟩ (fun q => absurd q (by decide)) hr⟩
theorem ls3 (H : LI M) (h0 : 0 ≤ i) (h1 : i + 5 < (L : Int)) (hL : L ≤ 3072) : LSx L xs i 524 M V W := by
  obtain ⟨K, c, S, s, er, w, U, hR, hC, hT, hP⟩ := H
  obtain ⟨p1, e1, i1⟩ := iI_of (xs (i + 1).toNat)
  obtain ⟨p2, e2, i2⟩ := iI_of (xs (i + 2).toNat)
  have hG := fun (h : cdSA K p1 p2 = 0) => (rf_setAmount (L := L) (xs := xs) (d := 997) (M := M) (V := V) (W := W) hR i1 i2).kg h
  obtain ⟨M1, hx, hok, hbad, hf⟩ := x_setAmount (L := L) (xs := xs) (d := 991) (M := M) (V := V) (W := W) hC hR.g i1 i2 (fun q1 => saK_sp hR.g (by omega) q1.2)
  have hR1 := hR.fr (fun a q => hf a (by omega))
  have hP1 := hP.fr (fun a q => hf a (by omega))
  have hT1 := hT.of (fun a q r => hf a (by omega))
  have hA := fun (V : e_ML) (W : e_MD) => (rf_setAmount (L := L) (xs := xs) (d := 997) (M := M1) (V := V) (W := W) hR1 i1 i2)
  by_cases c1 : 0 ≤ p1 ∧ p1 ≤ K 310 - 1
  · rw [if_pos c1] at hx
    by_cases c2 : 1 ≤ p2 ∧ p2 ≤ 9
    · rw [if_pos c2] at hx
      have hcd : cdSA K p1 p2 = 0 := by ((unfold cdSA); first | (rw [if_pos c1, if_pos c2]) | ((repeat' split) <;> first | rfl | (exfalso; omega)))
      obtain ⟨M2, z, em, hI, hk, hz⟩ := (hA (e_u V 202 (vp_updL (V 202) 0 (Int32.toInt64 (iI (K (8 + p1)))))) W).li (fun _ => hok ⟨c1, c2⟩) (fun h => absurd hcd h) hT1 hP1
      exact ⟨M2, _, _, 0, 0, ⟨by omega, by omega⟩, hI, fun x h3 a3 b3 hr => lc3 (d := 998) (k := 0) h0 h1 hL (by rw [e1, e2]; exact wo_setAmount (d := 998) hx) (by rw [e1, e2]; exact em) (hk.trans (congrArg iI hcd)) ⟨by omega, by omega⟩ (fun _ => by rw [out_0, hz hcd]; first | done | rfl) hr⟩
    · rw [if_neg c2] at hx
      have hcd : cdSA K p1 p2 = 2 := by ((unfold cdSA); first | (rw [if_pos c1, if_neg c2]) | ((repeat' split) <;> first | rfl | (exfalso; omega)))
      obtain ⟨M2, z, em, hI, hk, hz⟩ := (hA V W).li (fun h => absurd (hcd.symm.trans h) (by decide)) (fun _ => by rw [hbad (fun q => c2 q.2)]; exact hC) hT1 hP1
      exact ⟨M2, _, _, 1, 6, ⟨by omega, by omega⟩, hI, fun x h3 a3 b3 hr => lc3 (d := 998) (k := 2) h0 h1 hL (by rw [e1, e2]; exact wb0_setAmount (d := 998) hx) (by rw [e1, e2]; exact em) (hk.trans (congrArg iI hcd)) ⟨by omega, by omega⟩ (fun q => absurd q (by decide)) hr⟩
  · rw [if_neg c1] at hx
    have hcd : cdSA K p1 p2 = 1 := by ((unfold cdSA); first | (rw [if_neg c1]) | ((repeat' split) <;> first | rfl | (exfalso; omega)))
    obtain ⟨M2, z, em, hI, hk, hz⟩ := (hA V W).li (fun h => absurd (hcd.symm.trans h) (by decide)) (fun _ => by rw [hbad (fun q => c1 q.1)]; exact hC) hT1 hP1
    exact ⟨M2, _, _, 1, 6, ⟨by omega, by omega⟩, hI, fun x h3 a3 b3 hr => lc3 (d := 998) (k := 1) h0 h1 hL (by rw [e1, e2]; exact wb2_setAmount (d := 998) hx) (by rw [e1, e2]; exact em) (hk.trans (congrArg iI hcd)) ⟨by omega, by omega⟩ (fun q => absurd q (by decide)) hr⟩
theorem ls4 (H : LI M) (h0 : 0 ≤ i) (h1 : i + 5 < (L : Int)) (hL : L ≤ 3072) : LSx L xs i 592 M V W := by
  obtain ⟨K, c, S, s, er, w, U, hR, hC, hT, hP⟩ := H
  obtain ⟨p1, e1, i1⟩ := iI_of (xs (i + 1).toNat)
  obtain ⟨p2, e2, i2⟩ := iI_of (xs (i + 2).toNat)
  have hG := fun (h : cdCu K p1 p2 = 0) => (rf_cut (L := L) (xs := xs) (d := 997) (M := M) (V := V) (W := W) hR i1 i2).kg h
  obtain ⟨M1, hx, hok, hbad, hf⟩ := x_cut (L := L) (xs := xs) (d := 991) (M := M) (V := V) (W := W) hC hR.g i1 i2 (fun q1 q2 q3 => hG (by ((unfold cdCu); first | (rw [if_pos q1, if_pos q2, if_pos q3]) | ((repeat' split) <;> first | rfl | (exfalso; omega)))))
  have hR1 := hR.fr (fun a q => hf a (by omega))
  have hP1 := hP.fr (fun a q => hf a (by omega))
  have hT1 := hT.of (fun a q r => hf a (by omega))
  have hA := fun (V : e_ML) (W : e_MD) => (rf_cut (L := L) (xs := xs) (d := 997) (M := M1) (V := V) (W := W) hR1 i1 i2)
  by_cases c1 : 0 ≤ p1 ∧ p1 ≤ K 310 - 1
  · rw [if_pos c1] at hx
    by_cases c2 : 1 ≤ p2 ∧ p2 ≤ K (8 + p1) - 1
    · rw [if_pos c2] at hx
      by_cases c3 : K 310 < 8 ∧ aW K + K (40 + p1) ≤ 16
      · rw [if_pos c3] at hx
        have hcd : cdCu K p1 p2 = 0 := by ((unfold cdCu); first | (rw [if_pos c1, if_pos c2, if_pos c3]) | ((repeat' split) <;> first | rfl | (exfalso; omega)))
        obtain ⟨M2, z, em, hI, hk, hz⟩ := (hA (e_u V 202 (vp_updL (V 202) 0 (Int32.toInt64 (iI (K 310))))) W).li (fun _ => hok ⟨c1, c2, c3⟩) (fun h => absurd hcd h) hT1 hP1
        exact ⟨M2, _, _, 0, 0, ⟨by omega, by omega⟩, hI, fun x h3 a3 b3 hr => lc4 (d := 998) (k := 0) h0 h1 hL (by rw [e1, e2]; exact wo_cut (d := 998) hx) (by rw [e1, e2]; exact em) (hk.trans (congrArg iI hcd)) ⟨by omega, by omega⟩ (fun _ => by rw [out_0, hz hcd]; first | done | rfl) hr⟩
      · rw [if_neg c3] at hx
        have hcd : cdCu K p1 p2 = 3 := by ((unfold cdCu); first | (rw [if_pos c1, if_pos c2, if_neg c3]) | ((repeat' split) <;> first | rfl | (exfalso; omega)))
        obtain ⟨M2, z, em, hI, hk, hz⟩ := (hA V W).li (fun h => absurd (hcd.symm.trans h) (by decide)) (fun _ => by rw [hbad (fun q => c3 q.2.2)]; exact hC) hT1 hP1
        exact ⟨M2, _, _, 1, 6, ⟨by omega, by omega⟩, hI, fun x h3 a3 b3 hr => lc4 (d := 998) (k := 3) h0 h1 hL (by rw [e1, e2]; exact wb1_cut (d := 998) hx) (by rw [e1, e2]; exact em) (hk.trans (congrArg iI hcd)) ⟨by omega, by omega⟩ (fun q => absurd q (by decide)) hr⟩
    · rw [if_neg c2] at hx
      have hcd : cdCu K p1 p2 = 2 := by ((unfold cdCu); first | (rw [if_pos c1, if_neg c2]) | ((repeat' split) <;> first | rfl | (exfalso; omega)))
      obtain ⟨M2, z, em, hI, hk, hz⟩ := (hA V W).li (fun h => absurd (hcd.symm.trans h) (by decide)) (fun _ => by rw [hbad (fun q => c2 q.2.1)]; exact hC) hT1 hP1
      exact ⟨M2, _, _, 1, 6, ⟨by omega, by omega⟩, hI, fun x h3 a3 b3 hr => lc4 (d := 998) (k := 2) h0 h1 hL (by rw [e1, e2]; exact wb0_cut (d := 998) hx) (by rw [e1, e2]; exact em) (hk.trans (congrArg iI hcd)) ⟨by omega, by omega⟩ (fun q => absurd q (by decide)) hr⟩
  · rw [if_neg c1] at hx
    have hcd : cdCu K p1 p2 = 1 := by ((unfold cdCu); first | (rw [if_neg c1]) | ((repeat' split) <;> first | rfl | (exfalso; omega)))
    obtain ⟨M2, z, em, hI, hk, hz⟩ := (hA V W).li (fun h => absurd (hcd.symm.trans h) (by decide)) (fun _ => by rw [hbad (fun q => c1 q.1)]; exact hC) hT1 hP1
    exact ⟨M2, _, _, 1, 6, ⟨by omega, by omega⟩, hI, fun x h3 a3 b3 hr => lc4 (d := 998) (k := 1) h0 h1 hL (by rw [e1, e2]; exact wb2_cut (d := 998) hx) (by rw [e1, e2]; exact em) (hk.trans (congrArg iI hcd)) ⟨by omega, by omega⟩ (fun q => absurd q (by decide)) hr⟩
theorem ls5 (H : LI M) (h0 : 0 ≤ i) (h1 : i + 5 < (L : Int)) (hL : L ≤ 3072) : LSx L xs i 660 M V W := by
  obtain ⟨K, c, S, s, er, w, U, hR, hC, hT, hP⟩ := H
  obtain ⟨p1, e1, i1⟩ := iI_of (xs (i + 1).toNat)
  obtain ⟨p2, e2, i2⟩ := iI_of (xs (i + 2).toNat)
  have hx := x_orderOf (L := L) (xs := xs) (d := 995) (M := M) (V := V) (W := W) hC.sh hR.r i1 i2
  have hA := fun (V : e_ML) (W : e_MD) => (rf_orderOf (L := L) (xs := xs) (d := 997) (M := M) (V := V) (W := W) hR i1 i2).li hC hT hP
  by_cases c1 : 0 ≤ p1 ∧ p1 ≤ K 310 - 1
  · rw [if_pos c1] at hx
    by_cases c2 : 0 ≤ p2 ∧ p2 ≤ 6
    · rw [if_pos c2] at hx
      have hcd : cdOO K p1 p2 = 0 := by ((unfold cdOO); first | (rw [if_pos c1, if_pos c2]) | ((repeat' split) <;> first | rfl | (exfalso; omega)))
      obtain ⟨M2, z, em, hI, hk, hz⟩ := hA (e_u V 202 (vp_updL (V 202) 0 (Int32.toInt64 (iI (anOO K p1 p2))))) W
      exact ⟨M2, _, _, 0, 0, ⟨by omega, by omega⟩, hI, fun x h3 a3 b3 hr => lc5 (d := 998) (k := 0) h0 h1 hL (by rw [e1, e2]; exact wo_orderOf (d := 998) hx) (by rw [e1, e2]; exact em) (hk.trans (congrArg iI hcd)) ⟨by omega, by omega⟩ (fun _ => by rw [out_0, hz hcd]; first | done | rfl) hr⟩
    · rw [if_neg c2] at hx
      have hcd : cdOO K p1 p2 = 2 := by ((unfold cdOO); first | (rw [if_pos c1, if_neg c2]) | ((repeat' split) <;> first | rfl | (exfalso; omega)))
      obtain ⟨M2, z, em, hI, hk, hz⟩ := hA V W
      exact ⟨M2, _, _, 1, 6, ⟨by omega, by omega⟩, hI, fun x h3 a3 b3 hr => lc5 (d := 998) (k := 2) h0 h1 hL (by rw [e1, e2]; exact wb0_orderOf (d := 998) hx) (by rw [e1, e2]; exact em) (hk.trans (congrArg iI hcd)) ⟨by omega, by omega⟩ (fun q => absurd q (by decide)) hr⟩
  · rw [if_neg c1] at hx
    have hcd : cdOO K p1 p2 = 1 := by ((unfold cdOO); first | (rw [if_neg c1]) | ((repeat' split) <;> first | rfl | (exfalso; omega)))
    obtain ⟨M2, z, em, hI, hk, hz⟩ := hA V W
    exact ⟨M2, _, _, 1, 6, ⟨by omega, by omega⟩, hI, fun x h3 a3 b3 hr => lc5 (d := 998) (k := 1) h0 h1 hL (by rw [e1, e2]; exact wb2_orderOf (d := 998) hx) (by rw [e1, e2]; exact em) (hk.trans (congrArg iI hcd)) ⟨by omega, by omega⟩ (fun q => absurd q (by decide)) hr⟩
theorem ls6 (H : LI M) (h0 : 0 ≤ i) (h1 : i + 5 < (L : Int)) (hL : L ≤ 3072) : LSx L xs i 728 M V W := by
  obtain ⟨K, c, S, s, er, w, U, hR, hC, hT, hP⟩ := H
  obtain ⟨p1, e1, i1⟩ := iI_of (xs (i + 1).toNat)
  obtain ⟨p2, e2, i2⟩ := iI_of (xs (i + 2).toNat)
  obtain ⟨p3, e3, i3⟩ := iI_of (xs (i + 3).toNat)
  have hx := x_workOf (L := L) (xs := xs) (d := 995) (M := M) (V := V) (W := W) hC.sh hR.r i1 i2 i3
  have hA := fun (V : e_ML) (W : e_MD) => (rf_workOf (L := L) (xs := xs) (d := 996) (M := M) (V := V) (W := W) hR i1 i2 i3).li hC hT hP
  by_cases c1 : (0 ≤ p1 ∧ p1 ≤ K 310 - 1) ∧ 0 ≤ p2 ∧ p2 ≤ K (40 + p1) - 1
  · rw [if_pos c1] at hx
    by_cases c2 : 0 ≤ p3 ∧ p3 ≤ 3
    · rw [if_pos c2] at hx
      have hcd : cdWO K p1 p2 p3 = 0 := by ((unfold cdWO); first | (rw [if_pos c1, if_pos c2]) | ((repeat' split) <;> first | rfl | (exfalso; omega)))
      obtain ⟨M2, z, em, hI, hk, hz⟩ := hA (e_u V 202 (vp_updL (V 202) 0 (Int32.toInt64 (iI (anWO K p1 p2 p3))))) W
      exact ⟨M2, _, _, 0, 0, ⟨by omega, by omega⟩, hI, fun x h3 a3 b3 hr => lc6 (d := 998) (k := 0) h0 h1 hL (by rw [e1, e2, e3]; exact wo_workOf (d := 998) hx) (by rw [e1, e2, e3]; exact em) (hk.trans (congrArg iI hcd)) ⟨by omega, by omega⟩ (fun _ => by rw [out_0, hz hcd]; first | done | rfl) hr⟩
    · rw [if_neg c2] at hx
      have hcd : cdWO K p1 p2 p3 = 2 := by ((unfold cdWO); first | (rw [if_pos c1, if_neg c2]) | ((repeat' split) <;> first | rfl | (exfalso; omega)))
      obtain ⟨M2, z, em, hI, hk, hz⟩ := hA V W
      exact ⟨M2, _, _, 1, 6, ⟨by omega, by omega⟩, hI, fun x h3 a3 b3 hr => lc6 (d := 998) (k := 2) h0 h1 hL (by rw [e1, e2, e3]; exact wb0_workOf (d := 998) hx) (by rw [e1, e2, e3]; exact em) (hk.trans (congrArg iI hcd)) ⟨by omega, by omega⟩ (fun q => absurd q (by decide)) hr⟩
  · rw [if_neg c1] at hx
    have hcd : cdWO K p1 p2 p3 = 1 := by ((unfold cdWO); first | (rw [if_neg c1]) | ((repeat' split) <;> first | rfl | (exfalso; omega)))
    obtain ⟨M2, z, em, hI, hk, hz⟩ := hA V W
    exact ⟨M2, _, _, 1, 6, ⟨by omega, by omega⟩, hI, fun x h3 a3 b3 hr => lc6 (d := 998) (k := 1) h0 h1 hL (by rw [e1, e2, e3]; exact wb2_workOf (d := 998) hx) (by rw [e1, e2, e3]; exact em) (hk.trans (congrArg iI hcd)) ⟨by omega, by omega⟩ (fun q => absurd q (by decide)) hr⟩
theorem ls9 (H : LI M) (h0 : 0 ≤ i) (h1 : i + 5 < (L : Int)) (hL : L ≤ 3072) : LSx L xs i 834 M V W := by
  obtain ⟨K, c, S, s, er, w, U, hR, hC, hT, hP⟩ := H
  obtain ⟨p1, e1, i1⟩ := iI_of (xs (i + 1).toNat)
  obtain ⟨p2, e2, i2⟩ := iI_of (xs (i + 2).toNat)
  obtain ⟨p3, e3, i3⟩ := iI_of (xs (i + 3).toNat)
  obtain ⟨p4, e4, i4⟩ := iI_of (xs (i + 4).toNat)
  have hG := fun (h : cdSe p1 p2 p3 p4 = 0) => (rf_setting (L := L) (xs := xs) (d := 997) (M := M) (V := V) (W := W) hR i1 i2 i3 i4).kg h
  obtain ⟨M1, hx, hok, hbad, hf⟩ := x_setting (L := L) (xs := xs) (d := 991) (M := M) (V := V) (W := W) hC hR.g i1 i2 i3 i4 (fun q1 q2 => hG (by ((unfold cdSe); first | (rw [if_pos q1]) | ((repeat' split) <;> first | rfl | (exfalso; omega)))))
  have hR1 := hR.fr (fun a q => hf a (by omega))
  have hP1 := hP.fr (fun a q => hf a (by omega))
  have hT1 := hT.of (fun a q r => hf a (by omega))
  have hA := fun (V : e_ML) (W : e_MD) => (rf_setting (L := L) (xs := xs) (d := 997) (M := M1) (V := V) (W := W) hR1 i1 i2 i3 i4)
  by_cases c1 : ((0 ≤ p1 ∧ p1 ≤ 3) ∧ (0 ≤ p2 ∧ p2 ≤ 3) ∧ (0 ≤ p3 ∧ p3 ≤ 3)) ∧ ((0 ≤ p4 ∧ p4 ≤ 20) ∧ p2 ≠ p3)
  · rw [if_pos c1] at hx
    rw [show sT K p1 p2 p3 = K (144 + 16 * p1 + 4 * p2 + p3) from if_neg c1.2.2] at hx
    have hcd : cdSe p1 p2 p3 p4 = 0 := by ((unfold cdSe); first | (rw [if_pos c1]) | ((repeat' split) <;> first | rfl | (exfalso; omega)))
    obtain ⟨M2, z, em, hI, hk, hz⟩ := (hA (e_u V 202 (vp_updL (V 202) 0 (Int32.toInt64 (iI (K (144 + 16 * p1 + 4 * p2 + p3)))))) W).li (fun _ => hok c1) (fun h => absurd hcd h) hT1 hP1
    exact ⟨M2, _, _, 0, 0, ⟨by omega, by omega⟩, hI, fun x h3 a3 b3 hr => lc9 (d := 998) (k := 0) h0 h1 hL (by rw [e1, e2, e3, e4]; exact wo_setting (d := 998) hx) (by rw [e1, e2, e3, e4]; exact em) (hk.trans (congrArg iI hcd)) ⟨by omega, by omega⟩ (fun _ => by rw [out_0, hz hcd]; first | done | rfl) hr⟩
  · rw [if_neg c1] at hx
    have hcd : cdSe p1 p2 p3 p4 = 1 := by ((unfold cdSe); first | (rw [if_neg c1]) | ((repeat' split) <;> first | rfl | (exfalso; omega)))
    obtain ⟨M2, z, em, hI, hk, hz⟩ := (hA V W).li (fun h => absurd (hcd.symm.trans h) (by decide)) (fun _ => by rw [hbad (fun q => c1 q)]; exact hC) hT1 hP1
    exact ⟨M2, _, _, 1, 6, ⟨by omega, by omega⟩, hI, fun x h3 a3 b3 hr => lc9 (d := 998) (k := 1) h0 h1 hL (by rw [e1, e2, e3, e4]; exact wb0_setting (d := 998) hx) (by rw [e1, e2, e3, e4]; exact em) (hk.trans (congrArg iI hcd)) ⟨by omega, by omega⟩ (fun q => absurd q (by decide)) hr⟩
theorem ls10 (H : LI M) (h0 : 0 ≤ i) (h1 : i + 5 < (L : Int)) (hL : L ≤ 3072) : LSx L xs i 926 M V W := by
  obtain ⟨K, c, S, s, er, w, U, hR, hC, hT, hP⟩ := H
  obtain ⟨p1, e1, i1⟩ := iI_of (xs (i + 1).toNat)
  obtain ⟨p2, e2, i2⟩ := iI_of (xs (i + 2).toNat)
  obtain ⟨p3, e3, i3⟩ := iI_of (xs (i + 3).toNat)
  obtain ⟨M1, hx, hok, hbad, hf⟩ := x_rest (L := L) (xs := xs) (d := 991) (M := M) (V := V) (W := W) hC hR.g i1 i2 i3
  have hR1 := hR.fr (fun a q => hf a (by omega))
  have hP1 := hP.fr (fun a q => hf a (by omega))
  have hT1 := hT.of (fun a q r => hf a (by omega))
  have hA := fun (V : e_ML) (W : e_MD) => (rf_rest (L := L) (xs := xs) (d := 993) (M := M1) (V := V) (W := W) hR1 i1 i2 i3)
  by_cases c1 : (0 ≤ p1 ∧ p1 ≤ 3) ∧ (0 ≤ p2 ∧ p2 ≤ 1999) ∧ p2 + 1 ≤ p3 ∧ p3 ≤ 2000
  · rw [if_pos c1] at hx
    by_cases c2 : K 311 < 10
    · rw [if_pos c2] at hx
      have hcd : cdRe K p1 p2 p3 = 0 := by ((unfold cdRe); first | (rw [if_pos c1, if_pos c2]) | ((repeat' split) <;> first | rfl | (exfalso; omega)))
      obtain ⟨M2, z, em, hI, hk, hz⟩ := (hA (e_u V 202 (vp_updL (V 202) 0 (Int32.toInt64 (iI (anRe K p1 p2 p3))))) W).li (fun _ => hok ⟨c1, c2⟩) (fun h => absurd hcd h) hT1 hP1
      exact ⟨M2, _, _, 0, 0, ⟨by omega, by omega⟩, hI, fun x h3 a3 b3 hr => lc10 (d := 998) (k := 0) h0 h1 hL (by rw [e1, e2, e3]; exact wo_rest (d := 998) hx) (by rw [e1, e2, e3]; exact em) (hk.trans (congrArg iI hcd)) ⟨by omega, by omega⟩ (fun _ => by rw [out_0, hz hcd]; first | done | rfl) hr⟩
    · rw [if_neg c2] at hx
      have hcd : cdRe K p1 p2 p3 = 2 := by ((unfold cdRe); first | (rw [if_pos c1, if_neg c2]) | ((repeat' split) <;> first | rfl | (exfalso; omega)))
      obtain ⟨M2, z, em, hI, hk, hz⟩ := (hA V W).li (fun h => absurd (hcd.symm.trans h) (by decide)) (fun _ => by rw [hbad (fun q => c2 q.2)]; exact hC) hT1 hP1
      exact ⟨M2, _, _, 1, 6, ⟨by omega, by omega⟩, hI, fun x h3 a3 b3 hr => lc10 (d := 998) (k := 2) h0 h1 hL (by rw [e1, e2, e3]; exact wb1_rest (d := 998) hx) (by rw [e1, e2, e3]; exact em) (hk.trans (congrArg iI hcd)) ⟨by omega, by omega⟩ (fun q => absurd q (by decide)) hr⟩
  · rw [if_neg c1] at hx
    have hcd : cdRe K p1 p2 p3 = 1 := by ((unfold cdRe); first | (rw [if_neg c1]) | ((repeat' split) <;> first | rfl | (exfalso; omega)))
    obtain ⟨M2, z, em, hI, hk, hz⟩ := (hA V W).li (fun h => absurd (hcd.symm.trans h) (by decide)) (fun _ => by rw [hbad (fun q => c1 q.1)]; exact hC) hT1 hP1
    exact ⟨M2, _, _, 1, 6, ⟨by omega, by omega⟩, hI, fun x h3 a3 b3 hr => lc10 (d := 998) (k := 1) h0 h1 hL (by rw [e1, e2, e3]; exact wb0_rest (d := 998) hx) (by rw [e1, e2, e3]; exact em) (hk.trans (congrArg iI hcd)) ⟨by omega, by omega⟩ (fun q => absurd q (by decide)) hr⟩
theorem ls12 (H : LI M) (h0 : 0 ≤ i) (h1 : i + 5 < (L : Int)) (hL : L ≤ 3072) : LSx L xs i 1019 M V W := by
  obtain ⟨K, c, S, s, er, w, U, hR, hC, hT, hP⟩ := H
  obtain ⟨p1, e1, i1⟩ := iI_of (xs (i + 1).toNat)
  obtain ⟨p2, e2, i2⟩ := iI_of (xs (i + 2).toNat)
  have hG := fun (h : cdWs p1 p2 = 0) => (rf_workers (L := L) (xs := xs) (d := 998) (M := M) (V := V) (W := W) hR i1 i2).kg h
  obtain ⟨M1, hx, hok, hbad, hf⟩ := x_workers (L := L) (xs := xs) (d := 991) (M := M) (V := V) (W := W) hC hR.g i1 i2 (fun q1 => hG (by ((unfold cdWs); first | (rw [if_pos q1]) | ((repeat' split) <;> first | rfl | (exfalso; omega)))))
  have hR1 := hR.fr (fun a q => hf a (by omega))
  have hP1 := hP.fr (fun a q => hf a (by omega))
  have hT1 := hT.of (fun a q r => hf a (by omega))
  have hA := fun (V : e_ML) (W : e_MD) => (rf_workers (L := L) (xs := xs) (d := 998) (M := M1) (V := V) (W := W) hR1 i1 i2)
  by_cases c1 : (0 ≤ p1 ∧ p1 ≤ 2) ∧ 0 ≤ p2 ∧ p2 ≤ 4
  · rw [if_pos c1] at hx
    have hcd : cdWs p1 p2 = 0 := by ((unfold cdWs); first | (rw [if_pos c1]) | ((repeat' split) <;> first | rfl | (exfalso; omega)))
    obtain ⟨M2, z, em, hI, hk, hz⟩ := (hA (e_u V 202 (vp_updL (V 202) 0 (Int32.toInt64 (iI (K (238 + p1)))))) W).li (fun _ => hok c1) (fun h => absurd hcd h) hT1 hP1
    exact ⟨M2, _, _, 0, 0, ⟨by omega, by omega⟩, hI, fun x h3 a3 b3 hr => lc12 (d := 998) (k := 0) h0 h1 hL (by rw [e1, e2]; exact wo_workers (d := 998) hx) (by rw [e1, e2]; exact em) (hk.trans (congrArg iI hcd)) ⟨by omega, by omega⟩ (fun _ => by rw [out_0, hz hcd]; first | done | rfl) hr⟩
  · rw [if_neg c1] at hx
    have hcd : cdWs p1 p2 = 1 := by ((unfold cdWs); first | (rw [if_neg c1]) | ((repeat' split) <;> first | rfl | (exfalso; omega)))
    obtain ⟨M2, z, em, hI, hk, hz⟩ := (hA V W).li (fun h => absurd (hcd.symm.trans h) (by decide)) (fun _ => by rw [hbad (fun q => c1 q)]; exact hC) hT1 hP1
    exact ⟨M2, _, _, 1, 6, ⟨by omega, by omega⟩, hI, fun x h3 a3 b3 hr => lc12 (d := 998) (k := 1) h0 h1 hL (by rw [e1, e2]; exact wb0_workers (d := 998) hx) (by rw [e1, e2]; exact em) (hk.trans (congrArg iI hcd)) ⟨by omega, by omega⟩ (fun q => absurd q (by decide)) hr⟩
theorem ls13 (H : LI M) (h0 : 0 ≤ i) (h1 : i + 5 < (L : Int)) (hL : L ≤ 3072) : LSx L xs i 1087 M V W := by
  obtain ⟨K, c, S, s, er, w, U, hR, hC, hT, hP⟩ := H
  obtain ⟨p1, e1, i1⟩ := iI_of (xs (i + 1).toNat)
  obtain ⟨p2, e2, i2⟩ := iI_of (xs (i + 2).toNat)
  have hx := x_rests (L := L) (xs := xs) (d := 995) (M := M) (V := V) (W := W) hC.sh hR.g i1 i2
  have hA := fun (V : e_ML) (W : e_MD) => (rf_rests (L := L) (xs := xs) (d := 997) (M := M) (V := V) (W := W) hR i1 i2).li hC hT hP
  by_cases c1 : (0 ≤ p1 ∧ p1 ≤ 3) ∧ 0 ≤ p2 ∧ p2 ≤ 2000
  · rw [if_pos c1] at hx
    have hcd : cdRs p1 p2 = 0 := by ((unfold cdRs); first | (rw [if_pos c1]) | ((repeat' split) <;> first | rfl | (exfalso; omega)))
    obtain ⟨M2, z, em, hI, hk, hz⟩ := hA (e_u V 202 (vp_updL (V 202) 0 (if (rsB K p1 p2) = true then 1 else 0))) W
    exact ⟨M2, _, _, 0, 0, ⟨by omega, by omega⟩, hI, fun x h3 a3 b3 hr => lc13 (d := 998) (k := 0) (bb := rsB K p1 p2) h0 h1 hL (by rw [e1, e2]; exact wo_rests (d := 998) hx) (by rw [e1, e2]; exact em) (hk.trans (congrArg iI hcd)) ⟨by omega, by omega⟩ (fun _ => ⟨hz hcd, out_0 _ _⟩) hr⟩
  · rw [if_neg c1] at hx
    have hcd : cdRs p1 p2 = 1 := by ((unfold cdRs); first | (rw [if_neg c1]) | ((repeat' split) <;> first | rfl | (exfalso; omega)))
    obtain ⟨M2, z, em, hI, hk, hz⟩ := hA V W
    exact ⟨M2, _, _, 1, 6, ⟨by omega, by omega⟩, hI, fun x h3 a3 b3 hr => lc13 (d := 998) (k := 1) (bb := true) h0 h1 hL (by rw [e1, e2]; exact wb0_rests (d := 998) hx) (by rw [e1, e2]; exact em) (hk.trans (congrArg iI hcd)) ⟨by omega, by omega⟩ (fun q => absurd q (by decide)) hr⟩
theorem ls14 (H : LI M) (h0 : 0 ≤ i) (h1 : i + 5 < (L : Int)) (hL : L ≤ 3072) : LSx L xs i 1162 M V W := by
  obtain ⟨K, c, S, s, er, w, U, hR, hC, hT, hP⟩ := H
  obtain ⟨p1, e1, i1⟩ := iI_of (xs (i + 1).toNat)
  obtain ⟨M1, hx, hok, hbad, hf⟩ := x_plan (L := L) (xs := xs) (d := 991) (M := M) (V := V) (W := W) hC hR.g i1
  have hR1 := hR.fr (fun a q => hf a (by omega))
  have hP1 := hP.fr (fun a q => hf a (by omega))
  have hT1 := hT.of (fun a q r => hf a (by omega))
  have hA := fun (V : e_ML) (W : e_MD) => (rf_plan (L := L) (xs := xs) (d := 995) (M := M1) (V := V) (W := W) hR1 i1)
  by_cases c1 : 0 ≤ p1 ∧ p1 ≤ 5
  · rw [if_pos c1] at hx
    have hcd : cdRu p1 = 0 := by ((unfold cdRu); first | (rw [if_pos c1]) | ((repeat' split) <;> first | rfl | (exfalso; omega)))
    obtain ⟨M2, z, em, hI, hk, hz⟩ := (hA (e_u V 202 (vp_updL (V 202) 0 (if (fiR K (plR K p1) (aW K)) = true then 1 else 0))) W).li (fun _ => hok c1) (fun h => absurd hcd h) hT1 hP1
    exact ⟨M2, _, _, 0, 0, ⟨by omega, by omega⟩, hI, fun x h3 a3 b3 hr => lc14 (d := 998) (k := 0) (bb := fiR K (plR K p1) (aW K)) h0 h1 hL (by rw [e1]; exact wo_plan (d := 998) hx) (by rw [e1]; exact em) (hk.trans (congrArg iI hcd)) ⟨by omega, by omega⟩ (fun _ => ⟨hz hcd, out_0 _ _⟩) hr⟩
  · rw [if_neg c1] at hx
    have hcd : cdRu p1 = 1 := by ((unfold cdRu); first | (rw [if_neg c1]) | ((repeat' split) <;> first | rfl | (exfalso; omega)))
    obtain ⟨M2, z, em, hI, hk, hz⟩ := (hA V W).li (fun h => absurd (hcd.symm.trans h) (by decide)) (fun _ => by rw [hbad (fun q => c1 q)]; exact hC) hT1 hP1
    exact ⟨M2, _, _, 1, 6, ⟨by omega, by omega⟩, hI, fun x h3 a3 b3 hr => lc14 (d := 998) (k := 1) (bb := true) h0 h1 hL (by rw [e1]; exact wb0_plan (d := 998) hx) (by rw [e1]; exact em) (hk.trans (congrArg iI hcd)) ⟨by omega, by omega⟩ (fun q => absurd q (by decide)) hr⟩
theorem ls15 (H : LI M) (h0 : 0 ≤ i) (h1 : i + 5 < (L : Int)) (hL : L ≤ 3072) : LSx L xs i 1225 M V W := by
  obtain ⟨K, c, S, s, er, w, U, hR, hC, hT, hP⟩ := H
  obtain ⟨p1, e1, i1⟩ := iI_of (xs (i + 1).toNat)
  have hx := x_rowAt (L := L) (xs := xs) (d := 996) (M := M) (V := V) (W := W) hC.sh hR.v.1 i1
  have hA := fun (V : e_ML) (W : e_MD) => (rf_rowAt (L := L) (xs := xs) (d := 997) (M := M) (V := V) (W := W) hR i1).li hC hT hP
  by_cases c1 : 0 ≤ p1 ∧ p1 ≤ aW K - 1
  · rw [if_pos c1] at hx
    have hcd : cdPl K p1 = 0 := by ((unfold cdPl); first | (rw [if_pos c1]) | ((repeat' split) <;> first | rfl | (exfalso; omega)))
    obtain ⟨M2, z, em, hI, hk, hz⟩ := hA (e_u V 202 (vp_updL (V 202) 0 (Int32.toInt64 (iI (K (241 + p1)))))) W
    exact ⟨M2, _, _, 0, 0, ⟨by omega, by omega⟩, hI, fun x h3 a3 b3 hr => lc15 (d := 998) (k := 0) h0 h1 hL (by rw [e1]; exact wo_rowAt (d := 998) hx) (by rw [e1]; exact em) (hk.trans (congrArg iI hcd)) ⟨by omega, by omega⟩ (fun _ => by rw [out_0, hz hcd]; first | done | rfl) hr⟩
  · rw [if_neg c1] at hx
    have hcd : cdPl K p1 = 1 := by ((unfold cdPl); first | (rw [if_neg c1]) | ((repeat' split) <;> first | rfl | (exfalso; omega)))
    obtain ⟨M2, z, em, hI, hk, hz⟩ := hA V W
    exact ⟨M2, _, _, 1, 6, ⟨by omega, by omega⟩, hI, fun x h3 a3 b3 hr => lc15 (d := 998) (k := 1) h0 h1 hL (by rw [e1]; exact wb2_rowAt (d := 998) hx) (by rw [e1]; exact em) (hk.trans (congrArg iI hcd)) ⟨by omega, by omega⟩ (fun q => absurd q (by decide)) hr⟩
theorem ls17 (H : LI M) (h0 : 0 ≤ i) (h1 : i + 5 < (L : Int)) (hL : L ≤ 3072) : LSx L xs i 1294 M V W := by
  obtain ⟨K, c, S, s, er, w, U, hR, hC, hT, hP⟩ := H
  obtain ⟨p1, e1, i1⟩ := iI_of (xs (i + 1).toNat)
  obtain ⟨p2, e2, i2⟩ := iI_of (xs (i + 2).toNat)
  have hx := x_begin (L := L) (xs := xs) (d := 995) (M := M) (V := V) (W := W) hC hR.g i1 i2
  have hA := fun (V : e_ML) (W : e_MD) => (rf_begin (L := L) (xs := xs) (d := 992) (M := M) (V := V) (W := W) hR i1 i2).li hC hT hP
  by_cases c1 : (0 ≤ p1 ∧ p1 ≤ K 310 - 1) ∧ 0 ≤ p2 ∧ p2 ≤ K (40 + p1) - 1
  · rw [if_pos c1] at hx
    by_cases c2 : ft K = true
    · rw [if_pos c2] at hx
      have hcd : cdBe K p1 p2 = 0 := by ((unfold cdBe cdT); first | (rw [if_pos c1, if_pos c2]) | ((repeat' split) <;> first | rfl | (exfalso; omega)))
      obtain ⟨M2, z, em, hI, hk, hz⟩ := hA (e_u V 202 (vp_updL (V 202) 0 (Int32.toInt64 (iI (anBe K p1 p2))))) W
      exact ⟨M2, _, _, 0, 0, ⟨by omega, by omega⟩, hI, fun x h3 a3 b3 hr => lc17 (d := 998) (k := 0) h0 h1 hL (by rw [e1, e2]; exact wo_begin (d := 998) hx) (by rw [e1, e2]; exact em) (hk.trans (congrArg iI hcd)) ⟨by omega, by omega⟩ (fun _ => by rw [out_0, hz hcd]; first | done | rfl) hr⟩
    · rw [if_neg c2] at hx
      have hcd : cdBe K p1 p2 = 2 := by ((unfold cdBe cdT); first | (rw [if_pos c1, if_neg c2]) | ((repeat' split) <;> first | rfl | (exfalso; omega)))
      obtain ⟨M2, z, em, hI, hk, hz⟩ := hA V W
      exact ⟨M2, _, _, 1, 6, ⟨by omega, by omega⟩, hI, fun x h3 a3 b3 hr => lc17 (d := 998) (k := 2) h0 h1 hL (by rw [e1, e2]; exact wb1_begin (d := 998) hx) (by rw [e1, e2]; exact em) (hk.trans (congrArg iI hcd)) ⟨by omega, by omega⟩ (fun q => absurd q (by decide)) hr⟩
  · rw [if_neg c1] at hx
    have hcd : cdBe K p1 p2 = 1 := by ((unfold cdBe cdT); first | (rw [if_neg c1]) | ((repeat' split) <;> first | rfl | (exfalso; omega)))
    obtain ⟨M2, z, em, hI, hk, hz⟩ := hA V W
    exact ⟨M2, _, _, 1, 6, ⟨by omega, by omega⟩, hI, fun x h3 a3 b3 hr => lc17 (d := 998) (k := 1) h0 h1 hL (by rw [e1, e2]; exact wb2_begin (d := 998) hx) (by rw [e1, e2]; exact em) (hk.trans (congrArg iI hcd)) ⟨by omega, by omega⟩ (fun q => absurd q (by decide)) hr⟩
theorem ls18 (H : LI M) (h0 : 0 ≤ i) (h1 : i + 5 < (L : Int)) (hL : L ≤ 3072) : LSx L xs i 1362 M V W := by
  obtain ⟨K, c, S, s, er, w, U, hR, hC, hT, hP⟩ := H
  obtain ⟨p1, e1, i1⟩ := iI_of (xs (i + 1).toNat)
  have hx := x_endOf (L := L) (xs := xs) (d := 995) (M := M) (V := V) (W := W) hC hR.g i1
  have hA := fun (V : e_ML) (W : e_MD) => (rf_endOf (L := L) (xs := xs) (d := 992) (M := M) (V := V) (W := W) hR i1).li hC hT hP
  by_cases c1 : 0 ≤ p1 ∧ p1 ≤ K 310 - 1
  · rw [if_pos c1] at hx
    by_cases c2 : ft K = true
    · rw [if_pos c2] at hx
      have hcd : cdEO K p1 = 0 := by ((unfold cdEO cdT); first | (rw [if_pos c1, if_pos c2]) | ((repeat' split) <;> first | rfl | (exfalso; omega)))
      obtain ⟨M2, z, em, hI, hk, hz⟩ := hA (e_u V 202 (vp_updL (V 202) 0 (Int32.toInt64 (iI (enO K (rwK K) p1))))) W
      exact ⟨M2, _, _, 0, 0, ⟨by omega, by omega⟩, hI, fun x h3 a3 b3 hr => lc18 (d := 998) (k := 0) h0 h1 hL (by rw [e1]; exact wo_endOf (d := 998) hx) (by rw [e1]; exact em) (hk.trans (congrArg iI hcd)) ⟨by omega, by omega⟩ (fun _ => by rw [out_0, hz hcd]; first | done | rfl) hr⟩
    · rw [if_neg c2] at hx
      have hcd : cdEO K p1 = 2 := by ((unfold cdEO cdT); first | (rw [if_pos c1, if_neg c2]) | ((repeat' split) <;> first | rfl | (exfalso; omega)))
      obtain ⟨M2, z, em, hI, hk, hz⟩ := hA V W
      exact ⟨M2, _, _, 1, 6, ⟨by omega, by omega⟩, hI, fun x h3 a3 b3 hr => lc18 (d := 998) (k := 2) h0 h1 hL (by rw [e1]; exact wb1_endOf (d := 998) hx) (by rw [e1]; exact em) (hk.trans (congrArg iI hcd)) ⟨by omega, by omega⟩ (fun q => absurd q (by decide)) hr⟩
  · rw [if_neg c1] at hx
    have hcd : cdEO K p1 = 1 := by ((unfold cdEO cdT); first | (rw [if_neg c1]) | ((repeat' split) <;> first | rfl | (exfalso; omega)))
    obtain ⟨M2, z, em, hI, hk, hz⟩ := hA V W
    exact ⟨M2, _, _, 1, 6, ⟨by omega, by omega⟩, hI, fun x h3 a3 b3 hr => lc18 (d := 998) (k := 1) h0 h1 hL (by rw [e1]; exact wb2_endOf (d := 998) hx) (by rw [e1]; exact em) (hk.trans (congrArg iI hcd)) ⟨by omega, by omega⟩ (fun q => absurd q (by decide)) hr⟩
theorem ls19 (H : LI M) (h0 : 0 ≤ i) (h1 : i + 5 < (L : Int)) (hL : L ≤ 3072) : LSx L xs i 1418 M V W := by
  obtain ⟨K, c, S, s, er, w, U, hR, hC, hT, hP⟩ := H
  have hx := x_end (L := L) (xs := xs) (d := 995) (M := M) (V := V) (W := W) hC hR.g
  have hA := fun (V : e_ML) (W : e_MD) => (rf_end (L := L) (xs := xs) (d := 992) (M := M) (V := V) (W := W) hR).li hC hT hP
  by_cases c1 : ft K = true
  · rw [if_pos c1] at hx
    have hcd : cdT K 1 = 0 := by ((unfold cdT); first | (rw [if_pos c1]) | ((repeat' split) <;> first | rfl | (exfalso; omega)))
    obtain ⟨M2, z, em, hI, hk, hz⟩ := hA (e_u V 202 (vp_updL (V 202) 0 (Int32.toInt64 (iI (edW K))))) W
    exact ⟨M2, _, _, 0, 0, ⟨by omega, by omega⟩, hI, fun x h3 a3 b3 hr => lc19 (d := 998) (k := 0) h0 h1 hL (by exact wo_end (d := 998) hx) (by exact em) (hk.trans (congrArg iI hcd)) ⟨by omega, by omega⟩ (fun _ => by rw [out_0, hz hcd]; first | done | rfl) hr⟩
  · rw [if_neg c1] at hx
    have hcd : cdT K 1 = 1 := by ((unfold cdT); first | (rw [if_neg c1]) | ((repeat' split) <;> first | rfl | (exfalso; omega)))
    obtain ⟨M2, z, em, hI, hk, hz⟩ := hA V W
    exact ⟨M2, _, _, 1, 6, ⟨by omega, by omega⟩, hI, fun x h3 a3 b3 hr => lc19 (d := 998) (k := 1) h0 h1 hL (by exact wb1_end (d := 998) hx) (by exact em) (hk.trans (congrArg iI hcd)) ⟨by omega, by omega⟩ (fun q => absurd q (by decide)) hr⟩
theorem ls20 (H : LI M) (h0 : 0 ≤ i) (h1 : i + 5 < (L : Int)) (hL : L ≤ 3072) : LSx L xs i 1462 M V W := by
  obtain ⟨K, c, S, s, er, w, U, hR, hC, hT, hP⟩ := H
  obtain ⟨p1, e1, i1⟩ := iI_of (xs (i + 1).toNat)
  have hx := x_busy (L := L) (xs := xs) (d := 994) (M := M) (V := V) (W := W) hC hR.g i1
  have hA := fun (V : e_ML) (W : e_MD) => (rf_busy (L := L) (xs := xs) (d := 992) (M := M) (V := V) (W := W) hR i1).li hC hT hP
  by_cases c1 : 0 ≤ p1 ∧ p1 ≤ 2000
  · rw [if_pos c1] at hx
    by_cases c2 : ft K = true
    · rw [if_pos c2] at hx
      have hcd : cdBu K p1 = 0 := by ((unfold cdBu cdT); first | (rw [if_pos c1, if_pos c2]) | ((repeat' split) <;> first | rfl | (exfalso; omega)))
      obtain ⟨M2, z, em, hI, hk, hz⟩ := hA (e_u V 202 (vp_updL (V 202) 0 (Int32.toInt64 (iI (bz (bT K) (eT K) (aW K) p1))))) W
      exact ⟨M2, _, _, 0, 0, ⟨by omega, by omega⟩, hI, fun x h3 a3 b3 hr => lc20 (d := 998) (k := 0) h0 h1 hL (by rw [e1]; exact wo_busy (d := 998) hx) (by rw [e1]; exact em) (hk.trans (congrArg iI hcd)) ⟨by omega, by omega⟩ (fun _ => by rw [out_0, hz hcd]; first | done | rfl) hr⟩
    · rw [if_neg c2] at hx
      have hcd : cdBu K p1 = 2 := by ((unfold cdBu cdT); first | (rw [if_pos c1, if_neg c2]) | ((repeat' split) <;> first | rfl | (exfalso; omega)))
      obtain ⟨M2, z, em, hI, hk, hz⟩ := hA V W
      exact ⟨M2, _, _, 1, 6, ⟨by omega, by omega⟩, hI, fun x h3 a3 b3 hr => lc20 (d := 998) (k := 2) h0 h1 hL (by rw [e1]; exact wb1_busy (d := 998) hx) (by rw [e1]; exact em) (hk.trans (congrArg iI hcd)) ⟨by omega, by omega⟩ (fun q => absurd q (by decide)) hr⟩
  · rw [if_neg c1] at hx
    have hcd : cdBu K p1 = 1 := by ((unfold cdBu cdT); first | (rw [if_neg c1]) | ((repeat' split) <;> first | rfl | (exfalso; omega)))
    obtain ⟨M2, z, em, hI, hk, hz⟩ := hA V W
    exact ⟨M2, _, _, 1, 6, ⟨by omega, by omega⟩, hI, fun x h3 a3 b3 hr => lc20 (d := 998) (k := 1) h0 h1 hL (by rw [e1]; exact wb0_busy (d := 998) hx) (by rw [e1]; exact em) (hk.trans (congrArg iI hcd)) ⟨by omega, by omega⟩ (fun q => absurd q (by decide)) hr⟩
theorem ls21 (H : LI M) (h0 : 0 ≤ i) (h1 : i + 5 < (L : Int)) (hL : L ≤ 3072) : LSx L xs i 1518 M V W := by
  obtain ⟨K, c, S, s, er, w, U, hR, hC, hT, hP⟩ := H
  obtain ⟨p1, e1, i1⟩ := iI_of (xs (i + 1).toNat)
  obtain ⟨p2, e2, i2⟩ := iI_of (xs (i + 2).toNat)
  have hx := x_workAt (L := L) (xs := xs) (d := 994) (M := M) (V := V) (W := W) hC hR.g i1 i2
  have hA := fun (V : e_ML) (W : e_MD) => (rf_workAt (L := L) (xs := xs) (d := 992) (M := M) (V := V) (W := W) hR i1 i2).li hC hT hP
  by_cases c1 : (0 ≤ p1 ∧ p1 ≤ 3) ∧ 0 ≤ p2 ∧ p2 ≤ 2000
  · rw [if_pos c1] at hx
    by_cases c2 : ft K = true
    · rw [if_pos c2] at hx
      have hcd : cdWA K p1 p2 = 0 := by ((unfold cdWA cdT); first | (rw [if_pos c1, if_pos c2]) | ((repeat' split) <;> first | rfl | (exfalso; omega)))
      obtain ⟨M2, z, em, hI, hk, hz⟩ := hA (e_u V 202 (vp_updL (V 202) 0 (Int32.toInt64 (iI (anWA K p1 p2))))) W
      exact ⟨M2, _, _, 0, 0, ⟨by omega, by omega⟩, hI, fun x h3 a3 b3 hr => lc21 (d := 998) (k := 0) h0 h1 hL (by rw [e1, e2]; exact wo_workAt (d := 998) hx) (by rw [e1, e2]; exact em) (hk.trans (congrArg iI hcd)) ⟨by omega, by omega⟩ (fun _ => by rw [out_0, hz hcd]; first | done | rfl) hr⟩
    · rw [if_neg c2] at hx
      have hcd : cdWA K p1 p2 = 2 := by ((unfold cdWA cdT); first | (rw [if_pos c1, if_neg c2]) | ((repeat' split) <;> first | rfl | (exfalso; omega)))
      obtain ⟨M2, z, em, hI, hk, hz⟩ := hA V W
      exact ⟨M2, _, _, 1, 6, ⟨by omega, by omega⟩, hI, fun x h3 a3 b3 hr => lc21 (d := 998) (k := 2) h0 h1 hL (by rw [e1, e2]; exact wb1_workAt (d := 998) hx) (by rw [e1, e2]; exact em) (hk.trans (congrArg iI hcd)) ⟨by omega, by omega⟩ (fun q => absurd q (by decide)) hr⟩
  · rw [if_neg c1] at hx
    have hcd : cdWA K p1 p2 = 1 := by ((unfold cdWA cdT); first | (rw [if_neg c1]) | ((repeat' split) <;> first | rfl | (exfalso; omega)))
    obtain ⟨M2, z, em, hI, hk, hz⟩ := hA V W
    exact ⟨M2, _, _, 1, 6, ⟨by omega, by omega⟩, hI, fun x h3 a3 b3 hr => lc21 (d := 998) (k := 1) h0 h1 hL (by rw [e1, e2]; exact wb0_workAt (d := 998) hx) (by rw [e1, e2]; exact em) (hk.trans (congrArg iI hcd)) ⟨by omega, by omega⟩ (fun q => absurd q (by decide)) hr⟩
theorem ls22 (H : LI M) (h0 : 0 ≤ i) (h1 : i + 5 < (L : Int)) (hL : L ≤ 3072) : LSx L xs i 1586 M V W := by
  obtain ⟨K, c, S, s, er, w, U, hR, hC, hT, hP⟩ := H
  obtain ⟨p1, e1, i1⟩ := iI_of (xs (i + 1).toNat)
  have hx := x_load (L := L) (xs := xs) (d := 994) (M := M) (V := V) (W := W) hC.sh hR.r i1
  have hA := fun (V : e_ML) (W : e_MD) => (rf_load (L := L) (xs := xs) (d := 996) (M := M) (V := V) (W := W) hR i1).li hC hT hP
  by_cases c1 : 0 ≤ p1 ∧ p1 ≤ 3
  · rw [if_pos c1] at hx
    have hcd : cdMa p1 = 0 := by ((unfold cdMa); first | (rw [if_pos c1]) | ((repeat' split) <;> first | rfl | (exfalso; omega)))
    obtain ⟨M2, z, em, hI, hk, hz⟩ := hA (e_u V 202 (vp_updL (V 202) 0 (Int32.toInt64 (iI (lO K p1))))) W
    exact ⟨M2, _, _, 0, 0, ⟨by omega, by omega⟩, hI, fun x h3 a3 b3 hr => lc22 (d := 998) (k := 0) h0 h1 hL (by rw [e1]; exact wo_load (d := 998) hx) (by rw [e1]; exact em) (hk.trans (congrArg iI hcd)) ⟨by omega, by omega⟩ (fun _ => by rw [out_0, hz hcd]; first | done | rfl) hr⟩
  · rw [if_neg c1] at hx
    have hcd : cdMa p1 = 1 := by ((unfold cdMa); first | (rw [if_neg c1]) | ((repeat' split) <;> first | rfl | (exfalso; omega)))
    obtain ⟨M2, z, em, hI, hk, hz⟩ := hA V W
    exact ⟨M2, _, _, 1, 6, ⟨by omega, by omega⟩, hI, fun x h3 a3 b3 hr => lc22 (d := 998) (k := 1) h0 h1 hL (by rw [e1]; exact wb0_load (d := 998) hx) (by rw [e1]; exact em) (hk.trans (congrArg iI hcd)) ⟨by omega, by omega⟩ (fun q => absurd q (by decide)) hr⟩
theorem ls24 (H : LI M) (h0 : 0 ≤ i) (h1 : i + 5 < (L : Int)) (hL : L ≤ 3072) : LSx L xs i 1655 M V W := by
  obtain ⟨K, c, S, s, er, w, U, hR, hC, hT, hP⟩ := H
  obtain ⟨M1, hx, hok, hbad, hf⟩ := x_least (L := L) (xs := xs) (d := 973) (M := M) (V := V) (W := W) hC hR.g
  have hR1 := hR.fr (fun a q => hf a (by omega))
  have hP1 := hP.fr (fun a q => hf a (by omega))
  have hT1 := hT.of (fun a q r => hf a (by omega))
  have hA := fun (V : e_ML) (W : e_MD) => (rf_least (L := L) (xs := xs) (d := 994) (M := M1) (V := V) (W := W) hR1)
  by_cases c1 : aW K ≤ 8
  · rw [if_pos c1] at hx
    have hcd : cdLs K = 0 := by ((unfold cdLs); first | (rw [if_pos c1]) | ((repeat' split) <;> first | rfl | (exfalso; omega)))
    obtain ⟨M2, z, em, hI, hk, hz⟩ := (hA (e_u V 202 (vp_updL (V 202) 0 (Int32.toInt64 (iI (lsR K).1)))) W).li (fun _ => hok c1) (fun h => absurd hcd h) hT1 hP1
    exact ⟨M2, _, _, 0, 0, ⟨by omega, by omega⟩, hI, fun x h3 a3 b3 hr => lc24 (d := 998) (k := 0) h0 h1 hL (by exact wo_least (d := 998) hx) (by exact em) (hk.trans (congrArg iI hcd)) ⟨by omega, by omega⟩ (fun _ => by rw [out_0, hz hcd]; first | done | rfl) hr⟩
  · rw [if_neg c1] at hx
    have hcd : cdLs K = 1 := by ((unfold cdLs); first | (rw [if_neg c1]) | ((repeat' split) <;> first | rfl | (exfalso; omega)))
    obtain ⟨M2, z, em, hI, hk, hz⟩ := (hA V W).li (fun h => absurd (hcd.symm.trans h) (by decide)) (fun _ => by rw [hbad (fun q => c1 q)]; exact hC) hT1 hP1
    exact ⟨M2, _, _, 1, 6, ⟨by omega, by omega⟩, hI, fun x h3 a3 b3 hr => lc24 (d := 998) (k := 1) h0 h1 hL (by exact wb1_least (d := 998) hx) (by exact em) (hk.trans (congrArg iI hcd)) ⟨by omega, by omega⟩ (fun q => absurd q (by decide)) hr⟩
theorem ls25 (H : LI M) (h0 : 0 ≤ i) (h1 : i + 5 < (L : Int)) (hL : L ≤ 3072) : LSx L xs i 1699 M V W := by
  obtain ⟨K, c, S, s, er, w, U, hR, hC, hT, hP⟩ := H
  have hx := x_critical (L := L) (xs := xs) (d := 993) (M := M) (V := V) (W := W) hC hR.g
  have hA := fun (V : e_ML) (W : e_MD) => (rf_critical (L := L) (xs := xs) (d := 992) (M := M) (V := V) (W := W) hR).li hC hT hP
  by_cases c1 : ft K = true
  · rw [if_pos c1] at hx
    have hcd : cdT K 1 = 0 := by ((unfold cdT); first | (rw [if_pos c1]) | ((repeat' split) <;> first | rfl | (exfalso; omega)))
    obtain ⟨M2, z, em, hI, hk, hz⟩ := hA (e_u V 202 (vp_updL (V 202) 0 (Int32.toInt64 (iI (crN K))))) W
    exact ⟨M2, _, _, 0, 0, ⟨by omega, by omega⟩, hI, fun x h3 a3 b3 hr => lc25 (d := 998) (k := 0) h0 h1 hL (by exact wo_critical (d := 998) hx) (by exact em) (hk.trans (congrArg iI hcd)) ⟨by omega, by omega⟩ (fun _ => by rw [out_0, hz hcd]; first | done | rfl) hr⟩
  · rw [if_neg c1] at hx
    have hcd : cdT K 1 = 1 := by ((unfold cdT); first | (rw [if_neg c1]) | ((repeat' split) <;> first | rfl | (exfalso; omega)))
    obtain ⟨M2, z, em, hI, hk, hz⟩ := hA V W
    exact ⟨M2, _, _, 1, 6, ⟨by omega, by omega⟩, hI, fun x h3 a3 b3 hr => lc25 (d := 998) (k := 1) h0 h1 hL (by exact wb1_critical (d := 998) hx) (by exact em) (hk.trans (congrArg iI hcd)) ⟨by omega, by omega⟩ (fun q => absurd q (by decide)) hr⟩
theorem ls26 (H : LI M) (h0 : 0 ≤ i) (h1 : i + 5 < (L : Int)) (hL : L ≤ 3072) : LSx L xs i 1743 M V W := by
  obtain ⟨K, c, S, s, er, w, U, hR, hC, hT, hP⟩ := H
  obtain ⟨p1, e1, i1⟩ := iI_of (xs (i + 1).toNat)
  have hx := x_criticalAt (L := L) (xs := xs) (d := 993) (M := M) (V := V) (W := W) hC hR.g i1
  have hA := fun (V : e_ML) (W : e_MD) => (rf_criticalAt (L := L) (xs := xs) (d := 992) (M := M) (V := V) (W := W) hR i1).li hC hT hP
  by_cases c1 : ft K = true
  · rw [if_pos c1] at hx
    by_cases c2 : 0 ≤ p1 ∧ p1 ≤ crN K - 1
    · rw [if_pos c2] at hx
      have hcd : cdCA K p1 = 0 := by ((unfold cdCA); first | (rw [if_pos c1, if_pos c2]) | ((repeat' split) <;> first | rfl | (exfalso; omega)))
      obtain ⟨M2, z, em, hI, hk, hz⟩ := hA (e_u V 202 (vp_updL (V 202) 0 (Int32.toInt64 (iI (anCA K p1))))) W
      exact ⟨M2, _, _, 0, 0, ⟨by omega, by omega⟩, hI, fun x h3 a3 b3 hr => lc26 (d := 998) (k := 0) h0 h1 hL (by rw [e1]; exact wo_criticalAt (d := 998) hx) (by rw [e1]; exact em) (hk.trans (congrArg iI hcd)) ⟨by omega, by omega⟩ (fun _ => by rw [out_0, hz hcd]; first | done | rfl) hr⟩
    · rw [if_neg c2] at hx
      have hcd : cdCA K p1 = 2 := by ((unfold cdCA); first | (rw [if_pos c1, if_neg c2]) | ((repeat' split) <;> first | rfl | (exfalso; omega)))
      obtain ⟨M2, z, em, hI, hk, hz⟩ := hA V W
      exact ⟨M2, _, _, 1, 6, ⟨by omega, by omega⟩, hI, fun x h3 a3 b3 hr => lc26 (d := 998) (k := 2) h0 h1 hL (by rw [e1]; exact wb2_criticalAt (d := 998) hx) (by rw [e1]; exact em) (hk.trans (congrArg iI hcd)) ⟨by omega, by omega⟩ (fun q => absurd q (by decide)) hr⟩
  · rw [if_neg c1] at hx
    have hcd : cdCA K p1 = 1 := by ((unfold cdCA); first | (rw [if_neg c1]) | ((repeat' split) <;> first | rfl | (exfalso; omega)))
    obtain ⟨M2, z, em, hI, hk, hz⟩ := hA V W
    exact ⟨M2, _, _, 1, 6, ⟨by omega, by omega⟩, hI, fun x h3 a3 b3 hr => lc26 (d := 998) (k := 1) h0 h1 hL (by rw [e1]; exact wb1_criticalAt (d := 998) hx) (by rw [e1]; exact em) (hk.trans (congrArg iI hcd)) ⟨by omega, by omega⟩ (fun q => absurd q (by decide)) hr⟩
theorem ls27 (H : LI M) (h0 : 0 ≤ i) (h1 : i + 5 < (L : Int)) (hL : L ≤ 3072) : LSx L xs i 1799 M V W := by
  obtain ⟨K, c, S, s, er, w, U, hR, hC, hT, hP⟩ := H
  obtain ⟨p1, e1, i1⟩ := iI_of (xs (i + 1).toNat)
  obtain ⟨M1, hx, hC1, hf⟩ := x_weighted (L := L) (xs := xs) (d := 993) (M := M) (V := V) (W := W) hC hR.g i1
  have hR1 := hR.fr (fun a q => hf a (by omega))
  have hP1 := hP.fr (fun a q => hf a (by omega))
  have hT1 := hT.of (fun a q r => hf a (by omega))
  have hA := fun (V : e_ML) (W : e_MD) => (rf_weighted (L := L) (xs := xs) (d := 995) (M := M1) (V := V) (W := W) hR1 i1).li hC1 hT1 hP1
  by_cases c1 : 0 ≤ p1 ∧ p1 ≤ 3
  · rw [if_pos c1] at hx
    have hcd : cdMa p1 = 0 := by ((unfold cdMa); first | (rw [if_pos c1]) | ((repeat' split) <;> first | rfl | (exfalso; omega)))
    obtain ⟨M2, z, em, hI, hk, hz⟩ := hA (e_u V 202 (vp_updL (V 202) 0 (Int32.toInt64 (iI (wtW K p1))))) W
    exact ⟨M2, _, _, 0, 0, ⟨by omega, by omega⟩, hI, fun x h3 a3 b3 hr => lc27 (d := 998) (k := 0) h0 h1 hL (by rw [e1]; exact wo_weighted (d := 998) hx) (by rw [e1]; exact em) (hk.trans (congrArg iI hcd)) ⟨by omega, by omega⟩ (fun _ => by rw [out_0, hz hcd]; first | done | rfl) hr⟩
  · rw [if_neg c1] at hx
    have hcd : cdMa p1 = 1 := by ((unfold cdMa); first | (rw [if_neg c1]) | ((repeat' split) <;> first | rfl | (exfalso; omega)))
    obtain ⟨M2, z, em, hI, hk, hz⟩ := hA V W
    exact ⟨M2, _, _, 1, 6, ⟨by omega, by omega⟩, hI, fun x h3 a3 b3 hr => lc27 (d := 998) (k := 1) h0 h1 hL (by rw [e1]; exact wb0_weighted (d := 998) hx) (by rw [e1]; exact em) (hk.trans (congrArg iI hcd)) ⟨by omega, by omega⟩ (fun q => absurd q (by decide)) hr⟩
theorem ls28 (H : LI M) (h0 : 0 ≤ i) (h1 : i + 5 < (L : Int)) (hL : L ≤ 3072) : LSx L xs i 1855 M V W := by
  obtain ⟨K, c, S, s, er, w, U, hR, hC, hT, hP⟩ := H
  obtain ⟨p1, e1, i1⟩ := iI_of (xs (i + 1).toNat)
  obtain ⟨M1, hx, hC1, hf⟩ := x_lateness (L := L) (xs := xs) (d := 993) (M := M) (V := V) (W := W) hC hR.g i1
  have hR1 := hR.fr (fun a q => hf a (by omega))
  have hP1 := hP.fr (fun a q => hf a (by omega))
  have hT1 := hT.of (fun a q r => hf a (by omega))
  have hA := fun (V : e_ML) (W : e_MD) => (rf_lateness (L := L) (xs := xs) (d := 995) (M := M1) (V := V) (W := W) hR1 i1).li hC1 hT1 hP1
  by_cases c1 : 0 ≤ p1 ∧ p1 ≤ 3
  · rw [if_pos c1] at hx
    have hcd : cdMa p1 = 0 := by ((unfold cdMa); first | (rw [if_pos c1]) | ((repeat' split) <;> first | rfl | (exfalso; omega)))
    obtain ⟨M2, z, em, hI, hk, hz⟩ := hA (e_u V 202 (vp_updL (V 202) 0 (Int32.toInt64 (iI (ltW K p1))))) W
    exact ⟨M2, _, _, 0, 0, ⟨by omega, by omega⟩, hI, fun x h3 a3 b3 hr => lc28 (d := 998) (k := 0) h0 h1 hL (by rw [e1]; exact wo_lateness (d := 998) hx) (by rw [e1]; exact em) (hk.trans (congrArg iI hcd)) ⟨by omega, by omega⟩ (fun _ => by rw [out_0, hz hcd]; first | done | rfl) hr⟩
  · rw [if_neg c1] at hx
    have hcd : cdMa p1 = 1 := by ((unfold cdMa); first | (rw [if_neg c1]) | ((repeat' split) <;> first | rfl | (exfalso; omega)))
    obtain ⟨M2, z, em, hI, hk, hz⟩ := hA V W
    exact ⟨M2, _, _, 1, 6, ⟨by omega, by omega⟩, hI, fun x h3 a3 b3 hr => lc28 (d := 998) (k := 1) h0 h1 hL (by rw [e1]; exact wb0_lateness (d := 998) hx) (by rw [e1]; exact em) (hk.trans (congrArg iI hcd)) ⟨by omega, by omega⟩ (fun q => absurd q (by decide)) hr⟩
theorem ls29 (H : LI M) (h0 : 0 ≤ i) (h1 : i + 5 < (L : Int)) (hL : L ≤ 3072) : LSx L xs i 1911 M V W := by
  obtain ⟨K, c, S, s, er, w, U, hR, hC, hT, hP⟩ := H
  obtain ⟨p1, e1, i1⟩ := iI_of (xs (i + 1).toNat)
  obtain ⟨M1, hx, hC1, hf⟩ := x_fewestLate (L := L) (xs := xs) (d := 993) (M := M) (V := V) (W := W) hC hR.g i1
  have hR1 := hR.fr (fun a q => hf a (by omega))
  have hP1 := hP.fr (fun a q => hf a (by omega))
  have hT1 := hT.of (fun a q r => hf a (by omega))
  have hA := fun (V : e_ML) (W : e_MD) => (rf_fewestLate (L := L) (xs := xs) (d := 994) (M := M1) (V := V) (W := W) hR1 i1).li hC1 hT1 hP1
  by_cases c1 : 0 ≤ p1 ∧ p1 ≤ 3
  · rw [if_pos c1] at hx
    have hcd : cdMa p1 = 0 := by ((unfold cdMa); first | (rw [if_pos c1]) | ((repeat' split) <;> first | rfl | (exfalso; omega)))
    obtain ⟨M2, z, em, hI, hk, hz⟩ := hA (e_u V 202 (vp_updL (V 202) 0 (Int32.toInt64 (iI ((goW K p1).2.length : Int))))) W
    exact ⟨M2, _, _, 0, 0, ⟨by omega, by omega⟩, hI, fun x h3 a3 b3 hr => lc29 (d := 998) (k := 0) h0 h1 hL (by rw [e1]; exact wo_fewestLate (d := 998) hx) (by rw [e1]; exact em) (hk.trans (congrArg iI hcd)) ⟨by omega, by omega⟩ (fun _ => by rw [out_0, hz hcd]; first | done | rfl) hr⟩
  · rw [if_neg c1] at hx
    have hcd : cdMa p1 = 1 := by ((unfold cdMa); first | (rw [if_neg c1]) | ((repeat' split) <;> first | rfl | (exfalso; omega)))
    obtain ⟨M2, z, em, hI, hk, hz⟩ := hA V W
    exact ⟨M2, _, _, 1, 6, ⟨by omega, by omega⟩, hI, fun x h3 a3 b3 hr => lc29 (d := 998) (k := 1) h0 h1 hL (by rw [e1]; exact wb0_fewestLate (d := 998) hx) (by rw [e1]; exact em) (hk.trans (congrArg iI hcd)) ⟨by omega, by omega⟩ (fun q => absurd q (by decide)) hr⟩
theorem ls30 (H : LI M) (h0 : 0 ≤ i) (h1 : i + 5 < (L : Int)) (hL : L ≤ 3072) : LSx L xs i 1967 M V W := by
  obtain ⟨K, c, S, s, er, w, U, hR, hC, hT, hP⟩ := H
  obtain ⟨p1, e1, i1⟩ := iI_of (xs (i + 1).toNat)
  obtain ⟨p2, e2, i2⟩ := iI_of (xs (i + 2).toNat)
  obtain ⟨p3, e3, i3⟩ := iI_of (xs (i + 3).toNat)
  obtain ⟨M1, hx, hC1, hf⟩ := x_oneAt (L := L) (xs := xs) (d := 993) (M := M) (V := V) (W := W) hC hR.g i1 i2 i3
  have hR1 := hR.fr (fun a q => hf a (by omega))
  have hP1 := hP.fr (fun a q => hf a (by omega))
  have hT1 := hT.of (fun a q r => hf a (by omega))
  have hA := fun (V : e_ML) (W : e_MD) => (rf_oneAt (L := L) (xs := xs) (d := 994) (M := M1) (V := V) (W := W) hR1 i1 i2 i3).li hC1 hT1 hP1
  by_cases c1 : (0 ≤ p1 ∧ p1 ≤ 3) ∧ 0 ≤ p2 ∧ p2 ≤ 2
  · rw [if_pos c1] at hx
    by_cases c2 : 0 ≤ p3 ∧ p3 ≤ ((wyL K p1 p2).length : Int) - 1
    · rw [if_pos c2] at hx
      have hcd : cdOA K p1 p2 p3 = 0 := by ((unfold cdOA); first | (rw [if_pos c1, if_pos c2]) | ((repeat' split) <;> first | rfl | (exfalso; omega)))
      obtain ⟨M2, z, em, hI, hk, hz⟩ := hA (e_u V 202 (vp_updL (V 202) 0 (Int32.toInt64 (iI (anOA K p1 p2 p3))))) W
      exact ⟨M2, _, _, 0, 0, ⟨by omega, by omega⟩, hI, fun x h3 a3 b3 hr => lc30 (d := 998) (k := 0) h0 h1 hL (by rw [e1, e2, e3]; exact wo_oneAt (d := 998) hx) (by rw [e1, e2, e3]; exact em) (hk.trans (congrArg iI hcd)) ⟨by omega, by omega⟩ (fun _ => by rw [out_0, hz hcd]; first | done | rfl) hr⟩
    · rw [if_neg c2] at hx
      have hcd : cdOA K p1 p2 p3 = 2 := by ((unfold cdOA); first | (rw [if_pos c1, if_neg c2]) | ((repeat' split) <;> first | rfl | (exfalso; omega)))
      obtain ⟨M2, z, em, hI, hk, hz⟩ := hA V W
      exact ⟨M2, _, _, 1, 6, ⟨by omega, by omega⟩, hI, fun x h3 a3 b3 hr => lc30 (d := 998) (k := 2) h0 h1 hL (by rw [e1, e2, e3]; exact wb2_oneAt (d := 998) hx) (by rw [e1, e2, e3]; exact em) (hk.trans (congrArg iI hcd)) ⟨by omega, by omega⟩ (fun q => absurd q (by decide)) hr⟩
  · rw [if_neg c1] at hx
    have hcd : cdOA K p1 p2 p3 = 1 := by ((unfold cdOA); first | (rw [if_neg c1]) | ((repeat' split) <;> first | rfl | (exfalso; omega)))
    obtain ⟨M2, z, em, hI, hk, hz⟩ := hA V W
    exact ⟨M2, _, _, 1, 6, ⟨by omega, by omega⟩, hI, fun x h3 a3 b3 hr => lc30 (d := 998) (k := 1) h0 h1 hL (by rw [e1, e2, e3]; exact wb0_oneAt (d := 998) hx) (by rw [e1, e2, e3]; exact em) (hk.trans (congrArg iI hcd)) ⟨by omega, by omega⟩ (fun q => absurd q (by decide)) hr⟩
theorem ls31 (H : LI M) (h0 : 0 ≤ i) (h1 : i + 5 < (L : Int)) (hL : L ≤ 3072) : LSx L xs i 2047 M V W := by
  obtain ⟨K, c, S, s, er, w, U, hR, hC, hT, hP⟩ := H
  obtain ⟨p1, e1, i1⟩ := iI_of (xs (i + 1).toNat)
  obtain ⟨p2, e2, i2⟩ := iI_of (xs (i + 2).toNat)
  obtain ⟨M1, hx, hC1, hf⟩ := x_two (L := L) (xs := xs) (d := 994) (M := M) (V := V) (W := W) hC hR.g i1 i2
  have hR1 := hR.fr (fun a q => hf a (by omega))
  have hP1 := hP.fr (fun a q => hf a (by omega))
  have hT1 := hT.of (fun a q r => hf a (by omega))
  have hA := fun (V : e_ML) (W : e_MD) => (rf_two (L := L) (xs := xs) (d := 995) (M := M1) (V := V) (W := W) hR1 i1 i2).li hC1 hT1 hP1
  by_cases c1 : (0 ≤ p1 ∧ p1 ≤ 3) ∧ (0 ≤ p2 ∧ p2 ≤ 3) ∧ p1 ≠ p2
  · rw [if_pos c1] at hx
    have hcd : cdTw p1 p2 = 0 := by ((unfold cdTw); first | (rw [if_pos c1]) | ((repeat' split) <;> first | rfl | (exfalso; omega)))
    obtain ⟨M2, z, em, hI, hk, hz⟩ := hA (e_u V 202 (vp_updL (V 202) 0 (Int32.toInt64 (iI (twW K p1 p2))))) W
    exact ⟨M2, _, _, 0, 0, ⟨by omega, by omega⟩, hI, fun x h3 a3 b3 hr => lc31 (d := 998) (k := 0) h0 h1 hL (by rw [e1, e2]; exact wo_two (d := 998) hx) (by rw [e1, e2]; exact em) (hk.trans (congrArg iI hcd)) ⟨by omega, by omega⟩ (fun _ => by rw [out_0, hz hcd]; first | done | rfl) hr⟩
  · rw [if_neg c1] at hx
    have hcd : cdTw p1 p2 = 1 := by ((unfold cdTw); first | (rw [if_neg c1]) | ((repeat' split) <;> first | rfl | (exfalso; omega)))
    obtain ⟨M2, z, em, hI, hk, hz⟩ := hA V W
    exact ⟨M2, _, _, 1, 6, ⟨by omega, by omega⟩, hI, fun x h3 a3 b3 hr => lc31 (d := 998) (k := 1) h0 h1 hL (by rw [e1, e2]; exact wb0_two (d := 998) hx) (by rw [e1, e2]; exact em) (hk.trans (congrArg iI hcd)) ⟨by omega, by omega⟩ (fun q => absurd q (by decide)) hr⟩
theorem ls32 (H : LI M) (h0 : 0 ≤ i) (h1 : i + 5 < (L : Int)) (hL : L ≤ 3072) : LSx L xs i 2115 M V W := by
  obtain ⟨K, c, S, s, er, w, U, hR, hC, hT, hP⟩ := H
  obtain ⟨p1, e1, i1⟩ := iI_of (xs (i + 1).toNat)
  obtain ⟨p2, e2, i2⟩ := iI_of (xs (i + 2).toNat)
  obtain ⟨p3, e3, i3⟩ := iI_of (xs (i + 3).toNat)
  obtain ⟨M1, hx, hC1, hf⟩ := x_twoAt (L := L) (xs := xs) (d := 994) (M := M) (V := V) (W := W) hC hR.g i1 i2 i3
  have hR1 := hR.fr (fun a q => hf a (by omega))
  have hP1 := hP.fr (fun a q => hf a (by omega))
  have hT1 := hT.of (fun a q r => hf a (by omega))
  have hA := fun (V : e_ML) (W : e_MD) => (rf_twoAt (L := L) (xs := xs) (d := 995) (M := M1) (V := V) (W := W) hR1 i1 i2 i3).li hC1 hT1 hP1
  by_cases c1 : (0 ≤ p1 ∧ p1 ≤ 3) ∧ (0 ≤ p2 ∧ p2 ≤ 3) ∧ p1 ≠ p2
  · rw [if_pos c1] at hx
    by_cases c2 : 0 ≤ p3 ∧ p3 ≤ ((twoL K p1 p2).length : Int) - 1
    · rw [if_pos c2] at hx
      have hcd : cdTA K p1 p2 p3 = 0 := by ((unfold cdTA); first | (rw [if_pos c1, if_pos c2]) | ((repeat' split) <;> first | rfl | (exfalso; omega)))
      obtain ⟨M2, z, em, hI, hk, hz⟩ := hA (e_u V 202 (vp_updL (V 202) 0 (Int32.toInt64 (iI (anTA K p1 p2 p3))))) W
      exact ⟨M2, _, _, 0, 0, ⟨by omega, by omega⟩, hI, fun x h3 a3 b3 hr => lc32 (d := 998) (k := 0) h0 h1 hL (by rw [e1, e2, e3]; exact wo_twoAt (d := 998) hx) (by rw [e1, e2, e3]; exact em) (hk.trans (congrArg iI hcd)) ⟨by omega, by omega⟩ (fun _ => by rw [out_0, hz hcd]; first | done | rfl) hr⟩
    · rw [if_neg c2] at hx
      have hcd : cdTA K p1 p2 p3 = 2 := by ((unfold cdTA); first | (rw [if_pos c1, if_neg c2]) | ((repeat' split) <;> first | rfl | (exfalso; omega)))
      obtain ⟨M2, z, em, hI, hk, hz⟩ := hA V W
      exact ⟨M2, _, _, 1, 6, ⟨by omega, by omega⟩, hI, fun x h3 a3 b3 hr => lc32 (d := 998) (k := 2) h0 h1 hL (by rw [e1, e2, e3]; exact wb2_twoAt (d := 998) hx) (by rw [e1, e2, e3]; exact em) (hk.trans (congrArg iI hcd)) ⟨by omega, by omega⟩ (fun q => absurd q (by decide)) hr⟩
  · rw [if_neg c1] at hx
    have hcd : cdTA K p1 p2 p3 = 1 := by ((unfold cdTA); first | (rw [if_neg c1]) | ((repeat' split) <;> first | rfl | (exfalso; omega)))
    obtain ⟨M2, z, em, hI, hk, hz⟩ := hA V W
    exact ⟨M2, _, _, 1, 6, ⟨by omega, by omega⟩, hI, fun x h3 a3 b3 hr => lc32 (d := 998) (k := 1) h0 h1 hL (by rw [e1, e2, e3]; exact wb0_twoAt (d := 998) hx) (by rw [e1, e2, e3]; exact em) (hk.trans (congrArg iI hcd)) ⟨by omega, by omega⟩ (fun q => absurd q (by decide)) hr⟩
theorem ls33 (H : LI M) (h0 : 0 ≤ i) (h1 : i + 5 < (L : Int)) (hL : L ≤ 3072) : LSx L xs i 2195 M V W := by
  obtain ⟨K, c, S, s, er, w, U, hR, hC, hT, hP⟩ := H
  obtain ⟨p2, e2, i2⟩ := iI_of (xs (i + 2).toNat)
  obtain ⟨bb, hbb⟩ : ∃ bb : Bool, if xs (i + 1).toNat = iI 0 then bb = false else bb = true := by
    by_cases h : xs (i + 1).toNat = iI 0
    · exact ⟨false, by rw [if_pos h]⟩
    · exact ⟨true, by rw [if_neg h]⟩
  obtain ⟨M1, hx, hok, hbad, hf⟩ := x_setRate (L := L) (xs := xs) (d := 991) (M := M) (V := V) (W := W) hC hR.g i2 (bb := bb)
  have hR1 := hR.fr (fun a q => hf a (by omega))
  have hP1 := hP.fr (fun a q => hf a (by omega))
  have hT1 := hT.of (fun a q r => hf a (by omega))
  have hA := fun (V : e_ML) (W : e_MD) => (rf_setRate (L := L) (xs := xs) (d := 998) (M := M1) (V := V) (W := W) hR1 i2 (b := bb))
  by_cases c1 : 0 ≤ p2 ∧ p2 ≤ 1000
  · rw [if_pos c1] at hx
    have hcd : cdRa p2 = 0 := by ((unfold cdRa); first | (rw [if_pos c1]) | ((repeat' split) <;> first | rfl | (exfalso; omega)))
    obtain ⟨M2, z, em, hI, hk, hz⟩ := (hA (e_u V 202 (vp_updL (V 202) 0 (Int32.toInt64 (iI (K (308 + if bb = true then 1 else 0)))))) W).li (fun _ => hok c1) (fun h => absurd hcd h) hT1 hP1
    exact ⟨M2, _, _, 0, 0, ⟨by omega, by omega⟩, hI, fun x h3 a3 b3 hr => lc33 (d := 998) (k := 0) h0 h1 hL hbb (by rw [e2]; exact wo_setRate (d := 998) hx) (by rw [e2]; exact em) (hk.trans (congrArg iI hcd)) ⟨by omega, by omega⟩ (fun _ => by rw [out_0, hz hcd]; first | done | rfl) hr⟩
  · rw [if_neg c1] at hx
    have hcd : cdRa p2 = 1 := by ((unfold cdRa); first | (rw [if_neg c1]) | ((repeat' split) <;> first | rfl | (exfalso; omega)))
    obtain ⟨M2, z, em, hI, hk, hz⟩ := (hA V W).li (fun h => absurd (hcd.symm.trans h) (by decide)) (fun _ => by rw [hbad (fun q => c1 q)]; exact hC) hT1 hP1
    exact ⟨M2, _, _, 1, 6, ⟨by omega, by omega⟩, hI, fun x h3 a3 b3 hr => lc33 (d := 998) (k := 1) h0 h1 hL hbb (by rw [e2]; exact wb0_setRate (d := 998) hx) (by rw [e2]; exact em) (hk.trans (congrArg iI hcd)) ⟨by omega, by omega⟩ (fun q => absurd q (by decide)) hr⟩
theorem ls35 (H : LI M) (h0 : 0 ≤ i) (h1 : i + 5 < (L : Int)) (hL : L ≤ 3072) : LSx L xs i 2322 M V W := by
  obtain ⟨K, c, S, s, er, w, U, hR, hC, hT, hP⟩ := H
  have hx := x_late (L := L) (xs := xs) (d := 994) (M := M) (V := V) (W := W) hC hR.g
  have hA := fun (V : e_ML) (W : e_MD) => (rf_late (L := L) (xs := xs) (d := 992) (M := M) (V := V) (W := W) hR).li hC hT hP
  by_cases c1 : ft K = true
  · rw [if_pos c1] at hx
    have hcd : cdT K 1 = 0 := by ((unfold cdT); first | (rw [if_pos c1]) | ((repeat' split) <;> first | rfl | (exfalso; omega)))
    obtain ⟨M2, z, em, hI, hk, hz⟩ := hA (e_u V 202 (vp_updL (V 202) 0 (Int32.toInt64 (iI (ltN K))))) W
    exact ⟨M2, _, _, 0, 0, ⟨by omega, by omega⟩, hI, fun x h3 a3 b3 hr => lc35 (d := 998) (k := 0) h0 h1 hL (by exact wo_late (d := 998) hx) (by exact em) (hk.trans (congrArg iI hcd)) ⟨by omega, by omega⟩ (fun _ => by rw [out_0, hz hcd]; first | done | rfl) hr⟩
  · rw [if_neg c1] at hx
    have hcd : cdT K 1 = 1 := by ((unfold cdT); first | (rw [if_neg c1]) | ((repeat' split) <;> first | rfl | (exfalso; omega)))
    obtain ⟨M2, z, em, hI, hk, hz⟩ := hA V W
    exact ⟨M2, _, _, 1, 6, ⟨by omega, by omega⟩, hI, fun x h3 a3 b3 hr => lc35 (d := 998) (k := 1) h0 h1 hL (by exact wb1_late (d := 998) hx) (by exact em) (hk.trans (congrArg iI hcd)) ⟨by omega, by omega⟩ (fun q => absurd q (by decide)) hr⟩
theorem ls36 (H : LI M) (h0 : 0 ≤ i) (h1 : i + 5 < (L : Int)) (hL : L ≤ 3072) : LSx L xs i 2366 M V W := by
  obtain ⟨K, c, S, s, er, w, U, hR, hC, hT, hP⟩ := H
  obtain ⟨p1, e1, i1⟩ := iI_of (xs (i + 1).toNat)
  obtain ⟨p2, e2, i2⟩ := iI_of (xs (i + 2).toNat)
  obtain ⟨M1, hx, hok, hbad, hf⟩ := x_move (L := L) (xs := xs) (d := 991) (M := M) (V := V) (W := W) hC hR.g i1 i2
  have hR1 := hR.fr (fun a q => hf a (by omega))
  have hP1 := hP.fr (fun a q => hf a (by omega))
  have hT1 := hT.of (fun a q r => hf a (by omega))
  have hA := fun (V : e_ML) (W : e_MD) => (rf_move (L := L) (xs := xs) (d := 993) (M := M1) (V := V) (W := W) hR1 i1 i2)
  by_cases c1 : (0 ≤ p1 ∧ p1 ≤ aW K - 1) ∧ 0 ≤ p2 ∧ p2 ≤ aW K - 1
  · rw [if_pos c1] at hx
    have hcd : cdMv K p1 p2 = 0 := by ((unfold cdMv); first | (rw [if_pos c1]) | ((repeat' split) <;> first | rfl | (exfalso; omega)))
    obtain ⟨M2, z, em, hI, hk, hz⟩ := (hA (e_u V 202 (vp_updL (V 202) 0 (if (ft (mvK K p1 p2)) = true then 1 else 0))) W).li (fun _ => hok c1) (fun h => absurd hcd h) hT1 hP1
    exact ⟨M2, _, _, 0, 0, ⟨by omega, by omega⟩, hI, fun x h3 a3 b3 hr => lc36 (d := 998) (k := 0) (bb := ft (mvK K p1 p2)) h0 h1 hL (by rw [e1, e2]; exact wo_move (d := 998) hx) (by rw [e1, e2]; exact em) (hk.trans (congrArg iI hcd)) ⟨by omega, by omega⟩ (fun _ => ⟨hz hcd, out_0 _ _⟩) hr⟩
  · rw [if_neg c1] at hx
    have hcd : cdMv K p1 p2 = 1 := by ((unfold cdMv); first | (rw [if_neg c1]) | ((repeat' split) <;> first | rfl | (exfalso; omega)))
    obtain ⟨M2, z, em, hI, hk, hz⟩ := (hA V W).li (fun h => absurd (hcd.symm.trans h) (by decide)) (fun _ => by rw [hbad (fun q => c1 q)]; exact hC) hT1 hP1
    exact ⟨M2, _, _, 1, 6, ⟨by omega, by omega⟩, hI, fun x h3 a3 b3 hr => lc36 (d := 998) (k := 1) (bb := true) h0 h1 hL (by rw [e1, e2]; exact wb2_move (d := 998) hx) (by rw [e1, e2]; exact em) (hk.trans (congrArg iI hcd)) ⟨by omega, by omega⟩ (fun q => absurd q (by decide)) hr⟩
theorem ls37 (H : LI M) (h0 : 0 ≤ i) (h1 : i + 5 < (L : Int)) (hL : L ≤ 3072) : LSx L xs i 2441 M V W := by
  obtain ⟨K, c, S, s, er, w, U, hR, hC, hT, hP⟩ := H
  obtain ⟨M1, V1, hx, hok, hbad, hf, hv⟩ := x_improve (L := L) (xs := xs) (d := 991) (M := M) (V := V) (W := W) hC hR.g
  have hR1 := hR.fr (fun a q => hf a (by omega))
  have hP1 := hP.fr (fun a q => hf a (by omega))
  have hT1 := hT.of (fun a q r => hf a (by omega))
  have hA := fun (V : e_ML) (W : e_MD) => (rf_improve (L := L) (xs := xs) (d := 992) (M := M1) (V := V) (W := W) hR1)
  by_cases c1 : ft K = true
  · rw [if_pos c1] at hx
    have hcd : cdT K 1 = 0 := by ((unfold cdT); first | (rw [if_pos c1]) | ((repeat' split) <;> first | rfl | (exfalso; omega)))
    obtain ⟨M2, z, em, hI, hk, hz⟩ := (hA (e_u V1 202 (vp_updL (V1 202) 0 (Int32.toInt64 (iI (anIm K))))) W).li (fun _ => hok c1) (fun h => absurd hcd h) hT1 hP1
    exact ⟨M2, _, _, 0, 0, ⟨by omega, by omega⟩, hI, fun x h3 a3 b3 hr => lc37 (d := 998) (k := 0) h0 h1 hL (by exact wo_improve (d := 998) hx) (by exact em) (hk.trans (congrArg iI hcd)) ⟨by omega, by omega⟩ (fun _ => by rw [out_0, hz hcd]; first | done | rfl) hr⟩
  · rw [if_neg c1] at hx
    have hcd : cdT K 1 = 1 := by ((unfold cdT); first | (rw [if_neg c1]) | ((repeat' split) <;> first | rfl | (exfalso; omega)))
    obtain ⟨M2, z, em, hI, hk, hz⟩ := (hA V1 W).li (fun h => absurd (hcd.symm.trans h) (by decide)) (fun _ => by rw [hbad (fun q => c1 q)]; exact hC) hT1 hP1
    exact ⟨M2, _, _, 1, 6, ⟨by omega, by omega⟩, hI, fun x h3 a3 b3 hr => lc37 (d := 998) (k := 1) h0 h1 hL (by exact wb1_improve (d := 998) hx) (by exact em) (hk.trans (congrArg iI hcd)) ⟨by omega, by omega⟩ (fun q => absurd q (by decide)) hr⟩
theorem ls38 (H : LI M) (h0 : 0 ≤ i) (h1 : i + 5 < (L : Int)) (hL : L ≤ 3072) : LSx L xs i 2485 M V W := by
  obtain ⟨K, c, S, s, er, w, U, hR, hC, hT, hP⟩ := H
  obtain ⟨p1, e1, i1⟩ := iI_of (xs (i + 1).toNat)
  obtain ⟨M1, hx, hC1, hf⟩ := x_without (L := L) (xs := xs) (d := 991) (M := M) (V := V) (W := W) hC hR.g i1
  have hR1 := hR.fr (fun a q => hf a (by omega))
  have hP1 := hP.fr (fun a q => hf a (by omega))
  have hT1 := hT.of (fun a q r => hf a (by omega))
  have hA := fun (V : e_ML) (W : e_MD) => (rf_without (L := L) (xs := xs) (d := 994) (M := M1) (V := V) (W := W) hR1 i1).li hC1 hT1 hP1
  by_cases c1 : 0 ≤ p1 ∧ p1 ≤ K 310 - 1
  · rw [if_pos c1] at hx
    have hcd : cdOn K p1 = 0 := by ((unfold cdOn); first | (rw [if_pos c1]) | ((repeat' split) <;> first | rfl | (exfalso; omega)))
    obtain ⟨M2, z, em, hI, hk, hz⟩ := hA (e_u V 202 (vp_updL (V 202) 0 (Int32.toInt64 (iI (wiW K p1))))) W
    exact ⟨M2, _, _, 0, 0, ⟨by omega, by omega⟩, hI, fun x h3 a3 b3 hr => lc38 (d := 998) (k := 0) h0 h1 hL (by rw [e1]; exact wo_without (d := 998) hx) (by rw [e1]; exact em) (hk.trans (congrArg iI hcd)) ⟨by omega, by omega⟩ (fun _ => by rw [out_0, hz hcd]; first | done | rfl) hr⟩
  · rw [if_neg c1] at hx
    have hcd : cdOn K p1 = 1 := by ((unfold cdOn); first | (rw [if_neg c1]) | ((repeat' split) <;> first | rfl | (exfalso; omega)))
    obtain ⟨M2, z, em, hI, hk, hz⟩ := hA V W
    exact ⟨M2, _, _, 1, 6, ⟨by omega, by omega⟩, hI, fun x h3 a3 b3 hr => lc38 (d := 998) (k := 1) h0 h1 hL (by rw [e1]; exact wb2_without (d := 998) hx) (by rw [e1]; exact em) (hk.trans (congrArg iI hcd)) ⟨by omega, by omega⟩ (fun q => absurd q (by decide)) hr⟩
theorem ls39 (H : LI M) (h0 : 0 ≤ i) (h1 : i + 5 < (L : Int)) (hL : L ≤ 3072) : LSx L xs i 2541 M V W := by
  obtain ⟨K, c, S, s, er, w, U, hR, hC, hT, hP⟩ := H
  obtain ⟨p1, e1, i1⟩ := iI_of (xs (i + 1).toNat)
  obtain ⟨M1, hx, hok, hbad, hf⟩ := x_keep (L := L) (xs := xs) (d := 991) (M := M) (V := V) (W := W) hC hR.g i1
  have hR1 := hR.fr (fun a q => hf a (by omega))
  have hP1 := hP.fr (fun a q => hf a (by omega))
  have hT1 := hT.of (fun a q r => hf a (by omega))
  have hA := fun (V : e_ML) (W : e_MD) => (rf_keep (L := L) (xs := xs) (d := 993) (M := M1) (V := V) (W := W) hR1 i1)
  by_cases c1 : 0 ≤ p1 ∧ p1 ≤ 2
  · rw [if_pos c1] at hx
    have hcd : cdSl p1 = 0 := by ((unfold cdSl); first | (rw [if_pos c1]) | ((repeat' split) <;> first | rfl | (exfalso; omega)))
    obtain ⟨M2, z, em, hI, hk, hz⟩ := (hA (e_u V 202 (vp_updL (V 202) 0 (Int32.toInt64 (iI (edN (kpK K p1)))))) W).li (fun _ => hok c1) (fun h => absurd hcd h) hT1 hP1
    exact ⟨M2, _, _, 0, 0, ⟨by omega, by omega⟩, hI, fun x h3 a3 b3 hr => lc39 (d := 998) (k := 0) h0 h1 hL (by rw [e1]; exact wo_keep (d := 998) hx) (by rw [e1]; exact em) (hk.trans (congrArg iI hcd)) ⟨by omega, by omega⟩ (fun _ => by rw [out_0, hz hcd]; first | done | rfl) hr⟩
  · rw [if_neg c1] at hx
    have hcd : cdSl p1 = 1 := by ((unfold cdSl); first | (rw [if_neg c1]) | ((repeat' split) <;> first | rfl | (exfalso; omega)))
    obtain ⟨M2, z, em, hI, hk, hz⟩ := (hA V W).li (fun h => absurd (hcd.symm.trans h) (by decide)) (fun _ => by rw [hbad (fun q => c1 q)]; exact hC) hT1 hP1
    exact ⟨M2, _, _, 1, 6, ⟨by omega, by omega⟩, hI, fun x h3 a3 b3 hr => lc39 (d := 998) (k := 1) h0 h1 hL (by rw [e1]; exact wb0_keep (d := 998) hx) (by rw [e1]; exact em) (hk.trans (congrArg iI hcd)) ⟨by omega, by omega⟩ (fun q => absurd q (by decide)) hr⟩
theorem ls40 (H : LI M) (h0 : 0 ≤ i) (h1 : i + 5 < (L : Int)) (hL : L ≤ 3072) : LSx L xs i 2597 M V W := by
  obtain ⟨K, c, S, s, er, w, U, hR, hC, hT, hP⟩ := H
  obtain ⟨p1, e1, i1⟩ := iI_of (xs (i + 1).toNat)
  obtain ⟨M1, hx, hok, hbad, hf⟩ := x_take (L := L) (xs := xs) (d := 991) (M := M) (V := V) (W := W) hC hR.g i1
  have hR1 := hR.fr (fun a q => hf a (by omega))
  have hP1 := hP.fr (fun a q => hf a (by omega))
  have hT1 := hT.of (fun a q r => hf a (by omega))
  have hA := fun (V : e_ML) (W : e_MD) => (rf_take (L := L) (xs := xs) (d := 993) (M := M1) (V := V) (W := W) hR1 i1)
  by_cases c1 : 0 ≤ p1 ∧ p1 ≤ 2
  · rw [if_pos c1] at hx
    by_cases c2 : K (305 + p1) = 1
    · rw [if_pos c2] at hx
      have hcd : cdTk K p1 = 0 := by ((unfold cdTk); first | (rw [if_pos c1, if_pos c2]) | ((repeat' split) <;> first | rfl | (exfalso; omega)))
      obtain ⟨M2, z, em, hI, hk, hz⟩ := (hA (e_u V 202 (vp_updL (V 202) 0 (Int32.toInt64 (iI (edN (tkK K p1)))))) W).li (fun _ => hok ⟨c1, c2⟩) (fun h => absurd hcd h) hT1 hP1
      exact ⟨M2, _, _, 0, 0, ⟨by omega, by omega⟩, hI, fun x h3 a3 b3 hr => lc40 (d := 998) (k := 0) h0 h1 hL (by rw [e1]; exact wo_take (d := 998) hx) (by rw [e1]; exact em) (hk.trans (congrArg iI hcd)) ⟨by omega, by omega⟩ (fun _ => by rw [out_0, hz hcd]; first | done | rfl) hr⟩
    · rw [if_neg c2] at hx
      have hcd : cdTk K p1 = 2 := by ((unfold cdTk); first | (rw [if_pos c1, if_neg c2]) | ((repeat' split) <;> first | rfl | (exfalso; omega)))
      obtain ⟨M2, z, em, hI, hk, hz⟩ := (hA V W).li (fun h => absurd (hcd.symm.trans h) (by decide)) (fun _ => by rw [hbad (fun q => c2 q.2)]; exact hC) hT1 hP1
      exact ⟨M2, _, _, 1, 6, ⟨by omega, by omega⟩, hI, fun x h3 a3 b3 hr => lc40 (d := 998) (k := 2) h0 h1 hL (by rw [e1]; exact wb3_take (d := 998) hx) (by rw [e1]; exact em) (hk.trans (congrArg iI hcd)) ⟨by omega, by omega⟩ (fun q => absurd q (by decide)) hr⟩
  · rw [if_neg c1] at hx
    have hcd : cdTk K p1 = 1 := by ((unfold cdTk); first | (rw [if_neg c1]) | ((repeat' split) <;> first | rfl | (exfalso; omega)))
    obtain ⟨M2, z, em, hI, hk, hz⟩ := (hA V W).li (fun h => absurd (hcd.symm.trans h) (by decide)) (fun _ => by rw [hbad (fun q => c1 q.1)]; exact hC) hT1 hP1
    exact ⟨M2, _, _, 1, 6, ⟨by omega, by omega⟩, hI, fun x h3 a3 b3 hr => lc40 (d := 998) (k := 1) h0 h1 hL (by rw [e1]; exact wb0_take (d := 998) hx) (by rw [e1]; exact em) (hk.trans (congrArg iI hcd)) ⟨by omega, by omega⟩ (fun q => absurd q (by decide)) hr⟩
theorem ls41 (H : LI M) (h0 : 0 ≤ i) (h1 : i + 5 < (L : Int)) (hL : L ≤ 3072) : LSx L xs i 2653 M V W := by
  obtain ⟨K, c, S, s, er, w, U, hR, hC, hT, hP⟩ := H
  obtain ⟨p1, e1, i1⟩ := iI_of (xs (i + 1).toNat)
  obtain ⟨M1, hx, hC1, hf⟩ := x_differ (L := L) (xs := xs) (d := 991) (M := M) (V := V) (W := W) hC hR.g i1
  have hR1 := hR.fr (fun a q => hf a (by omega))
  have hP1 := hP.fr (fun a q => hf a (by omega))
  have hT1 := hT.of (fun a q r => hf a (by omega))
  have hA := fun (V : e_ML) (W : e_MD) => (rf_differ (L := L) (xs := xs) (d := 993) (M := M1) (V := V) (W := W) hR1 i1).li hC1 hT1 hP1
  by_cases c1 : 0 ≤ p1 ∧ p1 ≤ 2
  · rw [if_pos c1] at hx
    by_cases c2 : K (305 + p1) = 1
    · rw [if_pos c2] at hx
      by_cases c3 : fiR K (kpR K p1) (aW K) = true ∧ ft K = true
      · rw [if_pos c3] at hx
        have hcd : cdDi K p1 = 0 := by simp [cdDi, cdTk, c1, c2, c3]
        obtain ⟨M2, z, em, hI, hk, hz⟩ := hA (e_u V 202 (vp_updL (V 202) 0 (Int32.toInt64 (iI (otW K K (kpR K p1)))))) W
        exact ⟨M2, _, _, 0, 0, ⟨by omega, by omega⟩, hI, fun x h3 a3 b3 hr => lc41 (d := 998) (k := 0) h0 h1 hL (by rw [e1]; exact wo_differ (d := 998) hx) (by rw [e1]; exact em) (hk.trans (congrArg iI hcd)) ⟨by omega, by omega⟩ (fun _ => by rw [out_0, hz hcd]; first | done | rfl) hr⟩
      · rw [if_neg c3] at hx
        have hcd : cdDi K p1 = 3 := by simp [cdDi, cdTk, c1, c2, c3]
        obtain ⟨M2, z, em, hI, hk, hz⟩ := hA V W
        exact ⟨M2, _, _, 1, 6, ⟨by omega, by omega⟩, hI, fun x h3 a3 b3 hr => lc41 (d := 998) (k := 3) h0 h1 hL (by rw [e1]; exact wb1_differ (d := 998) hx) (by rw [e1]; exact em) (hk.trans (congrArg iI hcd)) ⟨by omega, by omega⟩ (fun q => absurd q (by decide)) hr⟩
    · rw [if_neg c2] at hx
      have hcd : cdDi K p1 = 2 := by simp [cdDi, cdTk, c1, c2]
      obtain ⟨M2, z, em, hI, hk, hz⟩ := hA V W
      exact ⟨M2, _, _, 1, 6, ⟨by omega, by omega⟩, hI, fun x h3 a3 b3 hr => lc41 (d := 998) (k := 2) h0 h1 hL (by rw [e1]; exact wb3_differ (d := 998) hx) (by rw [e1]; exact em) (hk.trans (congrArg iI hcd)) ⟨by omega, by omega⟩ (fun q => absurd q (by decide)) hr⟩
  · rw [if_neg c1] at hx
    have hcd : cdDi K p1 = 1 := by simp [cdDi, cdTk, c1]
    obtain ⟨M2, z, em, hI, hk, hz⟩ := hA V W
    exact ⟨M2, _, _, 1, 6, ⟨by omega, by omega⟩, hI, fun x h3 a3 b3 hr => lc41 (d := 998) (k := 1) h0 h1 hL (by rw [e1]; exact wb0_differ (d := 998) hx) (by rw [e1]; exact em) (hk.trans (congrArg iI hcd)) ⟨by omega, by omega⟩ (fun q => absurd q (by decide)) hr⟩
theorem ls47 (H : LI M) (h0 : 0 ≤ i) (h1 : i + 5 < (L : Int)) (hL : L ≤ 3072) : LSx L xs i 2903 M V W := by
  obtain ⟨K, c, S, s, er, w, U, hR, hC, hT, hP⟩ := H
  obtain ⟨p1, e1, i1⟩ := iI_of (xs (i + 1).toNat)
  have hx := x_writtenAt (L := L) (xs := xs) (d := 996) (M := M) (V := V) (W := W) hT i1
  have hA := fun (V : e_ML) (W : e_MD) => (rf_writtenAt (L := L) (xs := xs) (d := 998) (M := M) (V := V) (W := W) hR hP i1).li hC hT hP
  by_cases c1 : 0 ≤ p1 ∧ p1 ≤ w - 1
  · rw [if_pos c1] at hx
    have hcd : cdWr w p1 = 0 := by ((unfold cdWr); first | (rw [if_pos c1]) | ((repeat' split) <;> first | rfl | (exfalso; omega)))
    obtain ⟨M2, z, em, hI, hk, hz⟩ := hA (e_u V 202 (vp_updL (V 202) 0 (Int32.toInt64 (iI (U p1))))) W
    exact ⟨M2, _, _, 0, 0, ⟨by omega, by omega⟩, hI, fun x h3 a3 b3 hr => lc47 (d := 998) (k := 0) h0 h1 hL (by rw [e1]; exact wo_writtenAt (d := 998) hx) (by rw [e1]; exact em) (hk.trans (congrArg iI hcd)) ⟨by omega, by omega⟩ (fun _ => by rw [out_0, hz hcd]; first | done | rfl) hr⟩
  · rw [if_neg c1] at hx
    have hcd : cdWr w p1 = 1 := by ((unfold cdWr); first | (rw [if_neg c1]) | ((repeat' split) <;> first | rfl | (exfalso; omega)))
    obtain ⟨M2, z, em, hI, hk, hz⟩ := hA V W
    exact ⟨M2, _, _, 1, 6, ⟨by omega, by omega⟩, hI, fun x h3 a3 b3 hr => lc47 (d := 998) (k := 1) h0 h1 hL (by rw [e1]; exact wb2_writtenAt (d := 998) hx) (by rw [e1]; exact em) (hk.trans (congrArg iI hcd)) ⟨by omega, by omega⟩ (fun q => absurd q (by decide)) hr⟩
end El8
