section El23
variable {L : Nat} {xs : Nat → Int32} {d : Nat} {M M1 M2 M3 : e_MI} {V V2 : e_ML} {W : e_MD} {K K2 : e_St} {S : Int → e_St} {h : e_H} {c o j w z m k q p i f n a b t x B its u v : Int} {τ β ε : Int → Int} {s : exT}
/-! a change of the class, the law's cells as they were -/
def eqL (K K2 : e_St) : Prop := ∀ z, z < 241 ∨ 308 ≤ z → K2 z = K z
theorem eqL.kk (h : eqL K K2) : eqK K K2 := fun z hz => h z (by omega)
theorem eqL.tr {K3 : e_St} (h : eqL K K2) (h2 : eqL K2 K3) : eqL K K3 := fun z hz => by rw [h2 z hz, h z hz]
theorem eqL_rw {r : Int → Int} : eqL K (rwS K r) := fun z hz => rwS_n (by omega)
theorem eqL_rt : eqL K (rtS K τ) := eqL_rw
theorem LA.cg (H : LA M K) (hr : kR K) (he : eqL K K2) : LA M K2 := by
  obtain ⟨⟨a1, a2⟩, a3, a4, a5⟩ := H
  have hn := hr.n
  have h310 := he 310 (by omega)
  refine ⟨⟨by rw [h310]; exact a1, by rw [he.kk.ww hn.2]; exact a2⟩, fun o x y => ?_, fun o w x y z t => ?_, fun i x y => ?_⟩
  · rw [h310] at y
    rw [he o (by omega), he (8 + o) (by omega), he (16 + o) (by omega), he (24 + o) (by omega), he (32 + o) (by omega), he (40 + o) (by omega)]
    exact a3 o x y
  · rw [h310] at y
    rw [he (40 + o) (by omega)] at t
    have := hr.wk (o := o) x (by omega)
    rw [he (48 + 4 * o + w) (by omega), he (80 + 4 * o + w) (by omega), he (112 + 4 * o + w) (by omega)]
    exact a4 o w x y z t
  · rw [he (144 + i) (by omega)]
    exact a5 i x y
theorem LB.cg (H : LB M K) (hr : kR K) (he : eqL K K2) : LB M K2 := by
  obtain ⟨a1, a2, a3⟩ := H
  have hn := hr.rm
  have h311 := he 311 (by omega)
  refine ⟨by rw [h311]; exact a1, fun i x y => ?_, fun k x y => ?_⟩
  · rw [he (238 + i) (by omega)]
    exact a2 i x y
  · rw [h311] at y
    rw [he (208 + k) (by omega), he (218 + k) (by omega), he (228 + k) (by omega)]
    exact a3 k x y
theorem LC.cg (H : LC M K) (he : eqL K K2) : LC M K2 := ⟨by rw [he 309 (by omega)]; exact H.1, by rw [he 308 (by omega)]; exact H.2⟩
theorem LK.cg (H : LK K) (hr : kR K) (he : eqL K K2) : LK K2 := by
  have hn := hr.rm
  have h311 := he 311 (by omega)
  refine ⟨by rw [he.kk.ww hr.n.2]; exact H.1, fun k x y => ?_⟩
  rw [h311] at y
  rw [he (228 + k) (by omega)]
  exact H.2 k x y
theorem sv_g (hc : 0 ≤ c ∧ c ≤ 12) (hg : kG K) (hS : ∀ j, 0 ≤ j → j < c → kG (S j)) : ∀ j, 0 ≤ j → j < svC c → kG (svS c S K j) := by
  intro j x y
  unfold svC at y
  unfold svS
  by_cases hq : c = 12
  · rw [if_pos hq] at y ⊢
    by_cases h11 : j = 11
    · rw [if_pos h11]; exact hg
    · rw [if_neg h11]; exact hS _ (by omega) (by omega)
  · rw [if_neg hq] at y ⊢
    by_cases hj : j = c
    · rw [if_pos hj]; exact hg
    · rw [if_neg hj]; exact hS _ x (by omega)
theorem HS.cc (H : HS M c S) : 0 ≤ c ∧ c ≤ 12 := by
  obtain ⟨nx, h1, h2, -⟩ := H
  exact h2
theorem fH {lo : Nat} (hlo : lo ≤ 183) (hf : ∀ a, lo < a → M2 a = M a) : ∀ a, 183 < a → M2 a = M a := fun a x => hf a (by omega)
/-- the law's cells as they were -/
theorem LA.up (H : LA M K) (hf : ∀ a, 183 < a → M2 a = M a) : LA M2 K := by
  obtain ⟨⟨a1, a2⟩, a3, a4, a5⟩ := H
  refine ⟨⟨by rw [hf 184 (by decide)]; exact a1, by rw [hf 184 (by decide)]; exact a2⟩, fun o x y => ?_, fun o w x y z t => ?_, fun i x y => ?_⟩
  · rw [hf 185 (by decide), hf 186 (by decide), hf 187 (by decide), hf 188 (by decide), hf 189 (by decide), hf 190 (by decide)]
    exact a3 o x y
  · rw [hf 191 (by decide), hf 192 (by decide), hf 193 (by decide)]
    exact a4 o w x y z t
  · rw [hf 194 (by decide)]
    exact a5 i x y
theorem LB.up (H : LB M K) (hf : ∀ a, 183 < a → M2 a = M a) : LB M2 K := by
  obtain ⟨a1, a2, a3⟩ := H
  refine ⟨by rw [hf 184 (by decide)]; exact a1, fun i x y => ?_, fun k x y => ?_⟩
  · rw [hf 195 (by decide)]
    exact a2 i x y
  · rw [hf 196 (by decide), hf 197 (by decide), hf 198 (by decide)]
    exact a3 k x y
theorem LC.up (H : LC M K) (hf : ∀ a, 183 < a → M2 a = M a) : LC M2 K := ⟨by rw [hf 184 (by decide)]; exact H.1, by rw [hf 184 (by decide)]; exact H.2⟩
theorem CL.ch (H : CL M K c S) (hk : CK M2 K2 (svC c) (svS c S K)) (hf : ∀ a, 183 < a → M2 a = M a) (hg : kG K2) (he : eqL K K2) : CL M2 K2 (svC c) (svS c S K) :=
  ⟨hk, hg, H.lk.cg H.g.1 he, ⟨(H.la.up hf).cg H.g.1 he, (H.lb.up hf).cg H.g.1 he, (H.lc.up hf).cg he⟩, sv_g H.ck.hs.cc H.g H.us⟩
/-- a question of the class -/
theorem CL.qu (H : CL M K c S) (hk : CK M2 K c S) (hf : ∀ a, 183 < a → M2 a = M a) : CL M2 K c S := ⟨hk, H.g, H.lk, ⟨H.la.up hf, H.lb.up hf, H.lc.up hf⟩, H.us⟩
/-- and undone -/
theorem CL.un {c0 : Int} {S0 : Int → e_St} (H : CL M K c S) (hk : CK M2 K2 c0 S0) (hf : ∀ a, 183 < a → M2 a = M a) (hg : kG K2) (he : eqL K K2) (hS : ∀ j, 0 ≤ j → j < c0 → kG (S0 j)) : CL M2 K2 c0 S0 :=
  ⟨hk, hg, H.lk.cg H.g.1 he, ⟨(H.la.up hf).cg H.g.1 he, (H.lb.up hf).cg H.g.1 he, (H.lc.up hf).cg he⟩, hS⟩
theorem vR.cgL (hr : kR K) (hv : vR K τ) (he : eqL K K2) : vR K2 τ := by
  have hn := hr.n
  have h310 := he 310 (by omega)
  have hw := he.kk.ww hn.2
  refine ⟨fun p x y => ?_, fun o x y => ?_⟩
  · rw [h310]
    rw [hw] at y
    exact hv.1 p x y
  · rw [h310] at y
    rw [hw, he (40 + o) (by omega)]
    exact hv.2 o x y
theorem eqL.sc (he : eqL K K2) (hr : kR K) (hv : vP K τ k) (h0 : 0 ≤ p) (h1 : p < k) : scB K2 τ p = scB K τ p ∧ scE K2 τ p = scE K τ p := by
  have := he.kk.sc hr hv p.toNat p.toNat (Nat.le_refl _) (by omega)
  rw [Int.toNat_of_nonneg h0] at this
  exact this
/-- the least end is what all rows say -/
theorem l_isLeast (H : CL M K c S) : ∃ (M2 : e_MI) (K2 : e_St) (c2 : Int) (S2 : Int → e_St), e_lim L xs (d + 26) 180 0 [some (.ref 184), none] [] (e_hp M V W) = some (.inl (some (.int (bI true))), e_hp M2 V W, 0, 0) ∧ CL M2 K2 c2 S2 := by
  have hr := H.g.1
  have hp := H.g.2.2.1
  obtain ⟨ha, hv0⟩ := H.g.2.1
  have e0 := H.la.ws
  by_cases h5 : 5 < aW K
  · refine ⟨M, K, c, S, ?_, H⟩
    simp (disch := first | assumption | exact e_nk_i _ | exact e_nk_n | exact e_nk_r _ | exact e_bo_0 | exact e_bo_1 | exact e_bo_b _ | omega) only [e_cl_v, e_cl_x, e_add_0, e_add_s, Option.toList_some, Option.toList_none, List.cons_append, List.nil_append, iI_add, iI_sub, iI_mul, iI_lt, iI_eq, iI_le, r180_0, r180_1, r180_4, r180_5, r180_8, r180_9, e0]
    rw [if_pos h5]
    rfl
  · have hF1 : fL M (e_u M 184 (upd (M 184) 27 (iI (-1)))) := ⟨fun a x => e_u_n _ _ (by omega), fun a x y => e_u_n _ _ (by omega), fun j x => by rw [e_u_s, upd_n _ _ (by omega)]⟩
    have H1 := H.of hF1
    have hT1 : TS (e_u M 184 (upd (M 184) 27 (iI (-1)))) K (-1, fun _ => 0) := ⟨by rw [e_u_s, upd_s], by simp only; omega, fun x => absurd rfl x⟩
    have hpf : pfx K (fun _ => 0) 0 := ⟨fun p x y => by omega, fun o x y => by
      have h1 : cnt (fun _ => 0) o 0 = 0 := rfl
      have h2 := hr.wk (o := o) x (by have := hr.n; omega)
      omega⟩
    obtain ⟨M2, e1, f1, g1, s1⟩ := l_triesRows (L := L) (xs := xs) (d := d + 23 - (aW K).toNat) (V := V) (W := W) hr hp ha (aW K).toNat 0 (fun _ => 0) (-1, fun _ => 0) _ (by omega) (by omega) hpf H1.la H1.lb (fun p x y => by omega) hT1
    rw [show d + 23 - (aW K).toNat + (aW K).toNat + 2 = d + 25 by omega] at e1
    rw [if_pos (fiR_t (by omega) (fun p x y => by omega))] at s1
    have s1 : TS M2 K (lsR K) := s1
    have H2 := H1.of f1.l
    obtain ⟨M3, e2, q1, -, q3⟩ := x_least (L := L) (xs := xs) (d := d) (V := V) (W := W) H2.ck H2.g
    rw [if_pos (by omega)] at e2
    have hk3 := q1 (by omega)
    have he : eqL K (lsK K) := by
      unfold lsK
      split
      · exact fun z _ => rfl
      · exact eqL_rt
    have H3 := H2.ch hk3 (fH (by decide) q3) (kG_ls H.g) he
    obtain ⟨t1, t2, t3⟩ := s1
    have t1 : M3 184 27 = iI (lsR K).1 := by rw [q3 184 (by decide)]; exact t1
    have eM1 : e_u M 184 (upd (M 184) 27 (iI (-1))) 184 27 = iI (-1) := by rw [e_u_s, upd_s]
    have e3 := H3.la.ws
    rw [he.kk.ww hr.n.2] at e3
    have t1b : M2 184 27 = iI (lsR K).1 := by rw [← q3 184 (by decide)]; exact t1
    refine ⟨M3, lsK K, _, _, ?_, H3⟩
    simp (disch := first | assumption | exact e_nk_i _ | exact e_nk_n | exact e_nk_r _ | exact e_bo_0 | exact e_bo_1 | exact e_bo_b _ | omega) only [e_cl_v, e_cl_x, e_add_0, e_add_s, Option.toList_some, Option.toList_none, List.cons_append, List.nil_append, iI_add, iI_sub, iI_mul, iI_lt, iI_eq, iI_le, r180_0, r180_1, r180_4, r180_5, r180_8, r180_9, r180_10, r180_11, r180_12, r180_15, r180_16, r180_17, r180_20, r180_21, r180_24, r180_27, r180_28, r180_31, r180_34, r180_35, r180_36, r180_37, e0, e1, e2, t1, t1b, if_true]
    rw [if_neg (by omega)]
    by_cases c1 : (lsR K).1 = -1
    · rw [r180_38]
      simp (disch := first | assumption | exact e_nk_i _ | exact e_nk_n | exact e_nk_r _ | exact e_bo_0 | exact e_bo_1 | exact e_bo_b _ | omega) only [e_cl_v, e_cl_x, e_add_0, e_add_s, Option.toList_some, Option.toList_none, List.cons_append, List.nil_append, iI_add, iI_sub, iI_mul, iI_lt, iI_eq, iI_le, r180_39, r180_40, r180_43, r180_46, r180_47, r180_50, r180_51, r180_54, r180_55, r180_58, r180_59, r180_62, r180_63, r180_66, r180_67, r180_68, r180_71, r180_72, r180_73, r180_76, r180_79, r180_80, r180_83, r180_84, r180_87, r180_88, r180_91, r180_94, r180_95, r180_98, r180_101, r180_102, r180_105, r180_106, e3, t1, if_true, if_pos c1]
      by_cases c2 : (0 : Int) < aW K
      · rw [if_pos c2]
        rfl
      · rw [if_neg c2]
        rfl
    · have hsp := (exR_sp hr ha.1 (aW K).toNat 0 (fun _ => 0) (-1, fun _ => 0) (by omega) (by omega) hpf (fun p x y => by omega)).2.2
      have hok : okR K (lsR K).2 ∧ (lsR K).1 = enR K (lsR K).2 := by
        rcases hsp with y | ⟨y1, -, y2, -⟩
        · have : lsR K = (-1, fun _ => 0) := y
          rw [this] at c1
          exact absurd rfl c1
        · exact ⟨y1, y2⟩
      have hls : lsK K = rtS K (lsR K).2 := by unfold lsK; rw [if_neg c1]
      have hvu := hok.1.1
      have hvp : vP K (lsR K).2 (aW K) := vR.vp hr hvu
      have hw := he.kk.ww hr.n.2
      have hbo : boW (lsK K) ≤ (lsR K).1 := by
        have := boW_le H3.g.1 H3.g.2.2.1 (u := (lsR K).2) ⟨vR.cgL hr hvu he, fun p x y => by
          rw [hw] at y
          rw [(he.sc hr hvp x y).1]
          exact hok.1.2 p x y⟩ (by rw [hw]; exact ha.1)
        have h2 : enR (lsK K) (lsR K).2 = enR K (lsR K).2 := by
          unfold enR
          rw [hw]
          exact mX_cong ha.1 fun p x y => (he.sc hr hvp x y).2
        rw [h2, ← hok.2] at this
        exact this
      have hbo2 : 0 ≤ boW (lsK K) := (boM_rg H3.g.1 4).1
      have hrow : ∀ p, 0 ≤ p → p < aW K → lsK K (241 + p) = (lsR K).2 p := fun p x y => by
        rw [hls]
        unfold rtS
        rw [rwS_r x (by omega), if_pos y]
      refine G_loopI (C := fun j => e_lim L xs (d + 26) 180 38 [some (.ref 184), some (.int (iI j))] [] (e_hp M3 V W)) (i := 0) (n := aW K) ha.1 (fun j x y hc => ?_) ?_
      · have a1 := x_rowAt (L := L) (xs := xs) (d := d + 23) (V := V) (W := W) H3.ck.sh (by rw [hw]; exact ha) (p := j) (by unfold i32; omega)
        rw [if_pos (by omega), hrow j x y] at a1
        have a2 : M3 204 j.toNat = iI ((lsR K).2 j) := by rw [q3 204 (by decide)]; exact t3 c1 j x y
        have r2 := hvu.1 j x y
        have hn := hr.n
        rw [r180_38]
        simp (disch := first | assumption | exact e_nk_i _ | exact e_nk_n | exact e_nk_r _ | exact e_bo_0 | exact e_bo_1 | exact e_bo_b _ | omega) only [e_cl_v, e_cl_x, e_add_0, e_add_s, Option.toList_some, Option.toList_none, List.cons_append, List.nil_append, iI_add, iI_sub, iI_mul, iI_lt, iI_eq, iI_le, r180_39, r180_40, r180_43, r180_46, r180_47, r180_50, r180_51, r180_54, r180_55, r180_58, r180_59, r180_62, r180_63, r180_66, r180_67, r180_68, r180_71, r180_72, r180_73, r180_76, iI_vin, iI_nat, if_true, e3, t1, a1, a2, if_pos y, if_neg c1]
        exact hc
      · have a3 := x_bound (L := L) (xs := xs) (d := d + 19) (V := V) (W := W) H3.ck.sh H3.g.1 H3.g.2.2.1
        rw [r180_38]
        simp (disch := first | assumption | exact e_nk_i _ | exact e_nk_n | exact e_nk_r _ | exact e_bo_0 | exact e_bo_1 | exact e_bo_b _ | omega) only [e_cl_v, e_cl_x, e_add_0, e_add_s, Option.toList_some, Option.toList_none, List.cons_append, List.nil_append, iI_add, iI_sub, iI_mul, iI_lt, iI_eq, iI_le, r180_39, r180_40, r180_43, r180_46, r180_47, r180_50, r180_51, r180_54, r180_55, r180_58, r180_59, r180_62, r180_63, r180_66, r180_67, r180_68, r180_71, r180_72, r180_73, r180_76, r180_79, r180_80, r180_83, r180_84, r180_87, r180_88, r180_91, r180_94, r180_95, r180_98, r180_101, r180_102, r180_105, r180_106, e3, t1, a3, if_true, if_neg c1]
        rw [if_neg (by omega), if_neg (by omega)]
        rfl
end El23
