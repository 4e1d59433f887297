section E89
variable {L : Nat} {xs : Nat → Int32} {d : Nat} {M M2 M3 : e_MI} {V : e_ML} {W : e_MD} {K K2 : e_St} {h : e_H} {S : Int → e_St} {c cd n er w f t o : Int} {s : Int × (Int → Int)} {ρ ω β ε τ T U : Int → Int} {r : Option e_R} {an : Int32}
theorem rf_undo (H : RK M K c S) : ∃ M2 : e_MI, e_lim L xs d 182 0 [some (.ref 184), none] [] (e_hp M V W) = some (.inl (some (.int (iI (c - 1)))), e_hp M2 V W, 0, 0) ∧ RK M2 (if c = 0 then K else S (c - 1)) (if c = 0 then 0 else c - 1) S ∧ frP M M2 := by
  obtain ⟨M2, e, hK, hu, h0, f1, f2⟩ := mm_undo (L := L) (xs := xs) (d := d) (V := V) (W := W) H.km H.u
  have hc := H.u.2.1
  have hS := H.2.2.2.1
  refine ⟨M2, e, ⟨hK, ?_, hu, fun j a b => ?_, H.s.of fun a x y => f1 a (by omega) (by omega)⟩, frP.mk (fun a x y => f1 a x (by omega)) (fun j x => f2 j (by omega) (by omega))⟩
  · by_cases h : c = 0
    · rw [if_pos h]; exact H.g
    · rw [if_neg h]; exact hS _ (by omega) (by omega)
  · by_cases h : c = 0
    · rw [if_pos h] at b; omega
    · rw [if_neg h] at b; exact hS j a (by omega)
/-- the state with another row of all works -/
def rtS (K : e_St) (τ : Int → Int) : e_St := rwS K (fun p => if p < aW K then τ p else K (241 + p))
theorem rtS_row {p : Int} (hn : aW K ≤ 16) (h0 : 0 ≤ p) (h1 : p < aW K) : rwK (rtS K τ) p = τ p := by
  unfold rwK rtS
  rw [rwS_r h0 (by omega), if_pos h1]
theorem rtS_aW (hr : kR K) : aW (rtS K τ) = aW K := aW_rwS K _ hr.n.2
theorem kG_rt (hg : kG K) (hv : vR K τ) : kG (rtS K τ) := by
  have hn := hg.1.n
  refine kG_row hg (fun p a b => ?_) ⟨fun p a b => ?_, fun o a b => ?_⟩
  · show 0 ≤ (if p < aW K then τ p else K (241 + p)) ∧ (if p < aW K then τ p else K (241 + p)) ≤ 7
    split
    · next q => have := hv.1 p a q; omega
    · exact hg.1.ro a b
  · show 0 ≤ (if p < aW K then τ p else K (241 + p)) ∧ (if p < aW K then τ p else K (241 + p)) < K 310
    rw [if_pos b]
    exact hv.1 p a b
  · rw [cnt_cong (ρ2 := τ) (fun p x y => if_pos y)]
    exact hv.2 o a b
/-- what is tried becomes the row, and is timed -/
theorem rf_taken (H : RK M K c S) (ht : e_ar (M 192) (aW K) τ) (hv : vR K τ) : ∃ (M2 M3 : e_MI), e_lim L xs (d + 5) 266 0 [some (.ref 184), none] [] (e_hp M V W) = some (.inl none, e_hp M2 V W, 0, 0) ∧ e_lim L xs (d + 5) 220 0 [some (.ref 184), none] [] (e_hp M2 V W) = some (.inl (some (.int (bI (ft (rtS K τ))))), e_hp M3 V W, 0, 0) ∧ RK M3 (rtS K τ) c S ∧ frP M M3 ∧ M3 184 0 = M 184 0 := by
  obtain ⟨M2, e1, k2, f2⟩ := mm_takesTried (L := L) (xs := xs) (d := d + 3) (V := V) (W := W) H.km H.r H.v.1 ht
  have H2 : RK M2 (rtS K τ) c S := H.n k2 (kG_rt H.g hv) f2
  obtain ⟨M3, ρ, ω, β, ε, e2, H3, hq, hS, hg, hz, h0⟩ := rf_times (L := L) (xs := xs) (d := d) (V := V) (W := W) H2
  exact ⟨M2, M3, e1, e2, H3, f2.p.t hq.p, by rw [h0, f2 184 (by decide)]⟩
/-! a place moved -/
theorem mvW_cnt {r : Int → Int} (hf : 0 ≤ f) : ∀ k : Nat, cnt (mvW r f) o (f + k) + (if r f = o then 1 else 0) = cnt r o (f + k + 1)
  | 0 => by
    rw [show f + ((0 : Nat) : Int) = f by omega, cnt_s r o hf, cnt_cong (ρ2 := r) (fun p a b => by unfold mvW; rw [if_pos b])]
  | k + 1 => by
    have ih := mvW_cnt (r := r) hf k
    rw [show f + ((k + 1 : Nat) : Int) = f + k + 1 by omega, cnt_s _ _ (by omega), cnt_s r o (by omega : 0 ≤ f + (k : Int) + 1), ← ih]
    have : mvW r f (f + k) = r (f + k + 1) := by
      unfold mvW
      rw [if_neg (by omega)]
    rw [this]
    omega
theorem insP_cnt {w : Int → Int} {v : Int} (ht : 0 ≤ t) : ∀ k : Nat, cnt (fun p => if p = t then v else if p < t then w p else w (p - 1)) o (t + k + 1) = cnt w o (t + k) + if v = o then 1 else 0
  | 0 => by
    rw [show t + ((0 : Nat) : Int) = t by omega, cnt_s _ _ ht, if_pos rfl, cnt_cong (ρ2 := w) (fun p a b => by rw [if_neg (by omega), if_pos b])]
  | k + 1 => by
    have ih := insP_cnt (w := w) (v := v) ht k
    rw [show t + ((k + 1 : Nat) : Int) + 1 = (t + k + 1) + 1 by omega, cnt_s _ _ (by omega), ih, show t + ((k + 1 : Nat) : Int) = t + k + 1 by omega, cnt_s w o (by omega), if_neg (show ¬ t + (k : Int) + 1 = t by omega), if_neg (show ¬ t + (k : Int) + 1 < t by omega), show t + (k : Int) + 1 - 1 = t + k by omega]
    omega
theorem mvR_v {τ : Int → Int} (hv : vR K τ) (hf : 0 ≤ f ∧ f < aW K) (ht : 0 ≤ t ∧ t < aW K) : vR K (mvR τ f t) := by
  refine ⟨fun p a b => ?_, fun o a b => ?_⟩
  · unfold mvR mvW
    split
    · exact hv.1 f hf.1 hf.2
    · split
      · split
        · exact hv.1 p a b
        · exact hv.1 (p + 1) (by omega) (by omega)
      · split
        · exact hv.1 (p - 1) (by omega) (by omega)
        · rw [show p - 1 + 1 = p by omega]
          exact hv.1 p a b
  · rw [← hv.2 o a b]
    have h1 := mvW_cnt (r := τ) (o := o) hf.1 (aW K - 1 - f).toNat
    have h2 := insP_cnt (w := mvW τ f) (v := τ f) (o := o) ht.1 (aW K - 1 - t).toNat
    rw [show f + ((aW K - 1 - f).toNat : Int) = aW K - 1 by omega] at h1
    rw [show t + ((aW K - 1 - t).toNat : Int) = aW K - 1 by omega] at h2
    rw [show aW K - 1 + 1 = aW K by omega] at h1 h2
    rw [← h1, ← h2]
    rfl
def cdMv (K : e_St) (f t : Int) : Int := if (0 ≤ f ∧ f ≤ aW K - 1) ∧ 0 ≤ t ∧ t ≤ aW K - 1 then 0 else 1
def mvK (K : e_St) (f t : Int) : e_St := rtS K (mvR (rwK K) f t)
theorem rf_moves (H : RK M K c S) (hf : 0 ≤ f ∧ f < aW K) (ht : 0 ≤ t ∧ t < aW K) : ∃ M2 : e_MI, e_lim L xs (d + 2) 265 0 [some (.ref 184), some (.int (iI f)), some (.int (iI t)), none, none] [] (e_hp M V W) = some (.inl none, e_hp M2 V W, 0, 0) ∧ e_ar (M2 192) (aW K) (mvR (rwK K) f t) ∧ frY M M2 ∧ RK M2 K c S := by
  obtain ⟨M2, e, ha, hF⟩ := mm_moves (L := L) (xs := xs) (d := d) (V := V) (W := W) H.km H.r H.v.1 hf ht
  exact ⟨M2, e, ha, hF, H.of (hF _ (by decide)) (hF _ (by decide)) (by rw [hF 184 (by decide)]) (H.s.of fun a x y => hF a (by omega))⟩
theorem frY.q (hF : frY M M2) : frQ M M2 := frQ.mk (fun a x y => hF a (by omega)) (fun j x => by rw [hF 184 (by decide)])
theorem mm_noPlaceT (hK : e_KM M K) (hr : kR K) (hv : kV K) (h0 : M 184 0 = iI 0) {m : Int} (hm : 0 ≤ m ∧ m ≤ aW K - 1) : e_lim L xs (d + 2) 267 0 [some (.ref 184), some (.int (iI m))] [] (e_hp M V W) = some (.inl (some (.int (iI 0))), e_hp M V W, 0, 0) := by
  have hn := hv.1
  rw [mm_noPlace hK hr hv h0 ⟨by omega, by omega⟩, decide_eq_true hm]
  rfl
theorem mm_noPlaceF (hK : e_KM M K) (hr : kR K) (hv : kV K) (h0 : M 184 0 = iI 0) {m : Int} (h1 : i32 m) (hm : ¬(0 ≤ m ∧ m ≤ aW K - 1)) : e_lim L xs (d + 2) 267 0 [some (.ref 184), some (.int (iI m))] [] (e_hp M V W) = some (.inl (some (.int (iI 1))), e_hp (e_u M 184 (upd (M 184) 0 (iI 1))) V W, 0, 0) := by
  rw [mm_noPlace hK hr hv h0 h1, decide_eq_false hm]
  rfl
theorem rf_move (H : RK M K c S) (hf : i32 f) (ht : i32 t) : AC (e_lim L xs (d + 6) 268 0 [some (.ref 184), some (.int (iI f)), some (.int (iI t))] [] (e_hp M V W)) M V W K c S (mvK K f t) (cdMv K f t) (bI (ft (mvK K f t))) := by
  have h0 := mT_0 M
  unfold cdMv
  by_cases h1 : 0 ≤ f ∧ f ≤ aW K - 1
  · have e1 := mm_noPlaceT (L := L) (xs := xs) (d := d + 3) (V := V) (W := W) H.mT.km H.r H.v h0 h1
    by_cases h2 : 0 ≤ t ∧ t ≤ aW K - 1
    · have e2 := mm_noPlaceT (L := L) (xs := xs) (d := d + 3) (V := V) (W := W) H.mT.km H.r H.v h0 h2
      obtain ⟨M1, e3, H1, F1, z1, -⟩ := rf_saves (L := L) (xs := xs) (d := d + 5) (V := V) (W := W) H.mT
      obtain ⟨M2, e4, ha, F2, H2⟩ := rf_moves (L := L) (xs := xs) (d := d + 3) (V := V) (W := W) H1 (f := f) (t := t) (by omega) (by omega)
      obtain ⟨M3, M4, e5, e6, H4, F4, z4⟩ := rf_taken (L := L) (xs := xs) (d := d) (V := V) (W := W) H2 ha (mvR_v H.v.2 (by omega) (by omega))
      rw [if_pos ⟨h1, h2⟩]
      refine AC.ok (M3 := M4) rfl ?_ H4 ((F1.t F2.q.p).t F4) (by rw [z4, F2 184 (by decide), z1, h0])
      unfold mvK
      simp (disch := first | assumption | exact e_nk_i _ | exact e_nk_n | exact e_nk_r _ | exact e_bo_0 | exact e_bo_1 | exact e_bo_b _ | omega) only [e_cl_v, e_cl_x, e_add_0, e_add_s, Option.toList_some, Option.toList_none, List.cons_append, List.nil_append, iI_add, iI_sub, iI_mul, iI_lt, iI_eq, iI_le, r268_0, r268_1, r268_2, r268_5, r268_6, r268_7, r268_10, r268_13, r268_14, r268_15, r268_18, r268_21, r268_22, r268_23, r268_24, r268_27, r268_28, r268_29, r268_30, r268_33, r268_34, r268_37, r268_38, r268_41, e1, e2, e3, e4, e5, e6]
      all_goals first | (simp; done) | rfl | (simp; rfl)
    · have e2 := mm_noPlaceF (L := L) (xs := xs) (d := d + 3) (V := V) (W := W) H.mT.km H.r H.v h0 ht h2
      rw [if_neg (fun a => h2 a.2)]
      refine AC.bad H 1 (iI 0) (by omega) rfl ?_
      simp (disch := first | assumption | exact e_nk_i _ | exact e_nk_n | exact e_nk_r _ | exact e_bo_0 | exact e_bo_1 | exact e_bo_b _ | omega) only [e_cl_v, e_cl_x, e_add_0, e_add_s, Option.toList_some, Option.toList_none, List.cons_append, List.nil_append, iI_add, iI_sub, iI_mul, iI_lt, iI_eq, iI_le, r268_0, r268_1, r268_2, r268_5, r268_6, r268_7, r268_10, r268_13, r268_14, r268_15, r268_18, r268_21, r268_22, e1, e2]
      all_goals first | (simp; done) | rfl | (simp; rfl)
  · have e1 := mm_noPlaceF (L := L) (xs := xs) (d := d + 3) (V := V) (W := W) H.mT.km H.r H.v h0 hf h1
    rw [if_neg (fun a => h1 a.1)]
    refine AC.bad H 1 (iI 0) (by omega) rfl ?_
    simp (disch := first | assumption | exact e_nk_i _ | exact e_nk_n | exact e_nk_r _ | exact e_bo_0 | exact e_bo_1 | exact e_bo_b _ | omega) only [e_cl_v, e_cl_x, e_add_0, e_add_s, Option.toList_some, Option.toList_none, List.cons_append, List.nil_append, iI_add, iI_sub, iI_mul, iI_lt, iI_eq, iI_le, r268_0, r268_1, r268_2, r268_5, r268_6, r268_7, r268_10, r268_13, r268_14, r268_15, r268_18, r268_21, r268_22, e1]
    all_goals first | (simp; done) | rfl | (simp; rfl)
/-! kept plans -/
/-- the end, or -1 without times -/
def edN (K : e_St) : Int := if ft K = true then edW K else -1
/-- times of the present plan and their end -/
theorem rf_timesEnd (H : RK M K c S) : ∃ (M2 : e_MI), e_lim L xs (d + 5) 220 0 [some (.ref 184), none] [] (e_hp M V W) = some (.inl (some (.int (bI (ft K)))), e_hp M2 V W, 0, 0) ∧ (ft K = true → e_lim L xs (d + 5) 221 0 [some (.ref 184), none, none] [] (e_hp M2 V W) = some (.inl (some (.int (iI (edW K)))), e_hp M2 V W, 0, 0)) ∧ RK M2 K c S ∧ frQ M M2 ∧ M2 184 0 = M 184 0 := by
  obtain ⟨M2, ρ, ω, β, ε, e2, H2, hq, hS, hg, hz, h0⟩ := rf_times (L := L) (xs := xs) (d := d) (V := V) (W := W) H
  refine ⟨M2, e2, fun hb => ?_, H2, hq, h0⟩
  have e3 := mm_endNow (L := L) (xs := xs) (d := d + 5) (V := V) (W := W) H.v.1 hz hS
  rw [edW_eq H.v.1.1 (hg hb)] at e3
  exact e3
def cdSl (q : Int) : Int := if 0 ≤ q ∧ q ≤ 2 then 0 else 1
def kpK (K : e_St) (q : Int) : e_St := fun z => if 257 + 16 * q ≤ z ∧ z < 257 + 16 * q + 16 then K (241 + (z - (257 + 16 * q))) else if z = 305 + q then 1 else K z
theorem kpK_n {q z : Int} (h : z < 257 + 16 * q ∨ 257 + 16 * q + 16 ≤ z) (h2 : z ≠ 305 + q) : kpK K q z = K z := by
  unfold kpK
  rw [if_neg (by omega), if_neg h2]
theorem kG_kp {q : Int} (hg : kG K) (hq : 0 ≤ q ∧ q ≤ 2) : kG (kpK K q) := by
  obtain ⟨g1, g2, g3, g4, g5⟩ := hg
  have hn := g1.n
  have h16 := g2.1
  have hn1 : ∀ z, z < 257 ∨ 308 ≤ z → kpK K q z = K z := fun z a => kpK_n (by omega) (by omega)
  have e310 : kpK K q 310 = K 310 := hn1 _ (by omega)
  have e40 : ∀ o, 0 ≤ o → o < K 310 → kpK K q (40 + o) = K (40 + o) := fun o a b => hn1 _ (by omega)
  have eA : aW (kpK K q) = aW K := aW_cong e310 e40
  refine ⟨kR.mk fun z a b => ?_, ⟨by rw [eA]; exact g2.1, vR_cong e310 e40 (fun p a b => hn1 _ (by omega)) g2.2⟩, kP_cong e310 (fun z a b => hn1 _ (by omega)) (fun z a b => hn1 _ (by omega)) (fun z a b => hn1 _ (by omega)) hn.2 (fun o a b => (g1.wk a b).2) g3, ⟨fun s a b => ?_, fun s a b x => ?_, fun i a b => ?_⟩, kD_cong (fun z a => hn1 _ (by omega)) g1 g5⟩
  · unfold kpK
    split
    · next u =>
      have := kb13 (z := z) (by omega)
      have := g1.ro (i := z - (257 + 16 * q)) (by omega) (by omega)
      omega
    · split
      · next u =>
        have := kb13 (z := z) (by omega)
        omega
      · exact g1.b a b
  · by_cases u : s = q
    · subst u
      unfold kpK
      rw [if_neg (by omega), if_pos rfl]
      exact Or.inr rfl
    · rw [kpK_n (by omega) (by omega)]
      exact g4.1 s a b
  · by_cases u : s = q
    · subst u
      refine vR_cong e310 e40 (τ := fun p => K (241 + p)) (fun p y z => ?_) g2.2
      unfold kpK
      rw [if_pos (by omega)]
      congr 1
      omega
    · rw [kpK_n (by omega) (by omega)] at x
      exact vR_cong e310 e40 (fun p y z => kpK_n (by omega) (by omega)) (g4.2.1 s a b x)
  · unfold kpK
    split
    · exact g1.ro (by omega) (by omega)
    · rw [if_neg (by omega)]
      exact g4.2.2 i a b
theorem mm_noSlotT (h0 : M 184 0 = iI 0) {m : Int} (hm : 0 ≤ m ∧ m ≤ 2) : e_lim L xs (d + 1) 271 0 [some (.ref 184), some (.int (iI m))] [] (e_hp M V W) = some (.inl (some (.int (iI 0))), e_hp M V W, 0, 0) := by
  rw [mm_noSlot h0 ⟨by omega, by omega⟩, decide_eq_true hm]
  rfl
theorem mm_noSlotF (h0 : M 184 0 = iI 0) {m : Int} (h1 : i32 m) (hm : ¬(0 ≤ m ∧ m ≤ 2)) : e_lim L xs (d + 1) 271 0 [some (.ref 184), some (.int (iI m))] [] (e_hp M V W) = some (.inl (some (.int (iI 1))), e_hp (e_u M 184 (upd (M 184) 0 (iI 1))) V W, 0, 0) := by
  rw [mm_noSlot h0 h1, decide_eq_false hm]
  rfl
theorem rf_keep (H : RK M K c S) {q : Int} (hq : i32 q) : AC (e_lim L xs (d + 6) 272 0 [some (.ref 184), some (.int (iI q)), none] [] (e_hp M V W)) M V W K c S (kpK K q) (cdSl q) (iI (edN (kpK K q))) := by
  have h0 := mT_0 M
  unfold cdSl
  by_cases h1 : 0 ≤ q ∧ q ≤ 2
  · have e1 := mm_noSlotT (L := L) (xs := xs) (d := d + 4) (V := V) (W := W) h0 h1
    obtain ⟨M1, e2, H1, F1, z1, -⟩ := rf_saves (L := L) (xs := xs) (d := d + 5) (V := V) (W := W) H.mT
    have key := G_lp (i := 0) (n := 16) (I := fun i M2 => e_KM M2 (fun z => if 257 + 16 * q ≤ z ∧ z < 257 + 16 * q + i then K (241 + (z - (257 + 16 * q))) else K z) ∧ frN M1 M2) (P := fun i M2 => ∃ M3 : e_MI, e_lim L xs (d + 6) 272 21 [some (.ref 184), some (.int (iI q)), some (.int (iI i))] [] (e_hp M2 V W) = some (.inl (some (.int (iI (edN (kpK K q))))), e_hp M3 V W, 0, 0) ∧ RK M3 (kpK K q) (svC c) (svS c S K) ∧ frP M1 M3 ∧ M3 184 0 = M1 184 0) (fun j M2 a b hI hc => ?_) (fun M2 hI => ?_) (by omega) M1 ⟨e_ar.cong H1.km (fun z x y => by rw [if_neg (by omega)]), fun _ _ => rfl⟩
    · obtain ⟨M3, e, H3, F3, z3⟩ := key
      rw [if_pos h1]
      refine AC.ok (M3 := M3) rfl ?_ H3 (F1.t F3) (by rw [z3, z1, h0])
      rw [← e]
      simp (disch := first | assumption | exact e_nk_i _ | exact e_nk_n | exact e_nk_r _ | exact e_bo_0 | exact e_bo_1 | exact e_bo_b _ | omega) only [e_cl_v, e_cl_x, e_add_0, e_add_s, Option.toList_some, Option.toList_none, List.cons_append, List.nil_append, iI_add, iI_sub, iI_mul, iI_lt, iI_eq, iI_le, r272_0, r272_1, r272_2, r272_5, r272_6, r272_7, r272_10, r272_13, r272_14, r272_15, r272_16, r272_19, r272_20, e1, e2]
      all_goals first | (simp; done) | rfl | (simp; rfl)
    · have e3 := hI.1 (241 + j) (by omega) (by omega)
      simp only at e3
      rw [if_neg (by omega)] at e3
      obtain ⟨M3, e, r⟩ := hc (e_u M2 185 (upd (M2 185) (257 + 16 * q + j).toNat (iI (K (241 + j))))) ⟨e_ar.cong (KM_up hI.1 (v := K (241 + j)) (by omega)) (fun z x y => by
        unfold uI
        by_cases u : z = 257 + 16 * q + j
        · rw [if_pos u, if_pos (by omega)]
          congr 1
          omega
        · rw [if_neg u]
          simp only
          by_cases u2 : 257 + 16 * q ≤ z ∧ z < 257 + 16 * q + j
          · rw [if_pos u2, if_pos (by omega)]
          · rw [if_neg u2, if_neg (by omega)]), hI.2.t (fun a x => e_u_n _ _ x)⟩
      refine ⟨M3, ?_, r⟩
      rw [← e, r272_21]
      simp (disch := first | assumption | exact e_nk_i _ | exact e_nk_n | exact e_nk_r _ | exact e_bo_0 | exact e_bo_1 | exact e_bo_b _ | omega) only [e_cl_v, e_cl_x, e_add_0, e_add_s, Option.toList_some, Option.toList_none, List.cons_append, List.nil_append, iI_add, iI_sub, iI_mul, iI_lt, iI_eq, iI_le, r272_22, r272_24, r272_27, r272_28, r272_31, r272_34, r272_36, r272_37, r272_38, r272_39, r272_40, r272_41, r272_42, r272_45, r272_48, r272_49, r272_50, r272_51, r272_52, r272_55, iI_vin, iI_nat, if_true, e3]
      rw [if_pos b]
    · have F3 : frN M1 (e_u M2 185 (upd (M2 185) (305 + q).toNat (iI 1))) := hI.2.t (fun a x => e_u_n _ _ x)
      have K3 : e_KM (e_u M2 185 (upd (M2 185) (305 + q).toNat (iI 1))) (kpK K q) := e_ar.cong (KM_up hI.1 (v := 1) (by omega)) (fun z x y => by
        unfold uI kpK
        by_cases u : z = 305 + q
        · rw [if_pos u, if_neg (by omega), if_pos u]
        · rw [if_neg u]
          simp only
          by_cases u2 : 257 + 16 * q ≤ z ∧ z < 257 + 16 * q + 16
          · rw [if_pos u2, if_pos u2]
          · rw [if_neg u2, if_neg u2, if_neg u])
      have H3 := H1.n K3 (kG_kp H.g h1) F3
      obtain ⟨M4, e4, e5, H4, F4, z4⟩ := rf_timesEnd (L := L) (xs := xs) (d := d) (V := V) (W := W) H3
      refine ⟨M4, ?_, H4, F3.p.t F4.p, by rw [z4, F3 184 (by decide)]⟩
      unfold edN
      rw [r272_21]
      cases hb : ft (kpK K q) with
      | true =>
        have e5 := e5 hb
        rw [hb, bI_t] at e4
        simp (disch := first | assumption | exact e_nk_i _ | exact e_nk_n | exact e_nk_r _ | exact e_bo_0 | exact e_bo_1 | exact e_bo_b _ | omega) only [e_cl_v, e_cl_x, e_add_0, e_add_s, Option.toList_some, Option.toList_none, List.cons_append, List.nil_append, iI_add, iI_sub, iI_mul, iI_lt, iI_eq, iI_le, r272_22, r272_24, r272_58, r272_59, r272_62, r272_65, r272_66, r272_67, r272_68, r272_69, r272_70, r272_73, r272_76, r272_77, r272_80, r272_83, r272_84, iI_vin, iI_nat, if_true, e4, e5]
        all_goals first | (simp; done) | rfl | (simp; rfl)
      | false =>
        rw [hb, bI_f] at e4
        simp (disch := first | assumption | exact e_nk_i _ | exact e_nk_n | exact e_nk_r _ | exact e_bo_0 | exact e_bo_1 | exact e_bo_b _ | omega) only [e_cl_v, e_cl_x, e_add_0, e_add_s, Option.toList_some, Option.toList_none, List.cons_append, List.nil_append, iI_add, iI_sub, iI_mul, iI_lt, iI_eq, iI_le, r272_22, r272_24, r272_58, r272_59, r272_62, r272_65, r272_66, r272_67, r272_68, r272_69, r272_70, r272_73, r272_76, r272_77, r272_80, r272_83, r272_84, iI_vin, iI_nat, if_true, e4]
        all_goals first | (simp; done) | rfl | (simp; rfl)
  · have e1 := mm_noSlotF (L := L) (xs := xs) (d := d + 4) (V := V) (W := W) h0 hq h1
    rw [if_neg h1]
    refine AC.bad H 1 (iI 0) (by omega) rfl ?_
    simp (disch := first | assumption | exact e_nk_i _ | exact e_nk_n | exact e_nk_r _ | exact e_bo_0 | exact e_bo_1 | exact e_bo_b _ | omega) only [e_cl_v, e_cl_x, e_add_0, e_add_s, Option.toList_some, Option.toList_none, List.cons_append, List.nil_append, iI_add, iI_sub, iI_mul, iI_lt, iI_eq, iI_le, r272_0, r272_1, r272_2, r272_5, r272_6, r272_7, r272_10, r272_13, r272_14, r272_15, e1]
    all_goals first | (simp; done) | rfl | (simp; rfl)
def cdTk (K : e_St) (q : Int) : Int := if 0 ≤ q ∧ q ≤ 2 then (if K (305 + q) = 1 then 0 else 2) else 1
def kpR (K : e_St) (q : Int) : Int → Int := fun p => K (257 + 16 * q + p)
def tkK (K : e_St) (q : Int) : e_St := rwS K (kpR K q)
theorem mm_isNotKeptT (hK : e_KM M K) (hr : kR K) (h0 : M 184 0 = iI 0) {q : Int} (h1 : 0 ≤ q ∧ q ≤ 2) (h2 : K (305 + q) = 1) : e_lim L xs (d + 2) 273 0 [some (.ref 184), some (.int (iI q))] [] (e_hp M V W) = some (.inl (some (.int (iI 0))), e_hp M V W, 0, 0) := by
  obtain ⟨M2, e, hM⟩ := mm_isNotKept (L := L) (xs := xs) (d := d) (V := V) (W := W) hK hr h0 (s := q) ⟨by omega, by omega⟩
  rw [if_pos h1, decide_eq_true h2] at hM
  rw [e, decide_eq_true ⟨h1, h2⟩, hM]
  rfl
theorem mm_isNotKeptF (hK : e_KM M K) (hr : kR K) (h0 : M 184 0 = iI 0) {q : Int} (h : i32 q) (hc : cdTk K q ≠ 0) : e_lim L xs (d + 2) 273 0 [some (.ref 184), some (.int (iI q))] [] (e_hp M V W) = some (.inl (some (.int (iI 1))), e_hp (e_u M 184 (upd (M 184) 0 (iI (cdTk K q)))) V W, 0, 0) := by
  obtain ⟨M2, e, hM⟩ := mm_isNotKept (L := L) (xs := xs) (d := d) (V := V) (W := W) hK hr h0 (s := q) h
  unfold cdTk at hc ⊢
  by_cases h1 : 0 ≤ q ∧ q ≤ 2
  · rw [if_pos h1] at hM hc ⊢
    by_cases h2 : K (305 + q) = 1
    · rw [if_pos h2] at hc
      exact absurd rfl hc
    · rw [decide_eq_false h2] at hM
      rw [if_neg h2, e, decide_eq_false (fun a => h2 a.2), hM]
      rfl
  · rw [if_neg h1] at hM ⊢
    rw [e, decide_eq_false (fun a => h1 a.1), hM]
    rfl
theorem rf_take (H : RK M K c S) {q : Int} (hq : i32 q) : AC (e_lim L xs (d + 6) 274 0 [some (.ref 184), some (.int (iI q)), none] [] (e_hp M V W)) M V W K c S (tkK K q) (cdTk K q) (iI (edN (tkK K q))) := by
  have h0 := mT_0 M
  by_cases hc : cdTk K q = 0
  · have h12 : (0 ≤ q ∧ q ≤ 2) ∧ K (305 + q) = 1 := by
      unfold cdTk at hc
      by_cases h1 : 0 ≤ q ∧ q ≤ 2
      · rw [if_pos h1] at hc
        by_cases h2 : K (305 + q) = 1
        · exact ⟨h1, h2⟩
        · rw [if_neg h2] at hc
          omega
      · rw [if_neg h1] at hc
        omega
    obtain ⟨h1, h2⟩ := h12
    have hkK := H.g.2.2.2.1
    have e1 := mm_isNotKeptT (L := L) (xs := xs) (d := d + 3) (V := V) (W := W) H.mT.km H.r h0 h1 h2
    obtain ⟨M1, e2, H1, F1, z1, -⟩ := rf_saves (L := L) (xs := xs) (d := d + 5) (V := V) (W := W) H.mT
    have key := G_lp (i := 0) (n := 16) (I := fun i M2 => e_KM M2 (rwS K (fun p => if p < i then kpR K q p else K (241 + p))) ∧ frN M1 M2) (P := fun i M2 => ∃ M3 : e_MI, e_lim L xs (d + 6) 274 21 [some (.ref 184), some (.int (iI q)), some (.int (iI i))] [] (e_hp M2 V W) = some (.inl (some (.int (iI (edN (tkK K q))))), e_hp M3 V W, 0, 0) ∧ RK M3 (tkK K q) (svC c) (svS c S K) ∧ frP M1 M3 ∧ M3 184 0 = M1 184 0) (fun j M2 a b hI hc => ?_) (fun M2 hI => ?_) (by omega) M1 ⟨e_ar.cong H1.km (fun z x y => by
      unfold rwS
      split
      · simp only
        rw [if_neg (by omega), show 241 + (z - 241) = z by omega]
      · rfl), fun _ _ => rfl⟩
    · obtain ⟨M3, e, H3, F3, z3⟩ := key
      rw [hc]
      refine AC.ok (M3 := M3) rfl ?_ H3 (F1.t F3) (by rw [z3, z1, h0])
      rw [← e]
      simp (disch := first | assumption | exact e_nk_i _ | exact e_nk_n | exact e_nk_r _ | exact e_bo_0 | exact e_bo_1 | exact e_bo_b _ | omega) only [e_cl_v, e_cl_x, e_add_0, e_add_s, Option.toList_some, Option.toList_none, List.cons_append, List.nil_append, iI_add, iI_sub, iI_mul, iI_lt, iI_eq, iI_le, r274_0, r274_1, r274_2, r274_5, r274_6, r274_7, r274_10, r274_13, r274_14, r274_15, r274_16, r274_19, r274_20, e1, e2]
      all_goals first | (simp; done) | rfl | (simp; rfl)
    · have e3 := hI.1 (257 + 16 * q + j) (by omega) (by omega)
      rw [rwS_n (by omega)] at e3
      obtain ⟨M3, e, r⟩ := hc (e_u M2 185 (upd (M2 185) (241 + j).toNat (iI (K (257 + 16 * q + j))))) ⟨e_ar.cong (KM_up hI.1 (v := K (257 + 16 * q + j)) (by omega)) (fun z x y => by
        rw [rwS_up a (by omega)]
        unfold rwS uI
        split
        · simp only
          by_cases hz : z - 241 = j
          · rw [if_pos hz, if_pos (by omega), hz]
            rfl
          · rw [if_neg hz]
            by_cases hz2 : z - 241 < j
            · rw [if_pos hz2, if_pos (by omega)]
            · rw [if_neg hz2, if_neg (by omega)]
        · rfl), hI.2.t (fun a x => e_u_n _ _ x)⟩
      refine ⟨M3, ?_, r⟩
      rw [← e, r274_21]
      simp (disch := first | assumption | exact e_nk_i _ | exact e_nk_n | exact e_nk_r _ | exact e_bo_0 | exact e_bo_1 | exact e_bo_b _ | omega) only [e_cl_v, e_cl_x, e_add_0, e_add_s, Option.toList_some, Option.toList_none, List.cons_append, List.nil_append, iI_add, iI_sub, iI_mul, iI_lt, iI_eq, iI_le, r274_22, r274_24, r274_27, r274_28, r274_31, r274_34, r274_35, r274_36, r274_37, r274_40, r274_43, r274_45, r274_46, r274_47, r274_48, r274_49, r274_50, r274_51, r274_52, r274_55, iI_vin, iI_nat, if_true, e3]
      rw [if_pos b]
    · have K3 : e_KM M2 (tkK K q) := e_ar.cong hI.1 (fun z x y => by
        unfold tkK rwS
        split
        · simp only
          rw [if_pos (by omega)]
        · rfl)
      have H3 := H1.n K3 (kG_row H.g (fun p a b => by
        have := hkK.2.2 (16 * q + p) (by omega) (by omega)
        unfold kpR
        rw [show 257 + 16 * q + p = 257 + (16 * q + p) by omega]
        exact this) (hkK.2.1 q h1.1 (by omega) h2)) hI.2
      obtain ⟨M4, e4, e5, H4, F4, z4⟩ := rf_timesEnd (L := L) (xs := xs) (d := d) (V := V) (W := W) H3
      refine ⟨M4, ?_, H4, hI.2.p.t F4.p, by rw [z4, hI.2 184 (by decide)]⟩
      unfold edN
      rw [r274_21]
      cases hb : ft (tkK K q) with
      | true =>
        have e5 := e5 hb
        rw [hb, bI_t] at e4
        simp (disch := first | assumption | exact e_nk_i _ | exact e_nk_n | exact e_nk_r _ | exact e_bo_0 | exact e_bo_1 | exact e_bo_b _ | omega) only [e_cl_v, e_cl_x, e_add_0, e_add_s, Option.toList_some, Option.toList_none, List.cons_append, List.nil_append, iI_add, iI_sub, iI_mul, iI_lt, iI_eq, iI_le, r274_22, r274_24, r274_58, r274_59, r274_62, r274_65, r274_66, r274_69, r274_72, r274_73, e4, e5]
        all_goals first | (simp; done) | rfl | (simp; rfl)
      | false =>
        rw [hb, bI_f] at e4
        simp (disch := first | assumption | exact e_nk_i _ | exact e_nk_n | exact e_nk_r _ | exact e_bo_0 | exact e_bo_1 | exact e_bo_b _ | omega) only [e_cl_v, e_cl_x, e_add_0, e_add_s, Option.toList_some, Option.toList_none, List.cons_append, List.nil_append, iI_add, iI_sub, iI_mul, iI_lt, iI_eq, iI_le, r274_22, r274_24, r274_58, r274_59, r274_62, r274_65, r274_66, r274_69, r274_72, r274_73, e4]
        all_goals first | (simp; done) | rfl | (simp; rfl)
  · have e1 := mm_isNotKeptF (L := L) (xs := xs) (d := d + 3) (V := V) (W := W) H.mT.km H.r h0 hq hc
    refine AC.bad H (cdTk K q) (iI 0) hc rfl ?_
    simp (disch := first | assumption | exact e_nk_i _ | exact e_nk_n | exact e_nk_r _ | exact e_bo_0 | exact e_bo_1 | exact e_bo_b _ | omega) only [e_cl_v, e_cl_x, e_add_0, e_add_s, Option.toList_some, Option.toList_none, List.cons_append, List.nil_append, iI_add, iI_sub, iI_mul, iI_lt, iI_eq, iI_le, r274_0, r274_1, r274_2, r274_5, r274_6, r274_7, r274_10, r274_13, r274_14, r274_15, e1]
    all_goals first | (simp; done) | rfl | (simp; rfl)
end E89
