section El36
variable {L : Nat} {xs : Nat → Int32} {d : Nat} {M M1 M2 M3 : e_MI} {V V1 V2 : e_ML} {W : e_MD} {K K2 : e_St} {S : Int → e_St} {h : e_H} {c o j w z m k q p i f a b t n x its er u v : Int} {U : Int → Int} {s : Int × (Int → Int)}
/-! what is kept is taken again; what is written is read again -/
theorem b2 (b : Bool) : b = true ∨ b = false := by cases b <;> simp
/-- the plan kept, a work moved, and the plan taken again -/
theorem l_movedA (H : CL M K c S) (hw : 2 ≤ aW K) : ∃ (M2 : e_MI) (c2 : Int) (S2 : Int → e_St), CL M2 (kpK K 1) c2 S2 ∧ (1 ≤ c2 ∧ eqL K (S2 (c2 - 1))) ∧ fTp M M2 ∧ ∀ r : e_R, e_lim L xs (d + 8) 185 425 [some (.ref 184), some (.int (bI (ft K))), some (.int (iI (csW K))), none, none, none, none, none, none] [] (e_hp M2 V W) = some r → e_lim L xs (d + 8) 185 159 [some (.ref 184), some (.int (bI (ft K))), some (.int (iI (csW K))), none, none, none, none, none, none] [] (e_hp M V W) = some r := by
  have hr := H.g.1
  obtain ⟨ha, hv0⟩ := H.g.2.1
  have hv : vR K (rwK K) := hv0
  have hq1 : (0 : Int) ≤ 1 ∧ (1 : Int) ≤ 2 := by omega
  -- kept
  obtain ⟨M1, e1, q1, -, g1⟩ := x_keep (L := L) (xs := xs) (d := d) (V := V) (W := W) H.ck H.g (q := 1) (by unfold i32; omega)
  rw [if_pos hq1] at e1
  have hgA := kG_kp H.g hq1
  have heA : eqL K (kpK K 1) := eqL_kp hq1
  have H1 : CL M1 (kpK K 1) (svC c) (svS c S K) := H.ch (q1 hq1) (fun a x => g1 a (by omega)) hgA heA
  have hwA : aW (kpK K 1) = aW K := heA.kk.ww hr.n.2
  have hrA : ∀ p, 0 ≤ p → p < aW K → rwK (kpK K 1) p = rwK K p := fun p x y => kp_row hq1 ha.2 x y
  obtain ⟨n1, n2, n3⟩ := now_cg H.g heA hrA
  have hk1 : kpK K 1 (305 + 1) = 1 := kp_k 1 hq1
  have x1 := x_end (L := L) (xs := xs) (d := d + 4) (V := V) (W := W) H1.ck hgA
  rw [n1, n2] at x1
  have x1 : e_lim L xs (d + 7) 117 0 [some (.ref 0)] [] (e_hp M1 V W) = if ft K = true then some (.inl (some (.int (iI (edW K)))), e_hp M1 V W, 0, 0) else some (.inr 1, e_hp M1 V W, 1, 6) := x1
  have hed : edN (kpK K 1) = if ft K = true then edW K else -1 := by
    unfold edN
    rw [n1, n2]
  rw [hed] at e1
  -- moved
  obtain ⟨M2, f, t, hft, H2, f2, g2, c2⟩ := l_moving (L := L) (xs := xs) (d := d) (V := V) (W := W) (z1 := bI (ft K)) (z2 := iI (csW K)) H1 (by omega)
  have hvA : vR (kpK K 1) (rwK (kpK K 1)) := hgA.2.1.2
  have hvm : vR (kpK K 1) (mvR (rwK (kpK K 1)) f t) := mvR_v hvA hft.1 hft.2
  have hwB : aW (rtS (kpK K 1) (mvR (rwK (kpK K 1)) f t)) = aW K := by rw [rtS_aW hgA.1, hwA]
  have heB : eqL (kpK K 1) (rtS (kpK K 1) (mvR (rwK (kpK K 1)) f t)) := eqL_rt
  have hrw : ∀ p, 0 ≤ p → p < aW (rtS (kpK K 1) (mvR (rwK (kpK K 1)) f t)) → M2 199 p.toNat = iI (rwK (rtS (kpK K 1) (mvR (rwK (kpK K 1)) f t)) p) := fun p x y => by
    rw [rtS_row (by omega) x (by omega)]
    exact g2 p x (by omega)
  have c3 : ∀ r : e_R, e_lim L xs (d + 8) 185 362 [some (.ref 184), some (.int (bI (ft K))), some (.int (iI (csW K))), none, none, none, none, none, none] [] (e_hp M2 V W) = some r → e_lim L xs (d + 8) 185 323 [some (.ref 184), some (.int (bI (ft K))), some (.int (iI (csW K))), none, none, none, none, none, none] [] (e_hp M2 V W) = some r := fun r hc => l_rows H2 hrw hc
  obtain ⟨M3, e3, f3, -⟩ := l_isPlan (L := L) (xs := xs) (d := d) (V := V) (W := W) H2
  have H3 := H2.of f3.l
  -- taken
  obtain ⟨M4, e4, q4, -, g4⟩ := x_take (L := L) (xs := xs) (d := d) (V := V) (W := W) H3.ck H3.g (q := 1) (by unfold i32; omega)
  have hk6 : rtS (kpK K 1) (mvR (rwK (kpK K 1)) f t) (305 + 1) = 1 := by
    have h1 : rtS (kpK K 1) (mvR (rwK (kpK K 1)) f t) (305 + 1) = kpK K 1 (305 + 1) := rwS_n (by omega)
    rw [h1, hk1]
  rw [if_pos hq1, if_pos hk6] at e4
  have q4 := q4 ⟨hq1, hk6⟩
  rw [tk_kp] at q4 e4
  rw [hed] at e4
  have H4 : CL M4 (kpK K 1) (svC (svC (svC c))) (svS (svC (svC c)) (svS (svC c) (svS c S K) (kpK K 1)) (rtS (kpK K 1) (mvR (rwK (kpK K 1)) f t))) := H3.ch q4 (fun a x => g4 a (by omega)) hgA (fun z hz => (heB z hz).symm)
  have x4 := x_end (L := L) (xs := xs) (d := d + 4) (V := V) (W := W) H4.ck hgA
  rw [n1, n2] at x4
  have x4 : e_lim L xs (d + 7) 117 0 [some (.ref 0)] [] (e_hp M4 V W) = if ft K = true then some (.inl (some (.int (iI (edW K)))), e_hp M4 V W, 0, 0) else some (.inr 1, e_hp M4 V W, 1, 6) := x4
  have x5 := x_checksum (L := L) (xs := xs) (d := d + 6) (V := V) (W := W) H4.ck hgA
  rw [n3] at x5
  have x5 : e_lim L xs (d + 7) 145 0 [some (.ref 0), none, none] [] (e_hp M4 V W) = some (.inl (some (.int (iI (csW K)))), e_hp M4 V W, 0, 0) := x5
  obtain ⟨M5, e5, q5, g5⟩ := x_differ (L := L) (xs := xs) (d := d) (V := V) (W := W) H4.ck hgA (q := 1) (by unfold i32; omega)
  rw [if_pos hq1, if_pos hk1] at e5
  have H5 := H4.qu q5 (fun a x => g5 a (by omega))
  -- it is the row that was kept
  have hρ : ∀ p, 0 ≤ p → p < aW (kpK K 1) → kpR (kpK K 1) 1 p = rwK (kpK K 1) p := fun p x y => by
    rw [hrA p x (by omega)]
    unfold kpR kpK rwK
    rw [if_pos (by omega)]
    congr 1
    omega
  obtain ⟨s1, s2⟩ := row_cg hgA (fun z _ => rfl : eqL (kpK K 1) (kpK K 1)) hvA hρ
  have hfi : fiR (kpK K 1) (kpR (kpK K 1) 1) (aW (kpK K 1)) = ft (kpK K 1) := s2
  have hot : otW (kpK K 1) (kpK K 1) (kpR (kpK K 1) 1) = 0 := by
    have : ∀ p, 0 ≤ p → p < aW (kpK K 1) → (if bT (kpK K 1) (plO (kpK K 1) (rwK (kpK K 1)) (kpR (kpK K 1) 1 p) (scW (kpR (kpK K 1) 1) p)) = scB (kpK K 1) (kpR (kpK K 1) 1) p then (0 : Int) else 1) = 0 := fun p x y => by
      obtain ⟨b1, -, b3⟩ := s1 p x y
      rw [hρ p x y, b3, b1, pl_at hgA.1 hvA hgA.2.1.1.1 x y]
      exact if_pos rfl
    unfold otW
    rw [SU_cong (g := fun _ => 0) this]
    have h1 := SU_le (f := fun _ => 0) (n := aW (kpK K 1)) (c := 0) (fun _ _ _ => by omega) (by omega)
    omega
  rw [hfi, n1, hot] at e5
  have t2 : fTp M M2 := fTp.tr (fun a x y => g1 a (by omega)) f2
  have t4 : fTp M M4 := (t2.tr f3.fp).tr (fun a x y => g4 a (by omega))
  have hsl := sv_last (c := svC (svC c)) (S := svS (svC c) (svS c S K) (kpK K 1)) (K := rtS (kpK K 1) (mvR (rwK (kpK K 1)) f t)) H3.c12
  have heq : eqL K (rtS (kpK K 1) (mvR (rwK (kpK K 1)) f t)) := heA.tr heB
  have h10 : ¬ (iI 1 = iI 0) := by decide
  have hne : ∀ x : Int, 0 ≤ x ∧ x ≤ 2001 → ¬ (x = -1) := fun x h => by omega
  have hrg := edW_rg H.g
  rcases b2 (ft K) with hb | hb
  · refine ⟨M5, _, _, H5, ⟨hsl.2.1, by rw [hsl.1]; exact heq⟩, t4.tr (fun a x y => g5 a (by omega)), fun r hr9 => ?_⟩
    rw [hb] at c2 c3 hr9 ⊢
    simp only [hb, if_true, and_self] at x1 x4 e1 e4 e5
    have tail : e_lim L xs (d + 8) 185 362 [some (.ref 184), some (.int (bI true)), some (.int (iI (csW K))), none, none, none, none, none, none] [] (e_hp M2 V W) = some r := by
      simp (disch := first | assumption | exact e_nk_i _ | exact e_nk_n | exact e_nk_r _ | exact e_bo_0 | exact e_bo_1 | exact e_bo_b _ | omega) only [e_cl_v, e_cl_x, e_add_0, e_add_s, Option.toList_some, Option.toList_none, List.cons_append, List.nil_append, iI_add, iI_sub, iI_mul, iI_lt, iI_eq, iI_le, r185_362, r185_363, r185_366, r185_369, r185_370, r185_371, r185_372, r185_375, r185_376, r185_379, r185_380, r185_383, r185_384, r185_387, r185_390, r185_393, r185_394, r185_397, r185_398, r185_401, r185_404, r185_405, r185_408, r185_409, r185_412, r185_413, r185_416, r185_417, r185_420, e3, e4, x4, x5, e5, bI_t, if_neg h10, if_true]
      exact hr9
    have c5 := c2 r (c3 r tail)
    simp (disch := first | assumption | exact e_nk_i _ | exact e_nk_n | exact e_nk_r _ | exact e_bo_0 | exact e_bo_1 | exact e_bo_b _ | omega) only [e_cl_v, e_cl_x, e_add_0, e_add_s, Option.toList_some, Option.toList_none, List.cons_append, List.nil_append, iI_add, iI_sub, iI_mul, iI_lt, iI_eq, iI_le, r185_159, r185_160, r185_163, r185_164, r185_167, r185_168, r185_171, r185_172, r185_175, r185_178, r185_181, r185_182, e1, x1, bI_t, if_neg h10, if_true]
    exact c5
  · refine ⟨M4, _, _, H4, ⟨hsl.2.1, by rw [hsl.1]; exact heq⟩, t4, fun r hr9 => ?_⟩
    rw [hb] at c2 c3 hr9 ⊢
    have hF : ¬ (false = true) := by decide
    simp only [hb, if_neg hF] at x1 x4 e1 e4
    have tail : e_lim L xs (d + 8) 185 362 [some (.ref 184), some (.int (bI false)), some (.int (iI (csW K))), none, none, none, none, none, none] [] (e_hp M2 V W) = some r := by
      simp (disch := first | assumption | exact e_nk_i _ | exact e_nk_n | exact e_nk_r _ | exact e_bo_0 | exact e_bo_1 | exact e_bo_b _ | omega) only [e_cl_v, e_cl_x, e_add_0, e_add_s, Option.toList_some, Option.toList_none, List.cons_append, List.nil_append, iI_add, iI_sub, iI_mul, iI_lt, iI_eq, iI_le, r185_362, r185_363, r185_366, r185_369, r185_370, r185_371, r185_372, r185_375, r185_376, r185_379, r185_380, r185_383, r185_384, r185_387, r185_390, r185_393, r185_394, r185_397, r185_398, r185_401, r185_404, r185_405, r185_408, r185_409, r185_412, r185_413, r185_416, r185_417, r185_420, e3, e4, x5, bI_t, bI_f, if_neg h10, if_true]
      exact hr9
    have c5 := c2 r (c3 r tail)
    simp (disch := first | assumption | exact e_nk_i _ | exact e_nk_n | exact e_nk_r _ | exact e_bo_0 | exact e_bo_1 | exact e_bo_b _ | omega) only [e_cl_v, e_cl_x, e_add_0, e_add_s, Option.toList_some, Option.toList_none, List.cons_append, List.nil_append, iI_add, iI_sub, iI_mul, iI_lt, iI_eq, iI_le, r185_159, r185_160, r185_163, r185_164, r185_167, r185_168, r185_171, r185_172, r185_175, r185_178, r185_181, r185_182, e1, bI_f, if_true]
    exact c5
/-- the row is written, and the tape is filled with it -/
theorem l_filled {z1 z2 : Int32} (H : CL M K c S) (Ht : TC M s er w U) (hs : s.1 = 0) : ∃ (M2 : e_MI) (s2 : Int × (Int → Int)), CL M2 K c S ∧ TC M2 s2 er (aW K) (fun k => 48 + rwK K k) ∧ TI K s2 (aW K) ∧ ∀ r : e_R, e_lim L xs (d + 8) 185 483 [some (.ref 184), some (.int z1), some (.int z2), none, none, none, none, some (.int (iI (aW K))), none] [] (e_hp M2 V W) = some r → e_lim L xs (d + 8) 185 425 [some (.ref 184), some (.int z1), some (.int z2), none, none, none, none, none, none] [] (e_hp M V W) = some r := by
  have ha := H.g.2.1.1
  have hv : vR K (rwK K) := H.g.2.1.2
  have hn := H.g.1.n
  have hl := H.lk.1
  obtain ⟨M1, e1, T1, g1⟩ := x_write (L := L) (xs := xs) (d := d + 5) (V := V) (W := W) H.ck.sh H.g Ht
  have H1 : CL M1 K c S := H.qu (H.ck.of fun a x y => g1 a (by omega) (by omega)) (fun a x => g1 a (by omega) (by omega))
  have key := G_lp (i := 0) (n := aW K) (I := fun j M2 => CL M2 K c S ∧ ∃ s2, TC M2 s2 er (aW K) (fun k => 48 + rwK K k) ∧ TI K s2 j)
    (P := fun j M3 => ∃ (M2 : e_MI) (s2 : Int × (Int → Int)), CL M2 K c S ∧ TC M2 s2 er (aW K) (fun k => 48 + rwK K k) ∧ TI K s2 (aW K) ∧ ∀ r : e_R, e_lim L xs (d + 8) 185 483 [some (.ref 184), some (.int z1), some (.int z2), none, none, none, none, some (.int (iI (aW K))), none] [] (e_hp M2 V W) = some r → e_lim L xs (d + 8) 185 437 [some (.ref 184), some (.int z1), some (.int z2), none, none, none, none, some (.int (iI (aW K))), some (.int (iI j))] [] (e_hp M3 V W) = some r) (fun j M3 x y hI hc => ?_) (fun M3 hI => ?_) ha.1 M1 ⟨H1, s, T1, ⟨⟨by omega, by omega⟩, fun j x y => by omega, by rw [hs]; rfl, fun p x y => by omega⟩⟩
  · obtain ⟨M2, s2, y1, y2, y3, e⟩ := key
    refine ⟨M2, s2, y1, y2, y3, fun r hr9 => ?_⟩
    have e9 := e r hr9
    simp (disch := first | assumption | exact e_nk_i _ | exact e_nk_n | exact e_nk_r _ | exact e_bo_0 | exact e_bo_1 | exact e_bo_b _ | omega) only [e_cl_v, e_cl_x, e_add_0, e_add_s, Option.toList_some, Option.toList_none, List.cons_append, List.nil_append, iI_add, iI_sub, iI_mul, iI_lt, iI_eq, iI_le, r185_425, r185_426, r185_429, r185_432, r185_434, r185_435, e1]
    exact e9
  · obtain ⟨H3, s3, T3, I3⟩ := hI
    have e2 := x_writtenAt (L := L) (xs := xs) (d := d + 5) (V := V) (W := W) T3 (p := j) (by unfold i32; omega)
    rw [if_pos (by omega)] at e2
    obtain ⟨M4, z, e3, r3, f3⟩ := l_next (L := L) (xs := xs) (d := d + 7) (V := V) (W := W) (M := M3) (n := 2) (by omega)
    have H4 := H3.of f3.l
    have T4 := T3.of (M2 := M4) f3.pp.fp
    have rv := hv.1 j x y
    have i1 := I3.1
    have D := TI_dg H.g I3 ⟨x, y⟩
    have hz : z = 0 ∨ z = 1 := by omega
    have hap : TI K (apW (iI (48 + rwK K j)) (iI (z * 32)) (iI 0) (iI 0) (iI 0) s3) (j + 1) := by
      unfold apW
      rw [tbX_0, tbX_0, tbX_0, tbX_d _ _ (by omega) (by omega)]
      rcases hz with q | q
      · rw [q, show (0 : Int) * 32 = 0 by omega, tbX_0]
        exact D
      · rw [q, show (1 : Int) * 32 = 32 by omega, tbX_32]
        exact TI_sp D (by omega) (by simp only; omega)
    have hcd : cdAp (iI (48 + rwK K j)) (iI (z * 32)) (iI 0) (iI 0) (iI 0) s3 = 0 := by
      unfold cdAp
      have b1 := nB_rg (iI (48 + rwK K j))
      have b2 := nB_rg (iI (z * 32))
      have b3 := nB_rg (iI 0)
      rw [if_pos (by omega)]
    obtain ⟨M5, e5, T5, -, g5⟩ := x_append (L := L) (xs := xs) (d := d + 5) (V := V) (W := W) T4 (a1 := iI (48 + rwK K j)) (a2 := iI (z * 32)) (a3 := iI 0) (a4 := iI 0) (a5 := iI 0)
    rw [if_pos hcd] at e5
    have H5 : CL M5 K c S := H4.qu (H4.ck.of fun a x y => g5 a (by omega) (by omega)) (fun a x => g5 a (by omega) (by omega))
    obtain ⟨M2, s2, y1, y2, y3, e⟩ := hc M5 ⟨H5, _, T5 hcd, hap⟩
    refine ⟨M2, s2, y1, y2, y3, fun r hr9 => ?_⟩
    have e9 := e r hr9
    have hap1 := hap.1
    rw [r185_437]
    simp (disch := first | assumption | exact e_nk_i _ | exact e_nk_n | exact e_nk_r _ | exact e_bo_0 | exact e_bo_1 | exact e_bo_b _ | omega) only [e_cl_v, e_cl_x, e_add_0, e_add_s, Option.toList_some, Option.toList_none, List.cons_append, List.nil_append, iI_add, iI_sub, iI_mul, iI_lt, iI_eq, iI_le, r185_439, r185_441, r185_444, r185_445, r185_448, r185_449, r185_452, r185_454, r185_457, r185_458, r185_459, r185_462, r185_464, r185_465, r185_466, r185_467, r185_468, r185_471, r185_472, r185_475, r185_476, r185_477, r185_480, e2, e3, e5, if_pos y]
    first | rw [if_neg (by omega)] | rw [if_pos (by omega)]
    exact e9
  · obtain ⟨H3, s3, T3, I3⟩ := hI
    refine ⟨M3, s3, H3, T3, I3, fun r hr9 => ?_⟩
    rw [r185_437]
    simp (disch := first | assumption | exact e_nk_i _ | exact e_nk_n | exact e_nk_r _ | exact e_bo_0 | exact e_bo_1 | exact e_bo_b _ | omega) only [e_cl_v, e_cl_x, e_add_0, e_add_s, Option.toList_some, Option.toList_none, List.cons_append, List.nil_append, iI_add, iI_sub, iI_mul, iI_lt, iI_eq, iI_le, r185_439, r185_441]
    rw [if_neg (by omega)]
    exact G_less (by repeat (first | exact e_ll.rf | refine e_ll_c ?_ | refine e_ll_x ?_)) hr9
/-- and read, and undone twice -/
theorem l_movedB (H : CL M K c S) (hc1 : 1 ≤ c) (he : eqL K (S (c - 1))) (Ht : TC M s er w U) (hs : s.1 = 0) : ∃ (M2 : e_MI) (K2 : e_St) (c2 : Int) (S2 : Int → e_St), e_lim L xs (d + 8) 185 425 [some (.ref 184), some (.int (bI (ft K))), some (.int (iI (csW K))), none, none, none, none, none, none] [] (e_hp M V W) = some (.inl (some (.int (bI true))), e_hp M2 V W, 0, 0) ∧ CL M2 K2 c2 S2 := by
  have ha := H.g.2.1.1
  obtain ⟨M1, s1, H1, T1, I1, k1⟩ := l_filled (L := L) (xs := xs) (d := d) (V := V) (W := W) (z1 := bI (ft K)) (z2 := iI (csW K)) H Ht hs
  obtain ⟨h1, h2⟩ := TI_read ha.1 I1
  obtain ⟨M2, e2, q2, -, T2, g2⟩ := x_read (L := L) (xs := xs) (d := d) (V := V) (W := W) H1.ck H.g T1
  have hcd : cdRd K s1 = 0 := by
    unfold cdRd
    rw [if_pos h1]
  rw [if_pos hcd, h2] at e2
  have q2 := q2 hcd
  rw [h2] at q2
  rw [h1] at T2
  have H2 : CL M2 K (svC c) (svS c S K) := H1.ch q2 (fun a x => g2 a (by omega)) H.g (fun z _ => rfl)
  have e3 := x_errorPosition (L := L) (xs := xs) (d := d + 7) (V := V) (W := W) T2
  have e4 := x_checksum (L := L) (xs := xs) (d := d + 6) (V := V) (W := W) H2.ck H.g
  have hc12 := H.c12
  have hsl := sv_last (c := c) (S := S) (K := K) hc12
  have hs2 := sv_last2 (c := c) (S := S) (K := K) (by omega)
  obtain ⟨M3, e5, H3, -⟩ := x_undone (L := L) (xs := xs) (d := d) (V := V) (W := W) H2 hsl.2.1 (by rw [hsl.1]; exact fun z _ => rfl)
  rw [hsl.1] at H3
  obtain ⟨M4, e6, H4, -⟩ := x_undone (L := L) (xs := xs) (d := d) (V := V) (W := W) H3 (by omega) (by rw [hs2.1]; exact he)
  obtain ⟨M5, e7, q7, g7⟩ := x_errors (L := L) (xs := xs) (d := d + 1) (V := V) (W := W) H4.ck H4.g
  have H5 := H4.qu q7 (fun a x => g7 a (by omega))
  refine ⟨M5, _, _, _, k1 _ ?_, H5⟩
  have ew := H1.la.ws
  simp (disch := first | assumption | exact e_nk_i _ | exact e_nk_n | exact e_nk_r _ | exact e_bo_0 | exact e_bo_1 | exact e_bo_b _ | omega) only [e_cl_v, e_cl_x, e_add_0, e_add_s, Option.toList_some, Option.toList_none, List.cons_append, List.nil_append, iI_add, iI_sub, iI_mul, iI_lt, iI_eq, iI_le, r185_483, r185_485, r185_486, r185_489, r185_492, r185_493, r185_496, r185_499, r185_500, r185_503, r185_504, r185_507, r185_510, r185_511, r185_514, r185_515, r185_518, ew, e2, e3, if_true]
  simp (disch := first | assumption | exact e_nk_i _ | exact e_nk_n | exact e_nk_r _ | exact e_bo_0 | exact e_bo_1 | exact e_bo_b _ | omega) only [e_cl_v, e_cl_x, e_add_0, e_add_s, Option.toList_some, Option.toList_none, List.cons_append, List.nil_append, iI_add, iI_sub, iI_mul, iI_lt, iI_eq, iI_le, r185_521, r185_522, r185_525, r185_526, r185_529, r185_532, r185_535, r185_536, r185_539, r185_542, r185_545, r185_546, r185_549, r185_552, r185_555, r185_556, r185_559, r185_560, e4, e5, e6, e7, if_true, bI_t]
  first | rw [if_neg (by omega)] | rw [if_pos (by omega)] | skip
  first | rw [if_neg (by omega)] | rw [if_pos (by omega)] | skip
/-- what moves -/
theorem l_isMoved (H : CL M K c S) (Ht : TC M s er w U) (hs : s.1 = 0) : ∃ (M2 : e_MI) (V2 : e_ML) (K2 : e_St) (c2 : Int) (S2 : Int → e_St), e_lim L xs (d + 8) 185 0 [some (.ref 184), none, none, none, none, none, none, none, none] [] (e_hp M V W) = some (.inl (some (.int (bI true))), e_hp M2 V2 W, 0, 0) ∧ CL M2 K2 c2 S2 := by
  have hr := H.g.1
  have hp := H.g.2.2.1
  obtain ⟨ha, hv0⟩ := H.g.2.1
  have hv : vR K (rwK K) := hv0
  have w0 := H.la.ws
  have h10 : ¬ (iI 1 = iI 0) := by decide
  by_cases hw : aW K < 2
  · refine ⟨M, V, K, c, S, ?_, H⟩
    simp (disch := first | assumption | exact e_nk_i _ | exact e_nk_n | exact e_nk_r _ | exact e_bo_0 | exact e_bo_1 | exact e_bo_b _ | omega) only [e_cl_v, e_cl_x, e_add_0, e_add_s, Option.toList_some, Option.toList_none, List.cons_append, List.nil_append, iI_add, iI_sub, iI_mul, iI_lt, iI_eq, iI_le, r185_0, r185_1, r185_4, r185_5, r185_8, r185_9, r185_12, r185_15, r185_16, r185_19, r185_20, r185_23, r185_24, r185_27, r185_28, w0, bI_t, if_pos hw]
  · obtain ⟨M1, e1, f1, g1⟩ := l_isPlan (L := L) (xs := xs) (d := d) (V := V) (W := W) H
    have H1 := H.of f1.l
    obtain ⟨M2, e2, f2, g2⟩ := l_isTimed (L := L) (xs := xs) (d := d + 6) (V := V) (W := W) H1.la H1.lb hr hp (vR.vp hr hv) ha g1
    have H2 := H1.of f2.l
    have hft : fiR K (rwK K) (aW K) = ft K := rfl
    rw [hft] at e2 g2
    have w1 := H1.la.ws
    have e3 := x_checksum (L := L) (xs := xs) (d := d + 6) (V := V) (W := W) H2.ck H.g
    have t2 : fTp M M2 := f1.fp.tr f2.pp.fp
    -- from there
    have rest : ∀ (M3 : e_MI) (V3 : e_ML) (c3 : Int) (S3 : Int → e_St), CL M3 K c3 S3 → fTp M M3 → ∃ (M4 : e_MI) (K2 : e_St) (c2 : Int) (S2 : Int → e_St), e_lim L xs (d + 8) 185 159 [some (.ref 184), some (.int (bI (ft K))), some (.int (iI (csW K))), none, none, none, none, none, none] [] (e_hp M3 V3 W) = some (.inl (some (.int (bI true))), e_hp M4 V3 W, 0, 0) ∧ CL M4 K2 c2 S2 := fun M3 V3 c3 S3 H3 t3 => by
      obtain ⟨M5, c5, S5, H5, ⟨y1, y2⟩, t5, k5⟩ := l_movedA (L := L) (xs := xs) (d := d) (V := V3) (W := W) H3 (by omega)
      have hq1 : (0 : Int) ≤ 1 ∧ (1 : Int) ≤ 2 := by omega
      have heA : eqL K (kpK K 1) := eqL_kp hq1
      obtain ⟨n1, n2, n3⟩ := now_cg H.g heA (fun p x y => kp_row hq1 ha.2 x y)
      obtain ⟨M6, K6, c6, S6, e6, H6⟩ := l_movedB (L := L) (xs := xs) (d := d) (V := V3) (W := W) H5 y1 (fun z hz => by rw [y2 z hz, heA z hz]) (Ht.of (t3.tr t5)) hs
      rw [n1, n3] at e6
      exact ⟨M6, K6, c6, S6, k5 _ e6, H6⟩
    rcases b2 (ft K) with hb | hb
    · obtain ⟨g3, g4⟩ := g2 hb
      obtain ⟨M3, V3, S3, H3, t3, k3⟩ := l_better (L := L) (xs := xs) (d := d) (V := V) (W := W) H2 hb g3 g4
      obtain ⟨M4, K4, c4, S4, e4, H4⟩ := rest M3 V3 _ _ H3 (t2.tr t3)
      refine ⟨M4, V3, K4, c4, S4, ?_, H4⟩
      rw [hb] at e4 e2
      have e5 := k3 _ e4
      simp (disch := first | assumption | exact e_nk_i _ | exact e_nk_n | exact e_nk_r _ | exact e_bo_0 | exact e_bo_1 | exact e_bo_b _ | omega) only [e_cl_v, e_cl_x, e_add_0, e_add_s, Option.toList_some, Option.toList_none, List.cons_append, List.nil_append, iI_add, iI_sub, iI_mul, iI_lt, iI_eq, iI_le, r185_0, r185_1, r185_4, r185_5, r185_8, r185_9, r185_12, r185_15, r185_16, r185_19, r185_20, r185_23, r185_24, r185_27, r185_28, r185_29, r185_30, r185_31, r185_34, r185_37, r185_38, r185_39, r185_42, r185_45, r185_46, r185_47, w0, w1, e1, e2, e3, bI_t, if_neg h10, if_neg hw]
      exact e5
    · obtain ⟨M4, K4, c4, S4, e4, H4⟩ := rest M2 V _ _ H2 t2
      refine ⟨M4, V, K4, c4, S4, ?_, H4⟩
      rw [hb] at e4 e2
      simp (disch := first | assumption | exact e_nk_i _ | exact e_nk_n | exact e_nk_r _ | exact e_bo_0 | exact e_bo_1 | exact e_bo_b _ | omega) only [e_cl_v, e_cl_x, e_add_0, e_add_s, Option.toList_some, Option.toList_none, List.cons_append, List.nil_append, iI_add, iI_sub, iI_mul, iI_lt, iI_eq, iI_le, r185_0, r185_1, r185_4, r185_5, r185_8, r185_9, r185_12, r185_15, r185_16, r185_19, r185_20, r185_23, r185_24, r185_27, r185_28, r185_29, r185_30, r185_31, r185_34, r185_37, r185_38, r185_39, r185_42, r185_45, r185_46, r185_47, w0, w1, e1, e2, e3, bI_t, bI_f, if_neg h10, if_neg hw, if_true]
      exact e4
end El36
