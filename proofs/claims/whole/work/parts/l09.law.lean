section El9
variable {L : Nat} {xs : Nat → Int32} {d : Nat} {M M2 M3 : e_MI} {V V2 : e_ML} {W W2 : e_MD} {K K2 : e_St} {S : Int → e_St} {c cd i er w : Int} {s : Int × (Int → Int)} {U : Int → Int} {r : Option e_R} {an : Int32}
theorem use_q (hg : kG K) {m : Int} : (usW K m).toNat % 2147483648 ≤ 2139095040 := by
  have h1 := edW_rg hg
  have h2 := lO_rg hg.1 (m := m)
  unfold usW
  split
  · decide
  · exact use_n (by omega) (by omega)
theorem ls7 (H : LI M) : LSx L xs i 808 M V W := by
  obtain ⟨K, c, S, s, er, w, U, hR, hC, hT, hP⟩ := H
  have hx := x_orders (L := L) (xs := xs) (d := 999) (M := M) (V := V) (W := W) hC.sh
  obtain ⟨M2, z, em, hI, hk, hz⟩ := (rf_orders (L := L) (xs := xs) (d := 998) (M := M) (V := V) (W := W) hR).li hC hT hP
  rw [hz rfl] at em
  exact ⟨M2, _, _, 0, 0, ⟨by omega, by omega⟩, hI, fun x h3 a3 b3 hr => by rw [Nat.zero_add, Nat.zero_add]; exact lc7 (d := 998) hx em hr⟩
theorem ls8 (H : LI M) : LSx L xs i 821 M V W := by
  obtain ⟨K, c, S, s, er, w, U, hR, hC, hT, hP⟩ := H
  have hx := x_works (L := L) (xs := xs) (d := 999) (M := M) (V := V) (W := W) hC.sh
  obtain ⟨M2, z, em, hI, hk, hz⟩ := (rf_works (L := L) (xs := xs) (d := 997) (M := M) (V := V) (W := W) hR).li hC hT hP
  rw [hz rfl] at em
  exact ⟨M2, _, _, 0, 0, ⟨by omega, by omega⟩, hI, fun x h3 a3 b3 hr => by rw [Nat.zero_add, Nat.zero_add]; exact lc8 (d := 998) hx em hr⟩
theorem ls16 (H : LI M) : LSx L xs i 1281 M V W := by
  obtain ⟨K, c, S, s, er, w, U, hR, hC, hT, hP⟩ := H
  have hx := x_hasTimes (L := L) (xs := xs) (d := 999) (M := M) (V := V) (W := W) hC
  obtain ⟨M2, z, em, hI, hk, hz⟩ := (rf_hasTimes (L := L) (xs := xs) (d := 993) (M := M) (V := V) (W := W) hR).li hC hT hP
  rw [hz rfl] at em
  exact ⟨M2, _, _, 0, 0, ⟨by omega, by omega⟩, hI, fun x h3 a3 b3 hr => by rw [Nat.zero_add, Nat.zero_add]; exact lc16 (d := 998) hx em hr⟩
theorem ls23 (H : LI M) : LSx L xs i 1642 M V W := by
  obtain ⟨K, c, S, s, er, w, U, hR, hC, hT, hP⟩ := H
  have hx := x_bound (L := L) (xs := xs) (d := 993) (M := M) (V := V) (W := W) hC.sh hR.r hR.g.2.2.1
  obtain ⟨M2, z, em, hI, hk, hz⟩ := (rf_bound (L := L) (xs := xs) (d := 995) (M := M) (V := V) (W := W) hR).li hC hT hP
  rw [hz rfl] at em
  exact ⟨M2, _, _, 0, 0, ⟨by omega, by omega⟩, hI, fun x h3 a3 b3 hr => by rw [Nat.zero_add, Nat.zero_add]; exact lc23 (d := 998) hx em hr⟩
theorem ls49 (H : LI M) : LSx L xs i 2972 M V W := by
  obtain ⟨K, c, S, s, er, w, U, hR, hC, hT, hP⟩ := H
  have hx := x_checksum (L := L) (xs := xs) (d := 998) (M := M) (V := V) (W := W) hC hR.g
  obtain ⟨M2, z, em, hI, hk, hz⟩ := (rf_checksum (L := L) (xs := xs) (d := 993) (M := M) (V := V) (W := W) hR).li hC hT hP
  rw [hz rfl] at em
  exact ⟨M2, _, _, 0, 0, ⟨by omega, by omega⟩, hI, fun x h3 a3 b3 hr => by rw [Nat.zero_add, Nat.zero_add]; exact lc49 (d := 998) hx em hr⟩
theorem ls45 (H : LI M) : LSx L xs i 2877 M V W := by
  obtain ⟨K, c, S, s, er, w, U, hR, hC, hT, hP⟩ := H
  have hx := x_errorPosition (L := L) (xs := xs) (d := 999) (M := M) (V := V) (W := W) hT
  obtain ⟨M2, z, em, hI, hk, hz⟩ := (rf_errorPosition (L := L) (xs := xs) (d := 999) (M := M) (V := V) (W := W) hR hP).li hC hT hP
  rw [hz rfl] at em
  exact ⟨M2, _, _, 0, 0, ⟨by omega, by omega⟩, hI, fun x h3 a3 b3 hr => by rw [Nat.zero_add, Nat.zero_add]; exact lc45 (d := 998) hx em hr⟩
theorem ls11 (H : LI M) : LSx L xs i 1006 M V W := by
  obtain ⟨K, c, S, s, er, w, U, hR, hC, hT, hP⟩ := H
  obtain ⟨M1, hx, hC1, hf⟩ := x_noRest (L := L) (xs := xs) (d := 992) (M := M) (V := V) (W := W) hC hR.g ((rf_noRest (L := L) (xs := xs) (d := 998) (M := M) (V := V) (W := W) hR).kg rfl)
  have hR1 := hR.fr (fun a q => hf a (by omega))
  have hP1 := hP.fr (fun a q => hf a (by omega))
  have hT1 := hT.of (fun a q r => hf a (by omega))
  obtain ⟨M2, z, em, hI, hk, hz⟩ := (rf_noRest (L := L) (xs := xs) (d := 998) (M := M1) (V := V) (W := W) hR1).li (fun _ => hC1) (fun h => absurd rfl h) hT1 hP1
  rw [hz rfl] at em
  exact ⟨M2, _, _, 0, 0, ⟨by omega, by omega⟩, hI, fun x h3 a3 b3 hr => by rw [Nat.zero_add, Nat.zero_add]; exact lc11 (d := 998) hx em hr⟩
theorem ls52 (H : LI M) : LSx L xs i 3128 M V W := by
  obtain ⟨K, c, S, s, er, w, U, hR, hC, hT, hP⟩ := H
  obtain ⟨M1, hx, hC1, hf⟩ := x_errors (L := L) (xs := xs) (d := 993) (M := M) (V := V) (W := W) hC hR.g
  have hR1 := hR.fr (fun a q => hf a (by omega))
  have hP1 := hP.fr (fun a q => hf a (by omega))
  have hT1 := hT.of (fun a q r => hf a (by omega))
  obtain ⟨M2, z, em, hI, hk, hz⟩ := (rf_errors (L := L) (xs := xs) (d := 999) (M := M1) (V := V) (W := W) hR1).li hC1 hT1 hP1
  rw [hz rfl] at em
  exact ⟨M2, _, _, 0, 0, ⟨by omega, by omega⟩, hI, fun x h3 a3 b3 hr => by rw [Nat.zero_add, Nat.zero_add]; exact lc52 (d := 998) hx em hr⟩
theorem ls48 (H : LI M) : LSx L xs i 2959 M V W := by
  obtain ⟨K, c, S, s, er, w, U, hR, hC, hT, hP⟩ := H
  obtain ⟨M1, hx, hC1, hf⟩ := x_undo (L := L) (xs := xs) (d := 992) (M := M) (V := V) (W := W) hC hR.g hR.2.2.2.1
  have hR1 := hR.fr (fun a q => hf a (by omega))
  have hP1 := hP.fr (fun a q => hf a (by omega))
  have hT1 := hT.of (fun a q r => hf a (by omega))
  obtain ⟨M2, em, hR2, hq⟩ := rf_undo (L := L) (xs := xs) (d := 999) (M := M1) (V := V) (W := W) hR1
  have hI : LI M2 := ⟨_, _, S, s, er, w, U, hR2, hC1.m hq.1, hT1.m hq.1, hP1.pp hq⟩
  exact ⟨M2, _, _, 0, 0, ⟨by omega, by omega⟩, hI, fun x h3 a3 b3 hr => by rw [Nat.zero_add, Nat.zero_add]; exact lc48 (d := 998) hx em hr⟩
theorem ls43 (H : LI M) : LSx L xs i 2813 M V W := by
  obtain ⟨K, c, S, s, er, w, U, hR, hC, hT, hP⟩ := H
  obtain ⟨M1, hx, hT1, hf⟩ := x_clearTape (L := L) (xs := xs) (d := 999) (M := M) (V := V) (W := W) hT
  have hR1 := hR.fr (fun a q => hf a (by omega))
  have hP1 := hP.fr (fun a q => hf a (by omega))
  obtain ⟨M2, em, hR2, hq, hP2⟩ := rf_clearTape (L := L) (xs := xs) (d := 999) (M := M1) (V := V) (W := W) hR1 hP1
  have hC1 : CK M1 K c S := hC.of fun a q r => hf a (by omega)
  have hI : LI M2 := ⟨K, c, S, _, er, w, U, hR2, hC1.m hq, hT1.m hq, hP2⟩
  exact ⟨M2, _, _, 0, 0, ⟨by omega, by omega⟩, hI, fun x h3 a3 b3 hr => by rw [Nat.zero_add, Nat.zero_add]; exact lc43 (d := 998) hx em hr⟩
theorem ls46 (H : LI M) : LSx L xs i 2890 M V W := by
  obtain ⟨K, c, S, s, er, w, U, hR, hC, hT, hP⟩ := H
  obtain ⟨M1, hx, hT1, hf⟩ := x_write (L := L) (xs := xs) (d := 997) (M := M) (V := V) (W := W) hC.sh hR.g hT
  have hR1 := hR.fr (fun a q => hf a (by omega) (by omega))
  have hP1 := hP.fr (fun a q => hf a (by omega) (by omega))
  obtain ⟨M2, em, hR2, hq, hP2⟩ := rf_write (L := L) (xs := xs) (d := 997) (M := M1) (V := V) (W := W) hR1 hP1
  have hC1 : CK M1 K c S := hC.of fun a q r => hf a (by omega) (by omega)
  have hI : LI M2 := ⟨K, c, S, s, er, _, _, hR2, hC1.m hq, hT1.m hq, hP2⟩
  exact ⟨M2, _, _, 0, 0, ⟨by omega, by omega⟩, hI, fun x h3 a3 b3 hr => by rw [Nat.zero_add, Nat.zero_add]; exact lc46 (d := 998) hx em hr⟩
theorem ls42 (H : LI M) (h0 : 0 ≤ i) (h1 : i + 5 < (L : Int)) (hL : L ≤ 3072) : LSx L xs i 2709 M V W := by
  obtain ⟨K, c, S, s, er, w, U, hR, hC, hT, hP⟩ := H
  obtain ⟨M1, hx, hok, hbad, hf⟩ := x_append (L := L) (xs := xs) (d := 996) (M := M) (V := V) (W := W) hT (a1 := xs (i + 1).toNat) (a2 := xs (i + 2).toNat) (a3 := xs (i + 3).toNat) (a4 := xs (i + 4).toNat) (a5 := xs (i + 5).toNat)
  have hR1 := hR.fr (fun a q => hf a (by omega) (by omega))
  have hP1 := hP.fr (fun a q => hf a (by omega) (by omega))
  have hC1 : CK M1 K c S := hC.of fun a q r => hf a (by omega) (by omega)
  have hA := fun (V : e_ML) (W : e_MD) => (rf_append (L := L) (xs := xs) (d := 998) (M := M1) (V := V) (W := W) hR1 hP1 (a := xs (i + 1).toNat) (b := xs (i + 2).toNat) (e := xs (i + 3).toNat) (f := xs (i + 4).toNat) (g := xs (i + 5).toNat))
  by_cases c1 : cdAp (xs (i + 1).toNat) (xs (i + 2).toNat) (xs (i + 3).toNat) (xs (i + 4).toNat) (xs (i + 5).toNat) s = 0
  · rw [if_pos c1] at hx
    obtain ⟨M2, z, em, hR2, hq, hk, hz, hzb⟩ := hA (e_u V 202 (vp_updL (V 202) 0 (Int32.toInt64 (iI (apW (xs (i + 1).toNat) (xs (i + 2).toNat) (xs (i + 3).toNat) (xs (i + 4).toNat) (xs (i + 5).toNat) s).1)))) W
    have hI : LI M2 := ⟨K, c, S, _, er, w, U, hR2, hC1.m hq, (hok c1).m hq, (hz c1).2⟩
    exact ⟨M2, _, _, 0, 0, ⟨by omega, by omega⟩, hI, fun x h3 a3 b3 hr => lc42 (d := 998) (k := 0) h0 h1 hL (wo_append (d := 998) hx) em (hk.trans (congrArg iI c1)) ⟨by omega, by omega⟩ (fun _ => by rw [out_0, (hz c1).1]) hr⟩
  · rw [if_neg c1] at hx
    have hcd : cdAp (xs (i + 1).toNat) (xs (i + 2).toNat) (xs (i + 3).toNat) (xs (i + 4).toNat) (xs (i + 5).toNat) s = 1 := by
      unfold cdAp at c1 ⊢
      split
      · next q => rw [if_pos q] at c1; exact absurd rfl c1
      · rfl
    obtain ⟨M2, z, em, hR2, hq, hk, hz, hzb⟩ := hA V W
    have hT1 : TC M1 s er w U := by rw [hbad c1]; exact hT
    have hI : LI M2 := ⟨K, c, S, s, er, w, U, hR2, hC1.m hq, hT1.m hq, hzb c1⟩
    exact ⟨M2, _, _, 1, 6, ⟨by omega, by omega⟩, hI, fun x h3 a3 b3 hr => lc42 (d := 998) (k := 1) h0 h1 hL (wb1_append (d := 998) hx) em (hk.trans (congrArg iI hcd)) ⟨by omega, by omega⟩ (fun q => absurd q (by decide)) hr⟩
theorem ls44 (H : LI M) (h0 : 0 ≤ i) (h1 : i + 5 < (L : Int)) (hL : L ≤ 3072) : LSx L xs i 2826 M V W := by
  obtain ⟨K, c, S, s, er, w, U, hR, hC, hT, hP⟩ := H
  obtain ⟨M1, hx, hok, hbad, hT1, hf⟩ := x_read (L := L) (xs := xs) (d := 991) (M := M) (V := V) (W := W) hC hR.g hT
  have hR1 := hR.fr (fun a q => hf a (by omega))
  have hP1 := hP.fr (fun a q => hf a (by omega))
  have hA := fun (V : e_ML) (W : e_MD) => (rf_read (L := L) (xs := xs) (d := 993) (M := M1) (V := V) (W := W) hR1 hP1)
  by_cases c1 : cdRd K s = 0
  · rw [if_pos c1] at hx
    obtain ⟨M2, z, em, hq, hk, hP2, hz, hzb⟩ := hA (e_u V 202 (vp_updL (V 202) 0 (if (ft (rdK K s)) = true then 1 else 0))) W
    have hI : LI M2 := ⟨_, _, _, _, _, _, _, (hz c1).2, (hok c1).m hq, hT1.m hq, hP2⟩
    exact ⟨M2, _, _, 0, 0, ⟨by omega, by omega⟩, hI, fun x h3 a3 b3 hr => lc44 (d := 998) (k := 0) (bb := ft (rdK K s)) h0 h1 hL (wo_read (d := 998) hx) em (hk.trans (congrArg iI c1)) ⟨by omega, by omega⟩ (fun _ => ⟨(hz c1).1, out_0 _ _⟩) hr⟩
  · rw [if_neg c1] at hx
    have hcd : cdRd K s = 1 := by
      unfold cdRd at c1 ⊢
      split
      · next q => rw [if_pos q] at c1; exact absurd rfl c1
      · rfl
    obtain ⟨M2, z, em, hq, hk, hP2, hz, hzb⟩ := hA V W
    have hI : LI M2 := ⟨K, c, S, _, _, _, _, hzb c1, (hbad c1).m hq, hT1.m hq, hP2⟩
    exact ⟨M2, _, _, 1, 6, ⟨by omega, by omega⟩, hI, fun x h3 a3 b3 hr => lc44 (d := 998) (k := 1) (bb := true) h0 h1 hL (wb0_read (d := 998) hx) em (hk.trans (congrArg iI hcd)) ⟨by omega, by omega⟩ (fun q => absurd q (by decide)) hr⟩
theorem ls34 (H : LI M) (h0 : 0 ≤ i) (h1 : i + 5 < (L : Int)) (hL : L ≤ 3072) : LSx L xs i 2279 M V W := by
  obtain ⟨K, c, S, s, er, w, U, hR, hC, hT, hP⟩ := H
  have hx := x_cost (L := L) (xs := xs) (d := 994) (M := M) (V := V) (W := W) hC hR.g
  have hA := fun (V : e_ML) (W : e_MD) => (rf_cost (L := L) (xs := xs) (d := 992) (M := M) (V := V) (W := W) hR)
  by_cases c1 : ft K = true
  · rw [if_pos c1] at hx
    have hcd : cdT K 1 = 0 := if_pos c1
    obtain ⟨M2, z, em, hR2, hq, hk, hz⟩ := hA (e_u V 202 (vp_updL (V 202) 0 (lI (ctW K (enO K (rwK K)))))) W
    have hI : LI M2 := ⟨K, c, S, s, er, w, U, hR2, hC.m hq.1, hT.m hq.1, hP.pp hq.p⟩
    exact ⟨M2, _, _, 0, 0, ⟨by omega, by omega⟩, hI, fun x h3 a3 b3 hr => lc34 (d := 998) (k := 0) h0 h1 hL (wo_cost (d := 998) hx) em (hk.trans (congrArg iI hcd)) ⟨by omega, by omega⟩ (fun _ => by rw [out_0, hz hcd]) hr⟩
  · rw [if_neg c1] at hx
    have hcd : cdT K 1 = 1 := if_neg c1
    obtain ⟨M2, z, em, hR2, hq, hk, hz⟩ := hA V W
    have hI : LI M2 := ⟨K, c, S, s, er, w, U, hR2, hC.m hq.1, hT.m hq.1, hP.pp hq.p⟩
    exact ⟨M2, _, _, 1, 6, ⟨by omega, by omega⟩, hI, fun x h3 a3 b3 hr => lc34 (d := 998) (k := 1) h0 h1 hL (wb1_cost (d := 998) hx) em (hk.trans (congrArg iI hcd)) ⟨by omega, by omega⟩ (fun q => absurd q (by decide)) hr⟩
theorem ls50 (H : LI M) (h0 : 0 ≤ i) (h1 : i + 5 < (L : Int)) (hL : L ≤ 3072) : LSx L xs i 2985 M V W := by
  obtain ⟨K, c, S, s, er, w, U, hR, hC, hT, hP⟩ := H
  have hx := x_meanEnd (L := L) (xs := xs) (d := 995) (M := M) (V := V) (W := W) hC hR.g
  have hA := fun (V : e_ML) (W : e_MD) => (rf_meanEnd (L := L) (xs := xs) (d := 992) (M := M) (V := V) (W := W) hR)
  by_cases c1 : ft K = true
  · rw [if_pos c1] at hx
    have hcd : cdT K 1 = 0 := if_pos c1
    obtain ⟨M2, z, em, hR2, hq, hk, hz⟩ := hA V (e_u W 203 (vf_upd (W 203) 0 (mnW K)))
    have hI : LI M2 := ⟨K, c, S, s, er, w, U, hR2, hC.m hq.1, hT.m hq.1, hP.pp hq.p⟩
    exact ⟨M2, _, _, 0, 0, ⟨by omega, by omega⟩, hI, fun x h3 a3 b3 hr => lc50 (d := 998) (k := 0) h0 h1 hL (wo_meanEnd (d := 998) hx) em (hk.trans (congrArg iI hcd)) ⟨by omega, by omega⟩ (fun _ => by rw [out_1, hz hcd]) hr⟩
  · rw [if_neg c1] at hx
    have hcd : cdT K 1 = 1 := if_neg c1
    obtain ⟨M2, z, em, hR2, hq, hk, hz⟩ := hA V W
    have hI : LI M2 := ⟨K, c, S, s, er, w, U, hR2, hC.m hq.1, hT.m hq.1, hP.pp hq.p⟩
    exact ⟨M2, _, _, 1, 6, ⟨by omega, by omega⟩, hI, fun x h3 a3 b3 hr => lc50 (d := 998) (k := 1) h0 h1 hL (wb1_meanEnd (d := 998) hx) em (hk.trans (congrArg iI hcd)) ⟨by omega, by omega⟩ (fun q => absurd q (by decide)) hr⟩
theorem ls51 (H : LI M) (h0 : 0 ≤ i) (h1 : i + 5 < (L : Int)) (hL : L ≤ 3072) : LSx L xs i 3050 M V W := by
  obtain ⟨K, c, S, s, er, w, U, hR, hC, hT, hP⟩ := H
  obtain ⟨p1, e1, i1⟩ := iI_of (xs (i + 1).toNat)
  have hx := x_use (L := L) (xs := xs) (d := 994) (M := M) (V := V) (W := W) hC hR.g i1
  have hA := fun (V : e_ML) (W : e_MD) => (rf_use (L := L) (xs := xs) (d := 992) (M := M) (V := V) (W := W) hR i1)
  by_cases c1 : 0 ≤ p1 ∧ p1 ≤ 3
  · rw [if_pos c1] at hx
    by_cases c2 : ft K = true
    · rw [if_pos c2] at hx
      have hcd : cdUs K p1 = 0 := (if_pos c1).trans (if_pos c2)
      have hn := f2d_ok (use_q hR.g (m := p1))
      obtain ⟨M2, z, em, hR2, hq, hk, hz⟩ := hA V (e_u W 203 (vf_upd (W 203) 0 (FP.f2d (usW K p1))))
      have hI : LI M2 := ⟨K, c, S, s, er, w, U, hR2, hC.m hq.1, hT.m hq.1, hP.pp hq.p⟩
      exact ⟨M2, _, _, 0, 0, ⟨by omega, by omega⟩, hI, fun x h3 a3 b3 hr => lc51 (d := 998) (k := 0) h0 h1 hL (by rw [e1]; exact wo_use (d := 998) hn hx) (by rw [e1]; exact em) (hk.trans (congrArg iI hcd)) ⟨by omega, by omega⟩ (fun _ => by rw [(hz hcd).1]; exact ⟨out_1 _ _, hn⟩) hr⟩
    · rw [if_neg c2] at hx
      have hcd : cdUs K p1 = 2 := (if_pos c1).trans (if_neg c2)
      obtain ⟨M2, z, em, hR2, hq, hk, hz⟩ := hA V W
      have hI : LI M2 := ⟨K, c, S, s, er, w, U, hR2, hC.m hq.1, hT.m hq.1, hP.pp hq.p⟩
      exact ⟨M2, _, _, 1, 6, ⟨by omega, by omega⟩, hI, fun x h3 a3 b3 hr => lc51 (d := 998) (k := 2) h0 h1 hL (by rw [e1]; exact wb1_use (d := 998) hx) (by rw [e1]; exact em) (hk.trans (congrArg iI hcd)) ⟨by omega, by omega⟩ (fun q => absurd q (by decide)) hr⟩
  · rw [if_neg c1] at hx
    have hcd : cdUs K p1 = 1 := if_neg c1
    obtain ⟨M2, z, em, hR2, hq, hk, hz⟩ := hA V W
    have hI : LI M2 := ⟨K, c, S, s, er, w, U, hR2, hC.m hq.1, hT.m hq.1, hP.pp hq.p⟩
    exact ⟨M2, _, _, 1, 6, ⟨by omega, by omega⟩, hI, fun x h3 a3 b3 hr => lc51 (d := 998) (k := 1) h0 h1 hL (by rw [e1]; exact wb0_use (d := 998) hx) (by rw [e1]; exact em) (hk.trans (congrArg iI hcd)) ⟨by omega, by omega⟩ (fun q => absurd q (by decide)) hr⟩
end El9
