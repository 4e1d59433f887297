/-! rules laid by hand: switches, the row of shops, signs -/
section E36
variable {L : Nat} {xs : Nat → Int32} {d y pc : Nat} {l : e_L} {st : List Value} {h : e_H} {M : e_MI} {V : e_ML} {W : e_MD}
theorem G_sw {dflt lo hi : Int} {offs : Array Int} {len t : Nat} {z : Int} (hd : decode (e_bc y) pc = .ok (.tableswitch dflt lo hi offs, len)) (hz : -2147483648 ≤ z ∧ z < 2147483648) (ht : (if z < lo ∨ hi < z then e_tg pc dflt else match offs[(z - lo).toNat]? with
      | some off => e_tg pc off
      | none => none) = some t) : e_lim L xs d y pc l (.int (iI z) :: st) h = e_lim L xs d y t l st h := by
  refine R_br hd ⟨fun _ _ => rfl, fun _ _ => rfl⟩ ?_
  unfold e_br
  simp only [iI_toInt hz.1 hz.2]
  split at ht
  · next q => rw [if_pos q, ht]; rfl
  · next q =>
    rw [if_neg q]
    split at ht
    · next off ho => rw [ho]; simp only [ht, Option.map_some]
    · cases ht
theorem rk_sw (z : Int) (hz : 0 ≤ z ∧ z ≤ 5) : e_lim L xs d 7 1 l (.int (iI z) :: st) h = e_lim L xs d 7 (if z = 1 then 36 else if z = 2 then 43 else if z = 3 then 51 else if z = 4 then 58 else if z = 5 then 66 else 74) l st h := by
  have hd : decode (e_bc 7) 1 = .ok (.tableswitch 73 1 5 #[35, 42, 50, 57, 65], 35) := by decide +kernel
  rcases (show z = 0 ∨ z = 1 ∨ z = 2 ∨ z = 3 ∨ z = 4 ∨ z = 5 by omega) with rfl | rfl | rfl | rfl | rfl | rfl <;>
    exact G_sw hd (by omega) (by decide +kernel)
theorem sk_12 : e_sk[12]? = some (.inl (4, 12, .inr (.inr (.inr (.inr fun j => if j < 12 then some (13 + 10 * j) else none))))) := rfl
theorem sk_183 : e_isC 183 16 := rfl
theorem r3_9 {l0 l1 : Option Value} {v0 : Int32} : e_lim L xs d 3 9 [l0, l1] [.ref 12, .int v0] (e_hp M V W) = e_lim L xs d 3 10 [l0, l1] [.int (iI 12), .int v0] (e_hp M V W) := by
  refine R_hl (ins := .arraylength) (n := 1) (by decide +kernel) ⟨⟨fun _ _ => rfl, fun _ _ => rfl⟩, fun _ _ _ => rfl⟩ ?_
  unfold e_hl
  simp only [e_hp_at sk_12, e_fl]
  rfl
theorem r3_18 {l0 l1 : Option Value} {z : Int} (h0 : 0 ≤ z) (h1 : z < 12) : e_lim L xs d 3 18 [l0, l1] [.int (iI z), .ref 12] (e_hp M V W) = e_lim L xs d 3 19 [l0, l1] [.ref (13 + 10 * z.toNat)] (e_hp M V W) := by
  refine R_hl (ins := .aaload) (n := 1) (by decide +kernel) ⟨⟨fun _ _ => rfl, fun _ _ => rfl⟩, fun _ _ _ => rfl⟩ ?_
  unfold e_hl
  simp only [e_hp_at sk_12, e_fl]
  rw [if_pos (iI_vin (n := 12) h0 (by omega) (by omega)), iI_nat h0 (by omega), if_pos (by omega)]
  rfl
theorem r102_9 {l0 l1 : Option Value} {v0 : Int32} : e_lim L xs d 102 9 [l0, l1] [.ref 183, .int v0] (e_hp M V W) = e_lim L xs d 102 10 [l0, l1] [.int (iI 16), .int v0] (e_hp M V W) := by
  refine R_hl (ins := .arraylength) (n := 1) (by decide +kernel) ⟨⟨fun _ _ => rfl, fun _ _ => rfl⟩, fun _ _ _ => rfl⟩ ?_
  unfold e_hl
  simp only [e_hp_at sk_183, e_fl]
  rfl
theorem r102_18 {l0 l1 : Option Value} {z : Int} (h0 : 0 ≤ z) (h1 : z < 16) : e_lim L xs d 102 18 [l0, l1] [.int (iI z), .ref 183] (e_hp M V W) = e_lim L xs d 102 19 [l0, l1] [.int (M 183 z.toNat)] (e_hp M V W) := by
  refine R_hl (ins := .caload) (n := 1) (by decide +kernel) ⟨⟨fun _ _ => rfl, fun _ _ => rfl⟩, fun _ _ _ => rfl⟩ ?_
  unfold e_hl
  simp only [e_hp_at sk_183, e_fl]
  rw [if_pos (iI_vin (n := 16) h0 (by omega) (by omega)), iI_nat h0 (by omega)]
theorem r101_40 {l0 l1 l2 : Option Value} {z : Int} {x : Int32} (h0 : 0 ≤ z) (h1 : z < 16) : e_lim L xs d 101 40 [l0, l1, l2] [.int x, .int (iI z), .ref 183] (e_hp M V W) = e_lim L xs d 101 41 [l0, l1, l2] [] (e_hp (e_u M 183 (upd (M 183) z.toNat (vp_nar .char x))) V W) := by
  refine R_hs (ins := .castore) (n := 1) (by decide +kernel) ⟨⟨fun _ _ => rfl, fun _ _ => rfl⟩, fun _ _ _ => rfl, fun _ _ _ => rfl⟩ ?_
  unfold e_hs
  simp only [e_hp_at sk_183, e_fl]
  rw [if_pos (iI_vin (n := 16) h0 (by omega) (by omega)), iI_nat h0 (by omega), sk_183.set]
/-- a shop of the history, stored and read again -/
theorem r1_8 {l0 l1 l2 : Option Value} {x : Nat} (hk : e_nk l1 = true) : e_lim L xs d 1 8 [l0, l1, l2] [.ref x] h = e_lim L xs d 1 9 [l0, l1, some (.ref x)] [] h := G_st (i := 1) (ins := .astore_n 2) (n := 1) (by decide +kernel) rfl rfl hk
theorem r1_9 {l0 l1 : Option Value} {x : Nat} : e_lim L xs d 1 9 [l0, l1, some (.ref x)] [] h = e_lim L xs d 1 10 [l0, l1, some (.ref x)] [.ref x] h := R_op (ins := .aload_n 2) (n := 1) (by decide +kernel) rfl
theorem r1_13 {l0 l1 : Option Value} {x : Nat} : e_lim L xs d 1 13 [l0, l1, some (.ref x)] [] h = e_lim L xs d 1 14 [l0, l1, some (.ref x)] [.ref x] h := R_op (ins := .aload_n 2) (n := 1) (by decide +kernel) rfl
theorem r1_15 {l0 l1 l2 : Option Value} {x z : Nat} (hx : e_isS x) : e_lim L xs (d + 1) 1 15 [l0, l1, l2] [.ref z, .ref x] (e_hp M V W) = e_cl (e_lim L xs d 26 0 [some (.ref x), some (.ref z)] [] (e_hp M V W)) (e_hp M V W) [l0, l1, l2] [] (fun k2 v h2 => e_lim L xs (d + 1) 1 18 k2 (v.toList ++ []) h2) :=
  R_cv (y := 1) (pc := 15) (a := x) (idx := 26) (y2 := 26) (nest := 0) (m := 1) (av := [.ref z]) (rest := []) (ci := 3) (by decide +kernel) (by rw [ecy_1]; exact ek_0_26) (by rfl) (by rfl) rfl rfl rfl (by decide) rfl (e_hp_at hx.o) (by decide +kernel)
theorem r2_43 {l0 l1 l2 : Option Value} {x : Nat} (hk : e_nk l1 = true) : e_lim L xs d 2 43 [l0, l1, l2] [.ref x] h = e_lim L xs d 2 44 [l0, l1, some (.ref x)] [] h := G_st (i := 1) (ins := .astore_n 2) (n := 1) (by decide +kernel) rfl rfl hk
theorem r2_44 {l0 l1 : Option Value} {x : Nat} : e_lim L xs d 2 44 [l0, l1, some (.ref x)] [] h = e_lim L xs d 2 45 [l0, l1, some (.ref x)] [.ref x] h := R_op (ins := .aload_n 2) (n := 1) (by decide +kernel) rfl
theorem r2_49 {l0 l1 : Option Value} {x z : Nat} : e_lim L xs d 2 49 [l0, l1, some (.ref x)] [.ref z] h = e_lim L xs d 2 50 [l0, l1, some (.ref x)] [.ref x, .ref z] h := R_op (ins := .aload_n 2) (n := 1) (by decide +kernel) rfl
theorem r2_50 {l0 l1 l2 : Option Value} {x z : Nat} (hz : e_isS z) : e_lim L xs (d + 1) 2 50 [l0, l1, l2] [.ref x, .ref z] (e_hp M V W) = e_cl (e_lim L xs d 26 0 [some (.ref z), some (.ref x)] [] (e_hp M V W)) (e_hp M V W) [l0, l1, l2] [] (fun k2 v h2 => e_lim L xs (d + 1) 2 53 k2 (v.toList ++ []) h2) :=
  R_cv (y := 2) (pc := 50) (a := z) (idx := 26) (y2 := 26) (nest := 0) (m := 1) (av := [.ref x]) (rest := []) (ci := 3) (by decide +kernel) (by rw [ecy_2]; exact ek_0_26) (by rfl) (by rfl) rfl rfl rfl (by decide) rfl (e_hp_at hz.o) (by decide +kernel)
end E36
