section El10
variable {L : Nat} {xs : Nat → Int32} {d : Nat} {M M2 M3 : e_MI} {V V2 : e_ML} {W W2 : e_MD} {i : Int} {l : e_L} {st : List Value} {h : e_H}
theorem and63 (x : Int32) : ∃ n : Int, x &&& iI 63 = iI n ∧ 0 ≤ n ∧ n ≤ 63 := by
  refine ⟨((x.toUInt32.toNat % 64 : Nat) : Int), ?_, by omega, by omega⟩
  apply Int32.toBitVec_inj.mp
  apply BitVec.eq_of_toNat_eq
  have e1 : (x &&& iI 63).toBitVec.toNat = x.toUInt32.toNat % 64 := by
    rw [Int32.toBitVec_and, BitVec.toNat_and]
    show x.toBitVec.toNat &&& (2 ^ 6 - 1) = _
    rw [Nat.and_two_pow_sub_one_eq_mod]
    rfl
  rw [e1]
  have h2 : x.toUInt32.toNat % 64 < 64 := Nat.mod_lt _ (by decide)
  generalize x.toUInt32.toNat % 64 = n at h2
  show n = (BitVec.ofInt 32 (n : Int)).toNat
  rw [BitVec.ofInt_natCast, BitVec.toNat_ofNat]
  omega
theorem r331_45 {n : Int} (h0 : 0 ≤ n) (h1 : n ≤ 63) {pc : Nat} (hp : (if n < 0 ∨ 52 < n then some 3141 else match (#[227, 331, 423, 479, 547, 615, 683, 763, 776, 789, 881, 961, 974, 1042, 1117, 1180, 1236, 1249, 1317, 1373, 1417, 1473, 1541, 1597, 1610, 1654, 1698, 1754, 1810, 1866, 1922, 2002, 2070, 2150, 2234, 2277, 2321, 2396, 2440, 2496, 2552, 2608, 2664, 2768, 2781, 2832, 2845, 2858, 2914, 2927, 2940, 3005, 3083] : Array Int)[(n - 0).toNat]? with
      | some off => e_tg 45 off
      | none => none) = some pc) : e_lim L xs d 331 45 l (.int (iI n) :: st) h = e_lim L xs d 331 pc l st h :=
  G_sw (dflt := 3096) (lo := 0) (hi := 52) (offs := #[227, 331, 423, 479, 547, 615, 683, 763, 776, 789, 881, 961, 974, 1042, 1117, 1180, 1236, 1249, 1317, 1373, 1417, 1473, 1541, 1597, 1610, 1654, 1698, 1754, 1810, 1866, 1922, 2002, 2070, 2150, 2234, 2277, 2321, 2396, 2440, 2496, 2552, 2608, 2664, 2768, 2781, 2832, 2845, 2858, 2914, 2927, 2940, 3005, 3083]) (len := 227) (by decide +kernel) (by omega) (by rw [← hp]; rfl)
theorem l_turn (H : LI M) (h0 : 0 ≤ i) (h1 : i + 5 < (L : Int)) (hL : L ≤ 3072) : ∃ pc : Nat, (∀ V W, e_lim L xs 1000 331 28 [some (.ref e_SCR), some (.ref 0), some (.ref 184), some (.ref 202), some (.ref 203), some (.int (iI i)), none, none, none] [] (e_hp M V W) = e_lim L xs 1000 331 pc [some (.ref e_SCR), some (.ref 0), some (.ref 184), some (.ref 202), some (.ref 203), some (.int (iI i)), none, none, none] [] (e_hp M V W)) ∧ ∀ V W, LSx L xs i pc M V W := by
  obtain ⟨n, hn, n0, n1⟩ := and63 (xs i.toNat)
  have key : ∀ {pc : Nat}, ((if n < 0 ∨ 52 < n then some 3141 else match (#[227, 331, 423, 479, 547, 615, 683, 763, 776, 789, 881, 961, 974, 1042, 1117, 1180, 1236, 1249, 1317, 1373, 1417, 1473, 1541, 1597, 1610, 1654, 1698, 1754, 1810, 1866, 1922, 2002, 2070, 2150, 2234, 2277, 2321, 2396, 2440, 2496, 2552, 2608, 2664, 2768, 2781, 2832, 2845, 2858, 2914, 2927, 2940, 3005, 3083] : Array Int)[(n - 0).toNat]? with
      | some off => e_tg 45 off
      | none => none) = some pc) → ∀ V W, e_lim L xs 1000 331 28 [some (.ref e_SCR), some (.ref 0), some (.ref 184), some (.ref 202), some (.ref 203), some (.int (iI i)), none, none, none] [] (e_hp M V W) = e_lim L xs 1000 331 pc [some (.ref e_SCR), some (.ref 0), some (.ref 184), some (.ref 202), some (.ref 203), some (.int (iI i)), none, none, none] [] (e_hp M V W) := fun {pc} hp V W => by
    simp (disch := first | assumption | exact e_nk_i _ | exact e_nk_n | exact e_nk_r _ | exact e_bo_0 | exact e_bo_1 | exact e_bo_b _ | omega) only [r331_28, r331_30, r331_31, r331_32, r331_34, iI_sub, r331_35, iI_lt]
    rw [if_neg (by omega)]
    simp (disch := first | assumption | exact e_nk_i _ | exact e_nk_n | exact e_nk_r _ | exact e_bo_0 | exact e_bo_1 | exact e_bo_b _ | omega) only [r331_38, r331_39, r331_41, r331_42, r331_44, hn]
    exact r331_45 n0 n1 hp
  by_cases hb : 52 < n
  · exact ⟨3141, key (by rw [if_pos (Or.inr hb)]), fun V W => ⟨M, V, W, 0, 0, ⟨by omega, by omega⟩, H, fun x h3 a3 b3 hr => by rw [Nat.zero_add, Nat.zero_add]; exact hr⟩⟩
  · have hc : n = 0 ∨ n = 1 ∨ n = 2 ∨ n = 3 ∨ n = 4 ∨ n = 5 ∨ n = 6 ∨ n = 7 ∨ n = 8 ∨ n = 9 ∨ n = 10 ∨ n = 11 ∨ n = 12 ∨ n = 13 ∨ n = 14 ∨ n = 15 ∨ n = 16 ∨ n = 17 ∨ n = 18 ∨ n = 19 ∨ n = 20 ∨ n = 21 ∨ n = 22 ∨ n = 23 ∨ n = 24 ∨ n = 25 ∨ n = 26 ∨ n = 27 ∨ n = 28 ∨ n = 29 ∨ n = 30 ∨ n = 31 ∨ n = 32 ∨ n = 33 ∨ n = 34 ∨ n = 35 ∨ n = 36 ∨ n = 37 ∨ n = 38 ∨ n = 39 ∨ n = 40 ∨ n = 41 ∨ n = 42 ∨ n = 43 ∨ n = 44 ∨ n = 45 ∨ n = 46 ∨ n = 47 ∨ n = 48 ∨ n = 49 ∨ n = 50 ∨ n = 51 ∨ n = 52 := by omega
    rcases hc with rfl | rfl | rfl | rfl | rfl | rfl | rfl | rfl | rfl | rfl | rfl | rfl | rfl | rfl | rfl | rfl | rfl | rfl | rfl | rfl | rfl | rfl | rfl | rfl | rfl | rfl | rfl | rfl | rfl | rfl | rfl | rfl | rfl | rfl | rfl | rfl | rfl | rfl | rfl | rfl | rfl | rfl | rfl | rfl | rfl | rfl | rfl | rfl | rfl | rfl | rfl | rfl | rfl
    · exact ⟨272, key (by decide), fun V W => ls0 H h0 h1 hL⟩
    · exact ⟨376, key (by decide), fun V W => ls1 H h0 h1 hL⟩
    · exact ⟨468, key (by decide), fun V W => ls2 H h0 h1 hL⟩
    · exact ⟨524, key (by decide), fun V W => ls3 H h0 h1 hL⟩
    · exact ⟨592, key (by decide), fun V W => ls4 H h0 h1 hL⟩
    · exact ⟨660, key (by decide), fun V W => ls5 H h0 h1 hL⟩
    · exact ⟨728, key (by decide), fun V W => ls6 H h0 h1 hL⟩
    · exact ⟨808, key (by decide), fun V W => ls7 H⟩
    · exact ⟨821, key (by decide), fun V W => ls8 H⟩
    · exact ⟨834, key (by decide), fun V W => ls9 H h0 h1 hL⟩
    · exact ⟨926, key (by decide), fun V W => ls10 H h0 h1 hL⟩
    · exact ⟨1006, key (by decide), fun V W => ls11 H⟩
    · exact ⟨1019, key (by decide), fun V W => ls12 H h0 h1 hL⟩
    · exact ⟨1087, key (by decide), fun V W => ls13 H h0 h1 hL⟩
    · exact ⟨1162, key (by decide), fun V W => ls14 H h0 h1 hL⟩
    · exact ⟨1225, key (by decide), fun V W => ls15 H h0 h1 hL⟩
    · exact ⟨1281, key (by decide), fun V W => ls16 H⟩
    · exact ⟨1294, key (by decide), fun V W => ls17 H h0 h1 hL⟩
    · exact ⟨1362, key (by decide), fun V W => ls18 H h0 h1 hL⟩
    · exact ⟨1418, key (by decide), fun V W => ls19 H h0 h1 hL⟩
    · exact ⟨1462, key (by decide), fun V W => ls20 H h0 h1 hL⟩
    · exact ⟨1518, key (by decide), fun V W => ls21 H h0 h1 hL⟩
    · exact ⟨1586, key (by decide), fun V W => ls22 H h0 h1 hL⟩
    · exact ⟨1642, key (by decide), fun V W => ls23 H⟩
    · exact ⟨1655, key (by decide), fun V W => ls24 H h0 h1 hL⟩
    · exact ⟨1699, key (by decide), fun V W => ls25 H h0 h1 hL⟩
    · exact ⟨1743, key (by decide), fun V W => ls26 H h0 h1 hL⟩
    · exact ⟨1799, key (by decide), fun V W => ls27 H h0 h1 hL⟩
    · exact ⟨1855, key (by decide), fun V W => ls28 H h0 h1 hL⟩
    · exact ⟨1911, key (by decide), fun V W => ls29 H h0 h1 hL⟩
    · exact ⟨1967, key (by decide), fun V W => ls30 H h0 h1 hL⟩
    · exact ⟨2047, key (by decide), fun V W => ls31 H h0 h1 hL⟩
    · exact ⟨2115, key (by decide), fun V W => ls32 H h0 h1 hL⟩
    · exact ⟨2195, key (by decide), fun V W => ls33 H h0 h1 hL⟩
    · exact ⟨2279, key (by decide), fun V W => ls34 H h0 h1 hL⟩
    · exact ⟨2322, key (by decide), fun V W => ls35 H h0 h1 hL⟩
    · exact ⟨2366, key (by decide), fun V W => ls36 H h0 h1 hL⟩
    · exact ⟨2441, key (by decide), fun V W => ls37 H h0 h1 hL⟩
    · exact ⟨2485, key (by decide), fun V W => ls38 H h0 h1 hL⟩
    · exact ⟨2541, key (by decide), fun V W => ls39 H h0 h1 hL⟩
    · exact ⟨2597, key (by decide), fun V W => ls40 H h0 h1 hL⟩
    · exact ⟨2653, key (by decide), fun V W => ls41 H h0 h1 hL⟩
    · exact ⟨2709, key (by decide), fun V W => ls42 H h0 h1 hL⟩
    · exact ⟨2813, key (by decide), fun V W => ls43 H⟩
    · exact ⟨2826, key (by decide), fun V W => ls44 H h0 h1 hL⟩
    · exact ⟨2877, key (by decide), fun V W => ls45 H⟩
    · exact ⟨2890, key (by decide), fun V W => ls46 H⟩
    · exact ⟨2903, key (by decide), fun V W => ls47 H h0 h1 hL⟩
    · exact ⟨2959, key (by decide), fun V W => ls48 H⟩
    · exact ⟨2972, key (by decide), fun V W => ls49 H⟩
    · exact ⟨2985, key (by decide), fun V W => ls50 H h0 h1 hL⟩
    · exact ⟨3050, key (by decide), fun V W => ls51 H h0 h1 hL⟩
    · exact ⟨3128, key (by decide), fun V W => ls52 H⟩
theorem l_loop (hL : L ≤ 3072) : ∀ (k : Nat) (i : Int) (M : e_MI) (V : e_ML) (W : e_MD), 0 ≤ i → i ≤ 3078 → (L : Int) - i < 6 * (k : Int) + 6 → LI M → ∃ (h : e_H) (a b : Nat), e_lim L xs 1000 331 28 [some (.ref e_SCR), some (.ref 0), some (.ref 184), some (.ref 202), some (.ref 203), some (.int (iI i)), none, none, none] [] (e_hp M V W) = some (.inl (some (.int (iI 1))), h, a, b) ∧ a ≤ k ∧ b ≤ 6 * k ∧ h.length = 204 := by
  have stop : ∀ (i : Int) (M : e_MI) (V : e_ML) (W : e_MD), 0 ≤ i → i ≤ 3078 → (L : Int) - 6 < i → e_lim L xs 1000 331 28 [some (.ref e_SCR), some (.ref 0), some (.ref 184), some (.ref 202), some (.ref 203), some (.int (iI i)), none, none, none] [] (e_hp M V W) = some (.inl (some (.int (iI 1))), e_hp M V W, 0, 0) := fun i M V W h0 h2 h1 => by
    simp (disch := first | assumption | exact e_nk_i _ | exact e_nk_n | exact e_nk_r _ | exact e_bo_0 | exact e_bo_1 | exact e_bo_b _ | omega) only [r331_28, r331_30, r331_31, r331_32, r331_34, iI_sub, r331_35, iI_lt]
    rw [if_pos h1]
    simp (disch := first | assumption | exact e_nk_i _ | exact e_nk_n | exact e_nk_r _ | exact e_bo_0 | exact e_bo_1 | exact e_bo_b _ | omega) only [r331_3147, r331_3148]
  intro k
  induction k with
  | zero =>
    intro i M V W h0 h2 h1 H
    exact ⟨_, 0, 0, stop i M V W h0 h2 (by omega), by omega, by omega, e_hp_len _ _ _⟩
  | succ k ih =>
    intro i M V W h0 h2 h1 H
    by_cases hq : (L : Int) - 6 < i
    · exact ⟨_, 0, 0, stop i M V W h0 h2 hq, by omega, by omega, e_hp_len _ _ _⟩
    · obtain ⟨pc, e1, hs⟩ := l_turn (xs := xs) H h0 (by omega) hL
      obtain ⟨M2, V2, W2, a, b, ⟨ha, hb⟩, H2, hgo⟩ := hs V W
      obtain ⟨h, a2, b2, e2, ha2, hb2, hl⟩ := ih (i + 6) M2 V2 W2 (by omega) (by omega) (by omega) H2
      have e3 : e_lim L xs 1000 331 3141 [some (.ref e_SCR), some (.ref 0), some (.ref 184), some (.ref 202), some (.ref 203), some (.int (iI i)), none, none, none] [] (e_hp M2 V2 W2) = some (.inl (some (.int (iI 1))), h, a2, b2) := by
        rw [← e2]
        simp (disch := first | assumption | exact e_nk_i _ | exact e_nk_n | exact e_nk_r _ | exact e_bo_0 | exact e_bo_1 | exact e_bo_b _ | omega) only [r331_3141, r331_3144, iI_add]
      refine ⟨h, a + a2, b + b2, ?_, by omega, by omega, hl⟩
      rw [e1]
      exact hgo _ _ _ _ e3
theorem LI_0 : LI z_M0 := ⟨K0, 0, fun _ => K0, _, _, _, _, RK_0 _, CK_0 _, TC_0, TP_0⟩
end El10
