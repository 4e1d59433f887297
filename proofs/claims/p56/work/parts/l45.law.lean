section El45
variable {M M2 M3 : e_MI}
/-! the beginning -/
def K0 : e_St := fun z => if z = 309 then 1 else if z = 238 ∨ z = 239 ∨ z = 240 then 4 else 0
theorem K0_310 : K0 310 = 0 := by decide
theorem K0_311 : K0 311 = 0 := by decide
theorem K0_n {z : Int} (h : z < 238 ∨ 240 < z) (h2 : z ≠ 309) : K0 z = 0 := by
  unfold K0
  rw [if_neg h2, if_neg (by omega)]
theorem K0_w {i : Int} (h0 : 0 ≤ i) (h1 : i < 3) : K0 (238 + i) = 4 := by
  unfold K0
  rw [if_neg (by omega), if_pos (by omega)]
theorem aW_0 : aW K0 = 0 := by
  unfold aW
  rw [K0_310]
  rfl
theorem K0_rg (z : Int) : 0 ≤ K0 z ∧ K0 z ≤ 4 := by
  unfold K0
  split
  · omega
  · split <;> omega
theorem kG_0 : kG K0 := by
  have k1 := K0_310
  have k2 := K0_311
  have ka := aW_0
  have kn : ∀ {z : Int}, z < 238 ∨ 240 < z → z ≠ 309 → K0 z = 0 := fun a b => K0_n a b
  refine ⟨⟨by omega, by omega, fun i _ _ => ⟨by have := K0_rg i; omega, by have := K0_rg i; omega⟩, fun o a b => ?_, fun o a b => ?_, fun o a b => ?_, fun o a b => ?_, fun o a b => ?_, fun o a b => ?_, fun o a b => ?_, fun o a b => ?_, fun o a b => ?_, fun o a b => ?_, fun o a b => ?_, fun o a b => ?_, ?_, ?_⟩, ⟨by omega, fun p a b => by omega, fun o a b => by omega⟩, ⟨fun o a b => by omega, fun o w a b => by omega⟩, ⟨fun s a b => ?_, fun s a b c => ?_, fun i a b => ?_⟩, fun k a b => by omega, fun m f a b c e => ?_⟩
  · rw [kn (by omega) (by omega)]; omega
  · rw [kn (by omega) (by omega)]; omega
  · rw [kn (by omega) (by omega)]; omega
  · rw [kn (by omega) (by omega)]; omega
  · rw [kn (by omega) (by omega)]; omega
  · rw [kn (by omega) (by omega)]; omega
  · rw [kn (by omega) (by omega)]; omega
  · rw [kn (by omega) (by omega)]; omega
  · rw [kn (by omega) (by omega)]; omega
  · rw [kn (by omega) (by omega)]; omega
  · rw [K0_w a b]; omega
  · rw [kn (by omega) (by omega)]; omega
  · rw [kn (by omega) (by omega)]; omega
  · have := K0_rg 309
    omega
  · exact Or.inl (kn (by omega) (by omega))
  · rw [kn (by omega) (by omega)] at c
    omega
  · rw [kn (by omega) (by omega)]; omega
  · exact kn (by omega) (by omega)
theorem z_zero {a n : Nat} (ha : zX[a]? = some (.inl (0, n, []))) (j : Nat) : z_M0 a j = iI 0 := by
  unfold z_M0
  rw [z_Ma ha]
  rfl
theorem z_obj {a c k : Nat} {fs : List Value} {x : Int32} (ha : zX[a]? = some (.inr (.inr (c, fs)))) (hk : fs[k]? = some (.int x)) : z_M0 a k = x := z_Mo ha hk
theorem z_ar0 {a n : Nat} {m : Int} (ha : zX[a]? = some (.inl (0, n, []))) : e_ar (z_M0 a) m (fun _ => 0) := fun z _ _ => z_zero ha _
theorem z_down {a : Nat} {s : List (Nat × Int32)} {t n : Nat} (ha : zX[a]? = some (.inl (t, n, s))) : z_M0 a = z_f s := z_Ma ha
theorem SH_0 : SH z_M0 1 K0 := by
  have k1 := K0_310
  have k2 := K0_311
  have ka := aW_0
  refine ⟨⟨?_, ?_, ?_⟩, fun o j a b => by omega, fun o w j a b => by omega, fun i a b => ?_, fun k j a b => by omega, fun i a b => ?_, fun i a b => ?_, fun p a b => by omega, fun i a b => ?_, fun q p a b c => ?_⟩
  · rw [k1]; exact z_obj (a := 1) (k := 0) rfl rfl
  · rw [ka]; exact z_obj (a := 1) (k := 1) rfl rfl
  · rw [k2]; exact z_obj (a := 1) (k := 2) rfl rfl
  · rw [K0_n (by omega) (by omega)]; exact z_zero (a := 4) rfl _
  · rw [K0_w a b, z_down (a := 6) rfl]
    rcases (show i = 0 ∨ i = 1 ∨ i = 2 by omega) with rfl | rfl | rfl <;> decide
  · rw [z_down (a := 7) rfl]
    rcases (show i = 0 ∨ i = 1 by omega) with rfl | rfl <;> decide
  · rw [K0_n (by omega) (by omega)]; exact z_zero (a := 9) rfl _
  · rw [K0_n (by omega) (by omega)] at c
    omega
theorem laF_0 (f : Int → Int) (v : Int) : laF f 0 v = -1 := rfl
theorem TG_0 {t : Nat} {sc : Bool} (h : t = 133 ∨ t = 149) (h0 : sc = false) : TG z_M0 t sc 0 (fun _ => 0) (fun _ => 0) (fun _ => 0) (fun _ => 0) (fun _ => 0) (fun _ => 0) := by
  subst h0
  have q : ∀ {a n : Nat} {s : List (Nat × Int32)} {m : Int} (_ : zX[a]? = some (.inl (0, n, s))) (_ : m ≤ n) (_ : ∀ j : Nat, j < n → z_f s j = iI (-1)) (f : Int → Int), e_ar (z_M0 a) m (laF f 0) := fun {a n s m} ha hm hs f z x y => by
    rw [z_down ha, hs _ (by omega)]
    rfl
  rcases h with rfl | rfl
  · refine ⟨⟨z_obj (a := 133) (k := 1) rfl rfl, z_obj (a := 133) (k := 2) rfl rfl, by omega, by omega⟩, ⟨fun z a b => by omega, fun z a b => by omega, fun z a b => by omega, fun z a b => by omega, fun z a b => by omega, fun z a b => by omega⟩, ⟨fun z a b => by omega, fun z a b => by omega, fun z a b => by omega, fun z a b => by omega⟩, ⟨q (a := 144) (n := 8) rfl (by omega) (by decide) _, q (a := 145) (n := 4) rfl (by omega) (by decide) _, q (a := 146) (n := 3) rfl (by omega) (by decide) _, fun z _ _ => z_zero (a := 147) rfl _⟩, fun z _ _ => z_zero (a := 148) rfl _, fun p a b => by omega⟩
  · refine ⟨⟨z_obj (a := 149) (k := 1) rfl rfl, z_obj (a := 149) (k := 2) rfl rfl, by omega, by omega⟩, ⟨fun z a b => by omega, fun z a b => by omega, fun z a b => by omega, fun z a b => by omega, fun z a b => by omega, fun z a b => by omega⟩, ⟨fun z a b => by omega, fun z a b => by omega, fun z a b => by omega, fun z a b => by omega⟩, ⟨q (a := 160) (n := 8) rfl (by omega) (by decide) _, q (a := 161) (n := 4) rfl (by omega) (by decide) _, q (a := 162) (n := 3) rfl (by omega) (by decide) _, fun z _ _ => z_zero (a := 163) rfl _⟩, fun z _ _ => z_zero (a := 164) rfl _, fun p a b => by omega⟩
theorem scK_0 : scK K0 = false := by decide
theorem PR_0 : PR z_M0 K0 := by
  unfold PR fwE
  rw [aW_0]
  refine ⟨z_obj (a := 133) (k := 0) rfl rfl, 0, Int.le_refl _, Int.le_refl _, ⟨_, _, _, _, _, _, TG_0 (Or.inl rfl) scK_0, fun p a b => by omega⟩, fun _ => rfl⟩
theorem CK_0 (S : Int → e_St) : CK z_M0 K0 0 S := ⟨SH_0, ⟨0, by omega, by omega, z_obj (a := 11) (k := 1) rfl rfl, z_obj (a := 11) (k := 2) rfl rfl, fun j a b => by omega⟩, PR_0, ⟨_, _, _, _, _, _, _, _, TG_0 (Or.inr rfl) rfl⟩⟩
theorem TC_0 : TC z_M0 (0, fun _ => 0) (-1) 0 (fun _ => 0) := ⟨z_obj (a := 179) (k := 0) rfl rfl, by decide, ⟨by decide, fun j a b => absurd b (by show ¬ j < 0; omega)⟩, fun z a b => absurd b (by show ¬ z < 0; omega), ⟨z_obj (a := 179) (k := 1) rfl rfl, by omega, by omega⟩, ⟨z_obj (a := 182) (k := 0) rfl rfl, by omega, by omega⟩, fun z a b => by omega, fun j a b => by omega⟩
end El45
