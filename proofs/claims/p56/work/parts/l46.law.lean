section El46
theorem DD_0 : DD z_M0 K0 0 (fun _ => K0) := ⟨⟨CK_0 _, kG_0, fun j a b => by omega⟩, ⟨⟨by decide, by decide⟩, fun i a b => K0_w a b⟩, K0_311, z_obj (a := 184) (k := 18) rfl rfl⟩
/-- what is owed of the abstract machine -/
theorem e_eval : e_Goal := by
  intro L xs hL
  obtain ⟨nI, hI⟩ := e_begin (L := L) (xs := xs)
  obtain ⟨M2, V2, e⟩ := l_law (L := L) (xs := xs) (V := z_V0) (W := z_W0) hL DD_0 K0_310 (z_obj (a := 184) (k := 17) rfl rfl) (fun o _ _ => z_zero (a := 190) rfl _) (fun i x y => by rw [K0_n (by omega) (by omega)]; exact z_zero (a := 194) rfl _) TC_0 rfl
  rw [show iI 1 = (1 : Int32) from by decide] at e
  obtain ⟨n, hn⟩ := e_lim_iff.mp e
  exact ⟨nI, _, _, 205, 9244, z_s, n, _, 0, 0, hI, z_perm, by decide, by decide, hn, by omega, by omega⟩
end El46
