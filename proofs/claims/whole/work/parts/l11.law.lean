theorem e_eval : e_Goal := by
  intro L xs hL
  obtain ⟨h, a, b, e, ha, hb, hl⟩ := l_loop (xs := xs) hL 512 0 z_M0 z_V0 z_W0 (by omega) (by omega) (by omega) LI_0
  rw [show iI 1 = (1 : Int32) from by decide, show iI 0 = (0 : Int32) from by decide] at e
  have e2 := e_begin (L := L) (xs := xs) e (by omega)
  obtain ⟨n, hn⟩ := e_lim_iff.mp e2
  exact ⟨n, h, _, _, hn, by omega, by omega⟩
