section El43
variable {L : Nat} {xs : Nat → Int32} {d y pc : Nat} {l : e_L} {st : List Value} {h h2 : List z_C} {o : Option e_R} {r : z_R}
theorem Z_mk {hh : e_H} {ins : Instr} {n k : Nat} {q : va_E} {st2 : List Value} (hd : decode (e_bc y) pc = .ok (ins, n)) (h0 : (e_np0 ins ∧ (∀ a b s, e_br ins a b s = none) ∧ (∀ y s h, e_hl L xs y ins s h = none) ∧ ∀ y s h, e_hs y ins s h = none) ∧ (∀ y s, e_rn y ins s = none) ∧ e_ik ins = none ∧ ∀ s, e_of ins s = none) (h1 : e_mk y ins st = some (n, st2, q, k)) (c1 : hh.length < e_SCR) (c2 : st2.all (e_vk hh.length) = true) (c3 : hh.all (e_ck hh.length) = true) : e_lim L xs d y pc l st hh = e_adk hh.length 1 k (e_lim L xs d y (pc + n) (e_lf hh.length l) (.ref hh.length :: st2) (hh ++ [q])) := by
  rw [e_lim_eq]
  unfold e_bd
  rw [hd]
  obtain ⟨⟨a1, a2, a3, a4⟩, a5, a6, a7⟩ := h0
  simp only [a1.1, a1.2, a2, a3, a4, a5, a6, a7, h1]
  rw [if_pos ⟨trivial, c1, c2, c3⟩]
theorem z_call_ok2 {rec : z_Rec} (H : z_sd L xs rec) {idx : Nat} (hd : decode (e_bc y) pc = .ok (.invokespecial idx, 3)) (h1 : z_call rec d y pc 2 idx (.invokespecial idx) l st h = some r) : z_ok L xs d (e_lim L xs d y pc l st (h.map z_l)) h r := by
  have a1 : e_op (.invokespecial idx) l st = none := rfl
  have a2 : e_os (.invokespecial idx) l st = none := rfl
  have a3 : e_br (.invokespecial idx) 3 pc st = none := rfl
  have a4 : e_hl L xs y (.invokespecial idx) st (h.map z_l) = none := rfl
  have a5 : e_hs y (.invokespecial idx) st (h.map z_l) = none := rfl
  have a6 : e_rn y (.invokespecial idx) st = none := rfl
  have a7 : e_ik (.invokespecial idx) = some (2, idx) := rfl
  rw [e_lim_eq]
  unfold e_bd
  rw [hd]
  simp only [a1, a2, a3, a4, a5, a6, a7, if_true]
  unfold z_call at h1
  split at h1
  · next y2 nest ht =>
    simp only [ht]
    split at h1
    · next hk =>
      rw [if_pos hk]
      rw [if_neg (by decide)] at h1 ⊢
      split at h1
      · next a ha =>
        simp only [ha]
        split at h1
        · next c2 fs hc =>
          have e1 : (h.map z_l)[a]? = some (.inr (c2, fs)) := z_at hc
          simp only [e1]
          split at h1
          · next hq =>
            rw [if_pos hq]
            exact z_ca_ok H h1
          · cases h1
        · cases h1
      · cases h1
    · cases h1
  · next ht =>
    simp only [ht]
    split at h1
    · next b hb =>
      simp only [hb]
      split at h1
      · next d2 i2 a st2 hii =>
        cases hii
        split at h1
        · next hc =>
          have e1 : e_bl b (.invokespecial idx) (.ref a :: st2) (h.map z_l) = some (st2, h.map z_l) := by
            show (if b = 1004 ∧ (st2.map fun v => v.category).sum ≤ 40 then some (st2, h.map z_l) else none) = _
            rw [if_pos hc]
          simp only [e1]
          exact H _ _ _ _ _ _ _ h1
        · cases h1
      · cases h1
    · cases h1
theorem z_call_ok0 {rec : z_Rec} (H : z_sd L xs rec) {idx : Nat} (hd : decode (e_bc y) pc = .ok (.invokestatic idx, 3)) (h1 : z_call rec d y pc 0 idx (.invokestatic idx) l st h = some r) : z_ok L xs d (e_lim L xs d y pc l st (h.map z_l)) h r := by
  have a1 : e_op (.invokestatic idx) l st = none := rfl
  have a2 : e_os (.invokestatic idx) l st = none := rfl
  have a3 : e_br (.invokestatic idx) 3 pc st = none := rfl
  have a4 : e_hl L xs y (.invokestatic idx) st (h.map z_l) = none := rfl
  have a5 : e_hs y (.invokestatic idx) st (h.map z_l) = none := rfl
  have a6 : e_rn y (.invokestatic idx) st = none := rfl
  have a7 : e_ik (.invokestatic idx) = some (0, idx) := rfl
  rw [e_lim_eq]
  unfold e_bd
  rw [hd]
  simp only [a1, a2, a3, a4, a5, a6, a7, if_true]
  unfold z_call at h1
  split at h1
  · next y2 nest ht =>
    simp only [ht]
    split at h1
    · next hk =>
      rw [if_pos hk]
      exact z_ca_ok H h1
    · cases h1
  · next ht =>
    simp only [ht]
    split at h1
    · next b hb =>
      simp only [hb]
      split at h1
      · next hii => cases hii
      · cases h1
    · cases h1
theorem z_bd_ok {rec : z_Rec} (H : z_sd L xs rec) : z_sd L xs (z_bd rec) := by
  intro d y pc l st h r h1
  unfold z_bd at h1
  split at h1
  · next hs =>
    obtain ⟨rfl, rfl, rfl⟩ := hs
    cases h1
    exact ⟨Nat.le_refl _, fun x h3 a2 b2 e _ => by rw [e, Nat.zero_add, Nat.zero_add]⟩
  · split at h1
    · cases h1
    · next ins len hd =>
      split at h1
      · next off =>
        split at h1
        · next t st2 hb =>
          rw [R_br hd ⟨fun _ _ => rfl, fun _ _ => rfl⟩ hb]
          exact H _ _ _ _ _ _ _ h1
        · cases h1
      · next c off =>
        split at h1
        · next t st2 hb =>
          rw [R_br hd ⟨fun _ _ => rfl, fun _ _ => rfl⟩ hb]
          exact H _ _ _ _ _ _ _ h1
        · cases h1
      · next idx =>
        split at h1
        · next n st2 hb =>
          split at h1
          · next hn =>
            subst hn
            rw [R_hl hd ⟨⟨fun _ _ => rfl, fun _ _ => rfl⟩, fun _ _ _ => rfl⟩ (z_hl_ok hb)]
            exact H _ _ _ _ _ _ _ h1
          · cases h1
        · cases h1
      · split at h1
        · next n st2 hb =>
          split at h1
          · next hn =>
            subst hn
            rw [R_hl hd ⟨⟨fun _ _ => rfl, fun _ _ => rfl⟩, fun _ _ _ => rfl⟩ (z_hl_ok hb)]
            exact H _ _ _ _ _ _ _ h1
          · cases h1
        · cases h1
      · next idx =>
        split at h1
        · next n st2 h2 hb =>
          split at h1
          · next hn =>
            subst hn
            obtain ⟨e1, e2⟩ := z_hs_ok hb
            rw [R_hs hd ⟨⟨fun _ _ => rfl, fun _ _ => rfl⟩, fun _ _ _ => rfl, fun _ _ _ => rfl⟩ e1]
            exact (H _ _ _ _ _ _ _ h1).len (by omega)
          · cases h1
        · cases h1
      · split at h1
        · next n st2 h2 hb =>
          split at h1
          · next hn =>
            subst hn
            obtain ⟨e1, e2⟩ := z_hs_ok hb
            rw [R_hs hd ⟨⟨fun _ _ => rfl, fun _ _ => rfl⟩, fun _ _ _ => rfl, fun _ _ _ => rfl⟩ e1]
            exact (H _ _ _ _ _ _ _ h1).len (by omega)
          · cases h1
        · cases h1
      · split at h1
        · next n st2 h2 hb =>
          split at h1
          · next hn =>
            subst hn
            obtain ⟨e1, e2⟩ := z_hs_ok hb
            rw [R_hs hd ⟨⟨fun _ _ => rfl, fun _ _ => rfl⟩, fun _ _ _ => rfl, fun _ _ _ => rfl⟩ e1]
            exact (H _ _ _ _ _ _ _ h1).len (by omega)
          · cases h1
        · cases h1
      · split at h1
        · next v hv =>
          split at h1
          · next hl =>
            subst hl
            cases h1
            exact ⟨Nat.le_refl _, R_rn hd ⟨⟨fun _ _ => rfl, fun _ _ => rfl⟩, fun _ _ _ => rfl, fun _ _ _ => rfl, fun _ _ _ => rfl⟩ hv⟩
          · cases h1
        · cases h1
      · next idx =>
        split at h1
        · next hl =>
          subst hl
          exact z_call_ok2 H hd h1
        · cases h1
      · next idx =>
        split at h1
        · next hl =>
          subst hl
          exact z_call_ok0 H hd h1
        · cases h1
      · next idx =>
        split at h1
        · next n st2 q k hm =>
          split at h1
          · next hc =>
            obtain ⟨rfl, c2, c3, c4⟩ := hc
            have e1 := z_mk_ok hm
            rw [Z_mk hd ⟨⟨⟨fun _ _ => rfl, fun _ _ => rfl⟩, fun _ _ _ => rfl, fun _ _ _ => rfl, fun _ _ _ => rfl⟩, fun _ _ => rfl, rfl, fun _ => rfl⟩ e1 (by rw [List.length_map]; exact c2) (by rw [List.length_map]; exact c3) (by rw [List.length_map]; exact c4)]
            obtain ⟨r1, e2⟩ := z_add_in h1
            rw [e2] at h1
            have e3 := H _ _ _ _ _ _ _ e2
            rw [List.map_append, List.map_cons, List.map_nil] at e3
            rw [List.length_map]
            exact (e3.adk (by simp) _ h1).len (by simp)
          · cases h1
        · cases h1
      · next ty =>
        split at h1
        · next n st2 q k hm =>
          split at h1
          · next hc =>
            obtain ⟨rfl, c2, c3, c4⟩ := hc
            have e1 := z_mk_ok hm
            rw [Z_mk hd ⟨⟨⟨fun _ _ => rfl, fun _ _ => rfl⟩, fun _ _ _ => rfl, fun _ _ _ => rfl, fun _ _ _ => rfl⟩, fun _ _ => rfl, rfl, fun _ => rfl⟩ e1 (by rw [List.length_map]; exact c2) (by rw [List.length_map]; exact c3) (by rw [List.length_map]; exact c4)]
            obtain ⟨r1, e2⟩ := z_add_in h1
            rw [e2] at h1
            have e3 := H _ _ _ _ _ _ _ e2
            rw [List.map_append, List.map_cons, List.map_nil] at e3
            rw [List.length_map]
            exact (e3.adk (by simp) _ h1).len (by simp)
          · cases h1
        · cases h1
      · next idx =>
        split at h1
        · next n st2 q k hm =>
          split at h1
          · next hc =>
            obtain ⟨rfl, c2, c3, c4⟩ := hc
            have e1 := z_mk_ok hm
            rw [Z_mk hd ⟨⟨⟨fun _ _ => rfl, fun _ _ => rfl⟩, fun _ _ _ => rfl, fun _ _ _ => rfl, fun _ _ _ => rfl⟩, fun _ _ => rfl, rfl, fun _ => rfl⟩ e1 (by rw [List.length_map]; exact c2) (by rw [List.length_map]; exact c3) (by rw [List.length_map]; exact c4)]
            obtain ⟨r1, e2⟩ := z_add_in h1
            rw [e2] at h1
            have e3 := H _ _ _ _ _ _ _ e2
            rw [List.map_append, List.map_cons, List.map_nil] at e3
            rw [List.length_map]
            exact (e3.adk (by simp) _ h1).len (by simp)
          · cases h1
        · cases h1
      · split at h1
        · next n st2 hb =>
          split at h1
          · next hn =>
            subst hn
            rw [R_op hd hb]
            exact H _ _ _ _ _ _ _ h1
          · cases h1
        · split at h1
          · next n l2 st2 hb =>
            split at h1
            · next hn =>
              subst hn
              rw [R_os hd hb]
              exact H _ _ _ _ _ _ _ h1
            · cases h1
          · cases h1
theorem z_run_ok : ∀ n : Nat, z_sd L xs (z_run n)
  | 0 => fun d y pc l st h r hr => by cases hr
  | n + 1 => z_bd_ok (z_run_ok n)
end El43
