theorem e_ll.os {l1 l2 : e_L} (h : e_ll l1 l2) {ins : Instr} {st : List Value} {n : Nat} {k1 : e_L} {s2 : List Value} (hr : e_os ins l1 st = some (n, k1, s2)) : ∃ k2, e_os ins l2 st = some (n, k2, s2) ∧ e_ll k1 k2 := by
  have c1 : ∀ i v, e_ll (e_s1 l1 i v) (e_s1 l2 i v) := fun i v => (h.kl i).set i _
  have c2 : ∀ i v, e_ll (e_s2 l1 i v) (e_s2 l2 i v) := fun i v => ((h.kl i).set i _).set _ _
  unfold e_os at hr ⊢
  split at hr
  · split at hr
    · next q => cases hr; rw [h.1] at q; exact ⟨_, by simp only [q, if_true], c1 _ _⟩
    · cases hr
  · split at hr
    · next q => cases hr; rw [h.1] at q; exact ⟨_, by simp only [q, if_true], c1 _ _⟩
    · cases hr
  · split at hr
    · next q => cases hr; rw [h.1] at q; exact ⟨_, by simp only [q, if_true], c1 _ _⟩
    · cases hr
  · split at hr
    · next q => cases hr; rw [h.1] at q; exact ⟨_, by simp only [q, if_true], c1 _ _⟩
    · cases hr
  · split at hr
    · next q => cases hr; rw [h.1] at q; exact ⟨_, by simp only [q, if_true], c1 _ _⟩
    · cases hr
  · split at hr
    · next q => cases hr; rw [h.1] at q; exact ⟨_, by simp only [q, if_true], c1 _ _⟩
    · cases hr
  · split at hr
    · next q => cases hr; rw [h.1] at q; exact ⟨_, by simp only [q, if_true], c1 _ _⟩
    · cases hr
  · split at hr
    · next q => cases hr; rw [h.1] at q; exact ⟨_, by simp only [q, if_true], c2 _ _⟩
    · cases hr
  · split at hr
    · next q => cases hr; rw [h.1] at q; exact ⟨_, by simp only [q, if_true], c2 _ _⟩
    · cases hr
  · split at hr
    · next q => cases hr; rw [h.1] at q; exact ⟨_, by simp only [q, if_true], c2 _ _⟩
    · cases hr
  · split at hr
    · next x hx =>
      split at hr
      · next q => cases hr; rw [h.1] at q; exact ⟨_, by simp only [h.ld hx, q, if_true], c1 _ _⟩
      · cases hr
    · cases hr
  · cases hr
theorem e_op_only {L : Nat} {xs : Nat → Int32} {ins : Instr} {l : e_L} {st : List Value} {x : Nat × List Value} (h : e_op ins l st = some x) : (∀ l s, e_os ins l s = none) ∧ (∀ a b s, e_br ins a b s = none) ∧ (∀ y s h, e_hl L xs y ins s h = none) ∧ (∀ y s h, e_hs y ins s h = none) ∧ (∀ y s, e_rn y ins s = none) ∧ e_ik ins = none ∧ (∀ s, e_of ins s = none) ∧ (∀ y s, e_mk y ins s = none) ∧ ∀ y p, e_tw y p ins = none := by
  unfold e_op at h
  split at h
  all_goals first | cases h; done | exact ⟨fun _ _ => rfl, fun _ _ _ => rfl, fun _ _ _ => rfl, fun _ _ _ => rfl, fun _ _ => rfl, rfl, fun _ => rfl, fun _ _ => rfl, fun _ _ => rfl⟩
theorem e_os_only {L : Nat} {xs : Nat → Int32} {ins : Instr} {l : e_L} {st : List Value} {x : Nat × e_L × List Value} (h : e_os ins l st = some x) : (∀ l s, e_op ins l s = none) ∧ (∀ a b s, e_br ins a b s = none) ∧ (∀ y s h, e_hl L xs y ins s h = none) ∧ (∀ y s h, e_hs y ins s h = none) ∧ (∀ y s, e_rn y ins s = none) ∧ e_ik ins = none ∧ (∀ s, e_of ins s = none) ∧ (∀ y s, e_mk y ins s = none) ∧ ∀ y p, e_tw y p ins = none := by
  unfold e_os at h
  split at h
  all_goals first | cases h; done | exact ⟨fun _ _ => rfl, fun _ _ _ => rfl, fun _ _ _ => rfl, fun _ _ _ => rfl, fun _ _ => rfl, rfl, fun _ => rfl, fun _ _ => rfl, fun _ _ => rfl⟩
theorem e_ca_ll {L : Nat} {xs : Nat → Int32} {n : Nat} (ih : ∀ (d y pc : Nat) (l1 l2 : e_L) (st : List Value) (h : e_H) (r : e_R), e_ll l1 l2 → e_run L xs n d y pc l1 st h = some r → e_run L xs n d y pc l2 st h = some r) {d y pc y2 m : Nat} {l1 l2 : e_L} {st : List Value} {h : e_H} {r : e_R} (hl : e_ll l1 l2) (hr : e_ca (e_run L xs n) d y pc y2 m l1 st h = some r) : e_ca (e_run L xs n) d y pc y2 m l2 st h = some r := by
  unfold e_ca at hr ⊢
  cases d with
  | zero => cases hr
  | succ d2 =>
    simp only at hr ⊢
    split at hr
    · next hm =>
      rw [if_pos hm]
      split at hr
      · cases hr
      · next v h2 a b hf =>
        try rw [hf]
        try simp only
        split at hr
        · next hq =>
          try rw [if_pos hq]
          exact e_add_mono (fun r h => ih _ _ _ _ _ _ _ _ hl h) hr
        · next hq =>
          try rw [if_neg hq]
          split at hr
          · next hk =>
            try rw [if_pos hk]
            exact e_adk_mono (fun r h => ih _ _ _ _ _ _ _ _ (hl.lf _) h) hr
          · cases hr
      · next E h2 a b hf =>
        try rw [hf]
        try simp only
        split at hr
        · next hc => (try rw [if_pos hc]); exact hr
        · next hc =>
          try rw [if_neg hc]
          split at hr
          · next hpc hh =>
            split at hr
            · next i k hi =>
              split at hr
              · next hq =>
                rw [if_pos (by rw [← hl.1]; exact hq)]
                exact e_add_mono (fun r h => ih _ _ _ _ _ _ _ _ ((hl.kl i).set i none) h) hr
              · cases hr
            · cases hr
          · cases hr
    · cases hr
set_option maxHeartbeats 4000000 in
theorem e_run_ll {L : Nat} {xs : Nat → Int32} : ∀ (n d y pc : Nat) (l1 l2 : e_L) (st : List Value) (h : e_H) (r : e_R), e_ll l1 l2 → e_run L xs n d y pc l1 st h = some r → e_run L xs n d y pc l2 st h = some r
  | 0, _, _, _, _, _, _, _, _, _, hr => by cases hr
  | n + 1, d, y, pc, l1, l2, st, h, r, hl, hr => by
    have ih := e_run_ll (L := L) (xs := xs) n
    have hr2 : e_bd L xs (e_run L xs n) d y pc l1 st h = some r := hr
    show e_bd L xs (e_run L xs n) d y pc l2 st h = some r
    unfold e_bd at hr2 ⊢
    split at hr2
    · cases hr2
    · next ins len hd =>
      try rw [hd]
      try simp only
      split at hr2
      · next n1 st2 h1 =>
        rw [hl.op h1]
        simp only
        split at hr2
        · next hn => (try rw [if_pos hn]); exact ih _ _ _ _ _ _ _ _ hl hr2
        · cases hr2
      · next h1 =>
        have h1b : e_op ins l2 st = none := by
          cases hx : e_op ins l2 st with
          | none => rfl
          | some x =>
            obtain ⟨a1, a2, a3, a4, a5, a6, a7, a8, a9⟩ := e_op_only (L := L) (xs := xs) hx
            simp only [a1, a2, a3, a4, a5, a6, a7, a8, a9] at hr2
            cases hr2
        rw [h1b]
        simp only
        split at hr2
        · next n1 k1 st2 h2 =>
          obtain ⟨k2, g1, g2⟩ := hl.os h2
          rw [g1]
          simp only
          split at hr2
          · next hn => (try rw [if_pos hn]); exact ih _ _ _ _ _ _ _ _ g2 hr2
          · cases hr2
        · next h2 =>
          have h2b : e_os ins l2 st = none := by
            cases hx : e_os ins l2 st with
            | none => rfl
            | some x =>
              obtain ⟨a1, a2, a3, a4, a5, a6, a7, a8, a9⟩ := e_os_only (L := L) (xs := xs) hx
              simp only [a1, a2, a3, a4, a5, a6, a7, a8, a9] at hr2
              cases hr2
          rw [h2b]
          simp only
          split at hr2
          · next t st2 h3 => exact ih _ _ _ _ _ _ _ _ hl hr2
          · next h3 =>
            try simp only
            split at hr2
            · next n1 st2 h4 =>
              split at hr2
              · next hn => (try rw [if_pos hn]); exact ih _ _ _ _ _ _ _ _ hl hr2
              · cases hr2
            · next h4 =>
              split at hr2
              · next n1 st2 hh2 h5 =>
                split at hr2
                · next hn => (try rw [if_pos hn]); exact ih _ _ _ _ _ _ _ _ hl hr2
                · cases hr2
              · next h5 =>
                split at hr2
                · next v h6 => exact hr2
                · next h6 =>
                  split at hr2
                  · next kd idx h7 =>
                    split at hr2
                    · next hn =>
                      try rw [if_pos hn]
                      split at hr2
                      · next y2 nest h8 =>
                        split at hr2
                        · next hk =>
                          try rw [if_pos hk]
                          split at hr2
                          · next h0 => (try rw [if_pos h0]); exact e_ca_ll ih hl hr2
                          · next h0 =>
                            try rw [if_neg h0]
                            split at hr2
                            · next a ha =>
                              split at hr2
                              · next c2 fs hc =>
                                split at hr2
                                · next hq => (try rw [if_pos hq]); exact e_ca_ll ih hl hr2
                                · cases hr2
                              · cases hr2
                            · cases hr2
                        · cases hr2
                      · next h8 =>
                        split at hr2
                        · next b hb =>
                          split at hr2
                          · next d2 st2 h2c hbl => exact ih _ _ _ _ _ _ _ _ hl hr2
                          · cases hr2
                        · cases hr2
                    · cases hr2
                  · next h7 =>
                    split at hr2
                    · next n1 st2 h8 =>
                      split at hr2
                      · next hn => (try rw [if_pos hn]); exact ih _ _ _ _ _ _ _ _ hl hr2
                      · cases hr2
                    · next h8 =>
                      split at hr2
                      · next n1 st2 x k h9 =>
                        split at hr2
                        · next hn => (try rw [if_pos hn]); exact e_adk_mono (fun r h => ih _ _ _ _ _ _ _ _ (hl.lf _) h) hr2
                        · cases hr2
                      · next h9 => exact hr2
theorem e_lim_ll {L : Nat} {xs : Nat → Int32} {d y pc : Nat} {l1 l2 : e_L} {st : List Value} {h : e_H} {r : e_R} (hl : e_ll l1 l2) (hr : e_lim L xs d y pc l1 st h = some r) : e_lim L xs d y pc l2 st h = some r := by
  obtain ⟨n, hn⟩ := e_lim_iff.mp hr
  exact e_lim_iff.mpr ⟨n, e_run_ll n _ _ _ _ _ _ _ _ hl hn⟩
