section E11
variable {p : Program} {l : Launch} {e : Env} {R : Room} {s : State} {m : MethodId} {args : Array Value} {below : List Frame} {meth : Method} {c : Code} {H : Heap} {locs : List Loc} {cells slots : Nat} {Q : State → Prop}
variable {y pc : Nat} {ls : Array Slot} {lo : e_L} {ad : Nat → Nat} {st st2 : List Value} {n : Nat} {ins : Instr} {L : Nat} {xs : Nat → Int32} {B0 bS : Nat} {D : va_G} {dA : Nat → ClassId} {h h2 : e_H}
set_option maxHeartbeats 4000000 in
theorem e_bl_ok {b kd idx : Nat} (F : e_F p l s m args meth c y) (G : e_G L xs B0 bS D dA s) (hl : e_lr ls ad lo) (hll : lo.length = e_ml y) (hP : va_P D vwCl (e_w dA ad h) H) (hD : va_D (e_A B0) (e_w dA ad h)) (hS : va_S (e_A B0) s.heap H locs)
    (hik : e_ik ins = some (kd, idx)) (hbt : e_ir e_blt (e_cy y) idx = some b) (hh : e_bl b ins st h = some (st2, h2)) (hd : decode (e_bc y) pc = .ok (ins, 3))
    (hf : 1 ≤ R.frames) (hlo : 200 ≤ R.locals) (hc : cells ≤ R.cells) (hs : slots ≤ R.slots)
    (k : ∀ H1 locs1, va_P D vwCl (e_w dA ad h2) H1 → va_D (e_A B0) (e_w dA ad h2) → va_S (e_A B0) s.heap H1 locs1 → h2.length = h.length → W p l e R s m args below meth c H1 locs1 cells slots Q (F0 m (pc + 3) ls (st2.map (e_mv ad)))) : W p l e R s m args below meth c H locs cells slots Q (F0 m pc ls (st.map (e_mv ad))) := by
  obtain ⟨hx, hb, hr, hml, hown, hws, hlk, hin, hstt, htb, hcn⟩ := F
  obtain ⟨hB, hK, hX, hU, hN, hng, hao, hnc⟩ := G
  have hsz : c.maxLocals = ls.size := by rw [hml, hl.1, hll]
  obtain ⟨-, -, hlink⟩ := e_blt_ok _ (e_ir_mem hbt)
  obtain ⟨w1, w2, w3, w4, w5, w6, w7⟩ := e_wo0
  obtain ⟨u1, u2, u3, u4, u5⟩ := e_wo1
  have hcat : ∀ {t : List Value}, (t.map fun v => v.category).sum ≤ 40 → ((t.map (e_mv ad)).map fun v => v.category).sum ≤ 40 := fun hq => by rw [e_mv_sum]; exact hq
  unfold e_bl at hh
  split at hh
  · cases hik
    split at hh
    · next hq =>
      split at hh
      · next hb0 =>
        subst hb0
        cases hh
        refine va_mmax hx hb hsz hown (hws _ hlink rfl) (hws _ w1 rfl) (hws _ w7 rfl) (hws _ w2 rfl) hf (by have := hcat hq; omega) hc hs hd ?_
        have := k H locs hP hD hS rfl
        exact this
      · split at hh
        · next hb0 =>
          subst hb0
          cases hh
          refine va_mmin hx hb hsz hown (hws _ hlink rfl) (hws _ w3 rfl) (hws _ w7 rfl) (hws _ w4 rfl) hf (by have := hcat hq; omega) hc hs hd ?_
          exact k H locs hP hD hS rfl
        · split at hh
          · next hb0 =>
            subst hb0
            cases hh
            refine va_mabs hx hb hsz hown (hws _ hlink rfl) (hws _ w5 rfl) (hws _ w7 rfl) (hws _ w6 rfl) hf (by have := hcat hq; exact Nat.le_trans (Nat.add_le_add_right (Nat.add_le_add (Nat.le_refl 1) this) 13) (by omega)) hc hs hd ?_
            exact k H locs hP hD hS rfl
          · split at hh
            · next hb0 =>
              subst hb0
              split at hh
              · split at hh
                · next n0 f n1 g ha0 ha1 =>
                  split at hh
                  · cases hh
                  · next hr =>
                    cases hh
                    have hw2 := e_wo2
                    refine va_copyi hx hb hsz hown (hws _ hlink rfl) (hws _ u1 rfl) (hws _ u2 rfl) (hws _ u3 rfl) hK hP hD hS _ _ 0 0 (e_w_at ha0) (e_w_at ha1) rfl rfl rfl (fun z => hr (Or.inl z)) (fun z => hr (Or.inr (Or.inl z))) (fun z => hr (Or.inr (Or.inr (Or.inl z)))) (Nat.le_of_not_lt fun z => hr (Or.inr (Or.inr (Or.inr (Or.inl z))))) (Nat.le_of_not_lt fun z => hr (Or.inr (Or.inr (Or.inr (Or.inr z))))) (fun i _ => rfl) hf (by
                      have := hcat hq
                      simp only [List.map_cons, List.sum_cons] at this
                      omega) hd fun H1 locs1 p1 p2 p3 => k H1 locs1 ?_ ?_ p3 (by simp)
                    · rw [e_w_set]; exact p1
                    · rw [e_w_set]; exact p2
                · cases hh
              · cases hh
            · cases hh
    · cases hh
  · cases hik
    split at hh
    · next hq =>
      obtain ⟨hb0, hq⟩ := hq
      subst hb0
      cases hh
      refine va_mabs hx hb hsz hown (hws _ hlink rfl) (hws _ w5 rfl) (hws _ w7 rfl) (hws _ w6 rfl) hf (by have := hcat hq; omega) hc hs hd ?_
      exact k H locs hP hD hS rfl
    · cases hh
  · cases hik
    split at hh
    · next hq =>
      obtain ⟨hb0, hq⟩ := hq
      subst hb0
      cases hh
      refine W.objInit hx hb hown (hws _ hlink rfl) (hws _ u4 rfl) (hws _ u5 rfl) rfl hsz.symm rfl hd hf (by
        have := hcat hq
        show 2 * 0 + _ + 12 ≤ R.locals
        omega) ?_
      exact k H locs hP hD hS rfl
    · cases hh
  · cases hh
/-- a return, out of a body that answers v -/
theorem e_rn_ok {v : Option Value} {Qc : Array Value → State → Outcome → State → Prop} {free : Addr → Prop} (F : e_F p l s m args meth c y) (hh : e_rn y ins st = some v) (hd : decode (e_bc y) pc = .ok (ins, 1))
    (hq : ∀ t : State, t.heap = H → s.WarmedH t.vm → Qc args s (.returned (v.map (e_mv ad))) t) (hf : ∀ q ∈ locs, free q.base) : W p l e R s m args below meth c H locs cells slots (MQ below Qc args s cells slots free) (F0 m pc ls (st.map (e_mv ad))) := by
  obtain ⟨hx, hb, hr, hml, hown, hws, hlk, hin, hstt, htb, hcn⟩ := F
  unfold e_rn at hh
  split at hh
  · split at hh
    · next h0 => cases hh; exact W.vret hx hb (hr.trans h0) hq hf hd hlk
    · cases hh
  · split at hh
    · next ty h0 =>
      split at hh
      · next hn => cases hh; exact W.zret hx hb (hr.trans h0) hn hq hf hd hlk
      · cases hh
    · cases hh
  · split at hh
    · next h0 => cases hh; exact W.lret hx hb (hr.trans h0) hq hf hd hlk
    · cases hh
  · split at hh
    · next h0 => cases hh; exact W.fret hx hb (hr.trans h0) hq hf hd hlk
    · cases hh
  · split at hh
    · next h0 => cases hh; exact W.dret hx hb (hr.trans h0) hq hf hd hlk
    · cases hh
  · split at hh
    · next h0 => cases hh; exact W.aret hx hb (hr.trans h0) (Or.inl ⟨_, rfl⟩) (Or.inr ⟨_, rfl⟩) hq hf hd hlk
    · cases hh
  · split at hh
    · next h0 => cases hh; exact W.aret hx hb (hr.trans h0) (Or.inl ⟨_, rfl⟩) (Or.inl rfl) hq hf hd hlk
    · cases hh
  · cases hh
end E11
