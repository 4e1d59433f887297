/-! runs without a count of steps -/
def e_le (f g : e_Rec) : Prop := ∀ d y pc l st h r, f d y pc l st h = some r → g d y pc l st h = some r
theorem e_add_mono {a b : Nat} {o o2 : Option e_R} {r : e_R} (h : ∀ r, o = some r → o2 = some r) (hr : e_add a b o = some r) : e_add a b o2 = some r := by
  cases o with
  | none => cases hr
  | some x => rw [h x rfl]; exact hr
theorem e_adk_mono {k a b : Nat} {o o2 : Option e_R} {r : e_R} (h : ∀ r, o = some r → o2 = some r) (hr : e_adk k a b o = some r) : e_adk k a b o2 = some r := by
  cases o with
  | none => cases hr
  | some x => rw [h x rfl]; exact hr
theorem e_ca_mono {f g : e_Rec} (H : e_le f g) {d y pc y2 m : Nat} {l : e_L} {st : List Value} {h : e_H} {r : e_R} (hr : e_ca f d y pc y2 m l st h = some r) : e_ca g d y pc y2 m l st h = some r := by
  unfold e_ca at hr ⊢
  cases d with
  | zero => cases hr
  | succ d2 =>
    simp only at hr ⊢
    split at hr
    · next hm =>
      try rw [if_pos hm]
      split at hr
      · cases hr
      · next v h2 a b hf =>
        rw [H _ _ _ _ _ _ _ hf]
        try simp only
        split at hr
        · next hl => (try rw [if_pos hl]); exact e_add_mono (fun r h => H _ _ _ _ _ _ _ h) hr
        · next hl =>
          try rw [if_neg hl]
          split at hr
          · next hk => (try rw [if_pos hk]); exact e_adk_mono (fun r h => H _ _ _ _ _ _ _ h) hr
          · cases hr
      · next E h2 a b hf =>
        rw [H _ _ _ _ _ _ _ hf]
        try simp only
        split at hr
        · next hc => (try rw [if_pos hc]); exact hr
        · next hc =>
          try rw [if_neg hc]
          split at hr
          · next hpc hh =>
            try rw [hh]
            try simp only
            split at hr
            · next i n hi =>
              try rw [hi]
              try simp only
              split at hr
              · next hl => (try rw [if_pos hl]); exact e_add_mono (fun r h => H _ _ _ _ _ _ _ h) hr
              · cases hr
            · cases hr
          · cases hr
    · cases hr
set_option maxHeartbeats 4000000 in
theorem e_bd_mono {L : Nat} {xs : Nat → Int32} {f g : e_Rec} (H : e_le f g) : e_le (e_bd L xs f) (e_bd L xs g) := by
  intro d y pc l st h r hr
  unfold e_bd at hr ⊢
  split at hr
  · cases hr
  · next ins len hd =>
    try rw [hd]
    try simp only
    split at hr
    · next n1 st2 h1 =>
      try rw [h1]
      try simp only
      split at hr
      · next hn => (try rw [if_pos hn]); exact H _ _ _ _ _ _ _ hr
      · cases hr
    · next h1 =>
      try rw [h1]
      try simp only
      split at hr
      · next n1 l2 st2 h2 =>
        try rw [h2]
        try simp only
        split at hr
        · next hn => (try rw [if_pos hn]); exact H _ _ _ _ _ _ _ hr
        · cases hr
      · next h2 =>
        try rw [h2]
        try simp only
        split at hr
        · next t st2 h3 => (try rw [h3]); exact H _ _ _ _ _ _ _ hr
        · next h3 =>
          try rw [h3]
          try simp only
          split at hr
          · next n1 st2 h4 =>
            try rw [h4]
            try simp only
            split at hr
            · next hn => (try rw [if_pos hn]); exact H _ _ _ _ _ _ _ hr
            · cases hr
          · next h4 =>
            try rw [h4]
            try simp only
            split at hr
            · next n1 st2 hh2 h5 =>
              try rw [h5]
              try simp only
              split at hr
              · next hn => (try rw [if_pos hn]); exact H _ _ _ _ _ _ _ hr
              · cases hr
            · next h5 =>
              try rw [h5]
              try simp only
              split at hr
              · next v h6 => (try rw [h6]); exact hr
              · next h6 =>
                try rw [h6]
                try simp only
                split at hr
                · next kd idx h7 =>
                  try rw [h7]
                  try simp only
                  split at hr
                  · next hn =>
                    try rw [if_pos hn]
                    split at hr
                    · next y2 nest h8 =>
                      try rw [h8]
                      try simp only
                      split at hr
                      · next hk =>
                        try rw [if_pos hk]
                        split at hr
                        · next h0 => (try rw [if_pos h0]); exact e_ca_mono H hr
                        · next h0 =>
                          try rw [if_neg h0]
                          split at hr
                          · next a ha =>
                            try rw [ha]
                            try simp only
                            split at hr
                            · next c2 fs hc =>
                              try rw [hc]
                              try simp only
                              split at hr
                              · next hq => (try rw [if_pos hq]); exact e_ca_mono H hr
                              · cases hr
                            · cases hr
                          · cases hr
                      · cases hr
                    · next h8 =>
                      try rw [h8]
                      try simp only
                      split at hr
                      · next b hb =>
                        try rw [hb]
                        try simp only
                        split at hr
                        · next d2 st2 h2 hbl => (try rw [hbl]); exact H _ _ _ _ _ _ _ hr
                        · cases hr
                      · cases hr
                  · cases hr
                · next h7 =>
                  try rw [h7]
                  try simp only
                  split at hr
                  · next n1 st2 h8 =>
                    try rw [h8]
                    try simp only
                    split at hr
                    · next hn => (try rw [if_pos hn]); exact H _ _ _ _ _ _ _ hr
                    · cases hr
                  · next h8 =>
                    try rw [h8]
                    try simp only
                    split at hr
                    · next n1 st2 x k h9 =>
                      try rw [h9]
                      try simp only
                      split at hr
                      · next hn => (try rw [if_pos hn]); exact e_adk_mono (fun r h => H _ _ _ _ _ _ _ h) hr
                      · cases hr
                    · next h9 =>
                      try rw [h9]
                      try simp only
                      exact hr
theorem e_run_mono {L : Nat} {xs : Nat → Int32} : ∀ {n m : Nat}, n ≤ m → e_le (e_run L xs n) (e_run L xs m)
  | 0, _, _ => fun d y pc l st h r hr => by cases hr
  | n + 1, 0, hm => by omega
  | n + 1, m + 1, hm => e_bd_mono (e_run_mono (Nat.le_of_succ_le_succ hm))
noncomputable def e_lim (L : Nat) (xs : Nat → Int32) : e_Rec := fun d y pc l st h => by
  classical
  exact if H : ∃ r, ∃ n, e_run L xs n d y pc l st h = some r then some (Classical.choose H) else none
theorem e_lim_iff {L : Nat} {xs : Nat → Int32} {d y pc : Nat} {l : e_L} {st : List Value} {h : e_H} {r : e_R} : e_lim L xs d y pc l st h = some r ↔ ∃ n, e_run L xs n d y pc l st h = some r := by
  have uniq : ∀ {r1 r2 : e_R}, (∃ n, e_run L xs n d y pc l st h = some r1) → (∃ n, e_run L xs n d y pc l st h = some r2) → r1 = r2 := by
    rintro r1 r2 ⟨n1, h1⟩ ⟨n2, h2⟩
    have a1 := e_run_mono (Nat.le_max_left n1 n2) _ _ _ _ _ _ _ h1
    have a2 := e_run_mono (Nat.le_max_right n1 n2) _ _ _ _ _ _ _ h2
    exact Option.some.inj (a1.symm.trans a2)
  unfold e_lim
  constructor
  · intro hh
    split at hh
    · next H => cases hh; exact Classical.choose_spec H
    · cases hh
  · intro hh
    rw [dif_pos ⟨r, hh⟩]
    congr 1
    exact uniq (Classical.choose_spec (⟨r, hh⟩ : ∃ r, ∃ n, e_run L xs n d y pc l st h = some r)) hh
theorem e_lim_up {L : Nat} {xs : Nat → Int32} (n : Nat) : e_le (e_run L xs n) (e_lim L xs) := fun _ _ _ _ _ _ _ hr => e_lim_iff.mpr ⟨n, hr⟩
theorem e_ca_cont {L : Nat} {xs : Nat → Int32} {d y pc y2 m : Nat} {l : e_L} {st : List Value} {h : e_H} {r : e_R} (hr : e_ca (e_lim L xs) d y pc y2 m l st h = some r) : ∃ n, e_ca (e_run L xs n) d y pc y2 m l st h = some r := by
  have two : ∀ {d1 y1 p1 : Nat} {l1 : e_L} {s1 : List Value} {h1 : e_H} {r1 : e_R} {d2 y2 p2 : Nat} {l2 : e_L} {s2 : List Value} {h2 : e_H} {r2 : e_R}, e_lim L xs d1 y1 p1 l1 s1 h1 = some r1 → e_lim L xs d2 y2 p2 l2 s2 h2 = some r2 → ∃ n, e_run L xs n d1 y1 p1 l1 s1 h1 = some r1 ∧ e_run L xs n d2 y2 p2 l2 s2 h2 = some r2 := by
    intro d1 y1 p1 l1 s1 h1 r1 d2 y2 p2 l2 s2 h2 r2 a1 a2
    obtain ⟨n1, b1⟩ := e_lim_iff.mp a1
    obtain ⟨n2, b2⟩ := e_lim_iff.mp a2
    exact ⟨max n1 n2, e_run_mono (Nat.le_max_left n1 n2) _ _ _ _ _ _ _ b1, e_run_mono (Nat.le_max_right n1 n2) _ _ _ _ _ _ _ b2⟩
  unfold e_ca at hr
  cases d with
  | zero => cases hr
  | succ d2 =>
    simp only at hr
    split at hr
    · next hm =>
      split at hr
      · cases hr
      · next v h2 a b hf =>
        split at hr
        · next hl =>
          cases ho : e_lim L xs (d2 + 1) y (pc + 3) l (v.toList ++ st.drop m) h2 with
          | none => rw [ho] at hr; cases hr
          | some x =>
            obtain ⟨n, c1, c2⟩ := two hf ho
            rw [ho] at hr
            exact ⟨n, by simp only [e_ca, if_pos hm, c1, if_pos hl, c2]; exact hr⟩
        · next hl =>
          split at hr
          · next hk =>
            cases ho : e_lim L xs (d2 + 1) y (pc + 3) (e_lf h.length l) (v.toList ++ st.drop m) h2 with
            | none => rw [ho] at hr; cases hr
            | some x =>
              obtain ⟨n, c1, c2⟩ := two hf ho
              rw [ho] at hr
              exact ⟨n, by simp only [e_ca, if_pos hm, c1, if_neg hl, if_pos hk, c2]; exact hr⟩
          · cases hr
      · next E h2 a b hf =>
        split at hr
        · next hc =>
          obtain ⟨n, c1⟩ := e_lim_iff.mp hf
          exact ⟨n, by simp only [e_ca, if_pos hm, c1, if_pos hc]; exact hr⟩
        · next hc =>
          split at hr
          · next hpc hh =>
            split at hr
            · next i n hi =>
              split at hr
              · next hl =>
                cases ho : e_lim L xs (d2 + 1) y (hpc + n) (e_sx l i) [] h2 with
                | none => rw [ho] at hr; cases hr
                | some x =>
                  obtain ⟨n, c1, c2⟩ := two hf ho
                  rw [ho] at hr
                  exact ⟨n, by simp only [e_ca, if_pos hm, c1, if_neg hc, hh, hi, if_pos hl, c2]; exact hr⟩
              · cases hr
            · cases hr
          · cases hr
    · cases hr
set_option maxHeartbeats 4000000 in
theorem e_bd_cont {L : Nat} {xs : Nat → Int32} {d y pc : Nat} {l : e_L} {st : List Value} {h : e_H} {r : e_R} (hr : e_bd L xs (e_lim L xs) d y pc l st h = some r) : ∃ n, e_bd L xs (e_run L xs n) d y pc l st h = some r := by
  unfold e_bd at hr
  split at hr
  · cases hr
  · next ins len hd =>
    split at hr
    · next n1 st2 h1 =>
      split at hr
      · next hn => obtain ⟨n, c1⟩ := e_lim_iff.mp hr; exact ⟨n, by simp only [e_bd, hd, h1, if_pos hn]; exact c1⟩
      · cases hr
    · next h1 =>
      split at hr
      · next n1 l2 st2 h2 =>
        split at hr
        · next hn => obtain ⟨n, c1⟩ := e_lim_iff.mp hr; exact ⟨n, by simp only [e_bd, hd, h1, h2, if_pos hn]; exact c1⟩
        · cases hr
      · next h2 =>
        split at hr
        · next t st2 h3 => obtain ⟨n, c1⟩ := e_lim_iff.mp hr; exact ⟨n, by simp only [e_bd, hd, h1, h2, h3]; exact c1⟩
        · next h3 =>
          split at hr
          · next n1 st2 h4 =>
            split at hr
            · next hn => obtain ⟨n, c1⟩ := e_lim_iff.mp hr; exact ⟨n, by simp only [e_bd, hd, h1, h2, h3, h4, if_pos hn]; exact c1⟩
            · cases hr
          · next h4 =>
            split at hr
            · next n1 st2 hh2 h5 =>
              split at hr
              · next hn => obtain ⟨n, c1⟩ := e_lim_iff.mp hr; exact ⟨n, by simp only [e_bd, hd, h1, h2, h3, h4, h5, if_pos hn]; exact c1⟩
              · cases hr
            · next h5 =>
              split at hr
              · next v h6 => exact ⟨0, by simp only [e_bd, hd, h1, h2, h3, h4, h5, h6]; exact hr⟩
              · next h6 =>
                split at hr
                · next kd idx h7 =>
                  split at hr
                  · next hn =>
                    split at hr
                    · next y2 nest h8 =>
                      split at hr
                      · next hk =>
                        split at hr
                        · next h0 => obtain ⟨n, c1⟩ := e_ca_cont hr; exact ⟨n, by simp only [e_bd, hd, h1, h2, h3, h4, h5, h6, h7, h8, if_pos hn, if_pos hk, if_pos h0]; exact c1⟩
                        · next h0 =>
                          split at hr
                          · next a ha =>
                            split at hr
                            · next c2 fs hc =>
                              split at hr
                              · next hq => obtain ⟨n, c1⟩ := e_ca_cont hr; exact ⟨n, by simp only [e_bd, hd, h1, h2, h3, h4, h5, h6, h7, h8, if_pos hn, if_pos hk, if_neg h0, ha, hc, if_pos hq]; exact c1⟩
                              · cases hr
                            · cases hr
                          · cases hr
                      · cases hr
                    · next h8 =>
                      split at hr
                      · next b hb =>
                        split at hr
                        · next d2 st2 h2b hbl => obtain ⟨n, c1⟩ := e_lim_iff.mp hr; exact ⟨n, by simp only [e_bd, hd, h1, h2, h3, h4, h5, h6, h7, h8, if_pos hn, hb, hbl]; exact c1⟩
                        · cases hr
                      · cases hr
                  · cases hr
                · next h7 =>
                  split at hr
                  · next n1 st2 h8 =>
                    split at hr
                    · next hn => obtain ⟨n, c1⟩ := e_lim_iff.mp hr; exact ⟨n, by simp only [e_bd, hd, h1, h2, h3, h4, h5, h6, h7, h8, if_pos hn]; exact c1⟩
                    · cases hr
                  · next h8 =>
                    split at hr
                    · next n1 st2 x k h9 =>
                      split at hr
                      · next hn =>
                        cases ho : e_lim L xs d y (pc + n1) (e_lf h.length l) (.ref h.length :: st2) (h ++ [x]) with
                        | none => rw [ho] at hr; cases hr
                        | some z =>
                          obtain ⟨n, c1⟩ := e_lim_iff.mp ho
                          rw [ho] at hr
                          exact ⟨n, by simp only [e_bd, hd, h1, h2, h3, h4, h5, h6, h7, h8, h9, if_pos hn, c1]; exact hr⟩
                      · cases hr
                    · next h9 => exact ⟨0, by simp only [e_bd, hd, h1, h2, h3, h4, h5, h6, h7, h8, h9]; exact hr⟩
theorem e_lim_eq {L : Nat} {xs : Nat → Int32} (d y pc : Nat) (l : e_L) (st : List Value) (h : e_H) : e_lim L xs d y pc l st h = e_bd L xs (e_lim L xs) d y pc l st h := by
  apply Option.ext
  intro r
  constructor
  · intro hr
    obtain ⟨n, hn⟩ := e_lim_iff.mp hr
    cases n with
    | zero => cases hn
    | succ n => exact e_bd_mono (e_lim_up n) _ _ _ _ _ _ _ hn
  · intro hr
    obtain ⟨n, hn⟩ := e_bd_cont hr
    exact e_lim_iff.mpr ⟨n + 1, hn⟩
/-! fewer known locals: what is answered then is answered -/
def e_ll (l1 l2 : e_L) : Prop := l1.length = l2.length ∧ ∀ (i : Nat) (v : Value), l1[i]? = some (some v) → l2[i]? = some (some v)
theorem e_ll.rf {l : e_L} : e_ll l l := ⟨rfl, fun _ _ h => h⟩
theorem e_ll.ld {l1 l2 : e_L} (h : e_ll l1 l2) {i : Nat} {v : Value} (hv : e_ld l1 i = some v) : e_ld l2 i = some v := by
  unfold e_ld at hv ⊢
  split at hv
  · next w hw => cases hv; rw [h.2 _ _ hw]
  · cases hv
theorem e_ll.kl {l1 l2 : e_L} (h : e_ll l1 l2) (i : Nat) : e_ll (e_kl l1 i) (e_kl l2 i) := by
  refine ⟨by rw [e_kl_len, e_kl_len]; exact h.1, fun j w hw => ?_⟩
  obtain ⟨h1, h2⟩ := e_kl_get hw
  have h3 := h.2 _ _ h1
  unfold e_kl
  split
  · exact h3
  · next j2 =>
    split
    · next v hv =>
      split
      · next hc =>
        rw [List.getElem?_set]
        split
        · next hj =>
          subst hj
          rw [hv] at h3
          cases h3
          exact absurd ⟨rfl, hc⟩ h2
        · exact h3
      · exact h3
    · exact h3
theorem e_ll.set {l1 l2 : e_L} (h : e_ll l1 l2) (i : Nat) (o : Option Value) : e_ll (l1.set i o) (l2.set i o) := by
  refine ⟨by simp [h.1], fun j w hw => ?_⟩
  rw [List.getElem?_set] at hw ⊢
  split at hw
  · next hj =>
    rw [if_pos hj, ← h.1]
    exact hw
  · next hj => rw [if_neg hj]; exact h.2 _ _ hw
theorem e_ll.lf {l1 l2 : e_L} (h : e_ll l1 l2) (n : Nat) : e_ll (e_lf n l1) (e_lf n l2) := by
  refine ⟨by rw [e_lf_len, e_lf_len]; exact h.1, fun j w hw => ?_⟩
  obtain ⟨h1, h2⟩ := e_lf_get hw
  unfold e_lf
  rw [List.getElem?_map, h.2 _ _ h1]
  simp only [Option.map_some, h2, if_true]
theorem e_ll.op {l1 l2 : e_L} (h : e_ll l1 l2) {ins : Instr} {st : List Value} {r : Nat × List Value} (hr : e_op ins l1 st = some r) : e_op ins l2 st = some r := by
  have i1 : ∀ {i st s2}, e_ildi l1 i st = some s2 → e_ildi l2 i st = some s2 := fun {i st s2} q => by
    obtain ⟨x, a, b⟩ := e_ildi_ok q
    unfold e_ildi; rw [h.ld a, b]
  have i2 : ∀ {i st s2}, e_ildl l1 i st = some s2 → e_ildl l2 i st = some s2 := fun {i st s2} q => by
    obtain ⟨x, a, b⟩ := e_ildl_ok q
    unfold e_ildl; rw [h.ld a, b]
  have i3 : ∀ {i st s2}, e_ildf l1 i st = some s2 → e_ildf l2 i st = some s2 := fun {i st s2} q => by
    obtain ⟨x, a, b⟩ := e_ildf_ok q
    unfold e_ildf; rw [h.ld a, b]
  have i4 : ∀ {i st s2}, e_ildd l1 i st = some s2 → e_ildd l2 i st = some s2 := fun {i st s2} q => by
    obtain ⟨x, a, b⟩ := e_ildd_ok q
    unfold e_ildd; rw [h.ld a, b]
  have i5 : ∀ {i st s2}, e_ilda l1 i st = some s2 → e_ilda l2 i st = some s2 := fun {i st s2} q => by
    rcases e_ilda_ok q with ⟨x, a, b⟩ | ⟨a, b⟩
    · unfold e_ilda; rw [h.ld a, b]
    · unfold e_ilda; rw [h.ld a, b]
  unfold e_op at hr ⊢
  split at hr
  · obtain ⟨s2, a, b⟩ := e_map_ok hr; simp only [i1 a, Option.map_some, b]
  · obtain ⟨s2, a, b⟩ := e_map_ok hr; simp only [i1 a, Option.map_some, b]
  · obtain ⟨s2, a, b⟩ := e_map_ok hr; simp only [i2 a, Option.map_some, b]
  · obtain ⟨s2, a, b⟩ := e_map_ok hr; simp only [i2 a, Option.map_some, b]
  · obtain ⟨s2, a, b⟩ := e_map_ok hr; simp only [i3 a, Option.map_some, b]
  · obtain ⟨s2, a, b⟩ := e_map_ok hr; simp only [i4 a, Option.map_some, b]
  · obtain ⟨s2, a, b⟩ := e_map_ok hr; simp only [i5 a, Option.map_some, b]
  · obtain ⟨s2, a, b⟩ := e_map_ok hr; simp only [i5 a, Option.map_some, b]
  all_goals exact hr
