section E14
variable {p : Program} {l : Launch} {e : Env} {R : Room} {s : State} {m : MethodId} {args : Array Value} {below : List Frame} {meth : Method} {c : Code} {H : Heap} {locs : List Loc} {cells slots : Nat} {Q : State → Prop}
variable {y pc : Nat} {ls : Array Slot} {lo : e_L} {ad : Nat → Nat} {st st2 : List Value} {n : Nat} {ins : Instr} {L : Nat} {xs : Nat → Int32} {B0 bS : Nat} {D : va_G} {dA : Nat → ClassId} {h h2 : e_H}
theorem e_add_ok {a b : Nat} {o : Option e_R} {res : e_R} (h : e_add a b o = some res) : ∃ r, o = some r ∧ res = (r.1, r.2.1, a + r.2.2.1, b + r.2.2.2) := by
  unfold e_add at h
  split at h
  · cases h; exact ⟨_, rfl, rfl⟩
  · cases h
theorem e_adk_ok {k a b : Nat} {o : Option e_R} {res : e_R} (h : e_adk k a b o = some res) : ∃ r, o = some r ∧ res = (r.1, r.2.1, a + r.2.2.1, b + r.2.2.2) ∧ k < r.2.1.length := by
  unfold e_adk at h
  split at h
  · split at h
    · next hk => cases h; exact ⟨_, rfl, rfl, hk⟩
    · cases h
  · cases h
theorem e_hd_no {cn E : Nat} : ∀ {hh : List (Nat × Nat × Nat × Nat)}, e_hd cn E pc hh = none
  | [] => rfl
  | q :: t => by
    unfold e_hd
    have h1 : e_ir e_cat cn q.2.2.2 = none := rfl
    rw [h1]
    simp only
    split
    · rfl
    · exact e_hd_no
set_option maxHeartbeats 4000000 in
/-- a call of the program's own -/
theorem e_ca_ok {d y2 mm : Nat} {res : e_R} (hS : e_S L xs n) (hh : e_ca (e_run L xs n) d y pc y2 mm lo st h = some res)
    (F : e_F p l s m args meth c y) (G : e_G L xs B0 bS D dA s) (hbS : bS < B0) (hsc : ad e_SCR = bS) (hll : lo.length = e_ml y) (hl : e_lr ls ad lo) (hP : va_P D vwCl (e_w dA ad h) H) (hD : va_D (e_A B0) (e_w dA ad h)) (hSS : va_S (e_A B0) s.heap H locs)
    (hf : d + 8 ≤ R.frames) (hlo : 64 * d + 200 ≤ R.locals) (hc : cells + res.2.2.1 ≤ R.cells) (hs : slots + res.2.2.2 ≤ R.slots)
    (hE : e_End p l e R s m args below meth c y B0 D dA h.length ad res.1 res.2.1 (cells + res.2.2.1) (slots + res.2.2.2) Q)
    (hrun : ∀ (d2 : Nat) (resc : e_R), d = d2 + 1 → e_run L xs n d2 y2 0 (e_en (st.take mm).reverse (e_ml y2)) [] h = some resc → (e_en (st.take mm).reverse (e_ml y2)).length = e_ml y2 → mm ≤ st.length → ((st.drop mm).map fun v => v.category).sum ≤ 8 → cells + resc.2.2.1 ≤ R.cells → slots + resc.2.2.2 ≤ R.slots →
      vx_Run p l e R s m args below meth c H locs cells slots resc.2.2.1 resc.2.2.2 (F0 m pc ls (st.map (e_mv ad))) ((st.drop mm).map (e_mv ad)) (e_Qc B0 D dA ad h.length resc ((st.take mm).reverse.map (e_mv ad)).toArray) (e_XC B0 D dA ad h.length resc) (e_A B0)) :
    W p l e R s m args below meth c H locs cells slots Q (F0 m pc ls (st.map (e_mv ad))) := by
  unfold e_ca at hh
  split at hh
  · cases hh
  · next d2 =>
    split at hh
    · next hm =>
      obtain ⟨hm1, hm2, hm3⟩ := hm
      split at hh
      · cases hh
      · next v hc2 a b hrc =>
        -- returned
        have hAA : ∀ q, q < H.size → e_A B0 q → e_A B0 q := fun _ _ z => z
        split at hh
        · next hlen =>
          obtain ⟨r, hr, rfl⟩ := e_add_ok hh
          have hcc : cells + a ≤ R.cells := by simp only at hc; omega
          have hss : slots + b ≤ R.slots := by simp only at hs; omega
          intro T hT X
          rcases hrun d2 _ rfl hrc hm3 hm1 hm2 hcc hss T hT X with ⟨v1, st₀, t, T', L1, h0, X', hL, e1, e2, ⟨⟨v2, ad1, g1, g2, g3, g4, g5⟩, hFr⟩, hst⟩ | ⟨q, st₀, t, T', L1, E, ce, h0, X', hL, e1, e2, ⟨⟨i, ad1, g1, -⟩, -⟩, -⟩
          · cases g1
            cases g2
            have had : ad1 = ad := g3.2 hlen
            subst had
            obtain ⟨k1, k2, k3⟩ := vx_keep h0 e1 hSS hAA (fun _ z => z) hL hFr
            rw [← e1] at g4
            have hgo := hS (d2 + 1) y (pc + 3) lo (v.toList ++ st.drop mm) hc2 r hr p l e R s m args below meth c T'.heap (locs ++ L1) (cells + a) (slots + b) Q ls ad1 B0 bS D dA F G hbS hsc hll hl g4 g5 k3 hf hlo (by simp only at hc; omega) (by simp only at hs; omega) (by
              rw [hlen]
              have := hE
              simp only at this ⊢
              rw [Nat.add_assoc, Nat.add_assoc]
              exact this)
            rw [List.map_append] at hgo
            obtain ⟨t2, a1, b1⟩ := hgo T' rfl X'
            refine ⟨t2, hst t2 ?_, b1⟩
            cases v with
            | none => exact a1
            | some w => exact a1
          · cases g1
        · next hlen =>
          split at hh
          · next hlk =>
            obtain ⟨hl1, hl2⟩ := hlk
            obtain ⟨r, hr, rfl, hgrow⟩ := e_adk_ok hh
            have hcc : cells + a ≤ R.cells := by simp only at hc; omega
            have hss : slots + b ≤ R.slots := by simp only at hs; omega
            intro T hT X
            rcases hrun d2 _ rfl hrc hm3 hm1 hm2 hcc hss T hT X with ⟨v1, st₀, t, T', L1, h0, X', hL, e1, e2, ⟨⟨v2, ad1, g1, g2, g3, g4, g5⟩, hFr⟩, hst⟩ | ⟨q, st₀, t, T', L1, E, ce, h0, X', hL, e1, e2, ⟨⟨i, ad1, g1, -⟩, -⟩, -⟩
            · cases g1
              cases g2
              obtain ⟨k1, k2, k3⟩ := vx_keep h0 e1 hSS hAA (fun _ z => z) hL hFr
              rw [← e1] at g4
              have hla := hl.ag g3.1
              have hsta := g3.1.mvs hl2
              have hgo := hS (d2 + 1) y (pc + 3) (e_lf h.length lo) (v.toList ++ st.drop mm) hc2 r hr p l e R s m args below meth c T'.heap (locs ++ L1) (cells + a) (slots + b) Q ls ad1 B0 bS D dA F G hbS ((g3.1 _ (Or.inr rfl)).trans hsc) (by rw [e_lf_len]; exact hll) hla g4 g5 k3 hf hlo (by simp only at hc; omega) (by simp only at hs; omega) (by
                have := hE.go g3.1 (Nat.le_of_lt hl1) (Or.inr hgrow)
                simp only at this ⊢
                rw [Nat.add_assoc, Nat.add_assoc]
                exact this)
              rw [List.map_append, hsta] at hgo
              obtain ⟨t2, a1, b1⟩ := hgo T' rfl X'
              refine ⟨t2, hst t2 ?_, b1⟩
              cases v with
              | none => exact a1
              | some w => exact a1
            · cases g1
          · cases hh
      · next E hc2 a b hrc =>
        have hAA : ∀ q, q < H.size → e_A B0 q → e_A B0 q := fun _ _ z => z
        split at hh
        · next hcv =>
          cases hh
          have hcc : cells + a ≤ R.cells := by simp only at hc; omega
          have hss : slots + b ≤ R.slots := by simp only at hs; omega
          intro T hT X
          rcases hrun d2 _ rfl hrc hm3 hm1 hm2 hcc hss T hT X with ⟨v1, st₀, t, T', L1, h0, X', hL, e1, e2, ⟨⟨v2, ad1, g1, -⟩, -⟩, -⟩ | ⟨q, st₀, t, T', L1, E1, ce, h0, X', hL, e1, e2, ⟨⟨i, ad1, g1, g2, g3, g4, g5⟩, hFr⟩, hce, hcv2, hcl, hst⟩
          · cases g1
          · cases g1
            subst g2
            obtain ⟨k1, k2, k3⟩ := vx_keep h0 e1 hSS hAA (fun _ z => z) hL hFr
            rw [← e1] at g4 hce
            obtain ⟨t2, a1, b1⟩ := hE.2.2 E rfl pc ((st.drop mm).map (e_mv ad)) ls T'.heap (locs ++ L1) ad1 (cells + a) (slots + b) q ce hcv g3 g4 g5 k3 hce hcv2 hcl (Nat.le_refl _) (Nat.le_refl _) T' rfl X'
            exact ⟨t2, hst.trans a1, b1⟩
        · next hcv =>
          split at hh
          · next hpc hhd =>
            rw [e_hd_no] at hhd
            cases hhd
          · cases hh
    · cases hh
end E14
