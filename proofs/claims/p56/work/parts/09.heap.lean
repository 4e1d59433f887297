/-! what every frame knows -/
def e_A (B0 : Nat) : Nat → Prop := fun q => B0 ≤ q
def e_tys (dA : Nat → ClassId) : List (ClassId × FieldType) := [(dA 0, .int), (dA 1, .int), (dA 2, .int), (dA 3, .char), (dA 4, .object RX3)]
/-- of a state: it moves with it -/
def e_G (L : Nat) (xs : Nat → Int32) (B0 bS : Nat) (D : va_G) (dA : Nat → ClassId) (U : State) : Prop :=
  B0 ≤ U.heap.size ∧ va_K D vwCl (e_tys dA) U ∧ va_X bS L xs U U.heap ∧ vx_Zq Bundle.tN "UNASSIGNED_STACK" Bundle.steD (e_A B0) U U.heap ∧ vx_Zq Bundle.tN "SUPPRESSED_SENTINEL" Bundle.listD (e_A B0) U U.heap ∧ (∀ w ∈ lw_tbl, e_ng w = true → va_Nw w U) ∧ va_AO RX3 U ∧ True
/-- of a frame -/
def e_F (p : Program) (l : Launch) (s : State) (m : MethodId) (args : Array Value) (meth : Method) (c : Code) (y : Nat) : Prop :=
  p.tables.exec = Jvm.exec ∧ c.code = e_bc y ∧ meth.sig.returnType = e_rt y ∧ c.maxLocals = e_ml y ∧ s.vm.findClass (e_cn (e_cy y)) = some m.cls ∧ (∀ w ∈ lw_tbl, goodWord w = true → w.before args s = true) ∧ meth.locks = false ∧ ((e_nm y).name = "<init>" → meth.name = "<init>") ∧ l.stackTraces = false ∧ c.exceptionTable.toList = tableOf (e_hh y) ∧ e_cn (e_cy y) = (e_nm y).cls
def e_Ws : List Cond := lw_tbl.filter goodWord
theorem e_Ws_in {w : Cond} (h : w ∈ lw_tbl) (g : goodWord w = true) : w ∈ e_Ws := List.mem_filter.mpr ⟨h, g⟩
theorem e_Ws_good : ∀ w ∈ e_Ws, (w.onTables && w.keeps) = true ∨ ∃ ty, w = .arrayClass ty := fun w h => good_of_word (List.mem_filter.mp h).2
theorem e_lay_good {C : String} {T : u_T} {N : Nat} : ∀ w ∈ u_ws C T N, goodWord w = true := by
  intro w h
  obtain ⟨k, -, rfl⟩ := List.mem_map.mp h
  unfold u_lay
  split <;> rfl
theorem e_lay_in {ci : Nat} {q : vw_C} (h : e_okk ci q) : ∀ w ∈ u_ws q.1 q.2.1 q.2.2, w ∈ e_Ws := fun w hw => e_Ws_in (h.2.2.1 w hw) (e_lay_good w hw)
theorem e_vin_ok {i : Int32} {n : Nat} (h : e_vin i n = true) : vp_in i n := by
  unfold e_vin at h
  unfold vp_in
  simpa using h
theorem e_vin_lt {i : Int32} {n : Nat} (h : e_vin i n = true) : i.toNatClampNeg < n := by
  unfold e_vin at h
  simp at h
  exact h.2
theorem e_fit_ok {ty : FieldType} {v : Value} {ad : Nat → Nat} (h : e_fit ty v = true) : narrow ty (e_mv ad v) = e_mv ad v ∧ Jvm.fits ty (e_mv ad v) = true := by
  unfold e_fit at h
  split at h
  · exact ⟨rfl, rfl⟩
  · next x =>
    simp only [Bool.or_eq_true, beq_iff_eq] at h
    rcases h with rfl | rfl <;> exact ⟨rfl, rfl⟩
  · exact ⟨rfl, rfl⟩
  · exact ⟨rfl, rfl⟩
  · exact ⟨rfl, rfl⟩
  · exact ⟨rfl, rfl⟩
  · exact ⟨rfl, rfl⟩
  · cases h
theorem e_fT_eq {ci : Nat} {q : vw_C} (h : vwCl[ci]? = some q) (k : Nat) : e_fT ci k = q.2.1 k := by
  unfold e_fT
  rw [List.getD_eq_getElem?_getD, h]
  rfl
theorem e_rf (ad : Nat → Nat) (o : Option Nat) : e_mv ad (va_rf o) = va_rf (o.map ad) := by cases o <;> rfl
section E9
variable {p : Program} {l : Launch} {e : Env} {R : Room} {s : State} {m : MethodId} {args : Array Value} {below : List Frame} {meth : Method} {c : Code} {H : Heap} {locs : List Loc} {cells slots : Nat} {Q : State → Prop}
variable {y pc : Nat} {ls : Array Slot} {ad : Nat → Nat} {st st2 : List Value} {n : Nat} {ins : Instr} {L : Nat} {xs : Nat → Int32} {B0 bS : Nat} {D : va_G} {dA : Nat → ClassId} {h h2 : e_H}
set_option maxHeartbeats 4000000 in
theorem e_hl_ok (F : e_F p l s m args meth c y) (G : e_G L xs B0 bS D dA s) (hbS : bS < B0) (hsc : ad e_SCR = bS) (hP : va_P D vwCl (e_w dA ad h) H) (hS : va_S (e_A B0) s.heap H locs)
    (hh : e_hl L xs y ins st h = some (n, st2)) (hd : decode (e_bc y) pc = .ok (ins, n))
    (k : W p l e R s m args below meth c H locs cells slots Q (F0 m (pc + n) ls (st2.map (e_mv ad)))) : W p l e R s m args below meth c H locs cells slots Q (F0 m pc ls (st.map (e_mv ad))) := by
  obtain ⟨hx, hb, hr, hml, hown, hws, hlk, hin, hst, htb, hcn⟩ := F
  obtain ⟨hB, hK, hX, hU, hN, hng, hao, hnc⟩ := G
  have hts : ∀ w ∈ e_Ws, w.before args s = true := fun w hw => hws w (List.mem_filter.mp hw).1 (List.mem_filter.mp hw).2
  have hbl : bS < s.heap.size := by omega
  have hbA : ¬ e_A B0 bS := Nat.not_le.mpr hbS
  unfold e_hl at hh
  split at hh
  · split at hh
    · next ci k0 hf =>
      split at hh
      · next c2 fs ha =>
        split at hh
        · next hc2 =>
          subst hc2
          split at hh
          · next v hv =>
            cases hh
            obtain ⟨q, hq, hk0, hl0⟩ := e_fld_ok _ (e_ir2_mem hf)
            have hok := e_okcl c2 q hq
            have hv2 : (fs.map (e_mv ad))[k0]? = some (e_mv ad v) := by rw [List.getElem?_map, hv]; rfl
            exact va_get (T := q.2.1) (C := q.1) hx hb hts (e_lay_in hok) hown hK hP _ (e_w_at ha) hq k0 hk0 (hws _ hl0 rfl) (fun x hx => hx) hv2 hd k
          · cases hh
        · cases hh
      · cases hh
    · cases hh
  · split at hh
    · next v hv =>
      cases hh
      exact lv_ldc hx hb hown (hws _ (e_cst_ok _ (e_irv_mem hv)) rfl) hd k
    · cases hh
  · split at hh
    · next v hv =>
      cases hh
      exact lv_ldcw hx hb hown (hws _ (e_cst_ok _ (e_irv_mem hv)) rfl) hd k
    · cases hh
  · split at hh
    · next hscr =>
      split at hh
      · next hvn =>
        cases hh
        subst hscr
        rw [← hsc] at hX hbl hbA
        exact va_sld hx hb hX hbl hbA hS (e_vin_ok hvn) hd k
      · cases hh
    · split at hh
      · next n0 f ha =>
        split at hh
        · next hvn =>
          cases hh
          exact va_iald hx hb hK hP _ 0 (e_w_at ha) rfl (e_vin_ok hvn) hd k
        · cases hh
      · cases hh
  · split at hh
    · next n0 f ha =>
      split at hh
      · next hvn =>
        cases hh
        exact va_cald hx hb hK hP _ 3 (e_w_at ha) rfl (e_vin_ok hvn) hd k
      · cases hh
    · cases hh
  · split at hh
    · next n0 f ha =>
      split at hh
      · next hvn =>
        cases hh
        refine va_aldq hx hb hK hP _ 4 (e_w_at ha) rfl (e_vin_ok hvn) hd ?_
        rw [if_pos (e_vin_lt hvn), ← e_rf]
        exact k
      · cases hh
    · cases hh
  · split at hh
    · next hscr =>
      cases hh
      subst hscr
      rw [← hsc] at hX hbl hbA
      exact va_slen hx hb hX hbl hbA hS hd k
    · split at hh
      · next t0 n0 x0 ha =>
        split at hh
        · next ht =>
          cases hh
          have hw := e_w_at (dA := dA) (ad := ad) ha
          have : ∃ x1, e_me dA ad (.inl (t0, n0, x0)) = .inl (dA t0, n0, x1) := by
            rcases x0 with f | f | f | f | f <;> exact ⟨_, rfl⟩
          obtain ⟨x1, hx1⟩ := this
          rw [hx1] at hw
          have ht0 : ∃ ty, (e_tys dA)[t0]? = some (dA t0, ty) := by
            match t0, ht with
            | 0, _ => exact ⟨_, rfl⟩
            | 1, _ => exact ⟨_, rfl⟩
            | 2, _ => exact ⟨_, rfl⟩
            | 3, _ => exact ⟨_, rfl⟩
            | 4, _ => exact ⟨_, rfl⟩
          obtain ⟨ty, hty⟩ := ht0
          exact va_alen hx hb hK hP _ t0 hw hty rfl hd k
        · cases hh
      · cases hh
  · cases hh
set_option maxHeartbeats 4000000 in
theorem e_hs_ok (F : e_F p l s m args meth c y) (G : e_G L xs B0 bS D dA s) (hP : va_P D vwCl (e_w dA ad h) H) (hD : va_D (e_A B0) (e_w dA ad h)) (hS : va_S (e_A B0) s.heap H locs)
    (hh : e_hs y ins st h = some (n, st2, h2)) (hd : decode (e_bc y) pc = .ok (ins, n))
    (k : ∀ H1 locs1, va_P D vwCl (e_w dA ad h2) H1 → va_D (e_A B0) (e_w dA ad h2) → va_S (e_A B0) s.heap H1 locs1 → h2.length = h.length → W p l e R s m args below meth c H1 locs1 cells slots Q (F0 m (pc + n) ls (st2.map (e_mv ad)))) : W p l e R s m args below meth c H locs cells slots Q (F0 m pc ls (st.map (e_mv ad))) := by
  obtain ⟨hx, hb, hr, hml, hown, hws, hlk, hin, hst, htb, hcn⟩ := F
  obtain ⟨hB, hK, hX, hU, hN, hng, hao, hnc⟩ := G
  have hts : ∀ w ∈ e_Ws, w.before args s = true := fun w hw => hws w (List.mem_filter.mp hw).1 (List.mem_filter.mp hw).2
  unfold e_hs at hh
  split at hh
  · next idx v0 a0 s0 =>
    split at hh
    · next ci k0 hf =>
      split at hh
      · next c2 fs ha =>
        split at hh
        · next hc =>
          obtain ⟨hc2, hkl, hft, hfi⟩ := hc
          subst hc2
          cases hh
          obtain ⟨q, hq, hk0, hl0⟩ := e_fld_ok _ (e_ir2_mem hf)
          have hok := e_okcl c2 q hq
          obtain ⟨o1, o2, o3, o4, o5, o6, o7⟩ := id hok
          rw [e_fT_eq hq] at hfi
          obtain ⟨g1, g2⟩ := e_fit_ok (ad := ad) hft
          have k2 : ∀ (H1 : Heap) (locs1 : List Loc), va_P D vwCl ((e_w dA ad h).set a0 (ad a0, .inr (c2, (fs.map (e_mv ad)).set k0 (e_mv ad v0)))) H1 → va_D (e_A B0) ((e_w dA ad h).set a0 (ad a0, .inr (c2, (fs.map (e_mv ad)).set k0 (e_mv ad v0)))) → va_S (e_A B0) s.heap H1 locs1 → W p l e R s m args below meth c H1 locs1 cells slots Q (F0 m (pc + 3) ls (st2.map (e_mv ad))) := by
            intro H1 locs1 p1 p2 p3
            have e1 : (e_w dA ad h).set a0 (ad a0, .inr (c2, (fs.map (e_mv ad)).set k0 (e_mv ad v0))) = e_w dA ad (h.set a0 (.inr (c2, fs.set k0 v0))) := by
              rw [e_w_set, ← List.map_set]; rfl
            rw [e1] at p1 p2
            exact k H1 locs1 p1 p2 p3 (by simp)
          by_cases hff : (q.2.1 k0).2.2.2 = false
          · exact va_put (T := q.2.1) (C := q.1) hx hb hts (e_lay_in hok) (e_ty c2) o1 o2 hown hK hP hD hS _ (e_w_at ha) hq k0 hk0 (hws _ hl0 rfl) (fun x hx => hx) hff (o1 k0 hk0) g1 g2 (by simpa using hkl) hd k2
          · have hff2 : (q.2.1 k0).2.2.2 = true := by simpa using hff
            have hf3 := hfi.resolve_left hff
            exact va_putF (T := q.2.1) (C := q.1) hx hb hts (e_lay_in hok) (e_ty c2) o1 o2 hown hK hP hD hS _ (e_w_at ha) hq k0 hk0 (hws _ hl0 rfl) (fun x hx => hx) hff2 (hin hf3.1) (hf3.2.trans hcn.symm) (o1 k0 hk0) g1 g2 (by simpa using hkl) hd k2
        · cases hh
      · cases hh
    · cases hh
  · split at hh
    · next n0 f ha =>
      split at hh
      · next hvn =>
        cases hh
        refine va_iast hx hb hK hP hD hS _ 0 (e_w_at ha) rfl (e_vin_ok hvn) hd fun H1 locs1 p1 p2 p3 => k H1 locs1 ?_ ?_ p3 (by simp)
        · rw [e_w_set]; exact p1
        · rw [e_w_set]; exact p2
      · cases hh
    · cases hh
  · split at hh
    · next n0 f ha =>
      split at hh
      · next hvn =>
        cases hh
        refine va_cast hx hb hK hP hD hS _ 3 (e_w_at ha) rfl (e_vin_ok hvn) hd fun H1 locs1 p1 p2 p3 => k H1 locs1 ?_ ?_ p3 (by simp)
        · rw [e_w_set]; exact p1
        · rw [e_w_set]; exact p2
      · cases hh
    · cases hh
  · next v0 i0 a0 s0 =>
    split at hh
    · next n0 f ha =>
      split at hh
      · next vs hv =>
        split at hh
        · next hvn =>
          cases hh
          refine va_astq hx hb hK hP hD hS _ 4 _ 3 (r := (RX3, TX3, 12)) (e_w_at ha) rfl (e_w_at hv) rfl (e_vin_ok hvn) hd fun H1 locs1 p1 p2 p3 => ?_
          have e1 : (va_up (fun j => if j < n0 then (f j).map ad else none) i0.toNatClampNeg (some (ad v0))) = fun j => if j < n0 then (va_up f i0.toNatClampNeg (some v0) j).map ad else none := by
            funext j
            unfold va_up
            by_cases hj : j = i0.toNatClampNeg
            · rw [if_pos hj, if_pos (by rw [hj]; exact e_vin_lt hvn), if_pos hj]; rfl
            · rw [if_neg hj, if_neg hj]
          refine k H1 locs1 ?_ ?_ p3 (by simp)
          · rw [e_w_set]; rw [e1] at p1; exact p1
          · rw [e_w_set]; rw [e1] at p2; exact p2
        · cases hh
      · cases hh
    · cases hh
  · cases hh
end E9
