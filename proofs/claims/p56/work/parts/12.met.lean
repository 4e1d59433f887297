/-! a method's contract, out of a run of the abstract machine -/
def e_rm (d mc ms : Nat) : Room := { frames := d + 8, cells := mc, slots := ms, locals := 64 * d + 200 }
def e_B (L : Nat) (xs : Nat → Int32) (B0 bS : Nat) (D : va_G) (dA : Nat → ClassId) (ad : Nat → Nat) (h : e_H) (U : State) : Prop := e_G L xs B0 bS D dA U ∧ va_P D vwCl (e_w dA ad h) U.heap ∧ va_D (e_A B0) (e_w dA ad h)
def e_Pc (L : Nat) (xs : Nat → Int32) (B0 bS : Nat) (D : va_G) (dA : Nat → ClassId) (ad : Nat → Nat) (h : e_H) (av : List Value) : Array Value → State → Prop := va_Pc (av.map (e_mv ad)) (e_B L xs B0 bS D dA ad h)
/-- the names behind a run -/
def e_N (n0 : Nat) (ad : Nat → Nat) (hf : e_H) (ad1 : Nat → Nat) : Prop := e_ag n0 ad ad1 ∧ (hf.length = n0 → ad1 = ad)
def e_Qc (B0 : Nat) (D : va_G) (dA : Nat → ClassId) (ad : Nat → Nat) (n0 : Nat) (res : e_R) : Array Value → State → Outcome → State → Prop := fun _ st o t =>
  (∃ (v : Option Value) (ad1 : Nat → Nat), res.1 = .inl v ∧ o = .returned (v.map (e_mv ad1)) ∧ e_N n0 ad res.2.1 ad1 ∧ va_P D vwCl (e_w dA ad1 res.2.1) t.heap ∧ va_D (e_A B0) (e_w dA ad1 res.2.1)) ∧ va_F (e_A B0) st t
def e_XC (B0 : Nat) (D : va_G) (dA : Nat → ClassId) (ad : Nat → Nat) (n0 : Nat) (res : e_R) : String → State → State → Prop := fun E st t =>
  (∃ (i : Nat) (ad1 : Nat → Nat), res.1 = .inr i ∧ E = e_xn i ∧ e_N n0 ad res.2.1 ad1 ∧ va_P D vwCl (e_w dA ad1 res.2.1) t.heap ∧ va_D (e_A B0) (e_w dA ad1 res.2.1)) ∧ va_F (e_A B0) st t
/-- what the end of a run owes: returned, thrown here, thrown from below -/
def e_End (p : Program) (l : Launch) (e : Env) (R : Room) (s : State) (m : MethodId) (args : Array Value) (below : List Frame) (meth : Method) (c : Code) (y B0 : Nat) (D : va_G) (dA : Nat → ClassId) (n0 : Nat) (ad : Nat → Nat) (x : Option Value ⊕ Nat) (hf : e_H) (C S : Nat) (Q : State → Prop) : Prop :=
  (∀ v, x = .inl v → ∀ (ins : Instr) (pc1 : Nat) (st1 : List Value) (ls1 : Array Slot) (H1 : Heap) (locs1 : List Loc) (ad1 : Nat → Nat) (c1 s1 : Nat), e_rn y ins st1 = some v → decode (e_bc y) pc1 = .ok (ins, 1) → e_N n0 ad hf ad1 → va_P D vwCl (e_w dA ad1 hf) H1 → va_D (e_A B0) (e_w dA ad1 hf) → va_S (e_A B0) s.heap H1 locs1 → c1 ≤ C → s1 ≤ S →
    W p l e R s m args below meth c H1 locs1 c1 s1 Q (F0 m pc1 ls1 (st1.map (e_mv ad1)))) ∧
  (∀ E, x = .inr E → ∀ (ins : Instr) (pc1 : Nat) (rest : List Value) (ls1 : Array Slot) (H1 : Heap) (locs1 : List Loc) (ad1 : Nat → Nat) (c1 s1 : Nat), e_tw y pc1 ins = some E → decode (e_bc y) pc1 = .ok (ins, 3) → (rest.map fun v => v.category).sum ≤ 40 → ls1.size = c.maxLocals → e_N n0 ad hf ad1 → va_P D vwCl (e_w dA ad1 hf) H1 → va_D (e_A B0) (e_w dA ad1 hf) → va_S (e_A B0) s.heap H1 locs1 → c1 + 1 ≤ C → s1 + 6 ≤ S →
    W p l e R s m args below meth c H1 locs1 c1 s1 Q (F0 m pc1 ls1 rest)) ∧
  (∀ E, x = .inr E → ∀ (pc1 : Nat) (rest : List Value) (ls1 : Array Slot) (H1 : Heap) (locs1 : List Loc) (ad1 : Nat → Nat) (c1 s1 : Nat) (q : Addr) (ce : Cell), e_cv pc1 (e_hh y) = false → e_N n0 ad hf ad1 → va_P D vwCl (e_w dA ad1 hf) H1 → va_D (e_A B0) (e_w dA ad1 hf) → va_S (e_A B0) s.heap H1 locs1 → H1[q]? = some ce → ce.vm = .none → s.vm.findClass (e_xn E) = some ce.cls → c1 ≤ C → s1 ≤ S →
    vx_W p l e R s m args below meth c H1 locs1 c1 s1 Q (F0 m pc1 ls1 rest) q)
theorem e_N.trans {n0 n1 : Nat} {ad ad1 ad2 : Nat → Nat} {hf : e_H} (h1 : e_ag n0 ad ad1) (hn : n0 ≤ n1) (hx : (n1 = n0 ∧ ad1 = ad) ∨ n0 < hf.length) (h2 : e_N n1 ad1 hf ad2) : e_N n0 ad hf ad2 := by
  refine ⟨fun k hk => ?_, fun hl => ?_⟩
  · rw [h2.1 k (hk.elim (fun z => Or.inl (Nat.lt_of_lt_of_le z hn)) Or.inr), h1 k hk]
  · rcases hx with ⟨z1, z2⟩ | z
    · rw [h2.2 (hl.trans z1.symm), z2]
    · omega
theorem e_End.go {p : Program} {l : Launch} {e : Env} {R : Room} {s : State} {m : MethodId} {args : Array Value} {below : List Frame} {meth : Method} {c : Code} {y B0 : Nat} {D : va_G} {dA : Nat → ClassId} {n0 n1 : Nat} {ad ad1 : Nat → Nat} {x : Option Value ⊕ Nat} {hf : e_H} {C S : Nat} {Q : State → Prop}
    (h : e_End p l e R s m args below meth c y B0 D dA n0 ad x hf C S Q) (h1 : e_ag n0 ad ad1) (hn : n0 ≤ n1) (hx : (n1 = n0 ∧ ad1 = ad) ∨ n0 < hf.length) : e_End p l e R s m args below meth c y B0 D dA n1 ad1 x hf C S Q := by
  obtain ⟨a1, a2, a3⟩ := h
  refine ⟨?_, ?_, ?_⟩
  · intro v hv ins pc1 st1 ls1 H1 locs1 ad2 c1 s1 b1 b2 b3
    exact a1 v hv ins pc1 st1 ls1 H1 locs1 ad2 c1 s1 b1 b2 (b3.trans h1 hn hx)
  · intro E hE ins pc1 rest ls1 H1 locs1 ad2 c1 s1 b1 b2 b3 b4 b5
    exact a2 E hE ins pc1 rest ls1 H1 locs1 ad2 c1 s1 b1 b2 b3 b4 (b5.trans h1 hn hx)
  · intro E hE pc1 rest ls1 H1 locs1 ad2 c1 s1 q ce b1 b2
    exact a3 E hE pc1 rest ls1 H1 locs1 ad2 c1 s1 q ce b1 (b2.trans h1 hn hx)
/-- runs of n steps are right -/
def e_S (L : Nat) (xs : Nat → Int32) (n : Nat) : Prop :=
  ∀ (d y pc : Nat) (lo : e_L) (st : List Value) (h : e_H) (res : e_R), e_run L xs n d y pc lo st h = some res →
  ∀ (p : Program) (l : Launch) (e : Env) (R : Room) (s : State) (m : MethodId) (args : Array Value) (below : List Frame) (meth : Method) (c : Code) (H : Heap) (locs : List Loc) (cells slots : Nat) (Q : State → Prop) (ls : Array Slot) (ad : Nat → Nat) (B0 bS : Nat) (D : va_G) (dA : Nat → ClassId),
    e_F p l s m args meth c y → e_G L xs B0 bS D dA s → bS < B0 → ad e_SCR = bS → lo.length = e_ml y → e_lr ls ad lo → va_P D vwCl (e_w dA ad h) H → va_D (e_A B0) (e_w dA ad h) → va_S (e_A B0) s.heap H locs →
    d + 8 ≤ R.frames → 64 * d + 200 ≤ R.locals → cells + res.2.2.1 ≤ R.cells → slots + res.2.2.2 ≤ R.slots →
    e_End p l e R s m args below meth c y B0 D dA h.length ad res.1 res.2.1 (cells + res.2.2.1) (slots + res.2.2.2) Q →
    W p l e R s m args below meth c H locs cells slots Q (F0 m pc ls (st.map (e_mv ad)))
theorem e_row_of {y : Nat} {r : e_Row} (h : e_tabm[y]? = some r) : e_row y = r := by
  unfold e_row e_tab
  rw [List.getD_eq_getElem?_getD, List.getElem?_append_left (List.getElem?_eq_some_iff.mp h).1, h]
  rfl
theorem e_G.moved {L : Nat} {xs : Nat → Int32} {B0 bS : Nat} {D : va_G} {dA : Nat → ClassId} {s U : State} (G : e_G L xs B0 bS D dA s) (hbS : bS < B0) {locs : List Loc} {H : Heap} (hS : va_S (e_A B0) s.heap H locs) (hU : U.heap = H) (hW : s.WarmedH U.vm) : e_G L xs B0 bS D dA U := by
  obtain ⟨hB, hK, hX, hu, hN, hng, hao, hnc⟩ := G
  have hal : s.vm.Alike U.vm := hW.alike
  have hk : ∀ a : Nat, a < s.heap.size → ¬ e_A B0 a → H[a]? = s.heap[a]? := hS.2.1
  refine ⟨by rw [hU]; exact Nat.le_trans hB hS.1, hK.moved hal, ?_, ?_, ?_, fun w hw hg => ?_, hao.moved hal, trivial⟩
  · rw [hU]
    exact (hX.kept (hk bS (by omega) (Nat.not_le.mpr hbS))).moved hal
  · rw [hU]; exact (hu.kept hk).moved hal
  · rw [hU]; exact (hN.kept hk).moved hal
  · have h0 := hng w hw hg
    unfold e_ng at hg
    split at hg
    · exact va_tabs (A := #[]) (u := s.setVm U.vm) rfl rfl (by rw [Cond.castable_setVm hal]; exact h0)
    · exact va_tabs (A := #[]) (u := s.setVm U.vm) rfl rfl (by rw [Cond.declares_setVm hal]; exact h0)
    · exact va_Nw.warmM hW h0
    · cases hg
theorem e_G.calling {L : Nat} {xs : Nat → Int32} {B0 bS : Nat} {D : va_G} {dA : Nat → ClassId} {U : State} (G : e_G L xs B0 bS D dA U) (g : JFrame) (mk : MethodId) (a : Array Value) : e_G L xs B0 bS D dA (U.calling g mk a) := by
  obtain ⟨hB, hK, hX, hu, hN, hng, hao, hnc⟩ := G
  have hal : U.vm.Alike (U.calling g mk a).vm := Vm.Alike.refl U.vm
  exact ⟨hB, va_K.moved (u := U) hal hK, va_X.moved (u := U) hal hX, vx_Zq.moved (u := U) hal hu, vx_Zq.moved (u := U) hal hN, fun w hw hg => va_Nw.same (by
    unfold e_ng at hg
    split at hg
    · rfl
    · rfl
    · rfl
    · cases hg) (u := U) rfl (hng w hw hg), va_AO.moved (u := U) hal hao, trivial⟩
theorem e_Pc_blind {L : Nat} {xs : Nat → Int32} {B0 bS : Nat} {D : va_G} {dA : Nat → ClassId} {ad : Nat → Nat} {h : e_H} {av : List Value} : FrameBlind (e_Pc L xs B0 bS D dA ad h av) := fun a U g mk q => ⟨q.1, q.2.1.calling g mk a, q.2.2.1, q.2.2.2⟩
theorem e_cv_no {hh : List (Nat × Nat × Nat × Nat)} {pc : Nat} (h : e_cv pc hh = false) : ∀ x ∈ tableOf hh, covers x pc = false := by
  intro x hx
  unfold tableOf at hx
  obtain ⟨q, hq, rfl⟩ := List.mem_map.mp hx
  unfold e_cv at h
  have := List.any_eq_false.mp h q hq
  simp only [decide_eq_true_eq] at this
  unfold covers
  simpa using this
