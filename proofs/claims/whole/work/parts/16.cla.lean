/-! THE CLAIM OUT OF ONE WALK OF THE LAW'S BODY. Your part is whole_start (and what it stands on); all else here is the same for every law, but numbers. -/
def R_law : String := "ManyshiftloomLaw"
def lw_P (b : Addr) (xs : List Int32) (args : Array Value) (s : State) : Prop := args = #[.ref b] ∧ s.IntsAt b xs ∧ xs.length ≤ 3072 ∧ (Jvm.Cond.and given_1 narrow_1).before args s = true
/-- what a walk over the start with the record d0 says of its end, said of the start itself -/
theorem lw_closed {s t : State} {o : Outcome} {d0 : Drawn} {L : List Loc} {k n : Nat} (hd0 : s.drawn.sameBut d0 lw_cs) (hv : ∃ v, o = .returned v) (hW : (s.setDrawn d0).WarmedH t.vm) (hs : (s.setDrawn d0).sameButNew ({ t with vm := s.vm } : State) L k n) : State.butDraws s t lw_cs (fun t1 => Framed s o t1 L k n) := by
  have h2 : t.drawn = d0 := congrArg State.drawn hs.1
  refine ⟨⟨hv, hW, State.sameButNew.setDrawn hs s.drawn⟩, ?_, by decide⟩
  rw [h2]
  exact hd0
def lw_Q (_ : Array Value) (s : State) (o : Outcome) (t : State) : Prop := o = .returned (some (.int 1)) ∧ State.butDraws s t lw_cs (fun t1 => Framed s o t1 [] 601024 7293034)
def lw_Z (below : List Frame) (a : Array Value) (s : State) : State → Prop := fun t => ∃ o, t.status = .running ∧ Ended t below o ∧ lw_Q a s o t
/-- the law's own end, with 1 on the stack, nothing written that was there before, its room as the claim has it; d0: the record of draws at this point (at the entry s.drawn: begin with 'refine W.base ?_' and 'have hd0 := Drawn.sameBut.refl s.drawn lw_cs') -/
theorem lw_ret {p : Program} {l : Launch} {e : Env} {s : State} {m : MethodId} {below : List Frame} {meth : Method} {c : Code} {b : Nat} {d0 : Drawn} (hd0 : s.drawn.sameBut d0 lw_cs) (hx : p.tables.exec = Jvm.exec) (hb : c.code = code) (hr : meth.sig.returnType = ret) (hlocks : meth.locks = false) {pc : Nat} {H : Heap} {ls : Array Slot} (hdg : decode code pc = .ok (.ireturn, 1)) : W p l e room_1 (s.setDrawn d0) m #[Value.ref b] below meth c H [] 601024 7293034 (lw_Z below #[Value.ref b] s) (F0 m pc ls [.int 1]) := by
  intro T hT X
  obtain ⟨fs, hret, hrun, hended, hW, hframe⟩ := X.leave (v := some (.int 1)) (hlocks := hlocks) (fun h => by rw [hr] at h; cases h)
  have hmeth' : T.vm.method? m = some meth := X.method'
  refine ⟨T.setFrames fs, ?_, .returned (some (.int 1)), hrun, hended, rfl, lw_closed hd0 ⟨_, rfl⟩ hW hframe⟩
  jvm_step X.here [X.here.top, hx, hb, hdg, hmeth', hr, ret, narrow_b1]
  (try refine ⟨rfl, ?_⟩); (try refine ⟨rfl, ?_⟩)
  first | (intro acts; rw [hret _ acts rfl rfl rfl]) | rw [hret _ _ rfl rfl rfl]
  exact Steps.refl _
/-- what holds at the law's entry: the machine, the code, the tables' words (any of lw_tbl by 'hts w (by decide +kernel)'), the script of L ints xs at the cell b, what the Statement gives of the start (any of its parts by flat_of_before) -/
def lw_At (p : Program) (s : State) (m : MethodId) (meth : Method) (c : Code) (b L : Nat) (xs : Nat → Int32) : Prop :=
  p.tables.exec = Jvm.exec ∧ c.code = code ∧ meth.sig.returnType = ret ∧ c.maxLocals = 9 ∧ s.vm.findClass R_law = some m.cls ∧ (∀ w ∈ lw_tbl, w.before #[Value.ref b] s = true) ∧ va_X b L xs s s.heap ∧ b < s.heap.size ∧ meth.locks = false ∧ (Jvm.Cond.and given_1 narrow_1).before #[Value.ref b] s = true ∧ c.exceptionTable.toList = []
/-- what is owed of the abstract machine: on every script it answers 1, within the room -/
def e_Goal : Prop := ∀ (L : Nat) (xs : Nat → Int32), L ≤ 3072 → ∃ (n : Nat) (h : e_H) (a b : Nat), e_run L xs n 1000 e_LAW 0 (e_en [.ref e_SCR] 9) [] [] = some (.inl (some (.int 1)), h, a, b) ∧ a ≤ 601024 ∧ b ≤ 7293034
theorem e_known {args : Array Value} {s : State} (hts : ∀ w ∈ lw_tbl, w.before args s = true) (ci : Nat) (q : vw_C) (h : vwCl[ci]? = some q) : ∃ (cC : ClassId) (iS : Nat → Nat), u_Kn s q.1 q.2.1 q.2.2 cC iS := by
  obtain ⟨o1, o2, o3, o4, o5, o6, o7⟩ := e_okcl ci q h
  exact u_known (ws := lw_tbl) hts o3 (hts _ o4)
theorem e_arr {args : Array Value} {s : State} {ty : FieldType} (h : (Cond.arrayClass ty).before args s = true) : ∃ cA : ClassId, ArrOfT s cA ty ∧ s.vm.findClass ("[" ++ ty.toString) = some cA := by
  obtain ⟨cA, kA, comp, h1, h2, h3⟩ := Cond.arrayClass_spec h
  exact ⟨cA, fun n z => ⟨fun k h => (by cases h), kA, h2, comp, h3⟩, h1⟩
theorem e_ao5 : Cond.arrayOver (.object RX3) ∈ lw_tbl := by decide +kernel
theorem e_zq : Cond.laysStatic Bundle.tN "UNASSIGNED_STACK" Bundle.steD ∈ lw_tbl ∧ Cond.laysStatic Bundle.tN "SUPPRESSED_SENTINEL" Bundle.listD ∈ lw_tbl ∧ Cond.initialized Bundle.tN ∈ lw_tbl := by decide +kernel
theorem e_zr : Cond.isRef (.static Bundle.tN "UNASSIGNED_STACK" Bundle.steD) ∈ flatC (Jvm.Cond.and given_1 narrow_1) ∧ Cond.isRef (.static Bundle.tN "SUPPRESSED_SENTINEL" Bundle.listD) ∈ flatC (Jvm.Cond.and given_1 narrow_1) := by decide +kernel
theorem e_ncs : ∀ i, i < 4 → ∀ j, j < 4 → i ≠ j → Cond.not (.castable (e_xn i) (e_xn j)) ∈ flatC (Jvm.Cond.and given_1 narrow_1) := by decide +kernel
theorem e_law_row : e_row e_LAW = (yL_law, cL_law, maxLocals, ret, [], 0, 1) := rfl
theorem e_law_cn : e_cn (e_cy e_LAW) = R_law ∧ (e_nm e_LAW).cls = R_law ∧ (e_nm e_LAW).name ≠ "<init>" := by decide +kernel
theorem e_start {s : State} {b L : Nat} {xs : Nat → Int32} (hts : ∀ w ∈ lw_tbl, w.before #[Value.ref b] s = true) (hX : va_X b L xs s s.heap) (hgv : (Jvm.Cond.and given_1 narrow_1).before #[Value.ref b] s = true) : ∃ (D : va_G) (dA : Nat → ClassId), e_G L xs s.heap.size b D dA s := by
  have hfl := flat_of_before _ hgv
  have hk : ∀ ci : Nat, ∃ (cC : ClassId) (iS : Nat → Nat), ∀ q, vwCl[ci]? = some q → u_Kn s q.1 q.2.1 q.2.2 cC iS := fun ci => by
    cases hq : vwCl[ci]? with
    | none => exact ⟨0, fun _ => 0, fun q h => by cases h⟩
    | some q =>
      obtain ⟨cC, iS, h⟩ := e_known hts ci q hq
      exact ⟨cC, iS, fun q2 h2 => by cases h2; exact h⟩
  obtain ⟨a0, p0, f0⟩ := e_arr (hts _ e_ac0)
  obtain ⟨a1, p1, f1⟩ := e_arr (hts _ e_ac1)
  obtain ⟨a2, p2, f2⟩ := e_arr (hts _ e_ac2)
  obtain ⟨a3, p3, f3⟩ := e_arr (hts _ e_ac3)
  have hao := hts _ e_ao5
  obtain ⟨comp, cA, kA, g1, g2, g3, g4, g5⟩ := Cond.arrayOver_spec hao
  refine ⟨(fun ci => Classical.choose (hk ci), fun ci => Classical.choose (Classical.choose_spec (hk ci))), fun t => if t = 0 then a0 else if t = 1 then a1 else if t = 2 then a2 else if t = 3 then a3 else cA, Nat.le_refl _, ⟨fun ci q hq => Classical.choose_spec (Classical.choose_spec (hk ci)) q hq, fun k q hq => ?_⟩, hX, ?_, ?_, fun w hw hg => ?_, hao, fun i j hi hj hn => va_Nc.of (hfl _ (e_ncs i hi j hj hn))⟩
  · match k, hq with
    | 0, hq => cases hq; exact ⟨p0, f0⟩
    | 1, hq => cases hq; exact ⟨p1, f1⟩
    | 2, hq => cases hq; exact ⟨p2, f2⟩
    | 3, hq => cases hq; exact ⟨p3, f3⟩
    | 4, hq => cases hq; exact ⟨fun n z => ⟨fun k h => (by cases h), kA, g3, comp, g4⟩, kA, comp, g3, g4, g1, g5⟩
    | k + 5, hq => simp [e_tys] at hq
  · exact vx_Zqof (hts _ e_zq.1) (hts _ e_zq.2.2) (hfl _ e_zr.1) fun a ha => Nat.not_le.mpr ha
  · exact vx_Zqof (hts _ e_zq.2.1) (hts _ e_zq.2.2) (hfl _ e_zr.2) fun a ha => Nat.not_le.mpr ha
  · have h := hts w hw
    unfold e_ng at hg
    split at hg
    · exact va_Nw.of rfl h
    · exact va_Nw.of rfl h
    · exact va_Nw.of rfl h
    · cases hg
set_option maxHeartbeats 4000000 in
/-- the law's walk, out of the abstract machine's run -/
theorem e_whole (hev : e_Goal) {p : Program} {e : Env} {s : State} {m : MethodId} {below : List Frame} {meth : Method} {c : Code} (l : Launch) (hflags : l.flags = flags0) {b L : Nat} {xs : Nat → Int32} (hL : L ≤ 3072) (C0 : lw_At p s m meth c b L xs) : W p l e room_1 s m #[Value.ref b] below meth c s.heap [] 0 0 (lw_Z below #[Value.ref b] s) (entryFrame m ([Value.ref b] : List Value).toArray 9) := by
  obtain ⟨hx, hb, hr, hml, hown, hts, hX, hbl, hlocks, hgv, htb⟩ := C0
  obtain ⟨n, hf, a, k, hrun, ha, hk⟩ := hev L xs hL
  obtain ⟨D, dA, G⟩ := e_start hts hX hgv
  obtain ⟨n1, n2, n3⟩ := e_law_cn
  have hst : l.stackTraces = false := by
    unfold Launch.stackTraces
    rw [hflags]
    decide +kernel
  have F : e_F p l s m #[Value.ref b] meth c e_LAW := ⟨hx, hb, hr, hml, by rw [n1]; exact hown, fun w hw _ => hts w hw, hlocks, fun z => absurd z n3, hst, htb, n1.trans n2.symm⟩
  rw [lg_entry_eq]
  have hle : (e_en [.ref e_SCR] 9).length = 9 := by decide
  have hlr := e_lr_entry (fun _ => b) [.ref e_SCR] 9 hle
  refine e_sound n 1000 e_LAW 0 _ [] [] _ hrun p l e room_1 s m #[Value.ref b] below meth c s.heap [] 0 0 _ _ (fun _ => b) s.heap.size b D dA F G hbl rfl hle hlr (fun k q h => by simp [e_w] at h) ⟨fun i j x y h => by simp [e_w] at h, fun k q h => by simp [e_w] at h⟩ va_S.rf (by decide) (by decide) (by show 0 + a ≤ 601024; omega) (by show 0 + k ≤ 7293034; omega) ⟨?_, ?_, ?_⟩
  · intro v hv ins pc1 st1 ls1 H1 locs1 ad1 c1 s1 b1 b2 b3 b4 b5 b6 b7 b8
    cases hv
    have hq : ins = .ireturn ∧ st1 = [.int 1] := by
      unfold e_rn at b1
      split at b1
      · split at b1 <;> cases b1
      · split at b1
        · split at b1
          · cases b1; exact ⟨rfl, rfl⟩
          · cases b1
        · cases b1
      · split at b1 <;> cases b1
      · split at b1 <;> cases b1
      · split at b1 <;> cases b1
      · split at b1 <;> cases b1
      · split at b1 <;> cases b1
      · cases b1
    obtain ⟨rfl, rfl⟩ := hq
    simp only at b7 b8
    refine va_forget b6.2.2 (W.widen (k := 601024) (n := 7293034) (by omega) (by omega) (W.base ?_))
    exact lw_ret (Drawn.sameBut.refl s.drawn lw_cs) hx hb hr hlocks b2
  · intro E hE
    cases hE
  · intro E hE
    cases hE
