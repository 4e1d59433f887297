/-! THE CLAIM OUT OF ONE WALK OF THE LAW'S BODY. Your part is whole_start (and what it stands on); all else here is the same for every law, but numbers. -/
def R_law : String := "ManyshiftloomLaw"
def lw_P (b : Addr) (xs : List Int32) (args : Array Value) (s : State) : Prop := args = #[.ref b] ∧ s.IntsAt b xs ∧ xs.length ≤ 260 ∧ (Jvm.Cond.and given_1 narrow_1).before args s = true
def lw_Q (_ : Array Value) (s : State) (o : Outcome) (t : State) : Prop := o = .returned (some (.int 1)) ∧ Framed s o t [] 600086 7301442
def lw_Z (below : List Frame) (a : Array Value) (s : State) : State → Prop := fun t => ∃ o, t.status = .running ∧ Ended t below o ∧ lw_Q a s o t
/-- the law's own end, with 1 on the stack, nothing written that was there before, its room as the claim has it -/
theorem lw_ret {p : Program} {l : Launch} {e : Env} {s : State} {m : MethodId} {below : List Frame} {meth : Method} {c : Code} {b : Nat} (hx : p.tables.exec = Jvm.exec) (hb : c.code = code) (hr : meth.sig.returnType = ret) (hlocks : meth.locks = false) {pc : Nat} {H : Heap} {ls : Array Slot} (hdg : decode code pc = .ok (.ireturn, 1)) : W p l e room_1 s m #[Value.ref b] below meth c H [] 600086 7301442 (lw_Z below #[Value.ref b] s) (F0 m pc ls [.int 1]) := by
  intro T hT X
  obtain ⟨fs, hret, hrun, hended, hW, hframe⟩ := X.leave (v := some (.int 1)) (hlocks := hlocks) (fun h => by rw [hr] at h; cases h)
  have hmeth' : T.vm.method? m = some meth := X.method'
  refine ⟨T.setFrames fs, ?_, .returned (some (.int 1)), hrun, hended, rfl, ⟨_, rfl⟩, hW, hframe⟩
  jvm_step X.here [X.here.top, hx, hb, hdg, hmeth', hr, ret, narrow_b1]
  (try refine ⟨rfl, ?_⟩); (try refine ⟨rfl, ?_⟩)
  first | (intro acts; rw [hret _ acts rfl rfl rfl]) | rw [hret _ _ rfl rfl rfl]
  exact Steps.refl _
/-- what holds at the law's entry: the machine, the code, the tables' words (any of lw_tbl by 'hts w (by decide +kernel)'), the script of L ints xs at the cell b, what the Statement gives of the start (any of its parts by flat_of_before) -/
def lw_At (p : Program) (s : State) (m : MethodId) (meth : Method) (c : Code) (b L : Nat) (xs : Nat → Int32) : Prop :=
  p.tables.exec = Jvm.exec ∧ c.code = code ∧ meth.sig.returnType = ret ∧ c.maxLocals = 2 ∧ s.vm.findClass R_law = some m.cls ∧ (∀ w ∈ lw_tbl, w.before #[Value.ref b] s = true) ∧ va_X b L xs s s.heap ∧ b < s.heap.size ∧ meth.locks = false ∧ (Jvm.Cond.and given_1 narrow_1).before #[Value.ref b] s = true ∧ c.exceptionTable.toList = []
theorem e_known {args : Array Value} {s : State} (hts : ∀ w ∈ lw_tbl, w.before args s = true) (ci : Nat) (q : vw_C) (h : vwCl[ci]? = some q) : ∃ (cC : ClassId) (iS : Nat → Nat), u_Kn s q.1 q.2.1 q.2.2 cC iS := by
  obtain ⟨o1, o2, o3, o4, o5, o6, o7⟩ := e_okcl ci q h
  exact u_known (ws := lw_tbl) hts o3 (hts _ o4)
theorem e_arr {args : Array Value} {s : State} {ty : FieldType} (h : (Cond.arrayClass ty).before args s = true) : ∃ cA : ClassId, ArrOfT s cA ty ∧ s.vm.findClass ("[" ++ ty.toString) = some cA := by
  obtain ⟨cA, kA, comp, h1, h2, h3⟩ := Cond.arrayClass_spec h
  exact ⟨cA, fun n z => ⟨fun k h => (by cases h), kA, h2, comp, h3⟩, h1⟩
theorem e_ao5 : Cond.arrayOver (.object RX3) ∈ lw_tbl := by decide +kernel
theorem e_zq : Cond.laysStatic Bundle.tN "UNASSIGNED_STACK" Bundle.steD ∈ lw_tbl ∧ Cond.laysStatic Bundle.tN "SUPPRESSED_SENTINEL" Bundle.listD ∈ lw_tbl ∧ Cond.initialized Bundle.tN ∈ lw_tbl := by decide +kernel
theorem e_zr : Cond.isRef (.static Bundle.tN "UNASSIGNED_STACK" Bundle.steD) ∈ flatC (Jvm.Cond.and given_1 narrow_1) ∧ Cond.isRef (.static Bundle.tN "SUPPRESSED_SENTINEL" Bundle.listD) ∈ flatC (Jvm.Cond.and given_1 narrow_1) := by decide +kernel
theorem e_law_row : e_row e_LAW = (yL_law, cL_law, maxLocals, ret, [], 0, 1) := rfl
theorem e_law_cn : e_cn (e_cy e_LAW) = R_law ∧ (e_nm e_LAW).cls = R_law ∧ (e_nm e_LAW).name ≠ "<init>" := by decide +kernel
theorem e_start {s : State} {b L : Nat} {xs : Nat → Int32} (hts : ∀ w ∈ lw_tbl, w.before #[Value.ref b] s = true) (hX : va_X b L xs s s.heap) (hgv : (Jvm.Cond.and given_1 narrow_1).before #[Value.ref b] s = true) : ∃ (D : va_G) (dA : Nat → ClassId), e_G L xs s.heap.size b D dA s := by
  have hfl := flat_of_before _ hgv
  have hk : ∀ ci : Nat, ∃ (cC : ClassId) (iS : Nat → Nat), ∀ q, vwCl[ci]? = some q → u_Kn s q.1 q.2.1 q.2.2 cC iS := fun ci => by
    cases hq : vwCl[ci]? with
    | none => exact ⟨0, fun _ => 0, fun q h => by cases h⟩
    | some q =>
      obtain ⟨cC, iS, h⟩ := e_known hts ci q hq
      exact ⟨cC, iS, fun q2 h2 => by cases h2; exact h⟩
  obtain ⟨a0, p0, f0⟩ := e_arr (hts _ e_ac0)
  obtain ⟨a3, p3, f3⟩ := e_arr (hts _ e_ac3)
  have hao := hts _ e_ao5
  obtain ⟨comp, cA, kA, g1, g2, g3, g4, g5⟩ := Cond.arrayOver_spec hao
  refine ⟨(fun ci => Classical.choose (hk ci), fun ci => Classical.choose (Classical.choose_spec (hk ci))), fun t => if t = 0 then a0 else if t = 1 then a0 else if t = 2 then a0 else if t = 3 then a3 else cA, Nat.le_refl _, ⟨fun ci q hq => Classical.choose_spec (Classical.choose_spec (hk ci)) q hq, fun k q hq => ?_⟩, hX, ?_, ?_, fun w hw hg => ?_, hao, trivial⟩
  · match k, hq with
    | 0, hq => cases hq; exact ⟨p0, f0⟩
    | 1, hq => cases hq; exact ⟨p0, f0⟩
    | 2, hq => cases hq; exact ⟨p0, f0⟩
    | 3, hq => cases hq; exact ⟨p3, f3⟩
    | 4, hq => cases hq; exact ⟨fun n z => ⟨fun k h => (by cases h), kA, g3, comp, g4⟩, kA, comp, g3, g4, g1, g5⟩
    | k + 5, hq => simp [e_tys] at hq
  · exact vx_Zqof (hts _ e_zq.1) (hts _ e_zq.2.2) (hfl _ e_zr.1) fun a ha => Nat.not_le.mpr ha
  · exact vx_Zqof (hts _ e_zq.2.1) (hts _ e_zq.2.2) (hfl _ e_zr.2) fun a ha => Nat.not_le.mpr ha
  · have h := hts w hw
    unfold e_ng at hg
    split at hg
    · exact va_Nw.of rfl h
    · exact va_Nw.of rfl h
    · exact va_Nw.of rfl h
    · cases hg
/-! the cells in another order: cell k of hQ is cell σ k of hI, its references named otherwise -/
def e_rs (σ : Nat → Nat) : va_E → va_E
  | .inl (t, n, .inr (.inr (.inr (.inr f)))) => .inl (t, n, .inr (.inr (.inr (.inr fun j => (f j).map σ))))
  | .inl x => .inl x
  | .inr (c, fs) => .inr (c, fs.map (e_mv σ))
def e_perm (σ : Nat → Nat) (hQ hI : e_H) : Prop := (∀ (k : Nat) (x : va_E), hQ[k]? = some x → hI[σ k]? = some (e_rs σ x)) ∧ (∀ i j, i < hQ.length → j < hQ.length → σ i = σ j → i = j)
theorem e_mv_co (ad σ : Nat → Nat) (v : Value) : e_mv (fun j => ad (σ j)) v = e_mv ad (e_mv σ v) := by cases v <;> rfl
theorem e_me_rs (dA : Nat → ClassId) (ad σ : Nat → Nat) (x : va_E) : e_me dA (fun j => ad (σ j)) x = e_me dA ad (e_rs σ x) := by
  rcases x with ⟨t, n, f | f | f | f | f⟩ | ⟨c, fs⟩
  · rfl
  · rfl
  · rfl
  · rfl
  · simp only [e_me, e_rs]
    congr 7
    funext j
    split
    · cases f j <;> rfl
    · rfl
  · simp only [e_me, e_rs, List.map_map]
    congr 2
    apply List.map_congr_left
    intro v _
    exact e_mv_co ad σ v
theorem e_perm_w {σ ad : Nat → Nat} {hQ hI : e_H} {dA : Nat → ClassId} (H : e_perm σ hQ hI) {k : Nat} {q : Nat × va_E} (h : (e_w dA (fun j => ad (σ j)) hQ)[k]? = some q) : (e_w dA ad hI)[σ k]? = some q ∧ k < hQ.length := by
  rw [e_w_get] at h
  cases hx : hQ[k]? with
  | none => rw [hx] at h; cases h
  | some x =>
    rw [hx] at h
    cases h
    refine ⟨?_, (List.getElem?_eq_some_iff.mp hx).1⟩
    rw [e_w_get, H.1 k x hx]
    show some (ad (σ k), e_me dA ad (e_rs σ x)) = some (ad (σ k), e_me dA (fun j => ad (σ j)) x)
    rw [e_me_rs dA ad σ x]
theorem e_perm_P {σ ad : Nat → Nat} {hQ hI : e_H} {dA : Nat → ClassId} {D : va_G} {H0 : Heap} (H : e_perm σ hQ hI) (h : va_P D vwCl (e_w dA ad hI) H0) : va_P D vwCl (e_w dA (fun j => ad (σ j)) hQ) H0 := fun k q hq => h _ _ (e_perm_w H hq).1
theorem e_perm_D {σ ad : Nat → Nat} {hQ hI : e_H} {dA : Nat → ClassId} {A : Nat → Prop} (H : e_perm σ hQ hI) (h : va_D A (e_w dA ad hI)) : va_D A (e_w dA (fun j => ad (σ j)) hQ) :=
  ⟨fun i j p q hp hq e => H.2 i j (e_perm_w H hp).2 (e_perm_w H hq).2 (h.1 _ _ p q (e_perm_w H hp).1 (e_perm_w H hq).1 e), fun k q hq => h.2 _ q (e_perm_w H hq).1⟩
/-- the law's constructor -/
def e_INI : Nat := 164
/-- what is owed of the abstract machine: on every script, behind the constructors, with the cells in another order, the law answers 1, within the room -/
def e_Goal : Prop := ∀ (L : Nat) (xs : Nat → Int32), L ≤ 260 → ∃ (nI : Nat) (hI hQ : e_H) (aI bI : Nat) (σ : Nat → Nat) (n : Nat) (h : e_H) (a b : Nat),
  e_run L xs nI 990 e_INI 0 (e_en [.ref 0] (e_ml e_INI)) [] [.inr (10, e_df 10)] = some (.inl none, hI, aI, bI) ∧ e_perm σ hQ hI ∧ σ e_SCR = e_SCR ∧ σ 184 = 0 ∧
  e_run L xs n 1000 e_LAW 7 [some (.ref e_SCR), none] [.ref 184] hQ = some (.inl (some (.int 1)), h, a, b) ∧ 1 + aI + a ≤ 600086 ∧ 34 + bI + b ≤ 7301442
theorem e_ini_call : e_ir2 e_call (e_cy e_LAW) 311 = some (e_INI, 0) := by decide +kernel
theorem e_ini_row : e_tabm[e_INI]? = some (e_row e_INI) := by
  obtain ⟨r, h, -⟩ := e_call_ok _ (e_ir2_mem e_ini_call)
  have h2 : e_tabm[e_INI]? = some r := h
  rw [e_row_of h2]
  exact h2
theorem e_ini_np : e_np e_INI = 0 ∧ e_kd e_INI = 2 ∧ e_INI < 188 ∧ (e_en [.ref 0] (e_ml e_INI)).length = e_ml e_INI := by decide +kernel
theorem e_ini_mk : e_mk e_LAW (.new 11) [] = some (3, [], .inr (10, e_df 10), 34) := by
  unfold e_mk
  simp only
  rw [show e_ir e_new (e_cy e_LAW) 11 = some 10 from by decide +kernel]
  rfl
set_option maxHeartbeats 4000000 in
/-- the law's walk, out of the abstract machine's run -/
theorem e_whole (hev : e_Goal) {p : Program} {e : Env} {s : State} {m : MethodId} {below : List Frame} {meth : Method} {c : Code} (l : Launch) (hflags : l.flags = flags0) {b L : Nat} {xs : Nat → Int32} (hL : L ≤ 260) (C0 : lw_At p s m meth c b L xs) : W p l e room_1 s m #[Value.ref b] below meth c s.heap [] 0 0 (lw_Z below #[Value.ref b] s) (entryFrame m ([Value.ref b] : List Value).toArray 2) := by
  obtain ⟨hx, hb, hr, hml, hown, hts, hX, hbl, hlocks, hgv, htb⟩ := C0
  obtain ⟨nI, hI, hQ, aI, bI, σ, n, hf, a, k, hrunI, hpm, hs1, hs2, hrun, ha, hk⟩ := hev L xs hL
  obtain ⟨D, dA, G⟩ := e_start hts hX hgv
  obtain ⟨n1, n2, n3⟩ := e_law_cn
  have hst : l.stackTraces = false := by
    unfold Launch.stackTraces
    rw [hflags]
    decide +kernel
  have F : e_F p l s m #[Value.ref b] meth c e_LAW := ⟨hx, hb, hr, hml, by rw [n1]; exact hown, fun w hw _ => hts w hw, hlocks, fun z => absurd z n3, hst, htb, n1.trans n2.symm⟩
  rw [lg_entry_eq]
  have hle : (e_en [.ref e_SCR] 2).length = 2 := by decide
  have hlr := e_lr_entry (fun _ => b) [.ref e_SCR] 2 hle
  generalize hls : ((lg_sl ([Value.ref e_SCR].map (e_mv fun _ => b)) ++ List.replicate (2 - (lg_sl ([Value.ref e_SCR].map (e_mv fun _ => b))).length) Slot.unset).toArray : Array Slot) = ls at hlr
  have hls2 : ((lg_sl ([Value.ref b] : List Value) ++ List.replicate (2 - (lg_sl ([Value.ref b] : List Value)).length) Slot.unset).toArray : Array Slot) = ls := hls
  rw [hls2]
  -- new
  refine e_mk_ok (h := []) (st := []) (ad := fun _ => b) (ls := ls) F G (fun k q h => by simp [e_w] at h) ⟨fun i j x y h => by simp [e_w] at h, fun k q h => by simp [e_w] at h⟩ va_S.rf e_ini_mk (by decide +kernel) (by decide) rfl rfl (by decide) (by decide) fun q H1 p1 p2 p3 => ?_
  generalize had1 : e_nw (fun _ => b) ([] : e_H).length q = ad1 at p1 p2
  have hsc1 : ad1 e_SCR = b := by rw [← had1]; rfl
  have hlr1 : e_lr ls ad1 [some (.ref e_SCR), none] := by
    refine ⟨hlr.1, hlr.2.1, fun i v hv => ?_⟩
    have h0 := hlr.2.2 i v hv
    match i, hv with
    | 0, hv => cases hv; rw [h0]; show some (Slot.val (Value.ref b)) = some (Slot.val (Value.ref (ad1 e_SCR))); rw [hsc1]
    | 1, hv => cases hv
    | i + 2, hv => cases hv
  -- dup
  refine e_op_ok (ins := .dup) (n := 1) (ad := ad1) (st := [.ref 0]) (st2 := [.ref 0, .ref 0]) hx hb hlr1 rfl (by decide +kernel) ?_
  -- the constructor
  have F2 := F
  obtain ⟨gx, gb, gr9, gml, gown, gws, glk, gin, gstt, gtb, gcn⟩ := F2
  have hts2 : ∀ w ∈ e_Ws, w.before #[Value.ref b] s = true := fun w hw => gws w (List.mem_filter.mp hw).1 (List.mem_filter.mp hw).2
  obtain ⟨i1, i2, i3, i4⟩ := e_ini_np
  have hrow := e_ini_row
  obtain ⟨o1, o2, o3, o4, o5, o6, o7, o8, o9⟩ := id (e_okm _ (List.mem_of_getElem? hrow))
  have hok := e_okm _ (List.mem_of_getElem? hrow)
  obtain ⟨r, hrow2, hlink⟩ := e_call_ok _ (e_ir2_mem e_ini_call)
  have hreq : r = e_row e_INI := Option.some.inj (hrow2.symm.trans hrow)
  subst hreq
  have hcy2 := e_cn_tab e_INI i3
  have hfix : CallFix p m c (e_bc e_LAW) ls.size s #[Value.ref b] e_Ws (e_cn (e_cy e_LAW)) := ⟨gx, gb, by rw [gml, hlr.1, hle]; rfl, gown, hts2⟩
  obtain ⟨s1, s2, s3⟩ := o6 i2
  have hcw : e_cw (e_row e_INI) = Cond.code (e_row e_INI).1 (e_row e_INI).2.1 (e_row e_INI).2.2.1 none := by unfold e_cw; rw [s3, s2]
  have hM := e_met (l := l) (D := D) (dA := dA) (B0 := s.heap.size) (bS := b) (ad := ad1) (e_sound nI) hrunI i4 hrow hcy2 hbl hsc1 hst
  have hg : GoodIn e_Ws (e_cw (e_row e_INI) :: e_Ws) := e_ws_good (ws := []) hok (fun w hw => by cases hw)
  have hroom : (e_rm 990 aI bI).frames + 1 ≤ room_1.frames ∧ 8 + ((e_row e_INI).2.2.1 + 11) + (e_rm 990 aI bI).locals ≤ room_1.locals := by
    show (990 + 8) + 1 ≤ 2048 ∧ 8 + ((e_row e_INI).2.2.1 + 11) + (64 * 990 + 200) ≤ 84000
    omega
  have hpre : ∀ U : State, U.heap = H1 → s.WarmedH U.vm → e_Pc L xs s.heap.size b D dA ad1 [.inr (10, e_df 10)] [.ref 0] (.ref (ad1 0) :: ([] : List Value)).toArray U := fun U hU hW => ⟨rfl, G.moved hbl p3 hU hW, by rw [hU]; exact p1, p2⟩
  have hz1 : Cond.methodLink (e_cn (e_cy e_LAW)) 311 (e_row e_INI).1 ∈ lw_tbl := by
    rcases hlink with ⟨-, z⟩ | ⟨z, -⟩
    · exact z
    · cases z
  have hRun := vx_runI (e := e) (below := below) (meth := meth) (locs := []) (b := ad1 0) (As := []) (rest := [.ref (ad1 0)]) (g := F0 m 4 ls [.ref (ad1 0), .ref (ad1 0)]) hfix hM (cwI (ws' := e_Ws) (bytes := (e_row e_INI).2.1) (maxL := (e_row e_INI).2.2.1) _ hts2 hg (by rw [hcw]) rfl rfl (gws _ o2 rfl) (gws _ hz1 rfl) (gws _ (o4 (by rw [show (e_row e_INI).2.2.2.2.2.1 = 2 from i2]; decide)) rfl) s1 o7 hroom) ⟨e_Pc_blind, hpre⟩ rfl (by decide +kernel) rfl rfl (by show 2 * 0 + 1 ≤ 8; omega) (show decode (e_bc e_LAW) 4 = .ok (.invokespecial 311, 3) from by decide +kernel) ⟨by show 0 + 1 + aI ≤ 600086; omega, by show 0 + 34 + bI ≤ 7301442; omega⟩
  intro T hT X
  rcases hRun T hT X with ⟨v1, st₀, t, T', L1, h0, X', hL1, e1, e2, ⟨⟨v2, ad2, g1, g2, g3, g4, g5⟩, hFr⟩, hst2⟩ | ⟨q9, st₀, t, T', L1, E, ce, h0, X', hL1, e1, e2, ⟨⟨i, ad2, g1, -⟩, -⟩, -⟩
  · cases g1
    cases g2
    obtain ⟨k1, k2, k3⟩ := vx_keep h0 e1 p3 (fun _ _ z => z) (fun _ z => z) hL1 hFr
    rw [← e1] at g4
    have hsc2 : ad2 e_SCR = b := (g3.1 _ (Or.inr rfl)).trans hsc1
    have hz : ad2 0 = ad1 0 := g3.1 0 (Or.inl (by decide))
    have hlr3 : e_lr ls (fun j => ad2 (σ j)) [some (.ref e_SCR), none] := by
      refine ⟨hlr1.1, hlr1.2.1, fun i v hv => ?_⟩
      have h0 := hlr1.2.2 i v hv
      match i, hv with
      | 0, hv =>
        cases hv
        rw [h0]
        show some (Slot.val (Value.ref (ad1 e_SCR))) = some (Slot.val (Value.ref (ad2 (σ e_SCR))))
        rw [hs1, hsc1, hsc2]
      | 1, hv => cases hv
      | i + 2, hv => cases hv
    have hgo := e_sound n 1000 e_LAW 7 [some (.ref e_SCR), none] [.ref 184] hQ _ hrun p l e room_1 s m #[Value.ref b] below meth c T'.heap ([] ++ L1) (0 + 1 + aI) (0 + 34 + bI) (lw_Z below #[Value.ref b] s) ls (fun j => ad2 (σ j)) s.heap.size b D dA F G hbl (by show ad2 (σ e_SCR) = b; rw [hs1, hsc2]) rfl hlr3 (e_perm_P hpm g4) (e_perm_D hpm g5) k3 (by decide) (by decide) (by show 0 + 1 + aI + a ≤ 600086; omega) (by show 0 + 34 + bI + k ≤ 7301442; omega) ⟨?_, ?_, ?_⟩
    · obtain ⟨t2, a1, b1⟩ := hgo T' rfl X'
      refine ⟨t2, hst2 t2 ?_, b1⟩
      have hstk : ([Value.ref 184] : List Value).map (e_mv fun j => ad2 (σ j)) = [Value.ref (ad1 0)] := by
        show [Value.ref (ad2 (σ 184))] = _
        rw [hs2, hz]
      rw [hstk] at a1
      exact a1
    · intro v hv ins pc1 st1 ls1 H2 locs1 ad3 c1 s1 b1 b2 b3 b4 b5 b6 b7 b8
      cases hv
      have hq : ins = .ireturn ∧ st1 = [.int 1] := by
        unfold e_rn at b1
        split at b1
        · split at b1 <;> cases b1
        · split at b1
          · split at b1
            · cases b1; exact ⟨rfl, rfl⟩
            · cases b1
          · cases b1
        · split at b1 <;> cases b1
        · split at b1 <;> cases b1
        · split at b1 <;> cases b1
        · split at b1 <;> cases b1
        · split at b1 <;> cases b1
        · cases b1
      obtain ⟨rfl, rfl⟩ := hq
      simp only at b7 b8
      refine va_forget b6.2.2 (W.widen (k := 600086) (n := 7301442) (by omega) (by omega) ?_)
      exact lw_ret hx hb hr hlocks b2
    · intro E hE
      cases hE
    · intro E hE
      cases hE
  · cases g1
