section E13
variable {l : Launch} {L : Nat} {xs : Nat → Int32} {n B0 bS : Nat} {D : va_G} {dA : Nat → ClassId} {ad : Nat → Nat} {h : e_H} {av : List Value}
theorem e_thr_lt : ∀ q ∈ e_thr, q.2.2.2 < 4 := by decide +kernel
theorem e_vx_ot {w : Cond} (h : (goodWord w || e_ng w) = true) : vx_ot w = true := by
  unfold vx_ot
  cases hg : goodWord w with
  | true => simp
  | false =>
    rw [hg] at h
    simp only [Bool.false_or] at h
    unfold e_ng at h
    split at h
    · rfl
    · rfl
    · rfl
    · cases h
theorem e_wd {args : Array Value} {s : State} {w : Cond} (hg : ∀ w ∈ lw_tbl, goodWord w = true → w.before args s = true) (hn : ∀ w ∈ lw_tbl, e_ng w = true → va_Nw w s) (hw : w ∈ lw_tbl) (h : (goodWord w || e_ng w) = true) : w.before args s = true := by
  cases hx : goodWord w with
  | true => exact hg w hw hx
  | false =>
    rw [hx] at h
    simp only [Bool.false_or] at h
    have h0 := hn w hw h
    unfold e_ng at h
    split at h
    · exact va_Nw.use rfl h0
    · exact va_Nw.use rfl h0
    · exact va_Nw.use rfl h0
    · cases h
set_option maxHeartbeats 4000000 in
/-- the body of a method, from its frame's start -/
theorem e_body {d y : Nat} {res : e_R} (hS : e_S L xs n) (hrun : e_run L xs n d y 0 (e_en av (e_ml y)) [] h = some res) (hlen : (e_en av (e_ml y)).length = e_ml y) (hbS : bS < B0) (hsc : ad e_SCR = bS)
    {p : Program} {e : Env} {s : State} {m : MethodId} {below : List Frame} {meth : Method} {c : Code} (F : e_F p l s m (av.map (e_mv ad)).toArray meth c y) (V : e_B L xs B0 bS D dA ad h s) :
    W p l e (e_rm d res.2.2.1 res.2.2.2) s m (av.map (e_mv ad)).toArray below meth c s.heap [] 0 0 (vx_MQ below (e_Qc B0 D dA ad h.length res) (e_XC B0 D dA ad h.length res) (av.map (e_mv ad)).toArray s res.2.2.1 res.2.2.2 (e_A B0)) (entryFrame m (av.map (e_mv ad)).toArray (e_ml y)) := by
  obtain ⟨G, hP, hD⟩ := V
  have F2 := F
  obtain ⟨hx, hb, hr, hml, hown, hws, hlk, hin, hst, htb, hcn⟩ := F2
  have G2 := G
  obtain ⟨hB, hK, hX, hU, hN, hng, hao, hnc⟩ := G2
  rw [lg_entry_eq]
  refine hS d y 0 _ [] h res hrun p l e _ s m _ below meth c s.heap [] 0 0 _ _ ad B0 bS D dA F G hbS hsc hlen (e_lr_entry ad av (e_ml y) hlen) hP hD va_S.rf (Nat.le_refl _) (Nat.le_refl _) (by show 0 + res.2.2.1 ≤ res.2.2.1; omega) (by show 0 + res.2.2.2 ≤ res.2.2.2; omega) ⟨?_, ?_, ?_⟩
  · intro v hv ins pc1 st1 ls1 H1 locs1 ad1 c1 s1 b1 b2 b3 b4 b5 b6 b7 b8
    refine W.widen (k := res.2.2.1) (n := res.2.2.2) (by omega) (by omega) (vx_ret ?_)
    exact e_rn_ok F b1 b2 (fun t ht hW => ⟨⟨v, ad1, hv, rfl, b3, by rw [ht]; exact b4, b5⟩, b6.F ht⟩) b6.2.2
  · intro E hE ins pc1 rest ls1 H1 locs1 ad1 c1 s1 b1 b2 b2c b2l b3 b4 b5 b6 b7 b8
    unfold e_tw at b1
    split at b1
    · next idx =>
      split at b1
      · next ic E2 hq =>
        split at b1
        · next hdd =>
          obtain ⟨d3, d4, d7, hnil⟩ := hdd
          cases b1
          have hmem := e_ir2_mem hq
          obtain ⟨x1, x2, x3, x4⟩ := e_thr_ok _ hmem
          have hlt := e_thr_lt _ hmem
          refine vx_throw0 (own := e_cn (e_cy y)) (cls := e_xn E) (names := e_sup) hx hb hst hown x1 (by decide +kernel) (hws _ x2 rfl) (hws _ x3 rfl) (fun w hw => e_wd hws hng (x4 w hw).1 (x4 w hw).2) (fun w hw => ?_) hU hN b6 b2l b2 d3 d4 d7 (fun x hx => ?_) (by show 2 + 3 < d + 8; omega) (by show _ + (13 * 3 + 42) ≤ 64 * d + 200; omega) (by show c1 + 1 ≤ res.2.2.1; omega) (by show s1 + 6 ≤ res.2.2.2; omega) hlk (fun t hal hz hk => ?_) b6.2.2 (by omega) (by omega)
          · rcases List.mem_cons.mp hw with rfl | hw
            · rfl
            · rcases List.mem_cons.mp hw with rfl | hw
              · rfl
              · exact e_vx_ot (x4 w hw).2
          · rw [htb, hnil] at hx; cases hx
          · refine ⟨⟨E, ad1, hE, rfl, b3, b4.kept fun k q hk2 => hk q.1 (b4 k q hk2).lt, b5⟩, Nat.le_trans b6.1 hz, fun q q1 q2 => ?_⟩
            rw [hk q (Nat.lt_of_lt_of_le q1 b6.1)]
            exact b6.2.1 q q1 q2
        · cases b1
      · cases b1
    · cases b1
  · intro E hE pc1 rest ls1 H1 locs1 ad1 c1 s1 q ce b1 b3 b4 b5 b6 b6a b6b b6c b7 b8
    refine vx_out (fun x hx => ?_) hlk b6a b6b b6c (fun t ht hal => ⟨⟨E, ad1, hE, rfl, b3, by rw [ht]; exact b4, b5⟩, b6.F ht⟩) b6.2.2 (by omega) (by omega)
    rw [htb] at hx
    exact e_cv_no b1 x hx
set_option maxHeartbeats 4000000 in
theorem e_met {d y : Nat} {res : e_R} {r : e_Row} (hS : e_S L xs n) (hrun : e_run L xs n d y 0 (e_en av (e_ml y)) [] h = some res) (hlen : (e_en av (e_ml y)).length = e_ml y) (hrow : e_tabm[y]? = some r) (hcn : e_cn (e_cy y) = (e_nm y).cls) (hbS : bS < B0) (hsc : ad e_SCR = bS) (htr : l.stackTraces = false) :
    vx_Met l r.1 (e_cw r :: e_Ws) (e_rm d res.2.2.1 res.2.2.2) (e_Pc L xs B0 bS D dA ad h av) (e_Qc B0 D dA ad h.length res) (e_XC B0 D dA ad h.length res) res.2.2.1 res.2.2.2 (e_A B0) := by
  have hr := e_row_of hrow
  obtain ⟨o1, o2, o3, o4, o5, o6, o7, o8, o9⟩ := e_okm r (List.mem_of_getElem? hrow)
  have en : e_nm y = r.1 := by unfold e_nm; rw [hr]
  have eb : e_bc y = r.2.1 := by unfold e_bc; rw [hr]
  have em : e_ml y = r.2.2.1 := by unfold e_ml; rw [hr]
  have er : e_rt y = r.2.2.2.1 := by unfold e_rt; rw [hr]
  have eh : e_hh y = r.2.2.2.2.1 := by unfold e_hh; rw [hr]
  have hin2 : ∀ {s : State} {m : MethodId} {meth : Method}, s.methodNamed? r.1 = some m → s.vm.method? m = some meth → ((e_nm y).name = "<init>" → meth.name = "<init>") := fun a b z => (name_of_methodNamed a b).1.trans (by rw [← en]; exact z)
  by_cases hh : r.2.2.2.2.1 = []
  · have hcw : e_cw r = Cond.code r.1 r.2.1 r.2.2.1 r.2.2.2.1 := by unfold e_cw; rw [hh]
    refine vx_ofW (ws' := e_Ws) (cc := r.2.1) (maxL := r.2.2.1) (ret := r.2.2.2.1) o8 (by rw [hcw]) ?_
    intro p e s m args below meth c s₁ B hml ht hv
    obtain ⟨rfl, V⟩ := hv
    have hts := atoms_spec B.pre
    have hown : s.vm.findClass r.1.cls = some m.cls := findClass_of_methodNamed B.named
    have F : e_F p l s m (av.map (e_mv ad)).toArray meth c y := ⟨B.exec, B.bytes.trans eb.symm, B.returns.trans er.symm, hml.trans em.symm, by rw [hcn, en]; exact hown, fun w hw hg => hts w (List.mem_cons_of_mem _ (e_Ws_in hw hg)), B.notSynchronized, hin2 B.named B.method, htr, by
      rw [eh, hh]
      have : ∀ (t : List ExceptionTableEntry), (∀ x ∈ t, False) → t = [] := fun t h => by
        cases t with
        | nil => rfl
        | cons a b => exact (h a List.mem_cons_self).elim
      exact this _ ht, hcn⟩
    have := e_body (l := l) (e := e) (below := below) hS hrun hlen hbS hsc F V
    rw [em] at this
    exact this
  · have hcw : e_cw r = Cond.codeWith r.1 r.2.1 r.2.2.1 r.2.2.2.1 r.2.2.2.2.1 := by
      unfold e_cw
      split
      · next z => exact absurd z hh
      · rfl
    refine vx_ofWH (ws' := e_Ws) (cc := r.2.1) (maxL := r.2.2.1) (ret := r.2.2.2.1) (hh := r.2.2.2.2.1) o8 (by rw [hcw]) ?_
    intro p e s m args below meth c s₁ B hml hv
    obtain ⟨rfl, V⟩ := hv
    have hts := atoms_spec B.pre
    have hown : s.vm.findClass r.1.cls = some m.cls := findClass_of_methodNamed B.named
    have htab : c.exceptionTable.toList = tableOf r.2.2.2.2.1 := vx_table (x := r.1) B (by rw [← hcw]; exact hts _ List.mem_cons_self)
    have F : e_F p l s m (av.map (e_mv ad)).toArray meth c y := ⟨B.exec, B.bytes.trans eb.symm, B.returns.trans er.symm, hml.trans em.symm, by rw [hcn, en]; exact hown, fun w hw hg => hts w (List.mem_cons_of_mem _ (e_Ws_in hw hg)), B.notSynchronized, hin2 B.named B.method, htr, by rw [eh]; exact htab, hcn⟩
    have := e_body (l := l) (e := e) (below := below) hS hrun hlen hbS hsc F V
    rw [em] at this
    exact this
end E13
