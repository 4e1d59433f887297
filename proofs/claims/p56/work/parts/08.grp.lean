/-! one instruction of each kind, over the machine -/
section E8
variable {p : Program} {l : Launch} {e : Env} {R : Room} {s : State} {m : MethodId} {args : Array Value} {below : List Frame} {meth : Method} {c : Code} {H : Heap} {locs : List Loc} {cells slots : Nat} {Q : State → Prop}
variable {cc : ByteArray} {pc : Nat} {ls : Array Slot} {lo : e_L} {ad : Nat → Nat} {st st2 : List Value} {n : Nat} {ins : Instr}
theorem e_ildi_ok {i : Nat} (h : e_ildi lo i st = some st2) : ∃ x, e_ld lo i = some (.int x) ∧ st2 = .int x :: st := by
  unfold e_ildi at h
  split at h
  · next x hx => cases h; exact ⟨x, hx, rfl⟩
  · cases h
theorem e_ildl_ok {i : Nat} (h : e_ildl lo i st = some st2) : ∃ x, e_ld lo i = some (.long x) ∧ st2 = .long x :: st := by
  unfold e_ildl at h
  split at h
  · next x hx => cases h; exact ⟨x, hx, rfl⟩
  · cases h
theorem e_ildf_ok {i : Nat} (h : e_ildf lo i st = some st2) : ∃ x, e_ld lo i = some (.float x) ∧ st2 = .float x :: st := by
  unfold e_ildf at h
  split at h
  · next x hx => cases h; exact ⟨x, hx, rfl⟩
  · cases h
theorem e_ildd_ok {i : Nat} (h : e_ildd lo i st = some st2) : ∃ x, e_ld lo i = some (.double x) ∧ st2 = .double x :: st := by
  unfold e_ildd at h
  split at h
  · next x hx => cases h; exact ⟨x, hx, rfl⟩
  · cases h
theorem e_ilda_ok {i : Nat} (h : e_ilda lo i st = some st2) : (∃ x, e_ld lo i = some (.ref x) ∧ st2 = .ref x :: st) ∨ (e_ld lo i = some .null ∧ st2 = .null :: st) := by
  unfold e_ilda at h
  split at h
  · next x hx => cases h; exact Or.inl ⟨x, hx, rfl⟩
  · next hx => cases h; exact Or.inr ⟨hx, rfl⟩
  · cases h
theorem e_map_ok {α β : Type} {o : Option α} {f : α → β} {b : β} (h : o.map f = some b) : ∃ a, o = some a ∧ f a = b := by
  cases o with
  | none => cases h
  | some a => exact ⟨a, rfl, Option.some.inj h⟩
set_option maxHeartbeats 4000000 in
theorem e_op_ok (hx : p.tables.exec = Jvm.exec) (hb : c.code = cc) (hl : e_lr ls ad lo) (h : e_op ins lo st = some (n, st2)) (hd : decode cc pc = .ok (ins, n))
    (k : W p l e R s m args below meth c H locs cells slots Q (F0 m (pc + n) ls (st2.map (e_mv ad)))) : W p l e R s m args below meth c H locs cells slots Q (F0 m pc ls (st.map (e_mv ad))) := by
  unfold e_op at h
  split at h
  · obtain ⟨s2, h1, h2⟩ := e_map_ok h; cases h2; obtain ⟨x, h3, rfl⟩ := e_ildi_ok h1; exact lv_iload hx hb hd (hl.ld h3) k
  · obtain ⟨s2, h1, h2⟩ := e_map_ok h; cases h2; obtain ⟨x, h3, rfl⟩ := e_ildi_ok h1; exact lv_iload_n hx hb hd rfl (hl.ld h3) k
  · obtain ⟨s2, h1, h2⟩ := e_map_ok h; cases h2; obtain ⟨x, h3, rfl⟩ := e_ildl_ok h1; exact lv_lload hx hb hd (hl.ld h3) k
  · obtain ⟨s2, h1, h2⟩ := e_map_ok h; cases h2; obtain ⟨x, h3, rfl⟩ := e_ildl_ok h1; exact lv_lload_n hx hb hd rfl (hl.ld h3) k
  · obtain ⟨s2, h1, h2⟩ := e_map_ok h; cases h2; obtain ⟨x, h3, rfl⟩ := e_ildf_ok h1; exact lv_fload hx hb hd (hl.ld h3) k
  · obtain ⟨s2, h1, h2⟩ := e_map_ok h; cases h2; obtain ⟨x, h3, rfl⟩ := e_ildd_ok h1; exact lv_dload hx hb hd (hl.ld h3) k
  · obtain ⟨s2, h1, h2⟩ := e_map_ok h
    cases h2
    rcases e_ilda_ok h1 with ⟨x, h3, rfl⟩ | ⟨h3, rfl⟩
    · exact lv_aload hx hb hd (hl.ld h3) k
    · exact lv_aloadN hx hb hd (hl.ld h3) k
  · obtain ⟨s2, h1, h2⟩ := e_map_ok h
    cases h2
    rcases e_ilda_ok h1 with ⟨x, h3, rfl⟩ | ⟨h3, rfl⟩
    · exact lv_aload_n hx hb hd rfl (hl.ld h3) k
    · exact lv_aload_nN hx hb hd rfl (hl.ld h3) k
  · cases h; exact lv_iconst hx hb hd rfl k
  · cases h; exact lv_bipush hx hb hd rfl k
  · cases h; exact lv_sipush hx hb hd rfl k
  · cases h; exact lv_lconst hx hb hd rfl k
  · cases h; exact lv_null hx hb hd k
  · cases h; exact lv_iadd hx hb hd k
  · cases h; exact lv_isub hx hb hd k
  · cases h; exact lv_imul hx hb hd k
  · split at h
    · cases h
    · next hy => cases h; exact lv_idiv hx hb hd hy k
  · split at h
    · cases h
    · next hy => cases h; exact lv_irem hx hb hd hy k
  · cases h; exact lv_iand hx hb hd k
  · cases h; exact lv_ior hx hb hd k
  · cases h; exact lv_ixor hx hb hd k
  · cases h; exact lv_ishl hx hb hd k
  · cases h; exact lv_ishr hx hb hd k
  · cases h; exact lv_iushr hx hb hd rfl k
  · cases h; exact lv_ineg hx hb hd k
  · cases h; exact lv_i2c hx hb hd rfl k
  · cases h; exact lv_i2l hx hb hd rfl k
  · cases h; exact lv_i2d hx hb hd k
  · cases h; exact lv_i2f hx hb hd k
  · cases h; exact lv_ladd hx hb hd k
  · cases h; exact lv_lsub hx hb hd k
  · cases h; exact lv_lmul hx hb hd k
  · cases h; exact W.lcmp hx hb hd k
  · split at h
    · next hc => cases h; exact lv_dup hx hb hd ((e_mv_cat ad _).trans hc) k
    · cases h
  · split at h
    · next hc => cases h; exact lv_pop hx hb hd ((e_mv_cat ad _).trans hc) k
    · cases h
  · split at h
    · next hc => cases h; exact lv_dup2_11 hx hb hd ((e_mv_cat ad _).trans hc.1) ((e_mv_cat ad _).trans hc.2) k
    · cases h
  · cases h
set_option maxHeartbeats 4000000 in
theorem e_of_ok (hx : p.tables.exec = Jvm.exec) (hb : c.code = cc) (h : e_of ins st = some (n, st2)) (hd : decode cc pc = .ok (ins, n))
    (k : W p l e R s m args below meth c H locs cells slots Q (F0 m (pc + n) ls (st2.map (e_mv ad)))) : W p l e R s m args below meth c H locs cells slots Q (F0 m pc ls (st.map (e_mv ad))) := by
  unfold e_of at h
  split at h
  · split at h
    · next hn => subst hn; cases h; exact lv_fconst0 hx hb hd k
    · cases h
  · split at h
    · next hn => subst hn; cases h; exact lv_dconst0 hx hb hd k
    · cases h
  · split at h
    · next hn => cases h; exact lv_ddiv hx hb hd hn k
    · cases h
  · split at h
    · next hn => cases h; exact lv_fdiv hx hb hd hn k
    · cases h
  · split at h
    · next hn => cases h; exact lv_f2d hx hb hd hn k
    · cases h
  · cases h; exact lv_dcmp hx hb hd k
  · cases h; exact lv_fcmp hx hb hd k
  · cases h
theorem e_ld_mem {i : Nat} {v : Value} (h : e_ld lo i = some v) : (i, e_mv ad v) ∈ e_as ad lo := by
  unfold e_ld at h
  split at h
  · next w hw => cases h; exact e_as_mem.mpr ⟨v, hw, rfl⟩
  · cases h
set_option maxHeartbeats 4000000 in
theorem e_os_ok {lo2 : e_L} (hx : p.tables.exec = Jvm.exec) (hb : c.code = cc) (hl : e_lr ls ad lo) (h : e_os ins lo st = some (n, lo2, st2)) (hd : decode cc pc = .ok (ins, n))
    (k : ∀ ls2, e_lr ls2 ad lo2 → lo2.length = lo.length → W p l e R s m args below meth c H locs cells slots Q (F0 m (pc + n) ls2 (st2.map (e_mv ad)))) : W p l e R s m args below meth c H locs cells slots Q (F0 m pc ls (st.map (e_mv ad))) := by
  have hh := hl.has
  unfold e_os at h
  split at h
  · split at h
    · next hi => cases h; exact lv_istore hx hb hd hh hi rfl (fun ls2 h2 => k ls2 (hl.st1 (v := .int _) hi h2) (e_s1_len _ _ _))
    · cases h
  · split at h
    · next hi => cases h; exact lv_istore_n hx hb hd rfl hh hi rfl (fun ls2 h2 => k ls2 (hl.st1 (v := .int _) hi h2) (e_s1_len _ _ _))
    · cases h
  · split at h
    · next hi => cases h; exact lv_fstore hx hb hd hh hi rfl (fun ls2 h2 => k ls2 (hl.st1 (v := .float _) hi h2) (e_s1_len _ _ _))
    · cases h
  · split at h
    · next hi => cases h; exact lv_astore hx hb hd hh hi rfl (fun ls2 h2 => k ls2 (hl.st1 (v := .ref _) hi h2) (e_s1_len _ _ _))
    · cases h
  · split at h
    · next hi => cases h; exact lv_astore_n hx hb hd rfl hh hi rfl (fun ls2 h2 => k ls2 (hl.st1 (v := .ref _) hi h2) (e_s1_len _ _ _))
    · cases h
  · split at h
    · next hi => cases h; exact lv_astoreN hx hb hd hh hi rfl (fun ls2 h2 => k ls2 (hl.st1 (v := .null) hi h2) (e_s1_len _ _ _))
    · cases h
  · split at h
    · next hi => cases h; exact lv_astore_nN hx hb hd rfl hh hi rfl (fun ls2 h2 => k ls2 (hl.st1 (v := .null) hi h2) (e_s1_len _ _ _))
    · cases h
  · split at h
    · next hi => cases h; exact lv_lstore hx hb hd hh hi rfl (fun ls2 h2 => k ls2 (hl.st2 (v := .long _) hi h2) (e_s2_len _ _ _))
    · cases h
  · split at h
    · next hi => cases h; exact lv_lstore_n hx hb hd rfl hh hi rfl (fun ls2 h2 => k ls2 (hl.st2 (v := .long _) hi h2) (e_s2_len _ _ _))
    · cases h
  · split at h
    · next hi => cases h; exact lv_dstore hx hb hd hh hi rfl (fun ls2 h2 => k ls2 (hl.st2 (v := .double _) hi h2) (e_s2_len _ _ _))
    · cases h
  · split at h
    · next x hx0 =>
      split at h
      · next hi =>
        cases h
        obtain ⟨j, hj⟩ := List.getElem?_of_mem (e_ld_mem (ad := ad) hx0)
        exact lv_iinc hx hb hd hh hj rfl hi rfl (fun ls2 h2 => k ls2 (hl.st1 (v := .int _) hi h2) (e_s1_len _ _ _))
      · cases h
    · cases h
  · cases h
theorem e_tg_ok {off : Int} {t : Nat} (h : e_tg pc off = some t) : (pc : Int) + off = (t : Int) := by
  unfold e_tg at h
  split at h
  · cases h; omega
  · cases h
set_option maxHeartbeats 4000000 in
theorem e_br_ok {t : Nat} (hx : p.tables.exec = Jvm.exec) (hb : c.code = cc) (h : e_br ins n pc st = some (t, st2)) (hd : decode cc pc = .ok (ins, n))
    (k : W p l e R s m args below meth c H locs cells slots Q (F0 m t ls (st2.map (e_mv ad)))) : W p l e R s m args below meth c H locs cells slots Q (F0 m pc ls (st.map (e_mv ad))) := by
  unfold e_br at h
  split at h
  · split at h
    · next hn => subst hn; obtain ⟨t0, h1, h2⟩ := e_map_ok h; cases h2; exact lv_goto hx hb hd (e_tg_ok h1) k
    · cases h
  · split at h
    · next hn => subst hn; obtain ⟨t0, h1, h2⟩ := e_map_ok h; cases h2; exact lv_if_eq hx hb hd (e_tg_ok h1) (fun q => by rw [if_pos q] at k; exact k) (fun q => by rw [if_neg q] at k; exact k)
    · cases h
  · split at h
    · next hn => subst hn; obtain ⟨t0, h1, h2⟩ := e_map_ok h; cases h2; exact lv_if_ne hx hb hd (e_tg_ok h1) (fun q => by rw [if_neg q] at k; exact k) (fun q => by rw [if_pos q] at k; exact k)
    · cases h
  · split at h
    · next hn => subst hn; obtain ⟨t0, h1, h2⟩ := e_map_ok h; cases h2; exact lv_if_lt hx hb hd (e_tg_ok h1) (fun q => by rw [if_pos q] at k; exact k) (fun q => by rw [if_neg q] at k; exact k)
    · cases h
  · split at h
    · next hn => subst hn; obtain ⟨t0, h1, h2⟩ := e_map_ok h; cases h2; exact lv_if_le hx hb hd (e_tg_ok h1) (fun q => by rw [if_pos q] at k; exact k) (fun q => by rw [if_neg q] at k; exact k)
    · cases h
  · split at h
    · next hn => subst hn; obtain ⟨t0, h1, h2⟩ := e_map_ok h; cases h2; exact lv_if_gt hx hb hd (e_tg_ok h1) (fun q => by rw [if_neg (Int32.not_le.mpr q)] at k; exact k) (fun q => by rw [if_pos (Int32.not_lt.mp q)] at k; exact k)
    · cases h
  · split at h
    · next hn => subst hn; obtain ⟨t0, h1, h2⟩ := e_map_ok h; cases h2; exact lv_if_ge hx hb hd (e_tg_ok h1) (fun q => by rw [if_neg (Int32.not_lt.mpr q)] at k; exact k) (fun q => by rw [if_pos (Int32.not_le.mp q)] at k; exact k)
    · cases h
  · split at h
    · next hn => subst hn; obtain ⟨t0, h1, h2⟩ := e_map_ok h; cases h2; exact lv_icmp_eq hx hb hd (e_tg_ok h1) (fun q => by rw [if_pos q] at k; exact k) (fun q => by rw [if_neg q] at k; exact k)
    · cases h
  · split at h
    · next hn => subst hn; obtain ⟨t0, h1, h2⟩ := e_map_ok h; cases h2; exact lv_icmp_ne hx hb hd (e_tg_ok h1) (fun q => by rw [if_neg q] at k; exact k) (fun q => by rw [if_pos q] at k; exact k)
    · cases h
  · split at h
    · next hn => subst hn; obtain ⟨t0, h1, h2⟩ := e_map_ok h; cases h2; exact lv_icmp_lt hx hb hd (e_tg_ok h1) (fun q => by rw [if_pos q] at k; exact k) (fun q => by rw [if_neg q] at k; exact k)
    · cases h
  · split at h
    · next hn => subst hn; obtain ⟨t0, h1, h2⟩ := e_map_ok h; cases h2; exact lv_icmp_ge hx hb hd (e_tg_ok h1) (fun q => by rw [if_neg (Int32.not_lt.mpr q)] at k; exact k) (fun q => by rw [if_pos (Int32.not_le.mp q)] at k; exact k)
    · cases h
  · split at h
    · next hn => subst hn; obtain ⟨t0, h1, h2⟩ := e_map_ok h; cases h2; exact lv_icmp_gt hx hb hd (e_tg_ok h1) (fun q => by rw [if_pos q] at k; exact k) (fun q => by rw [if_neg q] at k; exact k)
    · cases h
  · split at h
    · next hn => subst hn; obtain ⟨t0, h1, h2⟩ := e_map_ok h; cases h2; exact lv_icmp_le hx hb hd (e_tg_ok h1) (fun q => by rw [if_neg (Int32.not_lt.mpr q)] at k; exact k) (fun q => by rw [if_pos (Int32.not_le.mp q)] at k; exact k)
    · cases h
  · split at h
    · next hn => subst hn; obtain ⟨t0, h1, h2⟩ := e_map_ok h; cases h2; exact lv_ifnull hx hb hd k
    · cases h
  · split at h
    · next hn => subst hn; obtain ⟨t0, h1, h2⟩ := e_map_ok h; cases h2; exact lv_ifnullN hx hb hd (e_tg_ok h1) k
    · cases h
  · split at h
    · next hq => obtain ⟨t0, h1, h2⟩ := e_map_ok h; cases h2; exact lv_tableOut hx hb hd hq (e_tg_ok h1) k
    · next hq =>
      split at h
      · next off ho => obtain ⟨t0, h1, h2⟩ := e_map_ok h; cases h2; exact lv_tableIn hx hb hd (fun z => hq (Or.inl z)) (fun z => hq (Or.inr z)) ho (e_tg_ok h1) k
      · cases h
  · cases h
end E8
