section E10
variable {p : Program} {l : Launch} {e : Env} {R : Room} {s : State} {m : MethodId} {args : Array Value} {below : List Frame} {meth : Method} {c : Code} {H : Heap} {locs : List Loc} {cells slots : Nat} {Q : State → Prop}
variable {y pc : Nat} {ls : Array Slot} {ad : Nat → Nat} {st st2 : List Value} {n : Nat} {ins : Instr} {L : Nat} {xs : Nat → Int32} {B0 bS : Nat} {D : va_G} {dA : Nat → ClassId} {h h2 : e_H}
theorem e_ac0 : Cond.arrayClass .int ∈ lw_tbl := by decide +kernel
theorem e_ac3 : Cond.arrayClass .char ∈ lw_tbl := by decide +kernel
theorem e_ao4 : Cond.classLink (e_cn 0) 9 RX3 ∈ lw_tbl := by decide +kernel
/-- a new name -/
def e_nw (ad : Nat → Nat) (k q : Nat) : Nat → Nat := fun j => if j = k then q else ad j
theorem e_nw_ag {ad : Nat → Nat} {k q : Nat} (hk : k < e_SCR) : e_ag k ad (e_nw ad k q) := by
  intro j hj
  unfold e_nw
  rw [if_neg (by omega)]
theorem e_df_mv (ad : Nat → Nat) (ci : Nat) : (e_df ci).map (e_mv ad) = e_df ci := by
  unfold e_df
  rw [List.map_map]
  apply List.map_congr_left
  intro k _
  show e_mv ad (defaultValue (e_ty ci k)) = defaultValue (e_ty ci k)
  cases e_ty ci k <;> rfl
theorem e_w_mk {q : Nat} {x : va_E} (hk : h.length < e_SCR) (hc : h.all (e_ck h.length) = true) (hx : e_me dA (e_nw ad h.length q) x = e_me dA ad x) : e_w dA (e_nw ad h.length q) (h ++ [x]) = e_w dA ad h ++ [(q, e_me dA ad x)] := by
  rw [e_w_app, (e_nw_ag hk).w (Nat.le_refl _) hc, hx]
  congr 3
  unfold e_nw
  rw [if_pos rfl]
theorem e_dA_of {U : State} {dA : Nat → ClassId} {D : va_G} {t : Nat} {cA : ClassId} {ty : FieldType} (hK : va_K D vwCl (e_tys dA) U) (hK2 : va_K D vwCl (e_tys dA ++ [(cA, ty)]) U) (ht : (e_tys dA)[t]? = some (dA t, ty)) (hty : ∀ C, ty ≠ .object C) : cA = dA t := by
  have h1 := (hK.2 t _ ht).2
  have h2 := (hK2.2 5 (cA, ty) rfl).2
  cases ty with
  | object C => exact absurd rfl (hty C)
  | _ => exact Option.some.inj (h2.symm.trans h1)
theorem e_dA_of4 {U : State} {dA : Nat → ClassId} {D : va_G} {cA : ClassId} (hK : va_K D vwCl (e_tys dA) U) (hK2 : va_K D vwCl (e_tys dA ++ [(cA, .object RX3)]) U) : cA = dA 4 := by
  obtain ⟨k1, c1, -, -, -, h1⟩ := (hK.2 4 (dA 4, .object RX3) rfl).2
  obtain ⟨k2, c2, -, -, -, h2⟩ := (hK2.2 5 (cA, .object RX3) rfl).2
  exact Option.some.inj (h2.symm.trans h1)
theorem e_bytes {N w : Nat} (h : ¬ 100000 < N) (hw : w ≤ 8) : N * w ≤ 536870912 := by
  have : N * w ≤ 100000 * 8 := Nat.mul_le_mul (by omega) hw
  omega
set_option maxHeartbeats 4000000 in
theorem e_mk_ok {x : va_E} {N : Nat} (F : e_F p l s m args meth c y) (G : e_G L xs B0 bS D dA s) (hP : va_P D vwCl (e_w dA ad h) H) (hD : va_D (e_A B0) (e_w dA ad h)) (hS : va_S (e_A B0) s.heap H locs)
    (hh : e_mk y ins st = some (n, st2, x, N)) (hd : decode (e_bc y) pc = .ok (ins, n)) (hlen : h.length < e_SCR) (hck : h.all (e_ck h.length) = true) (hst2 : st2.all (e_vk h.length) = true)
    (hcells : cells + 1 ≤ R.cells) (hslots : slots + N ≤ R.slots)
    (k : ∀ q H1, va_P D vwCl (e_w dA (e_nw ad h.length q) (h ++ [x])) H1 → va_D (e_A B0) (e_w dA (e_nw ad h.length q) (h ++ [x])) → va_S (e_A B0) s.heap H1 locs → W p l e R s m args below meth c H1 locs (cells + 1) (slots + N) Q (F0 m (pc + n) ls ((.ref h.length :: st2).map (e_mv (e_nw ad h.length q))))) : W p l e R s m args below meth c H locs cells slots Q (F0 m pc ls (st.map (e_mv ad))) := by
  obtain ⟨hx, hb, hr, hml, hown, hws, hlk, hin, hstt, htb, hcn⟩ := F
  obtain ⟨hB, hK, hX, hU, hN, hng, hao, hnc⟩ := G
  have hts : ∀ w ∈ e_Ws, w.before args s = true := fun w hw => hws w (List.mem_filter.mp hw).1 (List.mem_filter.mp hw).2
  have hA : ∀ q, s.heap.size ≤ q → e_A B0 q := fun q hq => Nat.le_trans hB hq
  have hstk : ∀ q, (Value.ref h.length :: st2).map (e_mv (e_nw ad h.length q)) = .ref q :: st2.map (e_mv ad) := by
    intro q
    rw [List.map_cons, (e_nw_ag (ad := ad) (q := q) hlen).mvs hst2]
    congr 1
    show Value.ref (e_nw ad h.length q h.length) = Value.ref q
    unfold e_nw
    rw [if_pos rfl]
  have key : ∀ {a0 : va_E}, (∀ q, e_me dA (e_nw ad h.length q) x = e_me dA ad x) → e_me dA ad x = a0 →
      ∀ (q : Nat) (H1 : Heap), va_P D vwCl (e_w dA ad h ++ [(q, a0)]) H1 → va_D (e_A B0) (e_w dA ad h ++ [(q, a0)]) → va_S (e_A B0) s.heap H1 locs →
      W p l e R s m args below meth c H1 locs (cells + 1) (slots + N) Q (F0 m (pc + n) ls (.ref q :: st2.map (e_mv ad))) := by
    intro a0 h1 h2 q H1 p1 p2 p3
    have := e_w_mk (dA := dA) (ad := ad) (q := q) hlen hck (h1 q)
    rw [h2] at this
    rw [← this] at p1 p2
    have kk := k q H1 p1 p2 p3
    rw [hstk q] at kk
    exact kk
  unfold e_mk at hh
  split at hh
  · split at hh
    · next ci hc =>
      cases hh
      obtain ⟨q, hq, hl0⟩ := e_new_ok _ (e_ir_mem hc)
      have hok := e_okcl ci q hq
      obtain ⟨o1, o2, o3, o4, o5, o6, o7⟩ := id hok
      have hN2 : (vwCl.getD ci (RX0, TX0, 3)).2.2 = q.2.2 := by rw [List.getD_eq_getElem?_getD, hq]; rfl
      rw [hN2] at hslots key
      refine va_new (T := q.2.1) (C := q.1) (ci := ci) hx hb hts (e_lay_in hok) (e_ty ci) o1 hown (hws _ hl0 rfl) (hws _ o4 rfl) (hws _ o5 rfl) hK hP hD hS hA hq (fs := e_df ci) (fun j hj => ?_) hcells hslots hd fun q1 H1 p1 p2 p3 => key (fun q => ?_) ?_ q1 H1 p1 p2 p3
      · unfold vp_V e_df
        rw [hN2, List.getD_eq_getElem?_getD, List.getElem?_map, List.getElem?_range hj]
        rfl
      · simp only [e_me, e_df_mv]
      · simp only [e_me, e_df_mv]
    · cases hh
  · split at hh
    · cases hh
    · next hq =>
      cases hh
      refine va_newa (atype := .int) hx hb (hws _ e_ac0 rfl) (ty := .int) rfl hK hP hD hS hA (a0 := (_, .inl fun _ => 0)) (fun cA => rfl) (fun z => hq (Or.inl z)) rfl (e_bytes (fun z => hq (Or.inr z)) (by decide)) hcells hslots hd fun q1 cA H1 p0 p1 p2 p3 => ?_
      rw [e_dA_of (t := 0) hK p0 rfl (fun C z => by cases z)] at p1 p2
      exact key (fun q => rfl) rfl q1 H1 p1 p2 p3
  · split at hh
    · cases hh
    · next hq =>
      cases hh
      refine va_newa (atype := .char) hx hb (hws _ e_ac3 rfl) (ty := .char) rfl hK hP hD hS hA (a0 := (_, .inl fun _ => 0)) (fun cA => rfl) (fun z => hq (Or.inl z)) rfl (e_bytes (fun z => hq (Or.inr z)) (by decide)) hcells hslots hd fun q1 cA H1 p0 p1 p2 p3 => ?_
      rw [e_dA_of (t := 3) hK p0 rfl (fun C z => by cases z)] at p1 p2
      exact key (fun q => rfl) rfl q1 H1 p1 p2 p3
  · split at hh
    · next hi =>
      split at hh
      · cases hh
      · next hq =>
        cases hh
        obtain ⟨hi1, hi2⟩ := hi
        subst hi2
        rw [hi1] at hown
        refine va_newq hx hb hown (hws _ e_ao4 rfl) hao hK hP hD hS hA (fun z => hq (Or.inl z)) rfl (e_bytes (fun z => hq (Or.inr z)) (by decide)) hcells hslots hd fun q1 cA H1 p0 p1 p2 p3 => ?_
        rw [e_dA_of4 hK p0] at p1 p2
        refine key (fun q => ?_) ?_ q1 H1 p1 p2 p3
        · simp [e_me]
        · simp [e_me]
    · cases hh
  · cases hh
theorem e_wo0 : Cond.static Lib.Math.max.name ∈ lw_tbl ∧ Cond.code Lib.Math.max.name Lib.Math.max.code 2 (some .int) ∈ lw_tbl ∧ Cond.static Lib.Math.min.name ∈ lw_tbl ∧ Cond.code Lib.Math.min.name Lib.Math.min.code 2 (some .int) ∈ lw_tbl ∧ Cond.static Lib.Math.abs.name ∈ lw_tbl ∧ Cond.code Lib.Math.abs.name Lib.Math.abs.code 1 (some .int) ∈ lw_tbl ∧ Cond.initialized "java/lang/Math" ∈ lw_tbl := by decide +kernel
theorem e_wo1 : Cond.native arraycopyName ∈ lw_tbl ∧ Cond.static arraycopyName ∈ lw_tbl ∧ Cond.initialized "java/lang/System" ∈ lw_tbl ∧ Cond.instanceMethod Lib.objectInit ∈ lw_tbl ∧ Cond.code Lib.objectInit ⟨#[0xb1]⟩ 1 none ∈ lw_tbl := by decide +kernel
theorem e_wo2 : nativeFrameWords "java/lang/System" "arraycopy" 5 ≤ 60 := by decide +kernel
end E10
