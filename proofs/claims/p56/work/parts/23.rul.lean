/-! one step of a run, as an equation -/
section E23
variable {L : Nat} {xs : Nat → Int32} {d y pc : Nat} {l : e_L} {st : List Value} {h : e_H} {ins : Instr} {n : Nat}
theorem R_op {st2 : List Value} (hd : decode (e_bc y) pc = .ok (ins, n)) (h1 : e_op ins l st = some (n, st2)) : e_lim L xs d y pc l st h = e_lim L xs d y (pc + n) l st2 h := by
  rw [e_lim_eq]
  unfold e_bd
  rw [hd]
  simp only [h1, if_true]
theorem R_os {l2 : e_L} {st2 : List Value} (hd : decode (e_bc y) pc = .ok (ins, n)) (h1 : e_os ins l st = some (n, l2, st2)) : e_lim L xs d y pc l st h = e_lim L xs d y (pc + n) l2 st2 h := by
  obtain ⟨a1, a2, a3, a4, a5, a6, a7, a8, a9⟩ := e_os_only (L := L) (xs := xs) h1
  rw [e_lim_eq]
  unfold e_bd
  rw [hd]
  simp only [a1, h1, if_true]
/-- what stands in no pure group -/
def e_np0 (ins : Instr) : Prop := (∀ l s, e_op ins l s = none) ∧ (∀ l s, e_os ins l s = none)
theorem R_br {t : Nat} {st2 : List Value} (hd : decode (e_bc y) pc = .ok (ins, n)) (h0 : e_np0 ins) (h1 : e_br ins n pc st = some (t, st2)) : e_lim L xs d y pc l st h = e_lim L xs d y t l st2 h := by
  rw [e_lim_eq]
  unfold e_bd
  rw [hd]
  simp only [h0.1, h0.2, h1]
theorem R_bc {C : Prop} [Decidable C] {t u : Nat} {st2 : List Value} (hd : decode (e_bc y) pc = .ok (ins, n)) (h0 : e_np0 ins) (h1 : e_br ins n pc st = some (if C then t else u, st2)) : e_lim L xs d y pc l st h = if C then e_lim L xs d y t l st2 h else e_lim L xs d y u l st2 h := by
  rw [R_br hd h0 h1]
  split <;> rfl
theorem R_hl {st2 : List Value} (hd : decode (e_bc y) pc = .ok (ins, n)) (h0 : e_np0 ins ∧ ∀ a b s, e_br ins a b s = none) (h1 : e_hl L xs y ins st h = some (n, st2)) : e_lim L xs d y pc l st h = e_lim L xs d y (pc + n) l st2 h := by
  rw [e_lim_eq]
  unfold e_bd
  rw [hd]
  simp only [h0.1.1, h0.1.2, h0.2, h1, if_true]
theorem R_hn (hd : decode (e_bc y) pc = .ok (ins, n)) (h0 : e_np0 ins ∧ ∀ a b s, e_br ins a b s = none) (h1 : e_hl L xs y ins st h = none) (h2 : (∀ y s h, e_hs y ins s h = none) ∧ (∀ y s, e_rn y ins s = none) ∧ e_ik ins = none ∧ (∀ s, e_of ins s = none) ∧ (∀ y s, e_mk y ins s = none) ∧ ∀ y p, e_tw y p ins = none) : e_lim L xs d y pc l st h = none := by
  rw [e_lim_eq]
  unfold e_bd
  rw [hd]
  obtain ⟨a4, a5, a6, a7, a8, a9⟩ := h2
  simp only [h0.1.1, h0.1.2, h0.2, h1, a4, a5, a6, a7, a8, a9]
theorem R_hs {h2 : e_H} {st2 : List Value} (hd : decode (e_bc y) pc = .ok (ins, n)) (h0 : e_np0 ins ∧ (∀ a b s, e_br ins a b s = none) ∧ ∀ y s h, e_hl L xs y ins s h = none) (h1 : e_hs y ins st h = some (n, st2, h2)) : e_lim L xs d y pc l st h = e_lim L xs d y (pc + n) l st2 h2 := by
  rw [e_lim_eq]
  unfold e_bd
  rw [hd]
  simp only [h0.1.1, h0.1.2, h0.2.1, h0.2.2, h1, if_true]
theorem R_sn (hd : decode (e_bc y) pc = .ok (ins, n)) (h0 : e_np0 ins ∧ (∀ a b s, e_br ins a b s = none) ∧ ∀ y s h, e_hl L xs y ins s h = none) (h1 : e_hs y ins st h = none) (h2 : (∀ y s, e_rn y ins s = none) ∧ e_ik ins = none ∧ (∀ s, e_of ins s = none) ∧ (∀ y s, e_mk y ins s = none) ∧ ∀ y p, e_tw y p ins = none) : e_lim L xs d y pc l st h = none := by
  rw [e_lim_eq]
  unfold e_bd
  rw [hd]
  obtain ⟨a5, a6, a7, a8, a9⟩ := h2
  simp only [h0.1.1, h0.1.2, h0.2.1, h0.2.2, h1, a5, a6, a7, a8, a9]
theorem R_rn {v : Option Value} (hd : decode (e_bc y) pc = .ok (ins, 1)) (h0 : e_np0 ins ∧ (∀ a b s, e_br ins a b s = none) ∧ (∀ y s h, e_hl L xs y ins s h = none) ∧ ∀ y s h, e_hs y ins s h = none) (h1 : e_rn y ins st = some v) : e_lim L xs d y pc l st h = some (.inl v, h, 0, 0) := by
  rw [e_lim_eq]
  unfold e_bd
  rw [hd]
  simp only [h0.1.1, h0.1.2, h0.2.1, h0.2.2.1, h0.2.2.2, h1, if_true]
theorem R_of {st2 : List Value} (hd : decode (e_bc y) pc = .ok (ins, n)) (h0 : e_np0 ins ∧ (∀ a b s, e_br ins a b s = none) ∧ (∀ y s h, e_hl L xs y ins s h = none) ∧ (∀ y s h, e_hs y ins s h = none) ∧ (∀ y s, e_rn y ins s = none) ∧ e_ik ins = none) (h1 : e_of ins st = some (n, st2)) : e_lim L xs d y pc l st h = e_lim L xs d y (pc + n) l st2 h := by
  rw [e_lim_eq]
  unfold e_bd
  rw [hd]
  obtain ⟨a1, a2, a3, a4, a5, a6⟩ := h0
  simp only [a1.1, a1.2, a2, a3, a4, a5, a6, h1, if_true]
/-- a call's answer, and what goes on behind it -/
def e_cl (o : Option e_R) (h : e_H) (l : e_L) (rest : List Value) (k : e_L → Option Value → e_H → Option e_R) : Option e_R := match o with
  | none => none
  | some (.inl v, h2, a, b) => if h2.length = h.length then e_add a b (k l v h2) else if h.length < h2.length ∧ rest.all (e_vk h.length) = true then e_adk h.length a b (k (e_lf h.length l) v h2) else none
  | some (.inr E, h2, a, b) => some (.inr E, h2, a, b)
theorem e_cl_v {M M2 : e_MI} {V V2 : e_ML} {W W2 : e_MD} {v : Option Value} {rest : List Value} {a b : Nat} {k : e_L → Option Value → e_H → Option e_R} : e_cl (some (.inl v, e_hp M2 V2 W2, a, b)) (e_hp M V W) l rest k = e_add a b (k l v (e_hp M2 V2 W2)) := by
  unfold e_cl
  simp only [e_hp_len, if_true]
theorem e_cl_x {E a b : Nat} {h2 : e_H} {rest : List Value} {k : e_L → Option Value → e_H → Option e_R} : e_cl (some (.inr E, h2, a, b)) h l rest k = some (.inr E, h2, a, b) := rfl
theorem e_cl_n {rest : List Value} {k : e_L → Option Value → e_H → Option e_R} : e_cl none h l rest k = none := rfl
theorem e_cl_if {C : Prop} [Decidable C] {o1 o2 : Option e_R} {rest : List Value} {k : e_L → Option Value → e_H → Option e_R} : e_cl (if C then o1 else o2) h l rest k = if C then e_cl o1 h l rest k else e_cl o2 h l rest k := by split <;> rfl
theorem e_add_0 {o : Option e_R} : e_add 0 0 o = o := by
  cases o with
  | none => rfl
  | some r => obtain ⟨a, b, c, e⟩ := r; simp [e_add]
theorem e_add_s {a b c e : Nat} {x : Option Value ⊕ Nat} {h : e_H} : e_add a b (some (x, h, c, e)) = some (x, h, a + c, b + e) := rfl
theorem R_ca {y2 m : Nat} {av rest : List Value} (hh : e_hh y = []) (hs : st = av.reverse ++ rest) (hm : av.length = m) (hc : (rest.map fun v => v.category).sum ≤ 8) (he : (e_en av (e_ml y2)).length = e_ml y2) :
    e_ca (e_lim L xs) (d + 1) y pc y2 m l st h = e_cl (e_lim L xs d y2 0 (e_en av (e_ml y2)) [] h) h l rest (fun l2 v h2 => e_lim L xs (d + 1) y (pc + 3) l2 (v.toList ++ rest) h2) := by
  have e1 : (st.take m).reverse = av := by
    rw [hs, ← hm, ← List.length_reverse, List.take_left, List.reverse_reverse]
  have e2 : st.drop m = rest := by
    rw [hs, ← hm, ← List.length_reverse, List.drop_left]
  have e3 : m ≤ st.length := by
    rw [hs, ← hm, List.length_append, List.length_reverse]
    omega
  unfold e_ca e_cl
  simp only
  rw [e1, e2, if_pos ⟨e3, hc, he⟩]
  cases ho : e_lim L xs d y2 0 (e_en av (e_ml y2)) [] h with
  | none => rfl
  | some r =>
    obtain ⟨x, h2, a, b⟩ := r
    cases x with
    | inl v => rfl
    | inr E =>
      simp only
      rw [hh]
      rfl
theorem R_cs {idx y2 nest m : Nat} {av rest : List Value} (hd : decode (e_bc y) pc = .ok (.invokestatic idx, 3)) (ht : e_ir2 e_call (e_cy y) idx = some (y2, nest)) (hk : e_kd y2 = 0) (hm : e_np y2 = m) (hh : e_hh y = []) (hs : st = av.reverse ++ rest) (hl : av.length = m) (hc : (rest.map fun v => v.category).sum ≤ 8) (he : (e_en av (e_ml y2)).length = e_ml y2) :
    e_lim L xs (d + 1) y pc l st h = e_cl (e_lim L xs d y2 0 (e_en av (e_ml y2)) [] h) h l rest (fun l2 v h2 => e_lim L xs (d + 1) y (pc + 3) l2 (v.toList ++ rest) h2) := by
  rw [e_lim_eq, ← R_ca (m := m) hh hs hl hc he]
  unfold e_bd
  rw [hd]
  have a1 : e_op (.invokestatic idx) l st = none := rfl
  have a2 : e_os (.invokestatic idx) l st = none := rfl
  have a3 : e_br (.invokestatic idx) 3 pc st = none := rfl
  have a4 : e_hl L xs y (.invokestatic idx) st h = none := rfl
  have a5 : e_hs y (.invokestatic idx) st h = none := rfl
  have a6 : e_rn y (.invokestatic idx) st = none := rfl
  have a7 : e_ik (.invokestatic idx) = some (0, idx) := rfl
  simp only [a1, a2, a3, a4, a5, a6, a7, ht, hk, hm, if_true]
theorem R_cv {idx y2 nest m a ci : Nat} {fs av rest : List Value} (hd : decode (e_bc y) pc = .ok (.invokevirtual idx, 3)) (ht : e_ir2 e_call (e_cy y) idx = some (y2, nest)) (hk : e_kd y2 = 1) (hm : e_np y2 = m) (hh : e_hh y = []) (hs : st = av.reverse ++ .ref a :: rest) (hl : av.length = m) (hc : (rest.map fun v => v.category).sum ≤ 8) (he : (e_en (.ref a :: av) (e_ml y2)).length = e_ml y2) (hr : h[a]? = some (.inr (ci, fs))) (hn : e_cn ci = (e_nm y2).cls) :
    e_lim L xs (d + 1) y pc l st h = e_cl (e_lim L xs d y2 0 (e_en (.ref a :: av) (e_ml y2)) [] h) h l rest (fun l2 v h2 => e_lim L xs (d + 1) y (pc + 3) l2 (v.toList ++ rest) h2) := by
  have hs2 : st = (.ref a :: av).reverse ++ rest := by rw [hs]; simp
  have hl2 : (Value.ref a :: av).length = m + 1 := by rw [List.length_cons, hl]
  rw [e_lim_eq, ← R_ca (m := m + 1) hh hs2 hl2 hc he]
  unfold e_bd
  rw [hd]
  have a1 : e_op (.invokevirtual idx) l st = none := rfl
  have a2 : e_os (.invokevirtual idx) l st = none := rfl
  have a3 : e_br (.invokevirtual idx) 3 pc st = none := rfl
  have a4 : e_hl L xs y (.invokevirtual idx) st h = none := rfl
  have a5 : e_hs y (.invokevirtual idx) st h = none := rfl
  have a6 : e_rn y (.invokevirtual idx) st = none := rfl
  have a7 : e_ik (.invokevirtual idx) = some (1, idx) := rfl
  have a8 : st[m]? = some (.ref a) := by
    rw [hs, List.getElem?_append_right (by rw [List.length_reverse, hl]; exact Nat.le_refl _), List.length_reverse, hl, Nat.sub_self]
    rfl
  have a9 : ¬ (1 : Nat) = 0 := by decide
  simp only [a1, a2, a3, a4, a5, a6, a7, ht, hk, hm, if_true, a8, hr, hn, if_neg a9]
theorem R_bl {kd idx b : Nat} {st2 : List Value} {h2 : e_H} (hd : decode (e_bc y) pc = .ok (ins, 3)) (hi : e_ik ins = some (kd, idx)) (h0 : e_np0 ins ∧ (∀ a b s, e_br ins a b s = none) ∧ (∀ y s h, e_hl L xs y ins s h = none) ∧ (∀ y s h, e_hs y ins s h = none) ∧ ∀ y s, e_rn y ins s = none) (ht : e_ir2 e_call (e_cy y) idx = none) (hb : e_ir e_blt (e_cy y) idx = some b) (h1 : e_bl b ins st h = some (st2, h2)) : e_lim L xs (d + 1) y pc l st h = e_lim L xs (d + 1) y (pc + 3) l st2 h2 := by
  rw [e_lim_eq]
  unfold e_bd
  rw [hd]
  obtain ⟨a1, a2, a3, a4, a5⟩ := h0
  simp only [a1.1, a1.2, a2, a3, a4, a5, hi, ht, hb, h1, if_true]
theorem R_tw {idx E : Nat} (hd : decode (e_bc y) pc = .ok (.new idx, 3)) (hm : e_ir e_new (e_cy y) idx = none) (h1 : e_tw y pc (.new idx) = some E) (hc : (st.map fun v => v.category).sum ≤ 40) : e_lim L xs d y pc l st h = some (.inr E, h, 1, 6) := by
  rw [e_lim_eq]
  unfold e_bd
  rw [hd]
  have a1 : e_op (.new idx) l st = none := rfl
  have a2 : e_os (.new idx) l st = none := rfl
  have a3 : e_br (.new idx) 3 pc st = none := rfl
  have a4 : e_hl L xs y (.new idx) st h = none := rfl
  have a5 : e_hs y (.new idx) st h = none := rfl
  have a6 : e_rn y (.new idx) st = none := rfl
  have a7 : e_ik (.new idx) = none := rfl
  have a8 : e_of (.new idx) st = none := rfl
  have a9 : e_mk y (.new idx) st = none := by unfold e_mk; simp only [hm]
  simp only [a1, a2, a3, a4, a5, a6, a7, a8, a9, h1, hc, and_self, if_true]
/-! over memories -/
variable {M : e_MI} {V : e_ML} {W : e_MD} {a : Nat}
theorem G_gf {idx ci k : Nat} {fs : List Value} {v : Value} (hd : decode (e_bc y) pc = .ok (.getfield idx, 3)) (hf : e_ir2 e_fld (e_cy y) idx = some (ci, k)) (ho : e_sk[a]? = some (.inr (ci, fs))) (hk : fs[k]? = some v) : e_lim L xs d y pc l (.ref a :: st) (e_hp M V W) = e_lim L xs d y (pc + 3) l (e_fv M V a k v :: st) (e_hp M V W) := by
  obtain ⟨g1, g2⟩ := e_fld_get (M := M) (V := V) (W := W) ho hk
  refine R_hl hd ⟨⟨fun _ _ => rfl, fun _ _ => rfl⟩, fun _ _ _ => rfl⟩ ?_
  unfold e_hl
  simp only [hf, g1, if_true]
  rw [g2]
theorem G_pfi {idx ci k : Nat} {fs : List Value} {z x : Int32} (hd : decode (e_bc y) pc = .ok (.putfield idx, 3)) (hf : e_ir2 e_fld (e_cy y) idx = some (ci, k)) (ho : e_sk[a]? = some (.inr (ci, fs))) (hk : fs[k]? = some (.int z)) (hfit : e_fit (e_ty ci k) (.int x) = true) (hfin : (e_fT ci k).2.2.2 = false) : e_lim L xs d y pc l (.int x :: .ref a :: st) (e_hp M V W) = e_lim L xs d y (pc + 3) l st (e_hp (e_u M a (upd (M a) k x)) V W) := by
  obtain ⟨g1, g2⟩ := e_fld_get (M := M) (V := V) (W := W) ho hk
  refine R_hs hd ⟨⟨fun _ _ => rfl, fun _ _ => rfl⟩, fun _ _ _ => rfl, fun _ _ _ => rfl⟩ ?_
  have hl : k < (fs.mapIdx fun k v => e_fv M V a k v).length := by rw [List.length_mapIdx]; exact (List.getElem?_eq_some_iff.mp hk).1
  unfold e_hs
  simp only [hf, g1]
  rw [if_pos ⟨trivial, hl, hfit, Or.inl hfin⟩, e_fld_seti ho hk]
theorem G_pfl {idx ci k : Nat} {fs : List Value} {z x : Int64} (hd : decode (e_bc y) pc = .ok (.putfield idx, 3)) (hf : e_ir2 e_fld (e_cy y) idx = some (ci, k)) (ho : e_sk[a]? = some (.inr (ci, fs))) (hk : fs[k]? = some (.long z)) (hfit : e_fit (e_ty ci k) (.long x) = true) (hfin : (e_fT ci k).2.2.2 = false) : e_lim L xs d y pc l (.long x :: .ref a :: st) (e_hp M V W) = e_lim L xs d y (pc + 3) l st (e_hp M (e_u V a (vp_updL (V a) k x)) W) := by
  obtain ⟨g1, g2⟩ := e_fld_get (M := M) (V := V) (W := W) ho hk
  refine R_hs hd ⟨⟨fun _ _ => rfl, fun _ _ => rfl⟩, fun _ _ _ => rfl, fun _ _ _ => rfl⟩ ?_
  have hl : k < (fs.mapIdx fun k v => e_fv M V a k v).length := by rw [List.length_mapIdx]; exact (List.getElem?_eq_some_iff.mp hk).1
  unfold e_hs
  simp only [hf, g1]
  rw [if_pos ⟨trivial, hl, hfit, Or.inl hfin⟩, e_fld_setl ho hk]
theorem e_isI_lt {a n : Nat} (h : e_isI a n) : a < 206 := by
  have := (List.getElem?_eq_some_iff.mp h).1
  rw [e_sk_len] at this
  exact this
theorem G_ial {m : Nat} {i : Int32} (hd : decode (e_bc y) pc = .ok (.iaload, 1)) (ha : e_isI a m) : e_lim L xs d y pc l (.int i :: .ref a :: st) (e_hp M V W) = if e_vin i m = true then e_lim L xs d y (pc + 1) l (.int (M a i.toNatClampNeg) :: st) (e_hp M V W) else none := by
  have hne : ¬ a = e_SCR := fun q => by
    have := e_isI_lt ha
    subst q
    exact absurd this (by decide)
  have h1 : e_hl L xs y .iaload (.int i :: .ref a :: st) (e_hp M V W) = if e_vin i m = true then some (1, .int (M a i.toNatClampNeg) :: st) else none := by
    unfold e_hl
    simp only [if_neg hne, ha.at]
  by_cases hv : e_vin i m = true
  · rw [if_pos hv] at h1 ⊢
    exact R_hl hd ⟨⟨fun _ _ => rfl, fun _ _ => rfl⟩, fun _ _ _ => rfl⟩ h1
  · rw [if_neg hv] at h1 ⊢
    exact R_hn hd ⟨⟨fun _ _ => rfl, fun _ _ => rfl⟩, fun _ _ _ => rfl⟩ h1 ⟨fun _ _ _ => rfl, fun _ _ => rfl, rfl, fun _ => rfl, fun _ _ => rfl, fun _ _ => rfl⟩
theorem G_ias {m : Nat} {i x : Int32} (hd : decode (e_bc y) pc = .ok (.iastore, 1)) (ha : e_isI a m) : e_lim L xs d y pc l (.int x :: .int i :: .ref a :: st) (e_hp M V W) = if e_vin i m = true then e_lim L xs d y (pc + 1) l st (e_hp (e_u M a (upd (M a) i.toNatClampNeg x)) V W) else none := by
  have h1 : e_hs y .iastore (.int x :: .int i :: .ref a :: st) (e_hp M V W) = if e_vin i m = true then some (1, st, e_hp (e_u M a (upd (M a) i.toNatClampNeg x)) V W) else none := by
    unfold e_hs
    simp only [ha.at, ha.set]
  by_cases hv : e_vin i m = true
  · rw [if_pos hv] at h1 ⊢
    exact R_hs hd ⟨⟨fun _ _ => rfl, fun _ _ => rfl⟩, fun _ _ _ => rfl, fun _ _ _ => rfl⟩ h1
  · rw [if_neg hv] at h1 ⊢
    exact R_sn hd ⟨⟨fun _ _ => rfl, fun _ _ => rfl⟩, fun _ _ _ => rfl, fun _ _ _ => rfl⟩ h1 ⟨fun _ _ => rfl, rfl, fun _ => rfl, fun _ _ => rfl, fun _ _ => rfl⟩
theorem G_len {m : Nat} (hd : decode (e_bc y) pc = .ok (.arraylength, 1)) (ha : e_isI a m) : e_lim L xs d y pc l (.ref a :: st) (e_hp M V W) = e_lim L xs d y (pc + 1) l (.int (Int32.ofNat m) :: st) (e_hp M V W) := by
  have hne : ¬ a = e_SCR := fun q => by
    have := e_isI_lt ha
    subst q
    exact absurd this (by decide)
  refine R_hl hd ⟨⟨fun _ _ => rfl, fun _ _ => rfl⟩, fun _ _ _ => rfl⟩ ?_
  unfold e_hl
  simp only [if_neg hne, ha.at]
  rfl
theorem G_cpy {idx m0 m1 a0 a1 : Nat} {sp dp k : Int32} (hd : decode (e_bc y) pc = .ok (.invokestatic idx, 3)) (ht : e_ir2 e_call (e_cy y) idx = none) (hb : e_ir e_blt (e_cy y) idx = some 1003) (h0 : e_isI a0 m0) (h1 : e_isI a1 m1) (hq : ¬ (sp < 0 ∨ dp < 0 ∨ k < 0 ∨ m0 < sp.toNatClampNeg + k.toNatClampNeg ∨ m1 < dp.toNatClampNeg + k.toNatClampNeg)) (hc : ((.ref a1 :: .int sp :: .ref a0 :: st : List Value).map fun v => v.category).sum ≤ 40) : e_lim L xs (d + 1) y pc l (.int k :: .int dp :: .ref a1 :: .int sp :: .ref a0 :: st) (e_hp M V W) = e_lim L xs (d + 1) y (pc + 3) l st (e_hp (e_u M a1 (va_cpy (M a0) (M a1) sp.toNatClampNeg dp.toNatClampNeg k.toNatClampNeg)) V W) := by
  refine R_bl hd rfl ⟨⟨fun _ _ => rfl, fun _ _ => rfl⟩, fun _ _ _ => rfl, fun _ _ _ => rfl, fun _ _ _ => rfl, fun _ _ => rfl⟩ ht hb ?_
  unfold e_bl
  simp only [if_pos hc]
  rw [if_neg (by decide), if_neg (by decide), if_neg (by decide), if_pos trivial]
  simp only [h0.at, h1.at]
  rw [if_neg hq, h1.set]
/-- a goal over fewer known locals -/
theorem G_less {l2 : e_L} {r : e_R} (h1 : e_ll l2 l) (h2 : e_lim L xs d y pc l2 st h = some r) : e_lim L xs d y pc l st h = some r := e_lim_ll h1 h2
/-- a loop, from its i-th state to its last -/
theorem G_loop {C : Nat → Option e_R} {i n : Nat} {r : e_R} (hi : i ≤ n) (hs : ∀ j, i ≤ j → j < n → C (j + 1) = some r → C j = some r) (he : C n = some r) : C i = some r := by
  have : ∀ k, i + k ≤ n → C (n - k) = some r := by
    intro k
    induction k with
    | zero => intro _; exact he
    | succ k ih =>
      intro hk
      have := hs (n - (k + 1)) (by omega) (by omega)
      rw [show n - (k + 1) + 1 = n - k by omega] at this
      exact this (ih (by omega))
  have h1 := this (n - i) (by omega)
  rw [show n - (n - i) = i by omega] at h1
  exact h1
end E23
