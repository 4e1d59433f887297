/-! constructors by running: a machine over written cells, sound for the abstract one -/
abbrev z_C : Type := (Nat × Nat × List (Nat × Int32)) ⊕ (Nat × List (Nat × Nat)) ⊕ (Nat × List Value)
def z_f : List (Nat × Int32) → Nat → Int32
  | [] => fun _ => 0
  | q :: t => upd (z_f t) q.1 q.2
def z_g : List (Nat × Nat) → Nat → Option Nat
  | [] => fun _ => none
  | q :: t => va_up (z_g t) q.1 (some q.2)
def z_l : z_C → va_E
  | .inl (t, n, s) => if t = 1 then .inl (1, n, .inr (.inl fun _ => 0)) else if t = 2 then .inl (2, n, .inr (.inr (.inr (.inl fun _ => 0)))) else .inl (t, n, .inl (z_f s))
  | .inr (.inl (n, s)) => .inl (4, n, .inr (.inr (.inr (.inr (z_g s)))))
  | .inr (.inr (c, fs)) => .inr (c, fs)
abbrev z_R : Type := (Option Value ⊕ e_L) × List z_C × Nat × Nat
abbrev z_Rec : Type := Nat → Nat → Nat → e_L → List Value → List z_C → Option z_R
def z_hl (y : Nat) (ins : Instr) (st : List Value) (h : List z_C) : Option (Nat × List Value) :=
  match ins, st with
  | .getfield idx, .ref a :: st => match e_ir2 e_fld (e_cy y) idx with
    | some (ci, k) => match h[a]? with
      | some (.inr (.inr (c2, fs))) => if c2 = ci then (match fs[k]? with
        | some v => some (3, v :: st)
        | none => none) else none
      | _ => none
    | none => none
  | .arraylength, .ref a :: st => if a = e_SCR then none else match h[a]? with
    | some (.inl (0, n, _)) => some (1, .int (Int32.ofNat n) :: st)
    | _ => none
  | _, _ => none
def z_hs (y : Nat) (ins : Instr) (st : List Value) (h : List z_C) : Option (Nat × List Value × List z_C) :=
  match ins, st with
  | .putfield idx, v :: .ref a :: st => match e_ir2 e_fld (e_cy y) idx with
    | some (ci, k) => match h[a]? with
      | some (.inr (.inr (c2, fs))) => if c2 = ci ∧ k < fs.length ∧ e_fit (e_ty ci k) v = true ∧ ((e_fT ci k).2.2.2 = false ∨ ((e_nm y).name = "<init>" ∧ (e_fT ci k).1 = (e_nm y).cls)) then some (3, st, h.set a (.inr (.inr (c2, fs.set k v)))) else none
      | _ => none
    | none => none
  | .iastore, .int x :: .int i :: .ref a :: st => match h[a]? with
    | some (.inl (0, n, s)) => if e_vin i n = true then some (1, st, h.set a (.inl (0, n, (i.toNatClampNeg, x) :: s))) else none
    | _ => none
  | .aastore, .ref v :: .int i :: .ref a :: st => match h[a]? with
    | some (.inr (.inl (n, s))) => match h[v]? with
      | some (.inr (.inr (3, _))) => if e_vin i n = true then some (1, st, h.set a (.inr (.inl (n, (i.toNatClampNeg, v) :: s)))) else none
      | _ => none
    | _ => none
  | _, _ => none
def z_mk (y : Nat) (ins : Instr) (st : List Value) : Option (Nat × List Value × z_C × Nat) :=
  match ins, st with
  | .new idx, st => match e_ir e_new (e_cy y) idx with
    | some ci => some (3, st, .inr (.inr (ci, e_df ci)), (vwCl.getD ci (RX0, TX0, 3)).2.2)
    | none => none
  | .newarray .int, .int n :: st => if n < 0 ∨ 100000 < n.toNatClampNeg then none else some (2, st, .inl (0, n.toNatClampNeg, []), n.toNatClampNeg)
  | .newarray .char, .int n :: st => if n < 0 ∨ 100000 < n.toNatClampNeg then none else some (2, st, .inl (3, n.toNatClampNeg, []), n.toNatClampNeg)
  | .anewarray idx, .int n :: st => if e_cy y = 0 ∧ idx = 9 then (if n < 0 ∨ 100000 < n.toNatClampNeg then none else some (3, st, .inr (.inl (n.toNatClampNeg, [])), n.toNatClampNeg)) else none
  | _, _ => none
def z_add (a b : Nat) : Option z_R → Option z_R
  | some (r, h, c, e) => some (r, h, a + c, b + e)
  | none => none
def z_ca (rec : z_Rec) (d y pc y2 : Nat) (m : Nat) (l : e_L) (st : List Value) (h : List z_C) : Option z_R :=
  match d with
  | 0 => none
  | d2 + 1 =>
    if m ≤ st.length ∧ ((st.drop m).map fun v => v.category).sum ≤ 8 ∧ (e_en (st.take m).reverse (e_ml y2)).length = e_ml y2 then
      match rec d2 y2 0 (e_en (st.take m).reverse (e_ml y2)) [] h with
      | some (.inl v, h2, a, b) => if h2.length = h.length then z_add a b (rec (d2 + 1) y (pc + 3) l (v.toList ++ st.drop m) h2) else
        if h.length < h2.length ∧ (st.drop m).all (e_vk h.length) = true then z_add a b (rec (d2 + 1) y (pc + 3) (e_lf h.length l) (v.toList ++ st.drop m) h2) else none
      | _ => none
    else none
def z_call (rec : z_Rec) (d y pc kd idx : Nat) (ins : Instr) (l : e_L) (st : List Value) (h : List z_C) : Option z_R :=
  match e_ir2 e_call (e_cy y) idx with
  | some (y2, _) => if e_kd y2 = kd then (if kd = 0 then z_ca rec d y pc y2 (e_np y2) l st h else
      match st[e_np y2]? with
      | some (.ref a) => match h[a]? with
        | some (.inr (.inr (c2, _))) => if e_cn c2 = (e_nm y2).cls then z_ca rec d y pc y2 (e_np y2 + 1) l st h else none
        | _ => none
      | _ => none) else none
  | none => match e_ir e_blt (e_cy y) idx with
    | some b => match d, ins, st with
      | _ + 1, .invokespecial _, .ref _ :: st2 => if b = 1004 ∧ (st2.map fun v => v.category).sum ≤ 40 then rec d y (pc + 3) l st2 h else none
      | _, _, _ => none
    | none => none
def z_bd (rec : z_Rec) : z_Rec := fun d y pc l st h =>
  if y = e_LAW ∧ pc = 28 ∧ st = [] then some (.inr l, h, 0, 0) else
  match decode (e_bc y) pc with
  | .error _ => none
  | .ok (ins, len) =>
    match ins with
    | .goto off => match e_br (.goto off) len pc st with
      | some (t, st2) => rec d y t l st2 h
      | none => none
    | .if_icmp c off => match e_br (.if_icmp c off) len pc st with
      | some (t, st2) => rec d y t l st2 h
      | none => none
    | .getfield idx => match z_hl y (.getfield idx) st h with
      | some (n, st2) => if n = len then rec d y (pc + n) l st2 h else none
      | none => none
    | .arraylength => match z_hl y .arraylength st h with
      | some (n, st2) => if n = len then rec d y (pc + n) l st2 h else none
      | none => none
    | .putfield idx => match z_hs y (.putfield idx) st h with
      | some (n, st2, h2) => if n = len then rec d y (pc + n) l st2 h2 else none
      | none => none
    | .iastore => match z_hs y .iastore st h with
      | some (n, st2, h2) => if n = len then rec d y (pc + n) l st2 h2 else none
      | none => none
    | .aastore => match z_hs y .aastore st h with
      | some (n, st2, h2) => if n = len then rec d y (pc + n) l st2 h2 else none
      | none => none
    | .return_ => match e_rn y .return_ st with
      | some v => if len = 1 then some (.inl v, h, 0, 0) else none
      | none => none
    | .invokespecial idx => if len = 3 then z_call rec d y pc 2 idx (.invokespecial idx) l st h else none
    | .invokestatic idx => if len = 3 then z_call rec d y pc 0 idx (.invokestatic idx) l st h else none
    | .new idx => match z_mk y (.new idx) st with
      | some (n, st2, e, k) => if n = len ∧ h.length < e_SCR ∧ st2.all (e_vk h.length) = true ∧ (h.map z_l).all (e_ck h.length) = true then z_add 1 k (rec d y (pc + n) (e_lf h.length l) (.ref h.length :: st2) (h ++ [e])) else none
      | none => none
    | .newarray ty => match z_mk y (.newarray ty) st with
      | some (n, st2, e, k) => if n = len ∧ h.length < e_SCR ∧ st2.all (e_vk h.length) = true ∧ (h.map z_l).all (e_ck h.length) = true then z_add 1 k (rec d y (pc + n) (e_lf h.length l) (.ref h.length :: st2) (h ++ [e])) else none
      | none => none
    | .anewarray idx => match z_mk y (.anewarray idx) st with
      | some (n, st2, e, k) => if n = len ∧ h.length < e_SCR ∧ st2.all (e_vk h.length) = true ∧ (h.map z_l).all (e_ck h.length) = true then z_add 1 k (rec d y (pc + n) (e_lf h.length l) (.ref h.length :: st2) (h ++ [e])) else none
      | none => none
    | _ => match e_op ins l st with
      | some (n, st2) => if n = len then rec d y (pc + n) l st2 h else none
      | none => match e_os ins l st with
        | some (n, l2, st2) => if n = len then rec d y (pc + n) l2 st2 h else none
        | none => none
def z_run : Nat → z_Rec
  | 0 => fun _ _ _ _ _ _ => none
  | n + 1 => z_bd (z_run n)
section El42
variable {L : Nat} {xs : Nat → Int32} {d y pc : Nat} {l : e_L} {st : List Value} {h h2 : List z_C} {o : Option e_R} {r : z_R}
theorem z_at {a : Nat} {q : z_C} (ha : h[a]? = some q) : (h.map z_l)[a]? = some (z_l q) := by rw [List.getElem?_map, ha]; rfl
theorem z_st (h : List z_C) (a : Nat) (q : z_C) : (h.set a q).map z_l = (h.map z_l).set a (z_l q) := by rw [List.map_set]
theorem z_hl_ok {ins : Instr} {r : Nat × List Value} (h1 : z_hl y ins st h = some r) : e_hl L xs y ins st (h.map z_l) = some r := by
  unfold z_hl at h1
  split at h1
  · next idx a st2 =>
    split at h1
    · next ci k hf =>
      split at h1
      · next c2 fs ha =>
        have e1 : (h.map z_l)[a]? = some (.inr (c2, fs)) := z_at ha
        unfold e_hl
        simp only [hf, e1]
        exact h1
      · cases h1
    · cases h1
  · next a st2 =>
    split at h1
    · cases h1
    · next hn =>
      split at h1
      · next n s ha =>
        have e1 : (h.map z_l)[a]? = some (.inl (0, n, .inl (z_f s))) := z_at ha
        unfold e_hl
        simp only [if_neg hn, e1]
        exact h1
      · cases h1
  · cases h1
theorem z_hs_ok {ins : Instr} {n : Nat} {st2 : List Value} (h1 : z_hs y ins st h = some (n, st2, h2)) : e_hs y ins st (h.map z_l) = some (n, st2, h2.map z_l) ∧ h2.length = h.length := by
  unfold z_hs at h1
  split at h1
  · next idx v a st3 =>
    split at h1
    · next ci k hf =>
      split at h1
      · next c2 fs ha =>
        split at h1
        · next hc =>
          cases h1
          have e1 : (h.map z_l)[a]? = some (.inr (c2, fs)) := z_at ha
          refine ⟨?_, by simp⟩
          unfold e_hs
          simp only [hf, e1, if_pos hc, z_st]
          rfl
        · cases h1
      · cases h1
    · cases h1
  · next x i a st3 =>
    split at h1
    · next m s ha =>
      split at h1
      · next hc =>
        cases h1
        have e1 : (h.map z_l)[a]? = some (.inl (0, m, .inl (z_f s))) := z_at ha
        refine ⟨?_, by simp⟩
        unfold e_hs
        simp only [e1, if_pos hc, z_st]
        rfl
      · cases h1
    · cases h1
  · next v i a st3 =>
    split at h1
    · next m s ha =>
      split at h1
      · next fs hb =>
        split at h1
        · next hc =>
          cases h1
          have e1 : (h.map z_l)[a]? = some (.inl (4, m, .inr (.inr (.inr (.inr (z_g s)))))) := z_at ha
          have e2 : (h.map z_l)[v]? = some (.inr (3, fs)) := z_at hb
          refine ⟨?_, by simp⟩
          unfold e_hs
          simp only [e1, e2, if_pos hc, z_st]
          rfl
        · cases h1
      · cases h1
    · cases h1
  · cases h1
theorem z_mk_ok {ins : Instr} {n k : Nat} {st2 : List Value} {q : z_C} (h1 : z_mk y ins st = some (n, st2, q, k)) : e_mk y ins st = some (n, st2, z_l q, k) := by
  unfold z_mk at h1
  split at h1
  · split at h1
    · next ci hc =>
      cases h1
      unfold e_mk
      simp only [hc]
      rfl
    · cases h1
  · split at h1
    · cases h1
    · next hc =>
      cases h1
      unfold e_mk
      simp only [if_neg hc]
      rfl
  · split at h1
    · cases h1
    · next hc =>
      cases h1
      unfold e_mk
      simp only [if_neg hc]
      rfl
  · split at h1
    · next hi =>
      split at h1
      · cases h1
      · next hc =>
        cases h1
        unfold e_mk
        simp only [if_pos hi, if_neg hc]
        rfl
    · cases h1
  · cases h1
/-- what a run over written cells says of the abstract machine -/
def z_ok (L : Nat) (xs : Nat → Int32) (d : Nat) (o : Option e_R) (h : List z_C) : z_R → Prop
  | (.inl v, h2, a, b) => h.length ≤ h2.length ∧ o = some (.inl v, h2.map z_l, a, b)
  | (.inr l2, h2, a, b) => h.length ≤ h2.length ∧ ∀ x h3 a2 b2, e_lim L xs d e_LAW 28 l2 [] (h2.map z_l) = some (x, h3, a2, b2) → h2.length ≤ h3.length → o = some (x, h3, a + a2, b + b2)
theorem z_ok.len (H : z_ok L xs d o h2 r) (hl : h.length ≤ h2.length) : z_ok L xs d o h r := by
  obtain ⟨v | l2, g, a, b⟩ := r
  · exact ⟨Nat.le_trans hl H.1, H.2⟩
  · exact ⟨Nat.le_trans hl H.1, H.2⟩
theorem z_ok.add {a b : Nat} (H : z_ok L xs d o h r) : ∀ r2, z_add a b (some r) = some r2 → z_ok L xs d (e_add a b o) h r2 := by
  obtain ⟨v | l2, g, a1, b1⟩ := r
  · intro r2 h2
    cases h2
    exact ⟨H.1, by rw [H.2]; rfl⟩
  · intro r2 h2
    cases h2
    refine ⟨H.1, fun x h3 a2 b2 e hl => ?_⟩
    rw [H.2 x h3 a2 b2 e hl]
    show some (x, h3, a + (a1 + a2), b + (b1 + b2)) = _
    rw [Nat.add_assoc, Nat.add_assoc]
theorem z_ok.adk {a b k : Nat} (H : z_ok L xs d o h r) (hk : k < h.length) : ∀ r2, z_add a b (some r) = some r2 → z_ok L xs d (e_adk k a b o) h r2 := by
  obtain ⟨v | l2, g, a1, b1⟩ := r
  · intro r2 h2
    cases h2
    refine ⟨H.1, ?_⟩
    rw [H.2]
    show (if k < (g.map z_l).length then some _ else none) = _
    rw [if_pos (by rw [List.length_map]; exact Nat.lt_of_lt_of_le hk H.1)]
  · intro r2 h2
    cases h2
    refine ⟨H.1, fun x h3 a2 b2 e hl => ?_⟩
    rw [H.2 x h3 a2 b2 e hl]
    show (if k < h3.length then some (x, h3, a + (a1 + a2), b + (b1 + b2)) else none) = _
    rw [if_pos (Nat.lt_of_lt_of_le hk (Nat.le_trans H.1 hl)), Nat.add_assoc, Nat.add_assoc]
theorem z_add_in {a b : Nat} {o : Option z_R} {r : z_R} (h : z_add a b o = some r) : ∃ r1, o = some r1 := by
  cases o with
  | none => cases h
  | some r1 => exact ⟨r1, rfl⟩
def z_sd (L : Nat) (xs : Nat → Int32) (rec : z_Rec) : Prop := ∀ d y pc l st h r, rec d y pc l st h = some r → z_ok L xs d (e_lim L xs d y pc l st (h.map z_l)) h r
theorem z_ca_ok {rec : z_Rec} (H : z_sd L xs rec) {y2 m : Nat} (h1 : z_ca rec d y pc y2 m l st h = some r) : z_ok L xs d (e_ca (e_lim L xs) d y pc y2 m l st (h.map z_l)) h r := by
  unfold z_ca at h1
  unfold e_ca
  cases d with
  | zero => cases h1
  | succ d2 =>
    simp only at h1 ⊢
    split at h1
    · next hm =>
      rw [if_pos hm]
      split at h1
      · next v h2 a b hf =>
        have e1 := H _ _ _ _ _ _ _ hf
        rw [e1.2]
        simp only [List.length_map]
        split at h1
        · next hl =>
          rw [if_pos hl]
          obtain ⟨r1, e2⟩ := z_add_in h1
          rw [e2] at h1
          exact ((H _ _ _ _ _ _ _ e2).len e1.1).add _ h1
        · next hl =>
          rw [if_neg hl]
          split at h1
          · next hk =>
            rw [if_pos hk]
            obtain ⟨r1, e2⟩ := z_add_in h1
            rw [e2] at h1
            have e3 := (H _ _ _ _ _ _ _ e2).adk hk.1 _ h1
            exact e3.len e1.1
          · cases h1
      · cases h1
    · cases h1
end El42
