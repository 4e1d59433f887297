/-! the abstract heap in the machine's: ad names the cells, dA the array classes -/
def e_mv (ad : Nat → Nat) : Value → Value
  | .ref k => .ref (ad k)
  | v => v
def e_me (dA : Nat → ClassId) (ad : Nat → Nat) : va_E → va_E
  | .inl (t, n, .inl f) => .inl (dA t, n, .inl f)
  | .inl (t, n, .inr (.inl f)) => .inl (dA t, n, .inr (.inl f))
  | .inl (t, n, .inr (.inr (.inl f))) => .inl (dA t, n, .inr (.inr (.inl f)))
  | .inl (t, n, .inr (.inr (.inr (.inl f)))) => .inl (dA t, n, .inr (.inr (.inr (.inl f))))
  | .inl (t, n, .inr (.inr (.inr (.inr f)))) => .inl (dA t, n, .inr (.inr (.inr (.inr fun j => if j < n then (f j).map ad else none))))
  | .inr (c, fs) => .inr (c, fs.map (e_mv ad))
def e_w (dA : Nat → ClassId) (ad : Nat → Nat) (h : e_H) : va_W := h.mapIdx fun k e => (ad k, e_me dA ad e)
theorem e_mv_cat (ad : Nat → Nat) (v : Value) : (e_mv ad v).category = v.category := by cases v <;> rfl
theorem e_mv_sum (ad : Nat → Nat) (st : List Value) : ((st.map (e_mv ad)).map fun v => v.category).sum = (st.map fun v => v.category).sum := by
  rw [List.map_map]
  congr 1
  apply List.map_congr_left
  intro v _
  exact e_mv_cat ad v
theorem e_w_get (dA : Nat → ClassId) (ad : Nat → Nat) (h : e_H) (k : Nat) : (e_w dA ad h)[k]? = h[k]?.map fun e => (ad k, e_me dA ad e) := by
  unfold e_w
  rw [List.getElem?_mapIdx]
theorem e_w_at {dA : Nat → ClassId} {ad : Nat → Nat} {h : e_H} {k : Nat} {x : va_E} (hk : h[k]? = some x) : (e_w dA ad h)[k]? = some (ad k, e_me dA ad x) := by
  rw [e_w_get, hk]; rfl
theorem e_w_len (dA : Nat → ClassId) (ad : Nat → Nat) (h : e_H) : (e_w dA ad h).length = h.length := by simp [e_w]
theorem e_w_set (dA : Nat → ClassId) (ad : Nat → Nat) (h : e_H) (a : Nat) (x : va_E) : e_w dA ad (h.set a x) = (e_w dA ad h).set a (ad a, e_me dA ad x) := by
  apply List.ext_getElem?
  intro k
  rw [e_w_get, List.getElem?_set, List.getElem?_set, e_w_get, e_w_len]
  by_cases hk : a = k
  · subst hk
    rw [if_pos rfl, if_pos rfl]
    by_cases hl : a < h.length
    · rw [if_pos hl, if_pos hl]; rfl
    · rw [if_neg hl, if_neg hl]; rfl
  · rw [if_neg hk, if_neg hk]
/-- the same names below n -/
def e_ag (n : Nat) (ad ad1 : Nat → Nat) : Prop := ∀ k, k < n ∨ k = e_SCR → ad1 k = ad k
theorem e_ag.rf {n : Nat} {ad : Nat → Nat} : e_ag n ad ad := fun _ _ => rfl
theorem e_ag.mv {n : Nat} {ad ad1 : Nat → Nat} (h : e_ag n ad ad1) {v : Value} (hv : e_vk n v = true) : e_mv ad1 v = e_mv ad v := by
  cases v with
  | ref k =>
    simp only [e_vk, Bool.or_eq_true, decide_eq_true_eq] at hv
    show Value.ref (ad1 k) = Value.ref (ad k)
    rw [h k hv]
  | _ => rfl
theorem e_ag.mvs {n : Nat} {ad ad1 : Nat → Nat} (h : e_ag n ad ad1) {st : List Value} (hv : st.all (e_vk n) = true) : st.map (e_mv ad1) = st.map (e_mv ad) := by
  apply List.map_congr_left
  intro v hm
  exact h.mv (List.all_eq_true.mp hv v hm)
theorem e_ag.me {n : Nat} {ad ad1 : Nat → Nat} (h : e_ag n ad ad1) {dA : Nat → ClassId} {x : va_E} (hx : e_ck n x = true) : e_me dA ad1 x = e_me dA ad x := by
  rcases x with ⟨t, m, f | f | f | f | f⟩ | ⟨c, fs⟩
  · rfl
  · rfl
  · rfl
  · rfl
  · simp only [e_ck, List.all_eq_true, List.mem_range] at hx
    simp only [e_me]
    congr 7
    funext j
    by_cases hj : j < m
    · rw [if_pos hj, if_pos hj]
      have := hx j hj
      cases hf : f j with
      | none => rfl
      | some k =>
        rw [hf] at this
        simp only [decide_eq_true_eq] at this
        simp only [Option.map_some, h k (Or.inl this)]
    · rw [if_neg hj, if_neg hj]
  · simp only [e_me]
    rw [h.mvs (by exact hx)]
theorem e_ag.w {n : Nat} {ad ad1 : Nat → Nat} (h : e_ag n ad ad1) {dA : Nat → ClassId} {hh : e_H} (hn : hh.length ≤ n) (hx : hh.all (e_ck n) = true) : e_w dA ad1 hh = e_w dA ad hh := by
  apply List.ext_getElem?
  intro k
  rw [e_w_get, e_w_get]
  cases hk : hh[k]? with
  | none => rfl
  | some x =>
    have hl := (List.getElem?_eq_some_iff.mp hk).1
    simp only [Option.map_some]
    rw [h k (Or.inl (by omega)), h.me (List.all_eq_true.mp hx x (List.mem_of_getElem? hk))]
theorem e_w_app (dA : Nat → ClassId) (ad : Nat → Nat) (h : e_H) (x : va_E) : e_w dA ad (h ++ [x]) = e_w dA ad h ++ [(ad h.length, e_me dA ad x)] := by
  simp [e_w, List.mapIdx_append]
/-! locals -/
def e_lr (ls : Array Slot) (ad : Nat → Nat) (l : e_L) : Prop := ls.size = l.length ∧ lv_wf ls ∧ ∀ (i : Nat) (v : Value), l[i]? = some (some v) → ls[i]? = some (Slot.val (e_mv ad v))
def e_as (ad : Nat → Nat) (l : e_L) : List (Nat × Value) := (List.range l.length).filterMap fun i => match l[i]? with
  | some (some v) => some (i, e_mv ad v)
  | _ => none
theorem e_as_mem {ad : Nat → Nat} {l : e_L} {q : Nat × Value} : q ∈ e_as ad l ↔ ∃ v, l[q.1]? = some (some v) ∧ q.2 = e_mv ad v := by
  unfold e_as
  rw [List.mem_filterMap]
  constructor
  · rintro ⟨i, hi, h⟩
    split at h
    · next v hv => cases h; exact ⟨v, hv, rfl⟩
    · cases h
  · rintro ⟨v, hv, h⟩
    refine ⟨q.1, List.mem_range.mpr (List.getElem?_eq_some_iff.mp hv).1, ?_⟩
    rw [hv]
    obtain ⟨i, w⟩ := q
    simp only at h
    rw [h]
theorem e_lr.has {ls : Array Slot} {ad : Nat → Nat} {l : e_L} (h : e_lr ls ad l) : lv_has ls l.length (e_as ad l) := by
  refine ⟨h.1, h.2.1, fun q hq => ?_⟩
  obtain ⟨v, h1, h2⟩ := e_as_mem.mp hq
  rw [h2]
  exact h.2.2 _ _ h1
theorem e_lr.ld {ls : Array Slot} {ad : Nat → Nat} {l : e_L} (h : e_lr ls ad l) {i : Nat} {v : Value} (hv : e_ld l i = some v) : ls[i]? = some (.val (e_mv ad v)) := by
  unfold e_ld at hv
  split at hv
  · next w hw => cases hv; exact h.2.2 _ _ hw
  · cases hv
theorem e_kl_len (l : e_L) (i : Nat) : (e_kl l i).length = l.length := by
  unfold e_kl
  split
  · rfl
  · split
    · split
      · simp
      · rfl
    · rfl
theorem e_kl_get {l : e_L} {i j : Nat} {w : Value} (h : (e_kl l i)[j]? = some (some w)) : l[j]? = some (some w) ∧ ¬ (j + 1 = i ∧ w.category = 2) := by
  unfold e_kl at h
  split at h
  · exact ⟨h, by omega⟩
  · next j2 =>
    split at h
    · next v hv =>
      split at h
      · next hc =>
        rw [List.getElem?_set] at h
        split at h
        · split at h <;> cases h
        · next hne => exact ⟨h, fun q => hne (by omega)⟩
      · next hc =>
        refine ⟨h, fun q => ?_⟩
        have : j = j2 := by omega
        subst this
        rw [hv] at h
        cases h
        exact hc q.2
    · next hn =>
      refine ⟨h, fun q => ?_⟩
      have : j = j2 := by omega
      subst this
      exact hn _ h
theorem e_s1_len (l : e_L) (i : Nat) (v : Value) : (e_s1 l i v).length = l.length := by simp [e_s1, e_kl_len]
theorem e_s2_len (l : e_L) (i : Nat) (v : Value) : (e_s2 l i v).length = l.length := by simp [e_s2, e_kl_len]
theorem e_sx_len (l : e_L) (i : Nat) : (e_sx l i).length = l.length := by simp [e_sx, e_kl_len]
theorem e_lr.st1 {ls ls2 : Array Slot} {ad : Nat → Nat} {l : e_L} (h : e_lr ls ad l) {i : Nat} {v : Value} (hi : i < l.length)
    (h2 : lv_has ls2 l.length ((i, e_mv ad v) :: (e_as ad l).filter (fun q => !(q.1 == i) && !(q.1 + 1 == i && q.2.category == 2)))) : e_lr ls2 ad (e_s1 l i v) := by
  refine ⟨by rw [e_s1_len]; exact h2.1, h2.2.1, fun j w hw => ?_⟩
  unfold e_s1 at hw
  rw [List.getElem?_set, e_kl_len] at hw
  split at hw
  · next hj =>
    subst hj
    try rw [if_pos hi] at hw
    cases hw
    exact h2.2.2 (i, e_mv ad v) List.mem_cons_self
  · next hj =>
    obtain ⟨a1, a2⟩ := e_kl_get hw
    refine h2.2.2 (j, e_mv ad w) (List.mem_cons_of_mem _ (List.mem_filter.mpr ⟨e_as_mem.mpr ⟨w, a1, rfl⟩, ?_⟩))
    simp only [Bool.and_eq_true, Bool.not_eq_true', beq_eq_false_iff_ne, ne_eq, Bool.and_eq_false_iff, e_mv_cat]
    refine ⟨fun q => hj q.symm, ?_⟩
    by_cases hq : j + 1 = i
    · exact Or.inr fun hc => a2 ⟨hq, hc⟩
    · exact Or.inl hq
theorem e_lr.st2 {ls ls2 : Array Slot} {ad : Nat → Nat} {l : e_L} (h : e_lr ls ad l) {i : Nat} {v : Value} (hi : i + 1 < l.length)
    (h2 : lv_has ls2 l.length ((i, e_mv ad v) :: (e_as ad l).filter (fun q => !(q.1 == i) && (!(q.1 == i + 1) && !(q.1 + 1 == i && q.2.category == 2))))) : e_lr ls2 ad (e_s2 l i v) := by
  refine ⟨by rw [e_s2_len]; exact h2.1, h2.2.1, fun j w hw => ?_⟩
  unfold e_s2 at hw
  rw [List.getElem?_set, List.length_set, e_kl_len] at hw
  split at hw
  · first | cases hw | (split at hw <;> cases hw)
  · next hj1 =>
    rw [List.getElem?_set, e_kl_len] at hw
    split at hw
    · next hj =>
      subst hj
      try rw [if_pos (by omega)] at hw
      cases hw
      exact h2.2.2 (i, e_mv ad v) List.mem_cons_self
    · next hj =>
      obtain ⟨a1, a2⟩ := e_kl_get hw
      refine h2.2.2 (j, e_mv ad w) (List.mem_cons_of_mem _ (List.mem_filter.mpr ⟨e_as_mem.mpr ⟨w, a1, rfl⟩, ?_⟩))
      simp only [Bool.and_eq_true, Bool.not_eq_true', beq_eq_false_iff_ne, ne_eq, Bool.and_eq_false_iff, e_mv_cat]
      refine ⟨fun q => hj q.symm, fun q => hj1 q.symm, ?_⟩
      by_cases hq : j + 1 = i
      · exact Or.inr fun hc => a2 ⟨hq, hc⟩
      · exact Or.inl hq
theorem e_lr.stx {ls ls2 : Array Slot} {ad : Nat → Nat} {l : e_L} (h : e_lr ls ad l) {i : Nat} {x : Value} (hi : i < l.length)
    (h2 : lv_has ls2 l.length ((i, x) :: (e_as ad l).filter (fun q => !(q.1 == i) && !(q.1 + 1 == i && q.2.category == 2)))) : e_lr ls2 ad (e_sx l i) := by
  refine ⟨by rw [e_sx_len]; exact h2.1, h2.2.1, fun j w hw => ?_⟩
  unfold e_sx at hw
  rw [List.getElem?_set, e_kl_len] at hw
  split at hw
  · first | cases hw | (split at hw <;> cases hw)
  · next hj =>
    obtain ⟨a1, a2⟩ := e_kl_get hw
    refine h2.2.2 (j, e_mv ad w) (List.mem_cons_of_mem _ (List.mem_filter.mpr ⟨e_as_mem.mpr ⟨w, a1, rfl⟩, ?_⟩))
    simp only [Bool.and_eq_true, Bool.not_eq_true', beq_eq_false_iff_ne, ne_eq, Bool.and_eq_false_iff, e_mv_cat]
    refine ⟨fun q => hj q.symm, ?_⟩
    by_cases hq : j + 1 = i
    · exact Or.inr fun hc => a2 ⟨hq, hc⟩
    · exact Or.inl hq
theorem e_lf_len (n : Nat) (l : e_L) : (e_lf n l).length = l.length := by simp [e_lf]
theorem e_lf_get {n i : Nat} {l : e_L} {v : Value} (h : (e_lf n l)[i]? = some (some v)) : l[i]? = some (some v) ∧ e_vk n v = true := by
  unfold e_lf at h
  rw [List.getElem?_map] at h
  cases hl : l[i]? with
  | none => rw [hl] at h; cases h
  | some o =>
    rw [hl] at h
    cases o with
    | none => cases h
    | some w =>
      simp only [Option.map_some] at h
      split at h
      · next hw => cases h; exact ⟨rfl, hw⟩
      · cases h
theorem e_lr.ag {ls : Array Slot} {ad ad1 : Nat → Nat} {l : e_L} {n : Nat} (h : e_lr ls ad l) (ha : e_ag n ad ad1) : e_lr ls ad1 (e_lf n l) := by
  refine ⟨by rw [e_lf_len]; exact h.1, h.2.1, fun i v hv => ?_⟩
  obtain ⟨h1, h2⟩ := e_lf_get hv
  rw [ha.mv h2]
  exact h.2.2 i v h1
/-- the entry's locals -/
theorem e_lr_entry (ad : Nat → Nat) (av : List Value) (n : Nat) (hn : (e_en av n).length = n) : e_lr ((lg_sl (av.map (e_mv ad)) ++ List.replicate (n - (lg_sl (av.map (e_mv ad))).length) Slot.unset).toArray) ad (e_en av n) := by
  have key : ∀ (av : List Value), (lg_sl (av.map (e_mv ad))).length = (av.flatMap fun v => if v.category = 2 then [some v, none] else [some v]).length ∧
      ∀ (j : Nat) (v : Value), (av.flatMap fun v => if v.category = 2 then [some v, none] else [some v])[j]? = some (some v) → (lg_sl (av.map (e_mv ad)))[j]? = some (Slot.val (e_mv ad v)) := by
    intro av
    induction av with
    | nil => exact ⟨rfl, fun j v h => by simp at h⟩
    | cons a t ih =>
      obtain ⟨i1, i2⟩ := ih
      have e1 : lg_sl ((a :: t).map (e_mv ad)) = (if a.category = 2 then [Slot.val (e_mv ad a), Slot.second] else [Slot.val (e_mv ad a)]) ++ lg_sl (t.map (e_mv ad)) := by
        simp [lg_sl, e_mv_cat]
      rw [e1, List.flatMap_cons]
      by_cases hc : a.category = 2
      · rw [if_pos hc, if_pos hc]
        refine ⟨by simp [i1], fun j v h => ?_⟩
        match j, h with
        | 0, h => simp at h; subst h; rfl
        | 1, h => simp at h
        | j + 2, h => simpa using i2 j v (by simpa using h)
      · rw [if_neg hc, if_neg hc]
        refine ⟨by simp [i1], fun j v h => ?_⟩
        match j, h with
        | 0, h => simp at h; subst h; rfl
        | j + 1, h => simpa using i2 j v (by simpa using h)
  obtain ⟨k1, k2⟩ := key av
  have hlen : (lg_sl (av.map (e_mv ad))).length ≤ n := by
    rw [k1]
    unfold e_en at hn
    simp only [List.length_append, List.length_replicate] at hn
    omega
  obtain ⟨a1, a2, -⟩ := lv_entry (av.map (e_mv ad)) (n := n) hlen
  refine ⟨by rw [a1, hn], a2, fun i v hv => ?_⟩
  unfold e_en at hv
  simp only at hv
  rw [List.getElem?_append] at hv
  split at hv
  · next hlt =>
    rw [List.getElem?_toArray, List.getElem?_append_left (by rw [k1]; exact hlt)]
    exact k2 i v hv
  · rw [List.getElem?_replicate] at hv
    split at hv <;> cases hv
