section Ec64
variable {K : e_St} {o w z m q p e x y v n c b N : Int} {i j k f : Int} {χ χ2 A B C D : Int → Bool} {g t u : Int → Int} {l J : List Int} {s : List Int × List Int}
/-! the rows of the class are the best ones -/
def lx (l : List Int) (i : Int) : Int := l.getD i.toNat 0
theorem lx_in (h : ∀ x ∈ l, 0 ≤ x ∧ x < n) (hi : 0 ≤ i ∧ i < (l.length : Int)) : 0 ≤ lx l i ∧ lx l i < n := h _ (getD_mem (by omega))
theorem lx_pw {R : Int → Int → Prop} (h : l.Pairwise R) (a : 0 ≤ i) (b : i < k) (c : k < (l.length : Int)) : R (lx l i) (lx l k) := pw_get h (by omega) (by omega)
theorem lx_nat (l : List Int) (k : Nat) : lx l (k : Int) = l.getD k 0 := by
  unfold lx
  rw [Int.toNat_natCast]
theorem ratio_tr {wy wx wo ay ax ao : Int} (hx : 0 < ax) (hy : 0 ≤ ay) (ho : 0 ≤ ao) (h1 : wx * ay ≤ wy * ax) (h2 : wo * ax ≤ wx * ao) : wo * ay ≤ wy * ao := by
  refine Int.le_of_mul_le_mul_right (a := ax) ?_ hx
  have a1 : wo * ay * ax = wo * ax * ay := Int.mul_right_comm _ _ _
  have a2 := Int.mul_le_mul_of_nonneg_right h2 hy
  have a3 : wx * ao * ay = wx * ay * ao := Int.mul_right_comm _ _ _
  have a4 := Int.mul_le_mul_of_nonneg_right h1 ho
  have a5 : wy * ax * ao = wy * ao * ax := Int.mul_right_comm _ _ _
  omega
theorem oneL_rat (hr : kR K) : (oneL K m true).Pairwise (fun x y => K (32 + y) * tO K x m ≤ K (32 + x) * tO K y m) := by
  have hn := hr.n
  refine rowL_pw _ (fun o x a b c d e => ⟨fun h => ?_, fun h => ?_⟩) (fun o x y a b c d e f g h1 h2 h3 => ?_)
  · have : K (32 + x) * tO K o m < K (32 + o) * tO K x m := by simpa [isA] using h
    omega
  · have : ¬ K (32 + x) * tO K o m < K (32 + o) * tO K x m := by simpa [isA] using h
    omega
  · have r1 := tO_rg hr (o := x) (m := m) (by omega)
    have r2 := tO_rg hr (o := y) (m := m) (by omega)
    have r3 := tO_rg hr (o := o) (m := m) (by omega)
    have r4 : tO K x m ≠ 0 := by simpa using g
    exact ratio_tr (ax := tO K x m) (by omega) r2.1 r3.1 h2 h3
theorem oneL_day (hr : kR K) : (oneL K m false).Pairwise (fun x y => K (24 + x) < K (24 + y) ∨ (K (24 + x) = K (24 + y) ∧ x < y)) := by
  refine rowL_pw _ (fun o x a b c d e => ⟨fun h => ?_, fun h => ?_⟩) (fun o x y a b c d e f g h1 h2 h3 => ?_)
  · have : K (24 + o) < K (24 + x) := by simpa [isA] using h
    omega
  · have : ¬ K (24 + o) < K (24 + x) := by simpa [isA] using h
    omega
  · omega
theorem twoL_jr (K : e_St) (m q : Int) : (twoL K m q).Pairwise (jR (fun o => tO K o m) (fun o => tO K o q)) := by
  refine rowL_pw _ (fun o x a b c d e => ?_) (fun o x y a b c d e f g h1 h2 h3 => ?_)
  · unfold isT jR
    simp only
    generalize tO K o m = a1
    generalize tO K x m = a2
    generalize tO K o q = a3
    generalize tO K x q = a4
    by_cases z1 : a1 < a3
    · by_cases z2 : a2 < a4
      · constructor <;> intro h <;> simp [z1, z2] at h ⊢ <;> omega
      · simp [z1, z2]
    · by_cases z2 : a2 < a4
      · simp [z1, z2]
      · constructor <;> intro h <;> simp [z1, z2] at h ⊢ <;> omega
  · unfold jR at *
    simp only at *
    omega
theorem oneL_lenB (K : e_St) (m : Int) (br : Bool) : ((oneL K m br).length = (oneL K m false).length) := by
  have h : ∀ n : Nat, (rowL (isA K m br) (fun o => decide (tO K o m ≠ 0)) n).length = (rowL (isA K m false) (fun o => decide (tO K o m ≠ 0)) n).length := by
    intro n
    induction n with
    | zero => rfl
    | succ n ih =>
      unfold rowL
      split
      · rw [(insS_perm _ _ _).length_eq, (insS_perm _ _ _).length_eq, List.length_cons, List.length_cons, ih]
      · exact ih
  exact h _
theorem wyL_lenB (K : e_St) (m w : Int) : (wyL K m w).length = (oneL K m false).length := by
  rw [wyL_len, oneL_lenB]
theorem wyL_perm2 (K : e_St) (m : Int) : (wyL K m 2).Perm (oneL K m false) := by
  have := goF_perm (fun o => tO K o m) (fun o => K (24 + o)) (oneL K m false) ([], [])
  exact this
theorem wyL_nd2 (hr : kR K) : (wyL K m 2).Nodup := by
  refine (wyL_perm2 K m).nodup_iff.mpr ?_
  have := oneL_day (m := m) hr
  exact this.imp (fun {x y} h => by
    intro e
    rw [e] at h
    omega)
/-- what is held of a set of places -/
def GW (K : e_St) (m w : Int) (χ : Int → Bool) (b : Int) : Prop := (w = 0 → RSx (fun i => tO K (lx (wyL K m w) i) m) (fun i => K (32 + lx (wyL K m w) i)) χ ((wyL K m w).length : Int) ≤ b) ∧ (w = 1 → DGx (fun i => tO K (lx (wyL K m w) i) m) (fun i => K (24 + lx (wyL K m w) i)) ((wyL K m w).length : Int) χ b) ∧ (w = 2 → LGx (fun o => tO K o m) (fun o => K (24 + o)) (lx (wyL K m w)) ((wyL K m w).length : Int) χ b)
def lvW (K : e_St) (w o b e : Int) : Int := if w = 0 then b + K (32 + o) * e else if w = 1 then max b (e - K (24 + o)) else b + if K (24 + o) < e then 1 else 0
theorem gw_step (hr : kR K) (hw : 0 ≤ w ∧ w ≤ 2) (hj : 0 ≤ j ∧ j < ((wyL K m w).length : Int)) (hχ : χ j = true) (h : GW K m w (dl χ j) b) : GW K m w χ (lvW K w (lx (wyL K m w) j) b (TSx (fun i => tO K (lx (wyL K m w) i) m) χ ((wyL K m w).length : Int))) := by
  obtain ⟨h0, h1, h2⟩ := h
  have gi := wyL_in hr m w
  have hn := hr.n
  have ht : ∀ i, 0 ≤ i → i < ((wyL K m w).length : Int) → 0 ≤ tO K (lx (wyL K m w) i) m := fun i a b => by
    have := lx_in gi.1 ⟨a, b⟩
    exact (tO_rg hr (by omega)).1
  unfold lvW
  refine ⟨fun e => ?_, fun e => ?_, fun e => ?_⟩
  · have g := h0 e
    rw [if_pos e]
    have := rs_stepI (t := fun i => tO K (lx (wyL K m w) i) m) (w := fun i => K (32 + lx (wyL K m w) i)) hj hχ (fun i k a b c => by
      have hp := oneL_rat (m := m) hr
      have e2 : wyL K m w = oneL K m true := by
        rw [e]
        rfl
      rw [e2] at c ⊢
      exact lx_pw hp a b c)
    try simp only at this
    omega
  · have g := h1 e
    rw [if_neg (by omega), if_pos e]
    exact dg_step ht hj hχ (fun i k a b c => by
      have hp := oneL_day (m := m) hr
      have e2 : wyL K m w = oneL K m false := by
        rw [e]
        rfl
      try simp only
      rw [e2] at c ⊢
      have := lx_pw hp a b c
      omega) g
  · have g := h2 e
    rw [if_neg (by omega), if_neg (by omega)]
    exact lg_step (t := fun o => tO K o m) (u := fun o => K (24 + o)) ht hj hχ g
theorem gw_0 (K : e_St) (m w : Int) (h : ∀ i, χ i = false) : GW K m w χ (if w = 1 then -1000000 else 0) := by
  refine ⟨fun e => ?_, fun e => ?_, fun e => ?_⟩
  · rw [if_neg (by omega)]
    have : RSx (fun i => tO K (lx (wyL K m w) i) m) (fun i => K (32 + lx (wyL K m w) i)) χ ((wyL K m w).length : Int) = SU (fun _ => 0) ((wyL K m w).length : Int) := SU_cong fun i a b => by rw [h i, if_neg Bool.false_ne_true]
    rw [this, SU_z (by omega)]
    exact Int.le_refl _
  · intro i a b c
    rw [h i] at c
    cases c
  · rw [if_neg (by omega)]
    refine ⟨fun _ => false, fun i _ _ c => Bool.noConfusion c, fun i _ _ c => Bool.noConfusion c, ?_⟩
    rw [ts_z _ (by omega) (fun i _ _ => h i), ts_z _ (by omega) (fun i _ _ => rfl)]
    exact Int.le_refl _
theorem wt_ts (hχ : ∀ i, 0 ≤ i → i < (l.length : Int) → χ i = true) : ∀ k : Nat, k ≤ l.length → TSx (fun i => tO K (lx l i) m) χ (k : Int) = (wtF K m l k).1 ∧ RSx (fun i => tO K (lx l i) m) (fun i => K (32 + lx l i)) χ (k : Int) = (wtF K m l k).2
  | 0, _ => ⟨rfl, rfl⟩
  | k + 1, h => by
    obtain ⟨a, b⟩ := wt_ts hχ k (by omega)
    have hk := hχ k (by omega) (by omega)
    have e1 := ts_s (fun i => tO K (lx l i) m) χ (k := (k : Int)) (by omega)
    have e2 : RSx (fun i => tO K (lx l i) m) (fun i => K (32 + lx l i)) χ ((k : Int) + 1) = RSx (fun i => tO K (lx l i) m) (fun i => K (32 + lx l i)) χ (k : Int) + if χ (k : Int) = true then K (32 + lx l (k : Int)) * TSx (fun i => tO K (lx l i) m) χ ((k : Int) + 1) else 0 := SU_s _ (by omega)
    rw [if_pos hk] at e1 e2
    rw [e1] at e2
    rw [lx_nat] at e1 e2
    rw [show ((k + 1 : Nat) : Int) = (k : Int) + 1 by omega]
    unfold wtF
    simp only
    rw [← a, ← b]
    exact ⟨e1, e2⟩
theorem lt_ts (hχ : ∀ i, 0 ≤ i → i < (l.length : Int) → χ i = true) : ∀ k : Nat, k ≤ l.length → TSx (fun i => tO K (lx l i) m) χ (k : Int) = (ltF K m l k).1
  | 0, _ => rfl
  | k + 1, h => by
    have a := lt_ts hχ k (by omega)
    have hk := hχ k (by omega) (by omega)
    have e1 := ts_s (fun i => tO K (lx l i) m) χ (k := (k : Int)) (by omega)
    rw [if_pos hk, lx_nat] at e1
    rw [show ((k + 1 : Nat) : Int) = (k : Int) + 1 by omega]
    unfold ltF
    simp only
    rw [← a]
    exact e1
theorem lt_le (hχ : ∀ i, 0 ≤ i → i < (l.length : Int) → χ i = true) (h : DGx (fun i => tO K (lx l i) m) (fun i => K (24 + lx l i)) (l.length : Int) χ b) : ∀ k : Nat, k + 1 ≤ l.length → (ltF K m l (k + 1)).2 ≤ b := by
  have st : ∀ k : Nat, k + 1 ≤ l.length → (ltF K m l k).1 + tO K (l.getD k 0) m - K (24 + l.getD k 0) ≤ b := fun k hk => by
    have g := h k (by omega) (by omega) (hχ k (by omega) (by omega))
    have e := lt_ts (K := K) (m := m) hχ (k + 1) hk
    rw [show ((k + 1 : Nat) : Int) = (k : Int) + 1 by omega] at e
    rw [e] at g
    simp only at g
    rw [lx_nat] at g
    exact g
  intro k
  induction k with
  | zero =>
    intro hk
    have := st 0 hk
    unfold ltF
    simp only
    rw [if_pos (Or.inl trivial)]
    exact this
  | succ k ih =>
    intro hk
    have g1 := ih (by omega)
    have g2 := st (k + 1) hk
    rw [ltF]
    simp only
    split
    · exact g2
    · exact g1
theorem lg_full (hr : kR K) (hχ : ∀ i, 0 ≤ i → i < ((wyL K m 2).length : Int) → χ i = true) (h : LGx (fun o => tO K o m) (fun o => K (24 + o)) (lx (wyL K m 2)) ((wyL K m 2).length : Int) χ b) : ((goW K m).2.length : Int) ≤ b := by
  obtain ⟨A, a1, a2, a3⟩ := h
  have gi := wyL_in hr m 2
  have hn := hr.n
  have hN : 0 ≤ K 310 := hn.1
  have hnd := wyL_nd2 (m := m) hr
  have hpm := wyL_perm2 K m
  have hlen : ((goW K m).1.length : Int) + ((goW K m).2.length : Int) = ((wyL K m 2).length : Int) := by
    have : wyL K m 2 = (goW K m).1 ++ (goW K m).2 := rfl
    rw [this, List.length_append]
    omega
  have ht : ∀ o, 0 ≤ o → o < K 310 → 0 ≤ tO K o m := fun o a b => (tO_rg hr (by omega)).1
  have hin := fun i (a : 0 ≤ i) (b : i < ((wyL K m 2).length : Int)) => lx_in gi.1 ⟨a, b⟩
  have hinj : ∀ i k, 0 ≤ i → i < k → k < ((wyL K m 2).length : Int) → lx (wyL K m 2) i ≠ lx (wyL K m 2) k := fun i k a b c => lx_pw hnd a b c
  have hmem : ∀ k, 0 ≤ k → k < ((wyL K m 2).length : Int) → lx (wyL K m 2) k ∈ oneL K m false := fun k a b => (hpm.mem_iff).mp (getD_mem (by omega))
  generalize wyL K m 2 = ll at *
  have e1 : TSx (fun _ => 1) χ (ll.length : Int) = (ll.length : Int) := by
    have : ∀ k : Nat, k ≤ ll.length → TSx (fun _ => 1) χ (k : Int) = (k : Int) := fun k => by
      induction k with
      | zero => exact fun _ => rfl
      | succ k ih =>
        intro hk
        rw [show ((k + 1 : Nat) : Int) = (k : Int) + 1 by omega, ts_s _ _ (by omega), ih (by omega), if_pos (hχ k (by omega) (by omega))]
    exact this _ (Nat.le_refl _)
  obtain ⟨A2, hA2⟩ : ∃ A2 : Int → Bool, ∀ o, A2 o = true ↔ ∃ k : Int, 0 ≤ k ∧ k < (ll.length : Int) ∧ A k = true ∧ lx ll k = o := by
    refine ⟨fun o => @decide (∃ k : Int, 0 ≤ k ∧ k < (ll.length : Int) ∧ A k = true ∧ lx ll k = o) (Classical.propDecidable _), fun o => ?_⟩
    rw [@decide_eq_true_eq _ (Classical.propDecidable _)]
  have h1 := inj_le (ll := lx ll) hN ll.length A A2 (fun i a b => hin i a b) hinj (fun k a b c => (hA2 _).mpr ⟨k, a, b, c, rfl⟩)
  have h2 := mh_goL (t := fun o => tO K o m) (u := fun o => K (24 + o)) (N := K 310) (l := oneL K m false) (A := A2) ht hN (oneL_in hr false).1 (oneL_day hr) (fun o a b c => by
    obtain ⟨k, k0, k1, k2, k3⟩ := (hA2 o).mp c
    rw [← k3]
    exact hmem k k0 k1) (fun o a b c => by
    obtain ⟨k, k0, k1, k2, k3⟩ := (hA2 o).mp c
    have g := a2 k k0 k1 k2
    rw [k3] at g
    have h3 := cov_le (g := fun o => tO K o m) (ll := lx ll) ht hN ll.length (fun q => A2 q && leD (fun o => K (24 + o)) q o) (fun k => A k && leD (fun o => K (24 + o)) (lx ll k) o) (fun i a b => hin i a b) (fun q x y z => by
      rw [Bool.and_eq_true] at z
      obtain ⟨k', k0', k1', k2', k3'⟩ := (hA2 q).mp z.1
      refine ⟨k', k0', k1', ?_, k3'⟩
      rw [k2', k3', z.2]
      rfl)
    simp only at g h3 ⊢
    omega)
  have h4 : (goL (fun o => tO K o m) (fun o => K (24 + o)) (oneL K m false)).1.length = (goW K m).1.length := rfl
  omega
/-- what the class tells of one machine -/
def anG (K : e_St) (m w : Int) : Int := if w = 0 then wtW K m else if w = 1 then ltW K m else ((goW K m).2.length : Int)
theorem gw_full (hr : kR K) (hw : 0 ≤ w ∧ w ≤ 2) (hn : 0 < (wyL K m w).length) (hχ : ∀ i, 0 ≤ i → i < ((wyL K m w).length : Int) → χ i = true) (h : GW K m w χ b) : anG K m w ≤ b := by
  obtain ⟨h0, h1, h2⟩ := h
  unfold anG
  by_cases e0 : w = 0
  · have g := h0 e0
    rw [if_pos e0]
    have := (wt_ts (K := K) (m := m) hχ _ (Nat.le_refl _)).2
    rw [this] at g
    rw [e0] at g
    exact g
  · rw [if_neg e0]
    by_cases e1 : w = 1
    · have g := h1 e1
      rw [if_pos e1]
      have := lt_le (K := K) (m := m) hχ g ((wyL K m w).length - 1) (by omega)
      rw [show (wyL K m w).length - 1 + 1 = (wyL K m w).length by omega, e1] at this
      exact this
    · rw [if_neg e1]
      have e2 : w = 2 := by omega
      subst e2
      exact lg_full hr hχ (h2 rfl)
theorem tw_ts (hχ : ∀ i, 0 ≤ i → i < (l.length : Int) → χ i = true) : ∀ k : Nat, k ≤ l.length → TSx (fun i => tO K (lx l i) m) χ (k : Int) = (twF K m q l k).1
  | 0, _ => rfl
  | k + 1, h => by
    have a := tw_ts hχ k (by omega)
    have hk := hχ k (by omega) (by omega)
    have e1 := ts_s (fun i => tO K (lx l i) m) χ (k := (k : Int)) (by omega)
    rw [if_pos hk, lx_nat] at e1
    rw [show ((k + 1 : Nat) : Int) = (k : Int) + 1 by omega]
    unfold twF
    simp only
    rw [← a]
    exact e1
theorem tg_full (hr : kR K) (hχ : ∀ i, 0 ≤ i → i < ((twoL K m q).length : Int) → χ i = true) (h : TGx (fun i => tO K (lx (twoL K m q) i) m) (fun i => tO K (lx (twoL K m q) i) q) ((twoL K m q).length : Int) χ b) : twW K m q ≤ b := by
  have gi := twoL_in hr m q
  have hn := hr.n
  unfold twW
  generalize twoL K m q = l at *
  obtain ⟨hb, h⟩ := h
  have ht : ∀ i, 0 ≤ i → i < (l.length : Int) → 0 ≤ tO K (lx l i) m := fun i a b => by
    have := lx_in gi.1 ⟨a, b⟩
    exact (tO_rg hr (by omega)).1
  have main : ∀ k : Nat, k ≤ l.length → (twF K m q l k).2 + (TSx (fun i => tO K (lx l i) q) χ (l.length : Int) - TSx (fun i => tO K (lx l i) q) χ (k : Int)) ≤ b := by
    intro k
    induction k with
    | zero =>
      intro _
      have z : TSx (fun i => tO K (lx l i) q) χ ((0 : Nat) : Int) = 0 := rfl
      have z2 : (twF K m q l 0).2 = 0 := rfl
      rw [z, z2]
      by_cases hl : l.length = 0
      · rw [hl]
        have z : TSx (fun i => tO K (lx l i) q) χ ((0 : Nat) : Int) = 0 := rfl
        omega
      · have g := h 0 (by omega) (by omega) (hχ 0 (by omega) (by omega))
        have m1 := ts_mono (χ := χ) ht (show 0 ≤ (0 : Int) + 1 by omega) (show (0 : Int) + 1 ≤ (l.length : Int) by omega)
        have m2 := ts_0 (g := fun i => tO K (lx l i) m) (χ := χ) (n := 0 + 1) (fun i a b => ht i a (by omega)) (by omega)
        have z3 : TSx (fun i => tO K (lx l i) q) χ 0 = 0 := rfl
        omega
    | succ k ih =>
      intro hk
      have g1 := ih (by omega)
      have hck := hχ k (by omega) (by omega)
      have g2 := h k (by omega) (by omega) hck
      have e1 := tw_ts (K := K) (m := m) (q := q) hχ (k + 1) hk
      have e2 := ts_s (fun i => tO K (lx l i) q) χ (k := (k : Int)) (by omega)
      rw [if_pos hck, lx_nat] at e2
      rw [show ((k + 1 : Nat) : Int) = (k : Int) + 1 by omega] at e1 ⊢
      have e3 : (twF K m q l (k + 1)).1 = (twF K m q l k).1 + tO K (l.getD k 0) m := rfl
      have e4 : (twF K m q l (k + 1)).2 = (if (twF K m q l k).1 + tO K (l.getD k 0) m < (twF K m q l k).2 then (twF K m q l k).2 else (twF K m q l k).1 + tO K (l.getD k 0) m) + tO K (l.getD k 0) q := rfl
      rw [e4]
      split <;> omega
  have := main l.length (Nat.le_refl _)
  omega
theorem tw_step (hr : kR K) (hj : 0 ≤ j ∧ j < ((twoL K m q).length : Int)) (hχ : χ j = true) (h : TGx (fun i => tO K (lx (twoL K m q) i) m) (fun i => tO K (lx (twoL K m q) i) q) ((twoL K m q).length : Int) (dl χ j) b) : TGx (fun i => tO K (lx (twoL K m q) i) m) (fun i => tO K (lx (twoL K m q) i) q) ((twoL K m q).length : Int) χ (max (TSx (fun i => tO K (lx (twoL K m q) i) m) χ ((twoL K m q).length : Int)) b + tO K (lx (twoL K m q) j) q) := by
  have gi := twoL_in hr m q
  have hn := hr.n
  exact tg_step2 (t := fun i => tO K (lx (twoL K m q) i) m) (u := fun i => tO K (lx (twoL K m q) i) q) (fun i a b => by
    have := lx_in gi.1 ⟨a, b⟩
    exact (tO_rg hr (by omega)).1) (fun i a b => by
    have := lx_in gi.1 ⟨a, b⟩
    exact (tO_rg hr (by omega)).1) hj hχ (fun i k a b c => lx_pw (twoL_jr K m q) a b c) h
end Ec64
