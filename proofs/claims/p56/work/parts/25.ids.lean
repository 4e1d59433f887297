/-! the shop's and the timing's cells, wherever they stand -/
def e_isS (s : Nat) : Prop := e_sk[s]? = some (.inr (3, [.int 0, .int 0, .int 0, .ref (s + 1), .ref (s + 2), .ref (s + 3), .ref (s + 4), .ref (s + 5), .ref (s + 6), .ref (s + 7), .ref (s + 8), .ref (s + 9)])) ∧ e_isI (s + 1) 48 ∧ e_isI (s + 2) 96 ∧ e_isI (s + 3) 64 ∧ e_isI (s + 4) 30 ∧ e_isI (s + 5) 3 ∧ e_isI (s + 6) 2 ∧ e_isI (s + 7) 16 ∧ e_isI (s + 8) 3 ∧ e_isI (s + 9) 48
def e_isT (t : Nat) : Prop := e_sk[t]? = some (.inr (6, [.int 0, .int 0, .int 0, .ref (t + 1), .ref (t + 2), .ref (t + 3), .ref (t + 4), .ref (t + 5), .ref (t + 6), .ref (t + 7), .ref (t + 8), .ref (t + 9), .ref (t + 10), .ref (t + 11), .ref (t + 12), .ref (t + 13), .ref (t + 14), .ref (t + 15)])) ∧ e_isI (t + 1) 16 ∧ e_isI (t + 2) 16 ∧ e_isI (t + 3) 16 ∧ e_isI (t + 4) 16 ∧ e_isI (t + 5) 16 ∧ e_isI (t + 6) 16 ∧ e_isI (t + 7) 16 ∧ e_isI (t + 8) 16 ∧ e_isI (t + 9) 16 ∧ e_isI (t + 10) 32 ∧ e_isI (t + 11) 8 ∧ e_isI (t + 12) 4 ∧ e_isI (t + 13) 3 ∧ e_isI (t + 14) 8 ∧ e_isI (t + 15) 2000
theorem e_isS.o {s : Nat} (h : e_isS s) : e_sk[s]? = some (.inr (3, [.int 0, .int 0, .int 0, .ref (s + 1), .ref (s + 2), .ref (s + 3), .ref (s + 4), .ref (s + 5), .ref (s + 6), .ref (s + 7), .ref (s + 8), .ref (s + 9)])) := h.1
theorem e_isS.i1 {s : Nat} (h : e_isS s) : e_isI (s + 1) 48 := h.2.1
theorem e_isS.i2 {s : Nat} (h : e_isS s) : e_isI (s + 2) 96 := h.2.2.1
theorem e_isS.i3 {s : Nat} (h : e_isS s) : e_isI (s + 3) 64 := h.2.2.2.1
theorem e_isS.i4 {s : Nat} (h : e_isS s) : e_isI (s + 4) 30 := h.2.2.2.2.1
theorem e_isS.i5 {s : Nat} (h : e_isS s) : e_isI (s + 5) 3 := h.2.2.2.2.2.1
theorem e_isS.i6 {s : Nat} (h : e_isS s) : e_isI (s + 6) 2 := h.2.2.2.2.2.2.1
theorem e_isS.i7 {s : Nat} (h : e_isS s) : e_isI (s + 7) 16 := h.2.2.2.2.2.2.2.1
theorem e_isS.i8 {s : Nat} (h : e_isS s) : e_isI (s + 8) 3 := h.2.2.2.2.2.2.2.2.1
theorem e_isS.i9 {s : Nat} (h : e_isS s) : e_isI (s + 9) 48 := h.2.2.2.2.2.2.2.2.2
theorem e_isT.o {t : Nat} (h : e_isT t) : e_sk[t]? = some (.inr (6, [.int 0, .int 0, .int 0, .ref (t + 1), .ref (t + 2), .ref (t + 3), .ref (t + 4), .ref (t + 5), .ref (t + 6), .ref (t + 7), .ref (t + 8), .ref (t + 9), .ref (t + 10), .ref (t + 11), .ref (t + 12), .ref (t + 13), .ref (t + 14), .ref (t + 15)])) := h.1
theorem e_isT.i1 {t : Nat} (h : e_isT t) : e_isI (t + 1) 16 := h.2.1
theorem e_isT.i2 {t : Nat} (h : e_isT t) : e_isI (t + 2) 16 := h.2.2.1
theorem e_isT.i3 {t : Nat} (h : e_isT t) : e_isI (t + 3) 16 := h.2.2.2.1
theorem e_isT.i4 {t : Nat} (h : e_isT t) : e_isI (t + 4) 16 := h.2.2.2.2.1
theorem e_isT.i5 {t : Nat} (h : e_isT t) : e_isI (t + 5) 16 := h.2.2.2.2.2.1
theorem e_isT.i6 {t : Nat} (h : e_isT t) : e_isI (t + 6) 16 := h.2.2.2.2.2.2.1
theorem e_isT.i7 {t : Nat} (h : e_isT t) : e_isI (t + 7) 16 := h.2.2.2.2.2.2.2.1
theorem e_isT.i8 {t : Nat} (h : e_isT t) : e_isI (t + 8) 16 := h.2.2.2.2.2.2.2.2.1
theorem e_isT.i9 {t : Nat} (h : e_isT t) : e_isI (t + 9) 16 := h.2.2.2.2.2.2.2.2.2.1
theorem e_isT.i10 {t : Nat} (h : e_isT t) : e_isI (t + 10) 32 := h.2.2.2.2.2.2.2.2.2.2.1
theorem e_isT.i11 {t : Nat} (h : e_isT t) : e_isI (t + 11) 8 := h.2.2.2.2.2.2.2.2.2.2.2.1
theorem e_isT.i12 {t : Nat} (h : e_isT t) : e_isI (t + 12) 4 := h.2.2.2.2.2.2.2.2.2.2.2.2.1
theorem e_isT.i13 {t : Nat} (h : e_isT t) : e_isI (t + 13) 3 := h.2.2.2.2.2.2.2.2.2.2.2.2.2.1
theorem e_isT.i14 {t : Nat} (h : e_isT t) : e_isI (t + 14) 8 := h.2.2.2.2.2.2.2.2.2.2.2.2.2.2.1
theorem e_isT.i15 {t : Nat} (h : e_isT t) : e_isI (t + 15) 2000 := h.2.2.2.2.2.2.2.2.2.2.2.2.2.2.2
theorem e_isT_0 : e_isT 133 := by unfold e_isT e_isI; exact ⟨rfl, rfl, rfl, rfl, rfl, rfl, rfl, rfl, rfl, rfl, rfl, rfl, rfl, rfl, rfl, rfl⟩
theorem e_isT_1 : e_isT 149 := by unfold e_isT e_isI; exact ⟨rfl, rfl, rfl, rfl, rfl, rfl, rfl, rfl, rfl, rfl, rfl, rfl, rfl, rfl, rfl, rfl⟩
theorem e_isS_0 : e_isS 1 := by unfold e_isS e_isI; exact ⟨rfl, rfl, rfl, rfl, rfl, rfl, rfl, rfl, rfl, rfl⟩
theorem e_isS_k : ∀ k, k < 12 → e_isS (13 + 10 * k) := by
  intro k hk
  rcases (show k = 0 ∨ k = 1 ∨ k = 2 ∨ k = 3 ∨ k = 4 ∨ k = 5 ∨ k = 6 ∨ k = 7 ∨ k = 8 ∨ k = 9 ∨ k = 10 ∨ k = 11 by omega) with rfl | rfl | rfl | rfl | rfl | rfl | rfl | rfl | rfl | rfl | rfl | rfl <;>
    exact ⟨rfl, rfl, rfl, rfl, rfl, rfl, rfl, rfl, rfl, rfl⟩
/-- the length of an int array of the shape -/
def e_nI (a : Nat) : Nat := match e_sk[a]? with
  | some (.inl (_, n, _)) => n
  | _ => 0
def e_isA (a : Nat) : Prop := e_isI a (e_nI a)
theorem e_isI.n {a n : Nat} (h : e_isI a n) : e_nI a = n := by
  unfold e_isI at h
  unfold e_nI
  rw [h]
theorem e_isI.A {a n : Nat} (h : e_isI a n) : e_isA a := by
  unfold e_isA
  rw [h.n]
  exact h
theorem e_nI_lt : ∀ a, e_nI a < 4000 := by
  intro a
  by_cases ha : a < 206
  · have : ∀ a, a < 206 → e_nI a < 4000 := by decide +kernel
    exact this a ha
  · have : e_sk[a]? = none := List.getElem?_eq_none (by rw [e_sk_len]; omega)
    unfold e_nI
    rw [this]
    decide
