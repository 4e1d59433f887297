section E72
variable {L : Nat} {xs : Nat → Int32} {d : Nat} {M M2 M3 : e_MI} {V : e_ML} {W : e_MD} {K : e_St} {h : e_H} {S : Int → e_St} {c : Int} {ρ ω β ε τ : Int → Int}
/-! the reference between two calls -/
/-- kept plans are rows that go -/
def kK (K : e_St) : Prop := (∀ s, 0 ≤ s → s < 3 → K (305 + s) = 0 ∨ K (305 + s) = 1) ∧ (∀ s, 0 ≤ s → s < 3 → K (305 + s) = 1 → vR K (fun p => K (257 + 16 * s + p))) ∧ ∀ i, 0 ≤ i → i < 48 → 0 ≤ K (257 + i) ∧ K (257 + i) ≤ 7
/-- rests are some times, a kind follows itself at once -/
def kD (K : e_St) : Prop := (∀ k, 0 ≤ k → k < K 311 → (0 ≤ K (208 + k) ∧ K (208 + k) ≤ 3) ∧ (0 ≤ K (218 + k) ∧ K (218 + k) < K (228 + k)) ∧ K (228 + k) ≤ 2000) ∧ ∀ m f, 0 ≤ m → m < 4 → 0 ≤ f → f < 4 → K (144 + 16 * m + 4 * f + f) = 0
/-- a state that runs of calls reach -/
def kG (K : e_St) : Prop := kR K ∧ kV K ∧ kP K ∧ kK K ∧ kD K
def RS (M : e_MI) : Prop := ∃ ρ ω β ε : Int → Int, e_SC M ρ ω β ε
theorem RS.of (hs : RS M) (h : ∀ a, 188 ≤ a → a ≤ 191 → M2 a = M a) : RS M2 := by
  obtain ⟨ρ, ω, β, ε, hS⟩ := hs
  exact ⟨ρ, ω, β, ε, hS.of h⟩
/-- the reference holds the state K, and what undo brings back -/
def RK (M : e_MI) (K : e_St) (c : Int) (S : Int → e_St) : Prop := e_KM M K ∧ kG K ∧ e_SV M c S ∧ (∀ j, 0 ≤ j → j < c → kG (S j)) ∧ RS M
theorem RK.g (H : RK M K c S) : kG K := H.2.1
theorem RK.v (H : RK M K c S) : kV K := H.2.1.2.1
theorem RK.s (H : RK M K c S) : RS M := H.2.2.2.2
/-- what a question leaves as it was -/
def frQ (M M2 : e_MI) : Prop := (∀ a, a < 184 → M2 a = M a) ∧ (M2 185 = M 185 ∧ M2 186 = M 186 ∧ M2 199 = M 199 ∧ M2 201 = M 201) ∧ M2 184 3 = M 184 3 ∧ M2 184 22 = M 184 22 ∧ M2 184 23 = M 184 23 ∧ M2 184 26 = M 184 26
/-- what a change leaves as it was -/
def frP (M M2 : e_MI) : Prop := (∀ a, a < 184 → M2 a = M a) ∧ (M2 199 = M 199 ∧ M2 201 = M 201) ∧ M2 184 22 = M 184 22 ∧ M2 184 23 = M 184 23 ∧ M2 184 26 = M 184 26
theorem frQ.p (h : frQ M M2) : frP M M2 := ⟨h.1, h.2.1.2.2, h.2.2.2⟩
theorem frQ.rf (M : e_MI) : frQ M M := ⟨fun _ _ => rfl, ⟨rfl, rfl, rfl, rfl⟩, rfl, rfl, rfl, rfl⟩
theorem frQ.t (h : frQ M M2) (h2 : frQ M2 M3) : frQ M M3 := ⟨fun a x => by rw [h2.1 a x, h.1 a x], ⟨by rw [h2.2.1.1, h.2.1.1], by rw [h2.2.1.2.1, h.2.1.2.1], by rw [h2.2.1.2.2.1, h.2.1.2.2.1], by rw [h2.2.1.2.2.2, h.2.1.2.2.2]⟩, by rw [h2.2.2.1, h.2.2.1], by rw [h2.2.2.2.1, h.2.2.2.1], by rw [h2.2.2.2.2.1, h.2.2.2.2.1], by rw [h2.2.2.2.2.2, h.2.2.2.2.2]⟩
theorem frP.t (h : frP M M2) (h2 : frP M2 M3) : frP M M3 := ⟨fun a x => by rw [h2.1 a x, h.1 a x], ⟨by rw [h2.2.1.1, h.2.1.1], by rw [h2.2.1.2, h.2.1.2]⟩, by rw [h2.2.2.1, h.2.2.1], by rw [h2.2.2.2.1, h.2.2.2.1], by rw [h2.2.2.2.2, h.2.2.2.2]⟩
theorem frQ.mk (h : ∀ a, a ≠ 184 → a < 184 ∨ a = 185 ∨ a = 186 ∨ a = 199 ∨ a = 201 → M2 a = M a) (hj : ∀ j, j = 3 ∨ j = 22 ∨ j = 23 ∨ j = 26 → M2 184 j = M 184 j) : frQ M M2 := ⟨fun a x => h a (by omega) (by omega), ⟨h _ (by decide) (by omega), h _ (by decide) (by omega), h _ (by decide) (by omega), h _ (by decide) (by omega)⟩, hj _ (by omega), hj _ (by omega), hj _ (by omega), hj _ (by omega)⟩
theorem frP.mk (h : ∀ a, a ≠ 184 → a < 184 ∨ a = 199 ∨ a = 201 → M2 a = M a) (hj : ∀ j, j = 22 ∨ j = 23 ∨ j = 26 → M2 184 j = M 184 j) : frP M M2 := ⟨fun a x => h a (by omega) (by omega), ⟨h _ (by decide) (by omega), h _ (by decide) (by omega)⟩, hj _ (by omega), hj _ (by omega), hj _ (by omega)⟩
theorem frQ_mT (M : e_MI) : frQ M (mT M) := frQ.mk (fun a x _ => mT_a M x) (fun j x => mT_j M (by omega))
theorem frQ_mF (M : e_MI) (b : Bool) (e : Int) : frQ M (mF M b e) := by
  cases b with
  | true => exact frQ.rf M
  | false =>
    rw [mF_f]
    exact frQ.mk (fun a x _ => e_u_n _ _ x) (fun j x => by rw [e_u_s, upd_n _ _ (by omega)])
theorem mF_a (M : e_MI) (b : Bool) (e : Int) {a : Nat} (h : a ≠ 184) : mF M b e a = M a := by
  cases b with
  | true => rfl
  | false =>
    rw [mF_f]
    exact e_u_n _ _ h
theorem mF_0 (M : e_MI) (b : Bool) (e : Int) (h : M 184 0 = iI 0) : mF M b e 184 0 = iI (if b = true then 0 else e) := by
  cases b with
  | true => exact h
  | false =>
    rw [mF_f, e_u_s, upd_s]
    rfl
theorem frT.q (h : frT M M2) : frQ M M2 := frQ.mk (fun a x y => h.1 a x (by omega) (by omega) (by omega) (by omega) (by omega)) (fun j x => h.2 j (by omega) (by omega))
theorem frO.q (h : frO M M2) : frQ M M2 := frQ.mk (fun a x y => h.1 a x (by omega) (by omega)) (fun j x => h.2 j (by omega) (by omega))
theorem frW.q (h : frW M M2) : frQ M M2 := frQ.mk (fun a x y => h.1 a x (by omega)) (fun j x => h.2 j (by omega))
theorem frN.p (h : frN M M2) : frP M M2 := frP.mk (fun a x y => h a (by omega)) (fun j x => by rw [h 184 (by decide)])
theorem frS.p (h : frS M M2) : frP M M2 := frP.mk (fun a x y => h.1 a x (by omega)) (fun j x => h.2 j (by omega))
theorem RK.of (H : RK M K c S) (h5 : M2 185 = M 185) (h6 : M2 186 = M 186) (h3 : M2 184 3 = M 184 3) (hs : RS M2) : RK M2 K c S := by
  obtain ⟨a1, a2, a3, a4, a5⟩ := H
  refine ⟨?_, a2, ?_, a4, hs⟩
  · unfold e_KM
    rw [h5]
    exact a1
  · unfold e_SV
    rw [h6, h3]
    exact a3
theorem RK.q (H : RK M K c S) (hq : frQ M M2) (hs : RS M2) : RK M2 K c S := H.of hq.2.1.1 hq.2.1.2.1 hq.2.2.1 hs
theorem RK.q2 (H : RK M K c S) (hq : frQ M M2) (hs : ∀ a, 188 ≤ a → a ≤ 191 → M2 a = M a) : RK M2 K c S := H.q hq (H.s.of hs)
theorem RK.mT (H : RK M K c S) : RK (mT M) K c S := H.q2 (frQ_mT M) (fun a x y => mT_a M (by omega))
theorem RK.mF (H : RK M K c S) (b : Bool) (e : Int) : RK (mF M b e) K c S := H.q2 (frQ_mF M b e) (fun a x y => mF_a M b e (by omega))
/-- whether the present plan has times -/
def ft (K : e_St) : Bool := fiR K (rwK K) (aW K)
end E72
