section E53
variable {L : Nat} {xs : Nat → Int32} {d : Nat} {M : e_MI} {V : e_ML} {W : e_MD} {K : e_St} {h : e_H} {ρ ω β ε : Int → Int} {k : Int}
theorem upd_s (f : Nat → Int32) (k : Nat) (x : Int32) : upd f k x k = x := by unfold upd; rw [if_pos rfl]
theorem upd_n (f : Nat → Int32) {k j : Nat} (x : Int32) (hj : j ≠ k) : upd f k x j = f j := by unfold upd; rw [if_neg hj]
theorem e_ll_c {l1 l2 : e_L} {o : Option Value} (h : e_ll l1 l2) : e_ll (o :: l1) (o :: l2) := by
  refine ⟨by simp [h.1], fun i v hv => ?_⟩
  cases i with
  | zero => exact hv
  | succ i => exact h.2 i v hv
theorem e_ll_x {l1 l2 : e_L} {o : Option Value} (h : e_ll l1 l2) : e_ll (none :: l1) (o :: l2) := by
  refine ⟨by simp [h.1], fun i v hv => ?_⟩
  cases i with
  | zero => simp at hv
  | succ i => exact h.2 i v hv
/-- the places that were timed last -/
def e_SC (M : e_MI) (ρ ω β ε : Int → Int) : Prop := e_ar (M 188) 16 ρ ∧ e_ar (M 189) 16 ω ∧ e_ar (M 190) 16 β ∧ e_ar (M 191) 16 ε ∧ rgO ρ ∧ rgW ω ∧ rgT β ∧ rgT ε
theorem sT_rg (hr : kR K) {m f t : Int} (h0 : 0 ≤ m ∧ m ≤ 3) (h1 : 0 ≤ f ∧ f ≤ 3) (h2 : 0 ≤ t ∧ t ≤ 3) : 0 ≤ sT K m f t ∧ sT K m f t ≤ 20 := by
  unfold sT
  split
  · omega
  · have := hr.se (i := 16 * m + 4 * f + t) (by omega) (by omega)
    rw [show 144 + (16 * m + 4 * f + t) = 144 + 16 * m + 4 * f + t by omega] at this
    exact this
theorem tk_rg (hr : kR K) {o w : Int} (h0 : 0 ≤ o ∧ o ≤ 7) (h1 : 0 ≤ w ∧ w ≤ 3) : 0 ≤ tk K o w ∧ tk K o w ≤ 81 := by
  have a := hr.am (o := o) h0.1 (by omega)
  have b := hr.tm (i := 4 * o + w) (by omega) (by omega)
  rw [show 80 + (4 * o + w) = 80 + 4 * o + w by omega] at b
  unfold tk
  constructor
  · exact Int.mul_nonneg a.1 b.1
  · have := Int.mul_le_mul a.2 b.2 b.1 (by omega)
    omega
def loA (K : e_St) (ρ ε : Int → Int) (k : Int) : Int := if oAh ρ k ≠ -1 ∧ K (16 + ρ k) < ε (oAh ρ k) then ε (oAh ρ k) else K (16 + ρ k)
def loS (K : e_St) (ρ ω ε : Int → Int) (k : Int) : Int := if mAh K ρ ω k = -1 then 0 else ε (mAh K ρ ω k) + sT K (mcA K ρ ω k) (K (ρ (mAh K ρ ω k))) (K (ρ k))
def loB (K : e_St) (ρ ω ε : Int → Int) (k : Int) : Int := if loA K ρ ε k < loS K ρ ω ε k then loS K ρ ω ε k else loA K ρ ε k
theorem loW_eq (K : e_St) (ρ ω ε : Int → Int) (k : Int) : loW K ρ ω ε k = if tAh K ρ ω k ≠ -1 ∧ loB K ρ ω ε k < ε (tAh K ρ ω k) then ε (tAh K ρ ω k) else loB K ρ ω ε k := rfl
/-- where the work at place k ends -/
def enW (K : e_St) (ρ ω β ε : Int → Int) (k : Int) : Int := if bgW K ρ ω β ε k = 2001 then 2001 else bgW K ρ ω β ε k + tk K (ρ k) (ω k)
/-- an order comes to place k: what is in the rows then -/
def puW (ρ ω : Int → Int) (k o : Int) : Int → Int := uI ω k (cnt ρ o k)
def puB (K : e_St) (ρ ω β ε : Int → Int) (k o : Int) : Int → Int := uI β k (bgW K (uI ρ k o) (puW ρ ω k o) β ε k)
def puE (K : e_St) (ρ ω β ε : Int → Int) (k o : Int) : Int → Int := uI ε k (enW K (uI ρ k o) (puW ρ ω k o) β ε k)
theorem rgO.up (h : rgO ρ) {z v : Int} (hv : 0 ≤ v ∧ v ≤ 7) : rgO (uI ρ z v) := by
  intro p a b
  unfold uI
  split
  · exact hv
  · exact h p a b
theorem rgW.up (h : rgW ω) {z v : Int} (hv : 0 ≤ v ∧ v ≤ 3) : rgW (uI ω z v) := by
  intro p a b
  unfold uI
  split
  · exact hv
  · exact h p a b
theorem rgT.up (h : rgT β) {z v : Int} (hv : 0 ≤ v ∧ v ≤ 2001) : rgT (uI β z v) := by
  intro p a b
  unfold uI
  split
  · exact hv
  · exact h p a b
end E53
