section E66
variable {L : Nat} {xs : Nat → Int32} {d : Nat} {M : e_MI} {V : e_ML} {W : e_MD} {K : e_St} {h : e_H} {τ : Int → Int} {k : Int}
/-- no plan is kept -/
def gkK (K : e_St) : e_St := fun z => if 305 ≤ z ∧ z < 308 then 0 else K z
/-- an order comes -/
def coK (K : e_St) (a b c e f : Int) : e_St := uI (uI (uI (uI (uI (uI (uI K (K 310) a) (8 + K 310) b) (16 + K 310) c) (24 + K 310) e) (32 + K 310) f) (40 + K 310) 0) 310 (K 310 + 1)
/-- a work comes -/
def adK (K : e_St) (o m t l : Int) : e_St := uI (uI (uI (uI K (48 + (4 * o + K (40 + o))) m) (80 + (4 * o + K (40 + o))) t) (112 + (4 * o + K (40 + o))) l) (40 + o) (K (40 + o) + 1)
theorem aW_rwS (K : e_St) (r : Int → Int) (hn : K 310 ≤ 8) : aW (rwS K r) = aW K := by
  unfold aW
  rw [rwS_n (by omega)]
  exact SU_cong (fun i a b => rwS_n (by omega))
end E66
