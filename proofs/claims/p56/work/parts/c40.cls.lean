section Ec40
variable {K K2 : e_St} {c o w z m k q p i f l b e mc tl T x y v N : Int} {ρ ω β ε τ u : Int → Int}
/-! the times depend on the first cells alone -/
def eqK (K K2 : e_St) : Prop := ∀ z, z < 241 ∨ z = 310 ∨ z = 311 → K2 z = K z
theorem zAN_cg {p q : Int → Bool} {n : Int} (hn : 0 ≤ n) (h : ∀ k, 0 ≤ k → k < n → p k = q k) : zAN p n = zAN q n := bool_eq (by
  rw [zAN_iff hn, zAN_iff hn]
  constructor
  · rintro ⟨k, a, b, c⟩
    exact ⟨k, a, b, by rw [← h k a b]; exact c⟩
  · rintro ⟨k, a, b, c⟩
    exact ⟨k, a, b, by rw [h k a b]; exact c⟩)
theorem eqK.rs (h : eqK K K2) (hm : 0 ≤ K 311 ∧ K 311 ≤ 10) (m x : Int) : rsB K2 m x = rsB K m x := by
  unfold rsB
  rw [h 311 (by omega)]
  refine zAN_cg hm.1 fun k a b => ?_
  rw [h (208 + k) (by omega), h (218 + k) (by omega), h (228 + k) (by omega)]
theorem eqK.tq (h : eqK K K2) (ho : 0 ≤ o ∧ o ≤ 7) (hw : 0 ≤ w ∧ w ≤ 3) : tk K2 o w = tk K o w := by
  unfold tk
  rw [h _ (by omega), h _ (by omega)]
theorem eqK.bl (h : eqK K K2) (hm : 0 ≤ K 311 ∧ K 311 ≤ 10) (β ε : Int → Int) (k m : Int) : blB K2 β ε k m = blB K β ε k m := by
  funext t
  unfold blB hwB
  rw [h.rs hm, h (238 + t % 24 / 8) (by omega)]
theorem eqK.ww (h : eqK K K2) (hn : K 310 ≤ 8) : aW K2 = aW K := aW_cong (h _ (by omega)) (fun o a b => h _ (by omega))
end Ec40
