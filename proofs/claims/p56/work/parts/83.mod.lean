section E83
variable {L : Nat} {xs : Nat → Int32} {d : Nat} {M M2 M3 : e_MI} {V : e_ML} {W : e_MD} {K K2 : e_St} {h : e_H} {S : Int → e_St} {c cd : Int} {ρ ω β ε τ T U : Int → Int} {r : Option e_R} {an : Int32}
/-- the ends on two machines -/
def twF (K : e_St) (m q : Int) (l : List Int) : Nat → Int × Int
  | 0 => (0, 0)
  | k + 1 => ((twF K m q l k).1 + tO K (l.getD k 0) m, (if (twF K m q l k).1 + tO K (l.getD k 0) m < (twF K m q l k).2 then (twF K m q l k).2 else (twF K m q l k).1 + tO K (l.getD k 0) m) + tO K (l.getD k 0) q)
def twW (K : e_St) (m q : Int) : Int := (twF K m q (twoL K m q) (twoL K m q).length).2
theorem twF_rg (hr : kR K) {m q : Int} {l : List Int} (hl : ∀ x ∈ l, 0 ≤ x ∧ x ≤ 7) : ∀ k : Nat, k ≤ l.length → (0 ≤ (twF K m q l k).1 ∧ (twF K m q l k).1 ≤ 324 * k) ∧ 0 ≤ (twF K m q l k).2 ∧ (twF K m q l k).2 ≤ 648 * k
  | 0, _ => by
    unfold twF
    omega
  | k + 1, h => by
    have ih := twF_rg hr (m := m) (q := q) hl k (by omega)
    have hx := hl _ (getD_mem (l := l) (i := k) (by omega))
    have h1 := tO_rg hr (o := l.getD k 0) (m := m) hx
    have h2 := tO_rg hr (o := l.getD k 0) (m := q) hx
    unfold twF
    simp only
    generalize l.getD k 0 = y at *
    push_cast
    split <;> omega
end E83
