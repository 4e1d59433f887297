section E60
variable {L : Nat} {xs : Nat → Int32} {d : Nat} {M : e_MI} {V : e_ML} {W : e_MD} {K : e_St} {h : e_H} {ρ ω β ε ρ2 ω2 β2 ε2 τ : Int → Int} {k : Int}
/-- the memory once nothing is thrown -/
abbrev mT (M : e_MI) : e_MI := e_u M 184 (upd (M 184) 0 (iI 0))
theorem mT_a (M : e_MI) {a : Nat} (h : a ≠ 184) : mT M a = M a := e_u_n _ _ h
theorem mT_j (M : e_MI) {j : Nat} (h : j ≠ 0) : mT M 184 j = M 184 j := by
  show e_u M 184 (upd (M 184) 0 (iI 0)) 184 j = M 184 j
  rw [e_u_s, upd_n _ _ h]
theorem mT_0 (M : e_MI) : mT M 184 0 = iI 0 := by
  show e_u M 184 (upd (M 184) 0 (iI 0)) 184 0 = iI 0
  rw [e_u_s, upd_s]
theorem e_SC.of {M2 : e_MI} (hS : e_SC M ρ ω β ε) (h : ∀ a, 188 ≤ a → a ≤ 191 → M2 a = M a) : e_SC M2 ρ ω β ε := by
  unfold e_SC
  rw [h 188 (by decide) (by decide), h 189 (by decide) (by decide), h 190 (by decide) (by decide), h 191 (by decide) (by decide)]
  exact hS
/-- the greatest bound of all -/
def boF (K : e_St) : Int → Int := fun o => if 0 < K (40 + o) then K (16 + o) + tF K o 0 else 0
def boM (K : e_St) : Nat → Int
  | 0 => mX (boF K) (K 310)
  | m + 1 => if boM K m < bdW K m then bdW K m else boM K m
def boW (K : e_St) : Int := boM K 4
theorem bdW_rg (hr : kR K) {m : Int} : -1 ≤ bdW K m ∧ bdW K m ≤ 5000 := by
  have hn := hr.n
  have hb := bdO_rg (K := K) hr (m := m) (K 310).toNat (by omega)
  have e3 := lO_rg (m := m) hr
  obtain ⟨i1, i2⟩ := hb
  unfold bdW
  split <;> omega
theorem boF_rg (hr : kR K) {j : Int} (h0 : 0 ≤ j) (h1 : j ≤ K 310) : 0 ≤ mX (boF K) j ∧ mX (boF K) j ≤ 1000 := by
  have hn := hr.n
  refine mX_rg h0 (by omega) (fun p a b => ?_)
  have r1 := hr.re (o := p) a (by omega)
  have r2 := tF_rg hr (o := p) (f := 0) (by omega)
  unfold boF
  split <;> omega
theorem boM_rg (hr : kR K) : ∀ m : Nat, 0 ≤ boM K m ∧ boM K m ≤ 5000
  | 0 => by
    have := boF_rg hr hr.n.1 (Int.le_refl _)
    unfold boM
    omega
  | m + 1 => by
    have h1 := boM_rg hr m
    have h2 := bdW_rg hr (m := (m : Int))
    unfold boM
    split <;> omega
/-! critical works -/
/-- the first of the places that end last -/
def lsF (ε : Int → Int) : Nat → Int
  | 0 => -1
  | k + 1 => if lsF ε k = -1 ∨ ε (lsF ε k) < ε k then k else lsF ε k
def lsW (ε : Int → Int) (n : Int) : Int := lsF ε n.toNat
theorem lsF_rg (ε : Int → Int) : ∀ k : Nat, -1 ≤ lsF ε k ∧ lsF ε k < k
  | 0 => by unfold lsF; omega
  | k + 1 => by
    have := lsF_rg ε k
    unfold lsF
    split <;> omega
def chW (a : Int → Int) (k : Int) : Nat → Int
  | 0 => k
  | i + 1 => if chW a k i = -1 then -1 else a (chW a k i)
/-- how many places a chain has -/
def chN (a : Int → Int) (k : Int) : Int := zLP (fun i => decide (chW a k i.toNat ≠ -1)) 17 + 1
theorem chW_dn {a : Int → Int} (ha : ∀ k, 0 ≤ k → k < 16 → a k = -1 ∨ (0 ≤ a k ∧ a k < k)) {k : Int} (hk : -1 ≤ k ∧ k < 16) : ∀ i : Nat, chW a k i = -1 ∨ (0 ≤ chW a k i ∧ chW a k i + i ≤ 15)
  | 0 => by unfold chW; omega
  | i + 1 => by
    have ih := chW_dn ha hk i
    unfold chW
    rcases ih with c | c
    · rw [if_pos c]
      exact Or.inl rfl
    · rw [if_neg (by omega)]
      have := ha (chW a k i) (by omega) (by omega)
      omega
theorem chN_sp {a : Int → Int} (ha : ∀ k, 0 ≤ k → k < 16 → a k = -1 ∨ (0 ≤ a k ∧ a k < k)) {k : Int} (hk : -1 ≤ k ∧ k < 16) : (0 ≤ chN a k ∧ chN a k ≤ 16) ∧ (∀ i : Nat, (i : Int) < chN a k → 0 ≤ chW a k i ∧ chW a k i ≤ 15) ∧ chW a k (chN a k).toNat = -1 := by
  have mono : ∀ i j : Nat, chW a k i = -1 → chW a k (i + j) = -1 := by
    intro i j
    induction j with
    | zero => exact id
    | succ j ih =>
      intro h
      show (if chW a k (i + j) = -1 then -1 else a (chW a k (i + j))) = -1
      rw [if_pos (ih h)]
  have dn := chW_dn ha hk
  rcases zLP_cases (fun i => decide (chW a k i.toNat ≠ -1)) 17 (by omega) with ⟨x, z⟩ | ⟨x, z, c, e⟩
  · have hN : chN a k = 0 := by unfold chN; rw [x]; rfl
    rw [hN]
    refine ⟨by omega, fun i hi => by omega, ?_⟩
    have := z 0 (by omega) (by omega)
    simpa using this
  · have hN : chN a k = zLP (fun i => decide (chW a k i.toNat ≠ -1)) 17 + 1 := rfl
    generalize hq : zLP (fun i => decide (chW a k i.toNat ≠ -1)) 17 = q at *
    have c1 : chW a k q.toNat ≠ -1 := by simpa using c
    have c2 := dn q.toNat
    have hq15 : q ≤ 15 := by omega
    rw [hN]
    refine ⟨by omega, fun i hi => ?_, ?_⟩
    · have := dn i
      rcases this with y | y
      · have := mono i (q.toNat - i) y
        rw [show i + (q.toNat - i) = q.toNat by omega] at this
        exact absurd this c1
      · omega
    · have := e (q + 1) (by omega) (by omega)
      simpa using this
end E60
