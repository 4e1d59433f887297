section Ec62
variable {K : e_St} {o w z m q p e x y v n c b : Int} {i j k f : Int} {χ χ2 A : Int → Bool} {g t u : Int → Int}
/-! sets of places, and what no order of them is better than -/
def TSx (f : Int → Int) (χ : Int → Bool) (k : Int) : Int := SU (fun i => if χ i = true then f i else 0) k
def dl (χ : Int → Bool) (j : Int) : Int → Bool := fun i => χ i && !decide (i = j)
theorem dl_j (χ : Int → Bool) (j : Int) : dl χ j j = false := by
  unfold dl
  simp
theorem dl_n (χ : Int → Bool) {j i : Int} (h : i ≠ j) : dl χ j i = χ i := by
  unfold dl
  simp [h]
theorem dl_t (h : dl χ j i = true) : χ i = true ∧ i ≠ j := by
  unfold dl at h
  simpa using h
theorem ts_s (g : Int → Int) (χ : Int → Bool) (hk : 0 ≤ k) : TSx g χ (k + 1) = TSx g χ k + if χ k = true then g k else 0 := SU_s _ hk
theorem ts_lo (g : Int → Int) (χ : Int → Bool) (h : k ≤ j) : TSx g (dl χ j) k = TSx g χ k := SU_cong fun i a b => by rw [dl_n χ (by omega)]
theorem ts_hi (g : Int → Int) (hj : 0 ≤ j) (hχ : χ j = true) : ∀ d : Nat, TSx g χ (j + 1 + d) = TSx g (dl χ j) (j + 1 + d) + g j
  | 0 => by
    rw [show j + 1 + ((0 : Nat) : Int) = j + 1 by omega, ts_s g _ hj, ts_s g _ hj, ts_lo g χ (Int.le_refl j), if_pos hχ, dl_j, if_neg Bool.false_ne_true]
    omega
  | d + 1 => by
    rw [show j + 1 + ((d + 1 : Nat) : Int) = j + 1 + d + 1 by omega, ts_s g _ (by omega), ts_s g _ (by omega), ts_hi g hj hχ d, dl_n χ (show j + 1 + (d : Int) ≠ j by omega)]
    omega
theorem ts_hiI (g : Int → Int) (hj : 0 ≤ j) (hk : j < k) (hχ : χ j = true) : TSx g χ k = TSx g (dl χ j) k + g j := by
  have := ts_hi g hj hχ (k - (j + 1)).toNat
  rw [show j + 1 + ((k - (j + 1)).toNat : Int) = k by omega] at this
  exact this
theorem ts_mono (h : ∀ i, 0 ≤ i → i < n → 0 ≤ g i) (h0 : 0 ≤ k) (hk : k ≤ n) : TSx g χ k ≤ TSx g χ n := SU_mono (fun i a b => by
  have := h i a b
  split <;> omega) h0 hk
theorem ts_0 (h : ∀ i, 0 ≤ i → i < n → 0 ≤ g i) (hn : 0 ≤ n) : 0 ≤ TSx g χ n := by
  have := ts_mono (χ := χ) h (Int.le_refl 0) hn
  have h0 : TSx g χ 0 = 0 := rfl
  omega
/-! one machine, weighted ends -/
def RSx (t w : Int → Int) (χ : Int → Bool) (k : Int) : Int := SU (fun i => if χ i = true then w i * TSx t χ (i + 1) else 0) k
theorem rs_step {w : Int → Int} (hj : 0 ≤ j) (hχ : χ j = true) : ∀ d : Nat, (∀ i k, 0 ≤ i → i < k → k < j + 1 + (d : Int) → w k * t i ≤ w i * t k) → RSx t w χ (j + 1 + d) ≤ RSx t w (dl χ j) (j + 1 + d) + w j * TSx t χ (j + 1 + d)
  | 0, hR => by
    rw [show j + 1 + ((0 : Nat) : Int) = j + 1 by omega]
    have e : RSx t w (dl χ j) j = RSx t w χ j := SU_cong fun i a b => by rw [dl_n χ (by omega), ts_lo t χ (by omega)]
    have a1 : RSx t w χ (j + 1) = RSx t w χ j + if χ j = true then w j * TSx t χ (j + 1) else 0 := SU_s _ hj
    have a2 : RSx t w (dl χ j) (j + 1) = RSx t w (dl χ j) j + if dl χ j j = true then w j * TSx t (dl χ j) (j + 1) else 0 := SU_s _ hj
    rw [if_pos hχ] at a1
    rw [dl_j, if_neg Bool.false_ne_true] at a2
    omega
  | d + 1, hR => by
    have ih := rs_step (w := w) hj hχ d (fun i k a b c => hR i k a b (by omega))
    have h1 := hR j (j + 1 + d) hj (by omega) (by omega)
    rw [show j + 1 + ((d + 1 : Nat) : Int) = j + 1 + d + 1 by omega]
    have a1 : RSx t w χ (j + 1 + d + 1) = RSx t w χ (j + 1 + d) + if χ (j + 1 + d) = true then w (j + 1 + d) * TSx t χ (j + 1 + d + 1) else 0 := SU_s _ (by omega)
    have a2 : RSx t w (dl χ j) (j + 1 + d + 1) = RSx t w (dl χ j) (j + 1 + d) + if dl χ j (j + 1 + d) = true then w (j + 1 + d) * TSx t (dl χ j) (j + 1 + d + 1) else 0 := SU_s _ (by omega)
    rw [dl_n χ (show j + 1 + (d : Int) ≠ j by omega)] at a2
    have a3 := ts_hiI t hj (show j < j + 1 + (d : Int) + 1 by omega) hχ
    have a4 := ts_s t χ (k := j + 1 + d) (by omega)
    by_cases hk : χ (j + 1 + d) = true
    · rw [if_pos hk] at a1 a2 a4
      rw [a3, Int.mul_add] at a1
      have a5 : w j * TSx t χ (j + 1 + d + 1) = w j * TSx t χ (j + 1 + d) + w j * t (j + 1 + d) := by rw [a4, Int.mul_add]
      omega
    · rw [if_neg hk] at a1 a2 a4
      have a5 : w j * TSx t χ (j + 1 + d + 1) = w j * TSx t χ (j + 1 + d) := by rw [a4, Int.add_zero]
      omega
theorem rs_stepI {w : Int → Int} (hj : 0 ≤ j ∧ j < n) (hχ : χ j = true) (hR : ∀ i k, 0 ≤ i → i < k → k < n → w k * t i ≤ w i * t k) : RSx t w χ n ≤ RSx t w (dl χ j) n + w j * TSx t χ n := by
  have := rs_step (t := t) (w := w) hj.1 hχ (n - (j + 1)).toNat (fun i k a b c => hR i k a b (by omega))
  rw [show j + 1 + ((n - (j + 1)).toNat : Int) = n by omega] at this
  exact this
/-! one machine, lateness -/
def DGx (t u : Int → Int) (n : Int) (χ : Int → Bool) (b : Int) : Prop := ∀ i, 0 ≤ i → i < n → χ i = true → TSx t χ (i + 1) - u i ≤ b
theorem dg_step (ht : ∀ i, 0 ≤ i → i < n → 0 ≤ t i) (hj : 0 ≤ j ∧ j < n) (hχ : χ j = true) (hR : ∀ i k, 0 ≤ i → i < k → k < n → u i ≤ u k) (h : DGx t u n (dl χ j) b) : DGx t u n χ (max b (TSx t χ n - u j)) := fun i a c d => by
  by_cases h1 : i < j
  · have := h i a c (by rw [dl_n χ (by omega)]; exact d)
    rw [ts_lo t χ (by omega)] at this
    omega
  · have m := ts_mono (χ := χ) ht (show 0 ≤ i + 1 by omega) (show i + 1 ≤ n by omega)
    have : u j ≤ u i := by
      by_cases h2 : i = j
      · rw [h2]
        exact Int.le_refl _
      · exact hR j i hj.1 (by omega) c
    omega
/-! two machines -/
def TGx (t u : Int → Int) (n : Int) (χ : Int → Bool) (b : Int) : Prop := 0 ≤ b ∧ ∀ i, 0 ≤ i → i < n → χ i = true → TSx t χ (i + 1) + (TSx u χ n - TSx u χ i) ≤ b
/-- which of two stands ahead -/
def jR (t u : Int → Int) (x y : Int) : Prop := (t x < u x ∧ ¬ t y < u y) ∨ (t x < u x ∧ t y < u y ∧ t x ≤ t y) ∨ (¬ t x < u x ∧ ¬ t y < u y ∧ u y ≤ u x)
theorem su_dif {f g : Int → Int} (hk : 0 ≤ k) : ∀ d : Nat, (∀ q, k ≤ q → q < k + d → f q ≤ g q) → SU f (k + d) - SU f k ≤ SU g (k + d) - SU g k
  | 0, _ => by
    rw [show k + ((0 : Nat) : Int) = k by omega]
    omega
  | d + 1, h => by
    have ih := su_dif hk d (fun q a b => h q a (by omega))
    have h1 := h (k + d) (by omega) (by omega)
    rw [show k + ((d + 1 : Nat) : Int) = k + d + 1 by omega, SU_s _ (by omega), SU_s _ (by omega)]
    omega
theorem ts_dif (hk : 0 ≤ k) (hn : k ≤ n) (h : ∀ q, k ≤ q → q < n → χ q = true → u q ≤ t q) : TSx u χ n - TSx u χ k ≤ TSx t χ n - TSx t χ k := by
  have := su_dif (f := fun i => if χ i = true then u i else 0) (g := fun i => if χ i = true then t i else 0) hk (n - k).toNat (fun q a b => by
    by_cases hq : χ q = true
    · rw [if_pos hq, if_pos hq]
      exact h q a (by omega) hq
    · rw [if_neg hq, if_neg hq]
      exact Int.le_refl _)
  rw [show k + ((n - k).toNat : Int) = n by omega] at this
  exact this
theorem ts_gap (g : Int → Int) (hk : 0 ≤ k) (hn : k ≤ n) (h : ∀ q, k ≤ q → q < n → χ q = false) : TSx g χ n = TSx g χ k := by
  have a := ts_dif (χ := χ) (u := g) (t := fun _ => 0) hk hn (fun q a b c => by rw [h q a b] at c; cases c)
  have b := ts_dif (χ := χ) (u := fun _ => 0) (t := g) hk hn (fun q a b c => by rw [h q a b] at c; cases c)
  have z : ∀ x, 0 ≤ x → TSx (fun _ => 0) χ x = 0 := fun x hx => by
    have : TSx (fun _ => 0) χ x = SU (fun _ => 0) x := SU_cong fun i _ _ => by split <;> rfl
    rw [this, SU_z hx]
  rw [z n (by omega), z k hk] at a b
  omega
/-- the next one in a set -/
theorem nx_ex (χ : Int → Bool) (hj : 0 ≤ j) : ∀ d : Nat, (∀ q, j < q → q < j + 1 + (d : Int) → χ q = false) ∨ ∃ k, j < k ∧ k < j + 1 + (d : Int) ∧ χ k = true ∧ ∀ q, j < q → q < k → χ q = false
  | 0 => Or.inl fun q a b => by omega
  | d + 1 => by
    rcases nx_ex χ hj d with h | ⟨k, a, b, c, e⟩
    · by_cases hq : χ (j + 1 + d) = true
      · exact Or.inr ⟨j + 1 + d, by omega, by omega, hq, fun q x y => h q x y⟩
      · refine Or.inl fun q x y => ?_
        by_cases hqd : q = j + 1 + d
        · rw [hqd]
          simpa using hq
        · exact h q x (by omega)
    · exact Or.inr ⟨k, a, by omega, c, e⟩
theorem tg_step2 (ht : ∀ i, 0 ≤ i → i < n → 0 ≤ t i) (hu : ∀ i, 0 ≤ i → i < n → 0 ≤ u i) (hj : 0 ≤ j ∧ j < n) (hχ : χ j = true) (hR : ∀ i k, 0 ≤ i → i < k → k < n → jR t u i k) (h : TGx t u n (dl χ j) b) : TGx t u n χ (max (TSx t χ n) b + u j) := by
  obtain ⟨h0, h1⟩ := h
  have uj := hu j hj.1 hj.2
  refine ⟨by omega, fun i a c d => ?_⟩
  have fu := ts_hiI u hj.1 hj.2 hχ
  by_cases c1 : i < j
  · have g := h1 i a c (by rw [dl_n χ (by omega)]; exact d)
    rw [ts_lo t χ (show i + 1 ≤ j by omega), ts_lo u χ (show i ≤ j by omega)] at g
    omega
  · have su := ts_s u χ a
    rw [if_pos d] at su
    by_cases rj : t j < u j
    · by_cases c2 : i = j
      · have e1 : TSx t χ (i + 1) + (TSx u χ n - TSx u χ i) = TSx t χ (j + 1) + u j + (TSx u χ n - TSx u χ (j + 1)) := by
          rw [c2] at su ⊢
          omega
        rw [e1]
        rcases nx_ex χ hj.1 (n - (j + 1)).toNat with hh | ⟨k, k1, k2, k3, k4⟩
        · have := ts_gap u (show 0 ≤ j + 1 by omega) (show j + 1 ≤ n by omega) (fun q x y => hh q (by omega) (by omega))
          have m := ts_mono (χ := χ) ht (show 0 ≤ j + 1 by omega) (show j + 1 ≤ n by omega)
          omega
        · have hkn : k < n := by omega
          by_cases rk : t k < u k
          · have g := h1 k (by omega) hkn (by rw [dl_n χ (by omega)]; exact k3)
            have tk := ts_hiI t hj.1 (show j < k + 1 by omega) hχ
            have uk := ts_hiI u hj.1 (show j < k by omega) hχ
            have g1 := ts_gap t (χ := χ) (show 0 ≤ j + 1 by omega) (show j + 1 ≤ k by omega) (fun q x y => k4 q (by omega) y)
            have g2 := ts_gap u (χ := χ) (show 0 ≤ j + 1 by omega) (show j + 1 ≤ k by omega) (fun q x y => k4 q (by omega) y)
            have sk := ts_s t χ (k := k) (by omega)
            rw [if_pos k3] at sk
            have hjk : t j ≤ t k := by
              rcases hR j k hj.1 k1 hkn with z | z | z
              · omega
              · omega
              · omega
            omega
          · have hd := ts_dif (χ := χ) (u := u) (t := t) (show 0 ≤ j + 1 by omega) (show j + 1 ≤ n by omega) (fun q x y z => by
              have hkq : k ≤ q := by
                by_cases hq : q < k
                · rw [k4 q (by omega) hq] at z
                  cases z
                · omega
              by_cases hqk : q = k
              · rw [hqk]
                omega
              · rcases hR k q (by omega) (by omega) y with z | z | z
                · omega
                · omega
                · omega)
            omega
      · have g := h1 i a c (by rw [dl_n χ c2]; exact d)
        have tk := ts_hiI t hj.1 (show j < i + 1 by omega) hχ
        have uk := ts_hiI u hj.1 (show j < i by omega) hχ
        omega
    · have hui : u i ≤ u j := by
        by_cases c2 : i = j
        · rw [c2]
          exact Int.le_refl _
        · rcases hR j i hj.1 (by omega) c with z | z | z
          · omega
          · omega
          · omega
      have hd := ts_dif (χ := χ) (u := u) (t := t) (show 0 ≤ i + 1 by omega) (show i + 1 ≤ n by omega) (fun q x y z => by
        rcases hR j q hj.1 (by omega) y with z | z | z
        · omega
        · omega
        · omega)
      omega
/-! rows stay sorted -/
theorem insG_pw {lt : Int → Int → Bool} {R : Int → Int → Prop} {o : Int} : ∀ a b : List Int, (a.reverse ++ b).Pairwise R → (∀ x ∈ a.reverse ++ b, lt o x = true → R o x) → (∀ x ∈ a.reverse ++ b, lt o x ≠ true → R x o) → (∀ x ∈ a.reverse ++ b, ∀ y ∈ a.reverse ++ b, R y x → R x o → R y o) → (∀ x ∈ b, R o x) → (insG lt o a b).Pairwise R
  | [], b, hp, h1, h2, h3, h4 => by
    unfold insG
    exact List.Pairwise.cons h4 (by simpa using hp)
  | x :: a, b, hp, h1, h2, h3, h4 => by
    have hxm : x ∈ (x :: a).reverse ++ b := by simp
    unfold insG
    by_cases hq : lt o x = true
    · rw [if_pos hq]
      have e : a.reverse ++ x :: b = (x :: a).reverse ++ b := by simp
      exact insG_pw a (x :: b) (by rw [e]; exact hp) (by rw [e]; exact h1) (by rw [e]; exact h2) (by rw [e]; exact h3) (fun y hy => by
        rcases List.mem_cons.mp hy with z | z
        · rw [z]
          exact h1 x hxm hq
        · exact h4 y z)
    · rw [if_neg hq]
      have hxo := h2 x hxm hq
      rw [List.pairwise_append] at hp ⊢
      obtain ⟨p1, p2, p3⟩ := hp
      have hao : ∀ y ∈ (x :: a).reverse, R y o := fun y hy => by
        by_cases hyx : y = x
        · rw [hyx]
          exact hxo
        · have p1' := p1
          rw [List.reverse_cons, List.pairwise_append] at p1'
          have hya : y ∈ a.reverse := by
            rw [List.reverse_cons, List.mem_append] at hy
            rcases hy with z | z
            · exact z
            · exact absurd (List.mem_singleton.mp z) hyx
          exact h3 x hxm y (List.mem_append_left b hy) (p1'.2.2 y hya x (List.mem_singleton.mpr rfl)) hxo
      refine ⟨p1, List.Pairwise.cons h4 p2, fun y hy z hz => ?_⟩
      rcases List.mem_cons.mp hz with w | w
      · rw [w]
        exact hao y hy
      · exact p3 y hy z w
theorem rowL_pw {lt : Int → Int → Bool} {q : Int → Bool} {R : Int → Int → Prop} : ∀ n : Nat, (∀ o x : Int, 0 ≤ x → x < o → o < n → q o = true → q x = true → (lt o x = true → R o x) ∧ (lt o x ≠ true → R x o)) → (∀ o x y : Int, 0 ≤ x → x < o → 0 ≤ y → y < o → o < n → q o = true → q x = true → q y = true → R y x → R x o → R y o) → (rowL lt q n).Pairwise R
  | 0, _, _ => List.Pairwise.nil
  | n + 1, h1, h2 => by
    have ih := rowL_pw (lt := lt) (q := q) (R := R) n (fun o x a b c => h1 o x a b (by omega)) (fun o x y a b c d e => h2 o x y a b c d (by omega))
    unfold rowL
    split
    · next hq =>
      unfold insS
      have hm : ∀ x ∈ (rowL lt q n).reverse.reverse ++ [], 0 ≤ x ∧ x < (n : Int) ∧ q x = true := fun x hx => by
        rw [List.reverse_reverse, List.append_nil, rowL_mem] at hx
        exact hx
      refine insG_pw _ _ (by rw [List.reverse_reverse, List.append_nil]; exact ih) (fun x hx => ?_) (fun x hx => ?_) (fun x hx y hy => ?_) (fun x hx => by cases hx)
      · have g := hm x hx
        exact (h1 n x g.1 g.2.1 (by omega) hq g.2.2).1
      · have g := hm x hx
        exact (h1 n x g.1 g.2.1 (by omega) hq g.2.2).2
      · have g := hm x hx
        have g2 := hm y hy
        exact h2 n x y g.1 g.2.1 g2.1 g2.2.1 (by omega) hq g.2.2 g2.2.2
    · exact ih
theorem pw_get {R : Int → Int → Prop} {l : List Int} (h : l.Pairwise R) {i k : Nat} (hi : i < k) (hk : k < l.length) : R (l.getD i 0) (l.getD k 0) := by
  have := List.pairwise_iff_getElem.mp h i k (by omega) hk hi
  rw [List.getD_eq_getElem?_getD, List.getD_eq_getElem?_getD, List.getElem?_eq_getElem (by omega), List.getElem?_eq_getElem hk]
  exact this
end Ec62
