section El24
variable {K : e_St} {c o j w z m k q p i a b t x B its u v : Int}
/-! lines of orders: what they are worth; none is better than what is told -/
abbrev rvT : Type := Int × Int × Int × Int × Int
/-- time on the first machine, end on the second, weighted ends, greatest lateness, how many are late -/
def rvS (K : e_St) (m q : Int) (s : rvT) (o : Int) : rvT :=
  (s.1 + tO K o m, (if q = -1 then s.2.1 else max s.2.1 (s.1 + tO K o m) + tO K o q), s.2.2.1 + K (32 + o) * (s.1 + tO K o m), max s.2.2.2.1 (s.1 + tO K o m - K (24 + o)), s.2.2.2.2 + if K (24 + o) < s.1 + tO K o m then 1 else 0)
def rvL (K : e_St) (m q : Int) (l : List Int) : rvT := l.foldl (rvS K m q) (0, 0, 0, -2147483648, 0)
theorem rvL_a (K : e_St) (m q : Int) (l : List Int) (o : Int) : rvL K m q (l ++ [o]) = rvS K m q (rvL K m q l) o := by
  unfold rvL
  rw [List.foldl_append]
  rfl
/-- the places of R whose orders are in the line -/
def cX (R l : List Int) : Int → Bool := fun i => decide (0 ≤ i ∧ i < (R.length : Int) ∧ lx R i ∈ l)
theorem lx_at {R : List Int} (h : o ∈ R) : ∃ j, (0 ≤ j ∧ j < (R.length : Int)) ∧ lx R j = o := by
  obtain ⟨n, hn, e⟩ := List.getElem_of_mem h
  refine ⟨n, ⟨by omega, by omega⟩, ?_⟩
  unfold lx
  rw [Int.toNat_natCast, List.getD_eq_getElem?_getD, List.getElem?_eq_getElem hn]
  exact e
theorem lx_mem {R : List Int} (h : 0 ≤ i ∧ i < (R.length : Int)) : lx R i ∈ R := by
  unfold lx
  exact getD_mem (by omega)
theorem lx_inj {R : List Int} (hR : R.Nodup) (hi : 0 ≤ i ∧ i < (R.length : Int)) (hj : 0 ≤ j ∧ j < (R.length : Int)) (h : lx R i = lx R j) : i = j := by
  by_cases h1 : i < j
  · exact absurd h (lx_pw hR hi.1 h1 hj.2)
  · by_cases h2 : j < i
    · exact absurd h.symm (lx_pw hR hj.1 h2 hi.2)
    · omega
theorem ln_ind {R : List Int} {G : (Int → Bool) → Int → Prop} {g : Int → Int} {T v : List Int → Int} (hR : R.Nodup) (hT0 : T [] = 0) (hT : ∀ l o, T (l ++ [o]) = T l + g o) (h0 : G (fun _ => false) (v []))
    (hs : ∀ (χ : Int → Bool) (j : Int) (l : List Int), 0 ≤ j ∧ j < (R.length : Int) → χ j = true → G (dl χ j) (v l) → TSx (fun i => g (lx R i)) χ (R.length : Int) = T (l ++ [lx R j]) → G χ (v (l ++ [lx R j]))) :
    ∀ (n : Nat) (l : List Int), l.length = n → l.Nodup → (∀ o ∈ l, o ∈ R) → TSx (fun i => g (lx R i)) (cX R l) (R.length : Int) = T l ∧ G (cX R l) (v l)
  | 0, l, hl, _, _ => by
    have e : l = [] := List.length_eq_zero_iff.mp hl
    subst e
    have hc : cX R [] = fun _ => false := by
      funext i
      unfold cX
      simp
    rw [hc, hT0]
    exact ⟨ts_z _ (by omega) (fun _ _ _ => rfl), h0⟩
  | n + 1, l, hl, hn, hm => by
    have hne : l ≠ [] := fun e => by subst e; simp at hl
    have hd := (List.dropLast_concat_getLast hne).symm
    generalize l.dropLast = l1 at hd
    generalize l.getLast hne = o at hd
    subst hd
    have hl1 : l1.length = n := by simpa using hl
    rw [List.nodup_append] at hn
    have hno : o ∉ l1 := fun x => hn.2.2 o x o (by simp) rfl
    obtain ⟨i1, i2⟩ := ln_ind hR hT0 hT h0 hs n l1 hl1 hn.1 (fun x hx => hm x (by simp [hx]))
    obtain ⟨j, hj, e⟩ := lx_at (hm o (by simp))
    have hχ : cX R (l1 ++ [o]) j = true := decide_eq_true ⟨hj.1, hj.2, by rw [e]; simp⟩
    have hdl : dl (cX R (l1 ++ [o])) j = cX R l1 := by
      funext i
      by_cases hi : i = j
      · rw [hi, dl_j]
        unfold cX
        rw [e]
        exact (decide_eq_false (fun x => hno x.2.2)).symm
      · rw [dl_n _ hi]
        unfold cX
        by_cases hr : 0 ≤ i ∧ i < (R.length : Int)
        · have hx : lx R i ≠ o := fun x => hi (lx_inj hR hr hj (x.trans e.symm))
          simp [hr.1, hr.2, hx]
        · rw [decide_eq_false (by omega), decide_eq_false (by omega)]
    have hts : TSx (fun i => g (lx R i)) (cX R (l1 ++ [o])) (R.length : Int) = T (l1 ++ [o]) := by
      rw [ts_hiI _ hj.1 hj.2 hχ, hdl, i1, hT, e]
    refine ⟨hts, ?_⟩
    have := hs (cX R (l1 ++ [o])) j l1 hj hχ (by rw [hdl]; exact i2) (by rw [e]; exact hts)
    rw [e] at this
    exact this
theorem rowL_nd (lt : Int → Int → Bool) (q : Int → Bool) : ∀ n : Nat, (rowL lt q n).Nodup
  | 0 => List.nodup_nil
  | n + 1 => by
    have ih := rowL_nd lt q n
    unfold rowL
    split
    · rw [(insS_perm lt n (rowL lt q n)).nodup_iff, List.nodup_cons]
      refine ⟨fun hx => ?_, ih⟩
      have := (rowL_mem lt q n n).mp hx
      omega
    · exact ih
theorem oneL_iff (hr : kR K) {br : Bool} : o ∈ oneL K m br ↔ 0 ≤ o ∧ o < K 310 ∧ tO K o m ≠ 0 := by
  have hn := hr.n
  unfold oneL
  rw [rowL_mem]
  constructor
  · rintro ⟨a, b, c⟩
    exact ⟨a, by omega, of_decide_eq_true c⟩
  · rintro ⟨a, b, c⟩
    exact ⟨a, by omega, decide_eq_true c⟩
theorem twoL_iff (hr : kR K) : o ∈ twoL K m q ↔ 0 ≤ o ∧ o < K 310 ∧ tO K o m + tO K o q ≠ 0 := by
  have hn := hr.n
  unfold twoL
  rw [rowL_mem]
  constructor
  · rintro ⟨a, b, c⟩
    exact ⟨a, by omega, of_decide_eq_true c⟩
  · rintro ⟨a, b, c⟩
    exact ⟨a, by omega, decide_eq_true c⟩
theorem wyL_iff (hr : kR K) (hw : 0 ≤ w ∧ w ≤ 2) : o ∈ wyL K m w ↔ 0 ≤ o ∧ o < K 310 ∧ tO K o m ≠ 0 := by
  by_cases h2 : w = 2
  · subst h2
    rw [(wyL_perm2 K m).mem_iff, oneL_iff hr]
  · unfold wyL
    rw [if_neg h2, oneL_iff hr]
theorem wyL_nd (hr : kR K) (hw : 0 ≤ w ∧ w ≤ 2) : (wyL K m w).Nodup := by
  by_cases h2 : w = 2
  · subst h2
    exact wyL_nd2 hr
  · unfold wyL
    rw [if_neg h2]
    exact rowL_nd _ _ _
/-- a line of all orders that have works there -/
def Full (K : e_St) (m q : Int) (l : List Int) : Prop := l.Nodup ∧ ∀ o, o ∈ l ↔ 0 ≤ o ∧ o < K 310 ∧ tO K o m + (if q = -1 then 0 else tO K o q) ≠ 0
theorem Full_wy (hr : kR K) (hw : 0 ≤ w ∧ w ≤ 2) : Full K m (-1) (wyL K m w) := ⟨wyL_nd hr hw, fun o => by rw [wyL_iff hr hw, if_pos rfl, Int.add_zero]⟩
theorem Full_two (hr : kR K) (hq : q ≠ -1) : Full K m q (twoL K m q) := ⟨rowL_nd _ _ _, fun o => by rw [twoL_iff hr, if_neg hq]⟩
def vW (w : Int) (s : rvT) : Int := if w = 0 then s.2.2.1 else if w = 1 then s.2.2.2.1 else s.2.2.2.2
theorem one_best (hr : kR K) (hw : 0 ≤ w ∧ w ≤ 2) {l : List Int} (hl : Full K m (-1) l) (hne : l ≠ []) : anG K m w ≤ vW w (rvL K m (-1) l) := by
  have hsub : ∀ x ∈ l, x ∈ wyL K m w := fun x hx => by
    have := (hl.2 x).mp hx
    rw [if_pos rfl, Int.add_zero] at this
    exact (wyL_iff hr hw).mpr this
  have key := ln_ind (R := wyL K m w) (G := GW K m w) (g := fun o => tO K o m) (T := fun l => (rvL K m (-1) l).1) (v := fun l => vW w (rvL K m (-1) l)) (wyL_nd hr hw) rfl (fun l o => by rw [rvL_a]; rfl) ?_ (fun χ j l hj hχ hG hT => ?_) l.length l rfl hl.1 hsub
  · refine gw_full hr hw ?_ (fun i a b => ?_) key.2
    · cases hw2 : wyL K m w with
      | nil =>
        cases l with
        | nil => exact absurd rfl hne
        | cons y t =>
          have := hsub y (by simp)
          rw [hw2] at this
          cases this
      | cons y t => simp
    · refine decide_eq_true ⟨a, b, ?_⟩
      have := (wyL_iff hr hw).mp (lx_mem ⟨a, b⟩)
      exact (hl.2 _).mpr (by rw [if_pos rfl, Int.add_zero]; exact this)
  · by_cases h1 : w = 1
    · subst h1
      refine ⟨fun h => absurd h (by decide), fun _ => ?_, fun h => absurd h (by decide)⟩
      intro i _ _ hx
      cases hx
    · have hz := gw_0 K m w (χ := fun _ => false) (fun _ => rfl)
      rw [if_neg h1] at hz
      have hv : vW w (rvL K m (-1) []) = 0 := by
        unfold vW
        rw [if_neg h1]
        split <;> rfl
      rw [hv]
      exact hz
  · have h1 := gw_step hr hw hj hχ hG
    rw [hT, rvL_a] at h1
    rw [rvL_a]
    have hv : vW w (rvS K m (-1) (rvL K m (-1) l) (lx (wyL K m w) j)) = lvW K w (lx (wyL K m w) j) (vW w (rvL K m (-1) l)) (rvS K m (-1) (rvL K m (-1) l) (lx (wyL K m w) j)).1 := by
      unfold vW lvW rvS
      split
      · rfl
      · split
        · rfl
        · rfl
    rw [hv]
    exact h1
theorem two_best (hr : kR K) (hq : q ≠ -1) {l : List Int} (hl : Full K m q l) : twW K m q ≤ (rvL K m q l).2.1 := by
  have hsub : ∀ x ∈ l, x ∈ twoL K m q := fun x hx => by
    have := (hl.2 x).mp hx
    rw [if_neg hq] at this
    exact (twoL_iff hr).mpr this
  have key := ln_ind (R := twoL K m q) (G := TGx (fun i => tO K (lx (twoL K m q) i) m) (fun i => tO K (lx (twoL K m q) i) q) ((twoL K m q).length : Int)) (g := fun o => tO K o m) (T := fun l => (rvL K m q l).1) (v := fun l => (rvL K m q l).2.1) (rowL_nd _ _ _) rfl (fun l o => by rw [rvL_a]; rfl) ⟨Int.le_refl _, fun i _ _ hx => by cases hx⟩ (fun χ j l hj hχ hG hT => ?_) l.length l rfl hl.1 hsub
  · refine tg_full hr (fun i a b => ?_) key.2
    refine decide_eq_true ⟨a, b, ?_⟩
    have := (twoL_iff hr).mp (lx_mem ⟨a, b⟩)
    exact (hl.2 _).mpr (by rw [if_neg hq]; exact this)
  · have h1 := tw_step hr hj hχ hG
    rw [hT, rvL_a] at h1
    rw [rvL_a]
    have hv : (rvS K m q (rvL K m q l) (lx (twoL K m q) j)).2.1 = max (rvS K m q (rvL K m q l) (lx (twoL K m q) j)).1 (rvL K m q l).2.1 + tO K (lx (twoL K m q) j) q := by
      unfold rvS
      simp only
      rw [if_neg hq, Int.max_comm]
    rw [hv]
    exact h1
end El24
