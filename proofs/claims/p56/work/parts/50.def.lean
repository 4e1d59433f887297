/-! whole numbers: functions of places, sums, arrays -/
def uI (r : Int → Int) (z v : Int) : Int → Int := fun i => if i = z then v else r i
theorem uI_s (r : Int → Int) (z v : Int) : uI r z v z = v := by unfold uI; rw [if_pos rfl]
theorem uI_n (r : Int → Int) {z i : Int} (v : Int) (h : i ≠ z) : uI r z v i = r i := by unfold uI; rw [if_neg h]
def sI (f : Int → Int) : Nat → Int
  | 0 => 0
  | n + 1 => sI f n + f n
/-- the sum of f from 0 to below n -/
def SU (f : Int → Int) (n : Int) : Int := sI f n.toNat
theorem SU_0 (f : Int → Int) : SU f 0 = 0 := rfl
theorem SU_s (f : Int → Int) {n : Int} (h : 0 ≤ n) : SU f (n + 1) = SU f n + f n := by
  unfold SU
  rw [show (n + 1).toNat = n.toNat + 1 by omega]
  show sI f n.toNat + f (n.toNat : Int) = _
  rw [Int.toNat_of_nonneg h]
theorem SU_neg (f : Int → Int) {n : Int} (h : n ≤ 0) : SU f n = 0 := by
  unfold SU
  rw [show n.toNat = 0 by omega]
  rfl
theorem SU_ind {P : Int → Prop} (h0 : P 0) (hs : ∀ i, 0 ≤ i → P i → P (i + 1)) : ∀ n : Int, 0 ≤ n → P n := by
  have : ∀ k : Nat, P (k : Int) := by
    intro k
    induction k with
    | zero => exact h0
    | succ k ih => exact hs k (by omega) ih
  intro n hn
  have := this n.toNat
  rw [Int.toNat_of_nonneg hn] at this
  exact this
theorem SU_cong {f g : Int → Int} {n : Int} (h : ∀ i, 0 ≤ i → i < n → f i = g i) : SU f n = SU g n := by
  by_cases hn : 0 ≤ n
  · revert h
    refine SU_ind (P := fun n => (∀ i, 0 ≤ i → i < n → f i = g i) → SU f n = SU g n) (fun _ => rfl) (fun i hi ih h => ?_) n hn
    rw [SU_s f hi, SU_s g hi, ih (fun j a b => h j a (by omega)), h i hi (by omega)]
  · rw [SU_neg f (by omega), SU_neg g (by omega)]
theorem SU_le {f : Int → Int} {n c : Int} (h : ∀ i, 0 ≤ i → i < n → 0 ≤ f i ∧ f i ≤ c) (hn : 0 ≤ n) : 0 ≤ SU f n ∧ SU f n ≤ n * c := by
  revert h
  refine SU_ind (P := fun n => (∀ i, 0 ≤ i → i < n → 0 ≤ f i ∧ f i ≤ c) → 0 ≤ SU f n ∧ SU f n ≤ n * c) (fun _ => by rw [SU_0]; omega) (fun i hi ih h => ?_) n hn
  rw [SU_s f hi]
  have h1 := ih (fun j a b => h j a (by omega))
  have h2 := h i hi (by omega)
  rw [Int.add_mul, Int.one_mul]
  omega
theorem SU_mono {f : Int → Int} {i n : Int} (h : ∀ j, 0 ≤ j → j < n → 0 ≤ f j) (h0 : 0 ≤ i) (hi : i ≤ n) : SU f i ≤ SU f n := by
  have : ∀ k : Nat, i + k ≤ n → SU f i ≤ SU f (i + k) := by
    intro k
    induction k with
    | zero => intro _; rw [show i + ((0 : Nat) : Int) = i by omega]; exact Int.le_refl _
    | succ k ih =>
      intro hk
      rw [show i + ((k + 1 : Nat) : Int) = (i + k) + 1 by omega, SU_s f (by omega)]
      have h1 := ih (by omega)
      have h2 := h (i + k) (by omega) (by omega)
      omega
  have h1 := this (n - i).toNat (by omega)
  rw [show i + ((n - i).toNat : Int) = n by omega] at h1
  exact h1
/-- an int array holds r in its first n places -/
def e_ar (f : Nat → Int32) (n : Int) (r : Int → Int) : Prop := ∀ z, 0 ≤ z → z < n → f z.toNat = iI (r z)
theorem e_ar.up {f : Nat → Int32} {n : Int} {r : Int → Int} (h : e_ar f n r) {z0 v : Int} (h0 : 0 ≤ z0) : e_ar (upd f z0.toNat (iI v)) n (uI r z0 v) := by
  intro z hz hn
  unfold upd uI
  by_cases hq : z = z0
  · subst hq
    rw [if_pos rfl, if_pos rfl]
  · rw [if_neg (by omega), if_neg hq]
    exact h z hz hn
theorem e_ar.less {f : Nat → Int32} {n m : Int} {r : Int → Int} (h : e_ar f n r) (hm : m ≤ n) : e_ar f m r := fun z hz hn => h z hz (by omega)
theorem e_ar.more {f : Nat → Int32} {n : Int} {r : Int → Int} (h : e_ar f n r) {v : Int} (h0 : 0 ≤ n) : e_ar (upd f n.toNat (iI v)) (n + 1) (uI r n v) := by
  intro z hz hn
  unfold upd uI
  by_cases hq : z = n
  · subst hq
    rw [if_pos rfl, if_pos rfl]
  · rw [if_neg (by omega), if_neg hq]
    exact h z hz (by omega)
theorem e_ar.cong {f : Nat → Int32} {n : Int} {r q : Int → Int} (h : e_ar f n r) (hq : ∀ z, 0 ≤ z → z < n → r z = q z) : e_ar f n q := fun z hz hn => by rw [h z hz hn, hq z hz hn]
/-- a loop over whole numbers -/
theorem G_loopI {C : Int → Option e_R} {i n : Int} {r : e_R} (hi : i ≤ n) (hs : ∀ j, i ≤ j → j < n → C (j + 1) = some r → C j = some r) (he : C n = some r) : C i = some r := by
  have : ∀ k : Nat, i + k ≤ n → C (n - k) = some r := by
    intro k
    induction k with
    | zero => intro _; rw [show n - ((0 : Nat) : Int) = n by omega]; exact he
    | succ k ih =>
      intro hk
      have := hs (n - ((k + 1 : Nat) : Int)) (by omega) (by omega)
      rw [show n - ((k + 1 : Nat) : Int) + 1 = n - (k : Int) by omega] at this
      exact this (ih (by omega))
  have h1 := this (n - i).toNat (by omega)
  rw [show n - ((n - i).toNat : Int) = i by omega] at h1
  exact h1
/-- the same, downwards to m -/
theorem G_loopD {C : Int → Option e_R} {i m : Int} {r : e_R} (hi : m ≤ i) (hs : ∀ j, m < j → j ≤ i → C (j - 1) = some r → C j = some r) (he : C m = some r) : C i = some r := by
  have : ∀ k : Nat, m + k ≤ i → C (m + k) = some r := by
    intro k
    induction k with
    | zero => intro _; rw [show m + ((0 : Nat) : Int) = m by omega]; exact he
    | succ k ih =>
      intro hk
      have := hs (m + ((k + 1 : Nat) : Int)) (by omega) (by omega)
      rw [show m + ((k + 1 : Nat) : Int) - 1 = m + (k : Int) by omega] at this
      exact this (ih (by omega))
  have h1 := this (i - m).toNat (by omega)
  rw [show m + ((i - m).toNat : Int) = i by omega] at h1
  exact h1
/-! the state of a loom, as the reference's row of numbers has it -/
abbrev e_St : Type := Int → Int
def e_KM (M : e_MI) (K : e_St) : Prop := e_ar (M 185) 312 K
/-- what the numbers keep to -/
def kR (K : e_St) : Prop :=
  (0 ≤ K 310 ∧ K 310 ≤ 8) ∧ (0 ≤ K 311 ∧ K 311 ≤ 10) ∧ (∀ i, 0 ≤ i → i < 312 → -1 ≤ K i ∧ K i ≤ 2000) ∧ (∀ o, 0 ≤ o → o < 8 → 0 ≤ K o ∧ K o ≤ 3) ∧ (∀ o, 0 ≤ o → o < 8 → 0 ≤ K (8 + o) ∧ K (8 + o) ≤ 9) ∧ (∀ o, 0 ≤ o → o < 8 → 0 ≤ K (16 + o) ∧ K (16 + o) ≤ 200) ∧
  (∀ o, 0 ≤ o → o < 8 → 0 ≤ K (24 + o) ∧ K (24 + o) ≤ 500) ∧ (∀ o, 0 ≤ o → o < 8 → 0 ≤ K (32 + o) ∧ K (32 + o) ≤ 9) ∧ (∀ o, 0 ≤ o → o < 8 → 0 ≤ K (40 + o) ∧ K (40 + o) ≤ 4) ∧ (∀ i, 0 ≤ i → i < 32 → 0 ≤ K (48 + i) ∧ K (48 + i) ≤ 3) ∧ (∀ i, 0 ≤ i → i < 32 → 0 ≤ K (80 + i) ∧ K (80 + i) ≤ 9) ∧ (∀ i, 0 ≤ i → i < 32 → -1 ≤ K (112 + i) ∧ K (112 + i) ≤ 2) ∧
  (∀ i, 0 ≤ i → i < 64 → 0 ≤ K (144 + i) ∧ K (144 + i) ≤ 20) ∧ (∀ i, 0 ≤ i → i < 3 → 0 ≤ K (238 + i) ∧ K (238 + i) ≤ 4) ∧ (∀ i, 0 ≤ i → i < 16 → 0 ≤ K (241 + i) ∧ K (241 + i) ≤ 7) ∧ (0 ≤ K 308 ∧ K 308 ≤ 1000) ∧ (0 ≤ K 309 ∧ K 309 ≤ 1000)
theorem kR.n {K : e_St} (h : kR K) : 0 ≤ K 310 ∧ K 310 ≤ 8 := h.1
theorem kR.rm {K : e_St} (h : kR K) : 0 ≤ K 311 ∧ K 311 ≤ 10 := h.2.1
theorem kR.a {K : e_St} (h : kR K) {i : Int} (h0 : 0 ≤ i) (h1 : i < 312) : -1 ≤ K i ∧ K i ≤ 2000 := h.2.2.1 i h0 h1
theorem kR.kd {K : e_St} (h : kR K) {o : Int} (h0 : 0 ≤ o) (h1 : o < 8) : 0 ≤ K o ∧ K o ≤ 3 := h.2.2.2.1 o h0 h1
theorem kR.am {K : e_St} (h : kR K) {o : Int} (h0 : 0 ≤ o) (h1 : o < 8) : 0 ≤ K (8 + o) ∧ K (8 + o) ≤ 9 := h.2.2.2.2.1 o h0 h1
theorem kR.re {K : e_St} (h : kR K) {o : Int} (h0 : 0 ≤ o) (h1 : o < 8) : 0 ≤ K (16 + o) ∧ K (16 + o) ≤ 200 := h.2.2.2.2.2.1 o h0 h1
theorem kR.du {K : e_St} (h : kR K) {o : Int} (h0 : 0 ≤ o) (h1 : o < 8) : 0 ≤ K (24 + o) ∧ K (24 + o) ≤ 500 := h.2.2.2.2.2.2.1 o h0 h1
theorem kR.we {K : e_St} (h : kR K) {o : Int} (h0 : 0 ≤ o) (h1 : o < 8) : 0 ≤ K (32 + o) ∧ K (32 + o) ≤ 9 := h.2.2.2.2.2.2.2.1 o h0 h1
theorem kR.wk {K : e_St} (h : kR K) {o : Int} (h0 : 0 ≤ o) (h1 : o < 8) : 0 ≤ K (40 + o) ∧ K (40 + o) ≤ 4 := h.2.2.2.2.2.2.2.2.1 o h0 h1
theorem kR.mc {K : e_St} (h : kR K) {i : Int} (h0 : 0 ≤ i) (h1 : i < 32) : 0 ≤ K (48 + i) ∧ K (48 + i) ≤ 3 := h.2.2.2.2.2.2.2.2.2.1 i h0 h1
theorem kR.tm {K : e_St} (h : kR K) {i : Int} (h0 : 0 ≤ i) (h1 : i < 32) : 0 ≤ K (80 + i) ∧ K (80 + i) ≤ 9 := h.2.2.2.2.2.2.2.2.2.2.1 i h0 h1
theorem kR.tl {K : e_St} (h : kR K) {i : Int} (h0 : 0 ≤ i) (h1 : i < 32) : -1 ≤ K (112 + i) ∧ K (112 + i) ≤ 2 := h.2.2.2.2.2.2.2.2.2.2.2.1 i h0 h1
theorem kR.se {K : e_St} (h : kR K) {i : Int} (h0 : 0 ≤ i) (h1 : i < 64) : 0 ≤ K (144 + i) ∧ K (144 + i) ≤ 20 := h.2.2.2.2.2.2.2.2.2.2.2.2.1 i h0 h1
theorem kR.wo {K : e_St} (h : kR K) {i : Int} (h0 : 0 ≤ i) (h1 : i < 3) : 0 ≤ K (238 + i) ∧ K (238 + i) ≤ 4 := h.2.2.2.2.2.2.2.2.2.2.2.2.2.1 i h0 h1
theorem kR.ro {K : e_St} (h : kR K) {i : Int} (h0 : 0 ≤ i) (h1 : i < 16) : 0 ≤ K (241 + i) ∧ K (241 + i) ≤ 7 := h.2.2.2.2.2.2.2.2.2.2.2.2.2.2.1 i h0 h1
theorem kR.r0 {K : e_St} (h : kR K) : 0 ≤ K 308 ∧ K 308 ≤ 1000 := h.2.2.2.2.2.2.2.2.2.2.2.2.2.2.2.1
theorem kR.r1 {K : e_St} (h : kR K) : 0 ≤ K 309 ∧ K 309 ≤ 1000 := h.2.2.2.2.2.2.2.2.2.2.2.2.2.2.2.2
/-- how many works in all -/
def aW (K : e_St) : Int := SU (fun o => K (40 + o)) (K 310)
/-- the time that a work takes; of an order's works from one on; on a machine -/
def tk (K : e_St) (o w : Int) : Int := K (8 + o) * K (80 + 4 * o + w)
def tF (K : e_St) (o f : Int) : Int := SU (fun w => if f ≤ w then tk K o w else 0) (K (40 + o))
def tO (K : e_St) (o m : Int) : Int := SU (fun w => if K (48 + 4 * o + w) = m then tk K o w else 0) (K (40 + o))
def lO (K : e_St) (m : Int) : Int := SU (fun o => tO K o m) (K 310)
def sT (K : e_St) (m f t : Int) : Int := if f = t then 0 else K (144 + 16 * m + 4 * f + t)
/-! searches -/
/-- the last place before n where p holds, or -1 -/
def zlP (p : Int → Bool) : Nat → Int
  | 0 => -1
  | n + 1 => if p n = true then n else zlP p n
def zLP (p : Int → Bool) (n : Int) : Int := zlP p n.toNat
theorem zLP_s (p : Int → Bool) {n : Int} (h : 0 ≤ n) : zLP p (n + 1) = if p n = true then n else zLP p n := by
  unfold zLP
  rw [show (n + 1).toNat = n.toNat + 1 by omega]
  show (if p (n.toNat : Int) = true then (n.toNat : Int) else zlP p n.toNat) = _
  rw [Int.toNat_of_nonneg h]
theorem zLP_0 (p : Int → Bool) : zLP p 0 = -1 := rfl
theorem zLP_cases (p : Int → Bool) (n : Int) (hn : 0 ≤ n) : (zLP p n = -1 ∧ ∀ j, 0 ≤ j → j < n → p j = false) ∨ (0 ≤ zLP p n ∧ zLP p n < n ∧ p (zLP p n) = true ∧ ∀ j, zLP p n < j → j < n → p j = false) := by
  refine SU_ind (P := fun n => (zLP p n = -1 ∧ ∀ j, 0 ≤ j → j < n → p j = false) ∨ (0 ≤ zLP p n ∧ zLP p n < n ∧ p (zLP p n) = true ∧ ∀ j, zLP p n < j → j < n → p j = false)) (Or.inl ⟨rfl, fun j a b => by omega⟩) (fun i hi ih => ?_) n hn
  rw [zLP_s p hi]
  by_cases hp : p i = true
  · rw [if_pos hp]
    exact Or.inr ⟨hi, by omega, hp, fun j a b => by omega⟩
  · rw [if_neg hp]
    have hpf : p i = false := by simpa using hp
    rcases ih with ⟨a, b⟩ | ⟨a, b, c, e⟩
    · refine Or.inl ⟨a, fun j x y => ?_⟩
      by_cases hj : j = i
      · rw [hj]; exact hpf
      · exact b j x (by omega)
    · refine Or.inr ⟨a, by omega, c, fun j x y => ?_⟩
      by_cases hj : j = i
      · rw [hj]; exact hpf
      · exact e j x (by omega)
theorem zLP_cong {p q : Int → Bool} {n : Int} (h : ∀ i, 0 ≤ i → i < n → p i = q i) : zLP p n = zLP q n := by
  by_cases hn : 0 ≤ n
  · revert h
    refine SU_ind (P := fun n => (∀ i, 0 ≤ i → i < n → p i = q i) → zLP p n = zLP q n) (fun _ => rfl) (fun i hi ih h => ?_) n hn
    rw [zLP_s p hi, zLP_s q hi, h i hi (by omega), ih (fun j a b => h j a (by omega))]
  · unfold zLP
    rw [show n.toNat = 0 by omega]
    rfl
/-- whether p holds at a place before n -/
def zAN (p : Int → Bool) (n : Int) : Bool := decide (zLP p n ≠ -1)
theorem zAN_t {p : Int → Bool} {n j : Int} (h0 : 0 ≤ j) (h1 : j < n) (hp : p j = true) : zAN p n = true := by
  unfold zAN
  rcases zLP_cases p n (by omega) with ⟨a, b⟩ | ⟨a, b, c, e⟩
  · rw [b j h0 h1] at hp; cases hp
  · simp only [ne_eq, decide_eq_true_eq]; omega
theorem zAN_f {p : Int → Bool} {n : Int} (hn : 0 ≤ n) (h : ∀ j, 0 ≤ j → j < n → p j = false) : zAN p n = false := by
  unfold zAN
  rcases zLP_cases p n hn with ⟨a, b⟩ | ⟨a, b, c, e⟩
  · simp [a]
  · rw [h _ a b] at c; cases c
theorem zAN_iff {p : Int → Bool} {n : Int} (hn : 0 ≤ n) : zAN p n = true ↔ ∃ j, 0 ≤ j ∧ j < n ∧ p j = true := by
  constructor
  · intro h
    unfold zAN at h
    rcases zLP_cases p n hn with ⟨a, b⟩ | ⟨a, b, c, e⟩
    · rw [a] at h; simp at h
    · exact ⟨_, a, b, c⟩
  · rintro ⟨j, a, b, c⟩
    exact zAN_t a b c
/-- a loop that may end early -/
theorem G_find {C : Int → Option e_R} {p : Int → Bool} {i n : Int} {r : e_R} (hi : i ≤ n) (hs : ∀ j, i ≤ j → j < n → p j = false → C (j + 1) = some r → C j = some r) (hh : ∀ j, i ≤ j → j < n → p j = true → (∀ k, i ≤ k → k < j → p k = false) → C j = some r) (he : (∀ k, i ≤ k → k < n → p k = false) → C n = some r) : C i = some r := by
  have : ∀ k : Nat, i + k ≤ n → (∀ q, i ≤ q → q < n - k → p q = false) → C (n - k) = some r := by
    intro k
    induction k with
    | zero =>
      intro _ hf
      rw [show n - ((0 : Nat) : Int) = n by omega] at hf ⊢
      exact he hf
    | succ k ih =>
      intro hk hf
      by_cases hp : p (n - ((k + 1 : Nat) : Int)) = true
      · exact hh _ (by omega) (by omega) hp hf
      · have hpf : p (n - ((k + 1 : Nat) : Int)) = false := by simpa using hp
        refine hs _ (by omega) (by omega) hpf ?_
        rw [show n - ((k + 1 : Nat) : Int) + 1 = n - (k : Int) by omega]
        refine ih (by omega) (fun q a b => ?_)
        by_cases hq : q = n - ((k + 1 : Nat) : Int)
        · rw [hq]; exact hpf
        · exact hf q a (by omega)
  have h1 := this (n - i).toNat (by omega) (fun q a b => by omega)
  rw [show n - ((n - i).toNat : Int) = i by omega] at h1
  exact h1
/-- the same, downwards: from i - 1 to m -/
theorem G_findD {C : Int → Option e_R} {p : Int → Bool} {i m : Int} {r : e_R} (hi : m ≤ i + 1) (hs : ∀ j, m ≤ j → j ≤ i → p j = false → C (j - 1) = some r → C j = some r) (hh : ∀ j, m ≤ j → j ≤ i → p j = true → (∀ k, j < k → k ≤ i → p k = false) → C j = some r) (he : (∀ k, m ≤ k → k ≤ i → p k = false) → C (m - 1) = some r) : C i = some r := by
  have h := G_find (C := fun j => C (-j)) (p := fun j => p (-j)) (i := -i) (n := -(m - 1)) (r := r) (by omega) (fun j a b c e => hs (-j) (by omega) (by omega) c (by rw [show -j - 1 = -(j + 1) by omega]; exact e)) (fun j a b c e => hh (-j) (by omega) (by omega) c (fun k x y => by
    have := e (-k) (by omega) (by omega)
    rw [show -(-k) = k by omega] at this
    exact this)) (fun f => by
    rw [show -(-(m - 1)) = m - 1 by omega]
    exact he (fun k x y => by
      have := f (-k) (by omega) (by omega)
      rw [show -(-k) = k by omega] at this
      exact this))
  rw [show -(-i) = i by omega] at h
  exact h
/-- the last blocked time in a window, or -1 -/
def lB (p : Int → Bool) (lo n : Int) : Int := let q := zLP (fun j => p (lo + j)) n; if q = -1 then -1 else lo + q
theorem lB_cases (p : Int → Bool) (lo n : Int) (hn : 0 ≤ n) (hlo : 0 ≤ lo) : (lB p lo n = -1 ∧ ∀ t, lo ≤ t → t < lo + n → p t = false) ∨ (lo ≤ lB p lo n ∧ lB p lo n < lo + n ∧ p (lB p lo n) = true ∧ ∀ t, lB p lo n < t → t < lo + n → p t = false) := by
  unfold lB
  rcases zLP_cases (fun j => p (lo + j)) n hn with ⟨a, b⟩ | ⟨a, b, c, e⟩
  · refine Or.inl ⟨by simp only [a, if_true], fun t x y => ?_⟩
    have := b (t - lo) (by omega) (by omega)
    simpa [show lo + (t - lo) = t by omega] using this
  · have hne : ¬ zLP (fun j => p (lo + j)) n = -1 := by omega
    simp only [if_neg hne]
    refine Or.inr ⟨by omega, by omega, c, fun t x y => ?_⟩
    have := e (t - lo) (by omega) (by omega)
    simpa [show lo + (t - lo) = t by omega] using this
/-- the first begin from low on that fits: p tells the blocked times; 2001 without one -/
def zff (p : Int → Bool) (time : Int) : Nat → Int → Int
  | 0, _ => 2001
  | f + 1, low => if low + time ≤ 2000 then (if lB p low time = -1 then low else zff p time f (low + 1)) else 2001
def zFF (p : Int → Bool) (time low : Int) : Int := zff p time (2001 - low).toNat low
theorem zFF_eq (p : Int → Bool) (time low : Int) (ht : 0 ≤ time) (h0 : 0 ≤ low) : zFF p time low = if low + time ≤ 2000 then (if lB p low time = -1 then low else zFF p time (low + 1)) else 2001 := by
  unfold zFF
  by_cases h : low ≤ 2000
  · rw [show (2001 - low).toNat = (2001 - (low + 1)).toNat + 1 by omega]
    rfl
  · rw [show (2001 - low).toNat = 0 by omega, if_neg (by omega)]
    rfl
theorem zFF_big {p : Int → Bool} {time low : Int} (ht : 0 ≤ time) (h0 : 0 ≤ low) (h : 2000 < low + time) : zFF p time low = 2001 := by rw [zFF_eq p time low ht h0, if_neg (by omega)]
theorem zFF_fit {p : Int → Bool} {time low : Int} (ht : 0 ≤ time) (h0 : 0 ≤ low) (h : low + time ≤ 2000) (hb : lB p low time = -1) : zFF p time low = low := by rw [zFF_eq p time low ht h0, if_pos h, if_pos hb]
/-- past a blocked time of the window -/
theorem zFF_jump {p : Int → Bool} {time low t : Int} (h0 : 0 ≤ low) (h1 : low ≤ t) (h2 : t < low + time) (hp : p t = true) : zFF p time low = zFF p time (t + 1) := by
  have : ∀ k : Nat, low + k ≤ t + 1 → zFF p time low = zFF p time (low + k) := by
    intro k
    induction k with
    | zero => intro _; rw [show low + ((0 : Nat) : Int) = low by omega]
    | succ k ih =>
      intro hk
      rw [ih (by omega), zFF_eq p time (low + k) (by omega) (by omega)]
      have hb : ¬ lB p (low + k) time = -1 := by
        rcases lB_cases p (low + k) time (by omega) (by omega) with ⟨a, b⟩ | ⟨a, b, c, e⟩
        · rw [b t (by omega) (by omega)] at hp; cases hp
        · omega
      rw [if_neg hb, show low + ((k + 1 : Nat) : Int) = low + (k : Int) + 1 by omega]
      by_cases hc : low + (k : Int) + time ≤ 2000
      · rw [if_pos hc]
      · rw [if_neg hc, zFF_big (by omega) (by omega) (by omega)]
  have h := this (t + 1 - low).toNat (by omega)
  rw [show low + ((t + 1 - low).toNat : Int) = t + 1 by omega] at h
  exact h
theorem zFF_spec {p : Int → Bool} {time : Int} (ht : 0 ≤ time) : ∀ (k : Nat) (low : Int), 0 ≤ low → (2001 - low).toNat ≤ k → (zFF p time low = 2001 ∧ ∀ b, low ≤ b → b + time ≤ 2000 → ¬ lB p b time = -1) ∨ (low ≤ zFF p time low ∧ zFF p time low + time ≤ 2000 ∧ lB p (zFF p time low) time = -1 ∧ ∀ b, low ≤ b → b < zFF p time low → ¬ lB p b time = -1)
  | 0, low, h0, hk => Or.inl ⟨zFF_big ht h0 (by omega), fun b h1 h2 => by omega⟩
  | k + 1, low, h0, hk => by
    rw [zFF_eq p time low ht h0]
    by_cases h1 : low + time ≤ 2000
    · rw [if_pos h1]
      by_cases h2 : lB p low time = -1
      · rw [if_pos h2]
        exact Or.inr ⟨Int.le_refl _, h1, h2, fun b x y => by omega⟩
      · rw [if_neg h2]
        rcases zFF_spec ht k (low + 1) (by omega) (by omega) with ⟨a, b⟩ | ⟨a, b, c, e⟩
        · refine Or.inl ⟨a, fun q x y => ?_⟩
          by_cases hq : q = low
          · rw [hq]; exact h2
          · exact b q (by omega) y
        · refine Or.inr ⟨by omega, b, c, fun q x y => ?_⟩
          by_cases hq : q = low
          · rw [hq]; exact h2
          · exact e q (by omega) y
    · rw [if_neg h1]
      exact Or.inl ⟨rfl, fun b x y => by omega⟩
/-! times of rest, workers -/
def rsB (K : e_St) (m t : Int) : Bool := zAN (fun k => decide (K (208 + k) = m ∧ K (218 + k) ≤ t ∧ t ≤ K (228 + k) - 1)) (K 311)
/-- how many of the first k works are done at t -/
def bz (β ε : Int → Int) (k t : Int) : Int := SU (fun p => if β p ≤ t ∧ t ≤ ε p - 1 then 1 else 0) k
def hwB (K : e_St) (β ε : Int → Int) (k t : Int) : Bool := decide (bz β ε k t < K (238 + t % 24 / 8))
def blB (K : e_St) (β ε : Int → Int) (k m t : Int) : Bool := rsB K m t || !hwB K β ε k t
/-! a row's places -/
def mcA (K : e_St) (ρ ω : Int → Int) (k : Int) : Int := K (48 + 4 * ρ k + ω k)
def tlA (K : e_St) (ρ ω : Int → Int) (k : Int) : Int := K (112 + 4 * ρ k + ω k)
def cnt (ρ : Int → Int) (o k : Int) : Int := SU (fun p => if ρ p = o then 1 else 0) k
def oAh (ρ : Int → Int) (k : Int) : Int := zLP (fun p => decide (ρ p = ρ k)) k
def mAh (K : e_St) (ρ ω : Int → Int) (k : Int) : Int := zLP (fun p => decide (mcA K ρ ω p = mcA K ρ ω k)) k
def tAh (K : e_St) (ρ ω : Int → Int) (k : Int) : Int := if tlA K ρ ω k = -1 then -1 else zLP (fun p => decide (tlA K ρ ω p = tlA K ρ ω k)) k
/-- from when on the work at place k can begin -/
def loW (K : e_St) (ρ ω ε : Int → Int) (k : Int) : Int :=
  let a := K (16 + ρ k)
  let b := if oAh ρ k ≠ -1 ∧ a < ε (oAh ρ k) then ε (oAh ρ k) else a
  let s := if mAh K ρ ω k = -1 then 0 else ε (mAh K ρ ω k) + sT K (mcA K ρ ω k) (K (ρ (mAh K ρ ω k))) (K (ρ k))
  let c := if b < s then s else b
  if tAh K ρ ω k ≠ -1 ∧ c < ε (tAh K ρ ω k) then ε (tAh K ρ ω k) else c
/-- when it begins -/
def bgW (K : e_St) (ρ ω β ε : Int → Int) (k : Int) : Int := zFF (blB K β ε k (mcA K ρ ω k)) (tk K (ρ k) (ω k)) (loW K ρ ω ε k)
theorem zLP_hit {p : Int → Bool} {n j : Int} (h0 : 0 ≤ j) (h1 : j < n) (hp : p j = true) (hf : ∀ q, j < q → q < n → p q = false) : zLP p n = j := by
  rcases zLP_cases p n (by omega) with ⟨a, b⟩ | ⟨a, b, c, e⟩
  · rw [b j h0 h1] at hp; cases hp
  · by_cases hq : zLP p n < j
    · rw [e j hq h1] at hp; cases hp
    · by_cases hq2 : j < zLP p n
      · rw [hf _ hq2 b] at c; cases c
      · omega
theorem zLP_none {p : Int → Bool} {n : Int} (hn : 0 ≤ n) (hf : ∀ q, 0 ≤ q → q < n → p q = false) : zLP p n = -1 := by
  rcases zLP_cases p n hn with ⟨a, b⟩ | ⟨a, b, c, e⟩
  · exact a
  · rw [hf _ a b] at c; cases c
theorem lB_hit {p : Int → Bool} {lo n t : Int} (hlo : 0 ≤ lo) (h0 : lo ≤ t) (h1 : t < lo + n) (hp : p t = true) (hf : ∀ q, t < q → q < lo + n → p q = false) : lB p lo n = t := by
  rcases lB_cases p lo n (by omega) hlo with ⟨a, b⟩ | ⟨a, b, c, e⟩
  · rw [b t h0 h1] at hp; cases hp
  · by_cases hq : lB p lo n < t
    · rw [e t hq h1] at hp; cases hp
    · by_cases hq2 : t < lB p lo n
      · rw [hf _ hq2 b] at c; cases c
      · omega
theorem lB_none {p : Int → Bool} {lo n : Int} (hlo : 0 ≤ lo) (hn : 0 ≤ n) (hf : ∀ q, lo ≤ q → q < lo + n → p q = false) : lB p lo n = -1 := by
  rcases lB_cases p lo n hn hlo with ⟨a, b⟩ | ⟨a, b, c, e⟩
  · exact a
  · rw [hf _ a b] at c; cases c
theorem lB_cong {p q : Int → Bool} {lo n : Int} (h : ∀ t, lo ≤ t → t < lo + n → p t = q t) : lB p lo n = lB q lo n := by
  unfold lB
  rw [zLP_cong (p := fun j => p (lo + j)) (q := fun j => q (lo + j)) (n := n) (fun j a b => h _ (by omega) (by omega))]
theorem cnt_s (ρ : Int → Int) (o : Int) {k : Int} (hk : 0 ≤ k) : cnt ρ o (k + 1) = cnt ρ o k + if ρ k = o then 1 else 0 := SU_s _ hk
theorem cnt_rg (ρ : Int → Int) (o : Int) {k : Int} (hk : 0 ≤ k) : 0 ≤ cnt ρ o k ∧ cnt ρ o k ≤ k := by
  have := SU_le (f := fun p => if ρ p = o then 1 else 0) (n := k) (c := 1) (fun i _ _ => by split <;> omega) hk
  unfold cnt
  omega
theorem bz_rg (β ε : Int → Int) {k : Int} (t : Int) (hk : 0 ≤ k) : 0 ≤ bz β ε k t ∧ bz β ε k t ≤ k := by
  have := SU_le (f := fun p => if β p ≤ t ∧ t ≤ ε p - 1 then 1 else 0) (n := k) (c := 1) (fun i _ _ => by split <;> omega) hk
  unfold bz
  omega
