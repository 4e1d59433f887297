/-! the cells behind the constructors: their shape -/
def e_sk0 : List va_E := [.inr (9, [.ref 1, .ref 11, .ref 133, .ref 149, .ref 165, .ref 169, .ref 173, .ref 177, .ref 179, .ref 182]),
  .inr (3, [.int 0, .int 0, .int 0, .ref 2, .ref 3, .ref 4, .ref 5, .ref 6, .ref 7, .ref 8, .ref 9, .ref 10]),
  .inl (0, 48, .inl fun _ => 0),
  .inl (0, 96, .inl fun _ => 0),
  .inl (0, 64, .inl fun _ => 0),
  .inl (0, 30, .inl fun _ => 0),
  .inl (0, 3, .inl fun _ => 0),
  .inl (0, 2, .inl fun _ => 0),
  .inl (0, 16, .inl fun _ => 0),
  .inl (0, 3, .inl fun _ => 0),
  .inl (0, 48, .inl fun _ => 0),
  .inr (0, [.ref 12, .int 0, .int 0]),
  .inl (4, 12, .inr (.inr (.inr (.inr fun j => if j < 12 then some (13 + 10 * j) else none)))),
  .inr (3, [.int 0, .int 0, .int 0, .ref 14, .ref 15, .ref 16, .ref 17, .ref 18, .ref 19, .ref 20, .ref 21, .ref 22]),
  .inl (0, 48, .inl fun _ => 0),
  .inl (0, 96, .inl fun _ => 0),
  .inl (0, 64, .inl fun _ => 0),
  .inl (0, 30, .inl fun _ => 0),
  .inl (0, 3, .inl fun _ => 0),
  .inl (0, 2, .inl fun _ => 0),
  .inl (0, 16, .inl fun _ => 0),
  .inl (0, 3, .inl fun _ => 0),
  .inl (0, 48, .inl fun _ => 0),
  .inr (3, [.int 0, .int 0, .int 0, .ref 24, .ref 25, .ref 26, .ref 27, .ref 28, .ref 29, .ref 30, .ref 31, .ref 32]),
  .inl (0, 48, .inl fun _ => 0),
  .inl (0, 96, .inl fun _ => 0),
  .inl (0, 64, .inl fun _ => 0),
  .inl (0, 30, .inl fun _ => 0),
  .inl (0, 3, .inl fun _ => 0),
  .inl (0, 2, .inl fun _ => 0),
  .inl (0, 16, .inl fun _ => 0),
  .inl (0, 3, .inl fun _ => 0),
  .inl (0, 48, .inl fun _ => 0),
  .inr (3, [.int 0, .int 0, .int 0, .ref 34, .ref 35, .ref 36, .ref 37, .ref 38, .ref 39, .ref 40, .ref 41, .ref 42]),
  .inl (0, 48, .inl fun _ => 0),
  .inl (0, 96, .inl fun _ => 0),
  .inl (0, 64, .inl fun _ => 0),
  .inl (0, 30, .inl fun _ => 0),
  .inl (0, 3, .inl fun _ => 0),
  .inl (0, 2, .inl fun _ => 0)]
def e_sk1 : List va_E := [.inl (0, 16, .inl fun _ => 0),
  .inl (0, 3, .inl fun _ => 0),
  .inl (0, 48, .inl fun _ => 0),
  .inr (3, [.int 0, .int 0, .int 0, .ref 44, .ref 45, .ref 46, .ref 47, .ref 48, .ref 49, .ref 50, .ref 51, .ref 52]),
  .inl (0, 48, .inl fun _ => 0),
  .inl (0, 96, .inl fun _ => 0),
  .inl (0, 64, .inl fun _ => 0),
  .inl (0, 30, .inl fun _ => 0),
  .inl (0, 3, .inl fun _ => 0),
  .inl (0, 2, .inl fun _ => 0),
  .inl (0, 16, .inl fun _ => 0),
  .inl (0, 3, .inl fun _ => 0),
  .inl (0, 48, .inl fun _ => 0),
  .inr (3, [.int 0, .int 0, .int 0, .ref 54, .ref 55, .ref 56, .ref 57, .ref 58, .ref 59, .ref 60, .ref 61, .ref 62]),
  .inl (0, 48, .inl fun _ => 0),
  .inl (0, 96, .inl fun _ => 0),
  .inl (0, 64, .inl fun _ => 0),
  .inl (0, 30, .inl fun _ => 0),
  .inl (0, 3, .inl fun _ => 0),
  .inl (0, 2, .inl fun _ => 0),
  .inl (0, 16, .inl fun _ => 0),
  .inl (0, 3, .inl fun _ => 0),
  .inl (0, 48, .inl fun _ => 0),
  .inr (3, [.int 0, .int 0, .int 0, .ref 64, .ref 65, .ref 66, .ref 67, .ref 68, .ref 69, .ref 70, .ref 71, .ref 72]),
  .inl (0, 48, .inl fun _ => 0),
  .inl (0, 96, .inl fun _ => 0),
  .inl (0, 64, .inl fun _ => 0),
  .inl (0, 30, .inl fun _ => 0),
  .inl (0, 3, .inl fun _ => 0),
  .inl (0, 2, .inl fun _ => 0),
  .inl (0, 16, .inl fun _ => 0),
  .inl (0, 3, .inl fun _ => 0),
  .inl (0, 48, .inl fun _ => 0),
  .inr (3, [.int 0, .int 0, .int 0, .ref 74, .ref 75, .ref 76, .ref 77, .ref 78, .ref 79, .ref 80, .ref 81, .ref 82]),
  .inl (0, 48, .inl fun _ => 0),
  .inl (0, 96, .inl fun _ => 0),
  .inl (0, 64, .inl fun _ => 0),
  .inl (0, 30, .inl fun _ => 0),
  .inl (0, 3, .inl fun _ => 0),
  .inl (0, 2, .inl fun _ => 0)]
def e_sk2 : List va_E := [.inl (0, 16, .inl fun _ => 0),
  .inl (0, 3, .inl fun _ => 0),
  .inl (0, 48, .inl fun _ => 0),
  .inr (3, [.int 0, .int 0, .int 0, .ref 84, .ref 85, .ref 86, .ref 87, .ref 88, .ref 89, .ref 90, .ref 91, .ref 92]),
  .inl (0, 48, .inl fun _ => 0),
  .inl (0, 96, .inl fun _ => 0),
  .inl (0, 64, .inl fun _ => 0),
  .inl (0, 30, .inl fun _ => 0),
  .inl (0, 3, .inl fun _ => 0),
  .inl (0, 2, .inl fun _ => 0),
  .inl (0, 16, .inl fun _ => 0),
  .inl (0, 3, .inl fun _ => 0),
  .inl (0, 48, .inl fun _ => 0),
  .inr (3, [.int 0, .int 0, .int 0, .ref 94, .ref 95, .ref 96, .ref 97, .ref 98, .ref 99, .ref 100, .ref 101, .ref 102]),
  .inl (0, 48, .inl fun _ => 0),
  .inl (0, 96, .inl fun _ => 0),
  .inl (0, 64, .inl fun _ => 0),
  .inl (0, 30, .inl fun _ => 0),
  .inl (0, 3, .inl fun _ => 0),
  .inl (0, 2, .inl fun _ => 0),
  .inl (0, 16, .inl fun _ => 0),
  .inl (0, 3, .inl fun _ => 0),
  .inl (0, 48, .inl fun _ => 0),
  .inr (3, [.int 0, .int 0, .int 0, .ref 104, .ref 105, .ref 106, .ref 107, .ref 108, .ref 109, .ref 110, .ref 111, .ref 112]),
  .inl (0, 48, .inl fun _ => 0),
  .inl (0, 96, .inl fun _ => 0),
  .inl (0, 64, .inl fun _ => 0),
  .inl (0, 30, .inl fun _ => 0),
  .inl (0, 3, .inl fun _ => 0),
  .inl (0, 2, .inl fun _ => 0),
  .inl (0, 16, .inl fun _ => 0),
  .inl (0, 3, .inl fun _ => 0),
  .inl (0, 48, .inl fun _ => 0),
  .inr (3, [.int 0, .int 0, .int 0, .ref 114, .ref 115, .ref 116, .ref 117, .ref 118, .ref 119, .ref 120, .ref 121, .ref 122]),
  .inl (0, 48, .inl fun _ => 0),
  .inl (0, 96, .inl fun _ => 0),
  .inl (0, 64, .inl fun _ => 0),
  .inl (0, 30, .inl fun _ => 0),
  .inl (0, 3, .inl fun _ => 0),
  .inl (0, 2, .inl fun _ => 0)]
def e_sk3 : List va_E := [.inl (0, 16, .inl fun _ => 0),
  .inl (0, 3, .inl fun _ => 0),
  .inl (0, 48, .inl fun _ => 0),
  .inr (3, [.int 0, .int 0, .int 0, .ref 124, .ref 125, .ref 126, .ref 127, .ref 128, .ref 129, .ref 130, .ref 131, .ref 132]),
  .inl (0, 48, .inl fun _ => 0),
  .inl (0, 96, .inl fun _ => 0),
  .inl (0, 64, .inl fun _ => 0),
  .inl (0, 30, .inl fun _ => 0),
  .inl (0, 3, .inl fun _ => 0),
  .inl (0, 2, .inl fun _ => 0),
  .inl (0, 16, .inl fun _ => 0),
  .inl (0, 3, .inl fun _ => 0),
  .inl (0, 48, .inl fun _ => 0),
  .inr (6, [.int 0, .int 0, .int 0, .ref 134, .ref 135, .ref 136, .ref 137, .ref 138, .ref 139, .ref 140, .ref 141, .ref 142, .ref 143, .ref 144, .ref 145, .ref 146, .ref 147, .ref 148]),
  .inl (0, 16, .inl fun _ => 0),
  .inl (0, 16, .inl fun _ => 0),
  .inl (0, 16, .inl fun _ => 0),
  .inl (0, 16, .inl fun _ => 0),
  .inl (0, 16, .inl fun _ => 0),
  .inl (0, 16, .inl fun _ => 0),
  .inl (0, 16, .inl fun _ => 0),
  .inl (0, 16, .inl fun _ => 0),
  .inl (0, 16, .inl fun _ => 0),
  .inl (0, 32, .inl fun _ => 0),
  .inl (0, 8, .inl fun _ => 0),
  .inl (0, 4, .inl fun _ => 0),
  .inl (0, 3, .inl fun _ => 0),
  .inl (0, 8, .inl fun _ => 0),
  .inl (0, 2000, .inl fun _ => 0),
  .inr (6, [.int 0, .int 0, .int 0, .ref 150, .ref 151, .ref 152, .ref 153, .ref 154, .ref 155, .ref 156, .ref 157, .ref 158, .ref 159, .ref 160, .ref 161, .ref 162, .ref 163, .ref 164]),
  .inl (0, 16, .inl fun _ => 0),
  .inl (0, 16, .inl fun _ => 0),
  .inl (0, 16, .inl fun _ => 0),
  .inl (0, 16, .inl fun _ => 0),
  .inl (0, 16, .inl fun _ => 0),
  .inl (0, 16, .inl fun _ => 0),
  .inl (0, 16, .inl fun _ => 0),
  .inl (0, 16, .inl fun _ => 0),
  .inl (0, 16, .inl fun _ => 0),
  .inl (0, 32, .inl fun _ => 0)]
def e_sk4 : List va_E := [.inl (0, 8, .inl fun _ => 0),
  .inl (0, 4, .inl fun _ => 0),
  .inl (0, 3, .inl fun _ => 0),
  .inl (0, 8, .inl fun _ => 0),
  .inl (0, 2000, .inl fun _ => 0),
  .inr (1, [.ref 166, .ref 167, .ref 168, .int 0, .int 0, .long 0]),
  .inl (0, 16, .inl fun _ => 0),
  .inl (0, 16, .inl fun _ => 0),
  .inl (0, 4, .inl fun _ => 0),
  .inr (2, [.ref 170, .ref 171, .ref 172, .int 0, .int 0]),
  .inl (0, 8, .inl fun _ => 0),
  .inl (0, 8, .inl fun _ => 0),
  .inl (0, 8, .inl fun _ => 0),
  .inr (7, [.ref 174, .ref 175, .ref 176, .int 0]),
  .inl (0, 8, .inl fun _ => 0),
  .inl (0, 8, .inl fun _ => 0),
  .inl (0, 8, .inl fun _ => 0),
  .inr (5, [.ref 178]),
  .inl (0, 64, .inl fun _ => 0),
  .inr (4, [.int 0, .int 0, .ref 180, .ref 181]),
  .inl (0, 60, .inl fun _ => 0),
  .inl (0, 8, .inl fun _ => 0),
  .inr (8, [.int 0, .ref 183]),
  .inl (3, 16, .inl fun _ => 0),
  .inr (10, [.int 0, .ref 0, .ref 185, .ref 186, .ref 187, .ref 188, .ref 189, .ref 190, .ref 191, .ref 192, .ref 193, .ref 194, .ref 195, .ref 196, .ref 197, .ref 198, .int 0, .int 0, .int 0, .int 0, .int 0, .ref 199, .ref 200, .ref 201, .ref 202, .ref 203, .ref 204, .int 0, .ref 205, .int 0, .int 0, .int 0, .int 0, .int 0]),
  .inl (0, 8, .inl fun _ => 0),
  .inl (0, 8, .inl fun _ => 0),
  .inl (0, 8, .inl fun _ => 0),
  .inl (0, 8, .inl fun _ => 0),
  .inl (0, 8, .inl fun _ => 0),
  .inl (0, 8, .inl fun _ => 0),
  .inl (0, 32, .inl fun _ => 0),
  .inl (0, 32, .inl fun _ => 0),
  .inl (0, 32, .inl fun _ => 0),
  .inl (0, 64, .inl fun _ => 0),
  .inl (0, 3, .inl fun _ => 0),
  .inl (0, 10, .inl fun _ => 0),
  .inl (0, 10, .inl fun _ => 0),
  .inl (0, 10, .inl fun _ => 0),
  .inl (0, 16, .inl fun _ => 0)]
def e_sk5 : List va_E := [.inl (0, 16, .inl fun _ => 0),
  .inl (0, 16, .inl fun _ => 0),
  .inl (0, 16, .inl fun _ => 0),
  .inl (0, 16, .inl fun _ => 0),
  .inl (0, 16, .inl fun _ => 0),
  .inl (0, 8, .inl fun _ => 0)]
def e_sk : List va_E := e_sk0 ++ (e_sk1 ++ (e_sk2 ++ (e_sk3 ++ (e_sk4 ++ (e_sk5)))))
abbrev e_MI : Type := Nat → Nat → Int32
abbrev e_ML : Type := Nat → Nat → Int64
abbrev e_MD : Type := Nat → Nat → UInt64
def e_fv (M : e_MI) (V : e_ML) (a k : Nat) : Value → Value
  | .int _ => .int (M a k)
  | .long _ => .long (V a k)
  | v => v
/-- a cell of the shape, filled out of the memories -/
def e_fl (M : e_MI) (V : e_ML) (W : e_MD) (a : Nat) : va_E → va_E
  | .inl (t, n, .inl _) => .inl (t, n, .inl (M a))
  | .inl (t, n, .inr (.inl _)) => .inl (t, n, .inr (.inl (V a)))
  | .inl (t, n, .inr (.inr (.inl f))) => .inl (t, n, .inr (.inr (.inl f)))
  | .inl (t, n, .inr (.inr (.inr (.inl _)))) => .inl (t, n, .inr (.inr (.inr (.inl (W a)))))
  | .inl (t, n, .inr (.inr (.inr (.inr f)))) => .inl (t, n, .inr (.inr (.inr (.inr f))))
  | .inr (c, fs) => .inr (c, fs.mapIdx fun k v => e_fv M V a k v)
def e_hp (M : e_MI) (V : e_ML) (W : e_MD) : e_H := e_sk.mapIdx (e_fl M V W)
def e_u {α : Type} (M : Nat → Nat → α) (a : Nat) (f : Nat → α) : Nat → Nat → α := fun b => if b = a then f else M b
theorem e_u_s {α : Type} (M : Nat → Nat → α) (a : Nat) (f : Nat → α) : e_u M a f a = f := by unfold e_u; rw [if_pos rfl]
theorem e_u_n {α : Type} (M : Nat → Nat → α) {a b : Nat} (f : Nat → α) (h : b ≠ a) : e_u M a f b = M b := by unfold e_u; rw [if_neg h]
theorem e_u_u {α : Type} (M : Nat → Nat → α) (a : Nat) (f g : Nat → α) : e_u (e_u M a f) a g = e_u M a g := by
  funext b
  unfold e_u
  split <;> rfl
theorem e_u_rf {α : Type} (M : Nat → Nat → α) (a : Nat) : e_u M a (M a) = M := by
  funext b
  unfold e_u
  split
  · next h => rw [h]
  · rfl
theorem e_u_c {α : Type} (M : Nat → Nat → α) {a b : Nat} (f g : Nat → α) (h : a ≠ b) : e_u (e_u M a f) b g = e_u (e_u M b g) a f := by
  funext c
  unfold e_u
  by_cases h1 : c = b
  · subst h1
    rw [if_pos rfl, if_neg (Ne.symm h), if_pos rfl]
  · rw [if_neg h1]
    by_cases h2 : c = a
    · rw [if_pos h2, if_pos h2]
    · rw [if_neg h2, if_neg h2, if_neg h1]
theorem e_sk_len : e_sk.length = 206 := by decide +kernel
theorem e_hp_len (M : e_MI) (V : e_ML) (W : e_MD) : (e_hp M V W).length = 206 := by unfold e_hp; rw [List.length_mapIdx, e_sk_len]
theorem e_hp_get (M : e_MI) (V : e_ML) (W : e_MD) (a : Nat) : (e_hp M V W)[a]? = e_sk[a]?.map (e_fl M V W a) := by unfold e_hp; rw [List.getElem?_mapIdx]
theorem e_hp_at {M : e_MI} {V : e_ML} {W : e_MD} {a : Nat} {x : va_E} (h : e_sk[a]? = some x) : (e_hp M V W)[a]? = some (e_fl M V W a x) := by rw [e_hp_get, h]; rfl
theorem e_hp_set {M M2 : e_MI} {V V2 : e_ML} {W W2 : e_MD} {a : Nat} {x z : va_E} (h : e_sk[a]? = some x) (hz : z = e_fl M2 V2 W2 a x) (hM : ∀ b, b ≠ a → M2 b = M b) (hV : ∀ b, b ≠ a → V2 b = V b) (hW : ∀ b, b ≠ a → W2 b = W b) : (e_hp M V W).set a z = e_hp M2 V2 W2 := by
  have hl : a < e_sk.length := (List.getElem?_eq_some_iff.mp h).1
  apply List.ext_getElem?
  intro k
  rw [List.getElem?_set, e_hp_get, e_hp_get]
  by_cases hk : a = k
  · subst hk
    rw [if_pos rfl, e_hp_len, if_pos (by rw [← e_sk_len]; exact hl), h, hz]
    rfl
  · rw [if_neg hk]
    congr 1
    funext y
    have h1 := hM k (Ne.symm hk)
    have h2 := hV k (Ne.symm hk)
    have h3 := hW k (Ne.symm hk)
    rcases y with ⟨t, n, f | f | f | f | f⟩ | ⟨c, fs⟩
    · simp only [e_fl, h1]
    · simp only [e_fl, h2]
    · rfl
    · simp only [e_fl, h3]
    · rfl
    · simp only [e_fl]
      congr 3
      funext j v
      cases v <;> simp only [e_fv, h1, h2]
/-- an int array of the shape, a char array -/
def e_isI (a n : Nat) : Prop := e_sk[a]? = some (.inl (0, n, .inl fun _ => 0))
def e_isC (a n : Nat) : Prop := e_sk[a]? = some (.inl (3, n, .inl fun _ => 0))
theorem e_isI.at {a n : Nat} (h : e_isI a n) (M : e_MI) (V : e_ML) (W : e_MD) : (e_hp M V W)[a]? = some (.inl (0, n, .inl (M a))) := e_hp_at h
theorem e_isI.set {a n : Nat} (h : e_isI a n) (M : e_MI) (V : e_ML) (W : e_MD) (f : Nat → Int32) : (e_hp M V W).set a (.inl (0, n, .inl f)) = e_hp (e_u M a f) V W :=
  e_hp_set h (by simp only [e_fl, e_u_s]) (fun b hb => e_u_n M f hb) (fun _ _ => rfl) (fun _ _ => rfl)
theorem e_isC.set {a n : Nat} (h : e_isC a n) (M : e_MI) (V : e_ML) (W : e_MD) (f : Nat → Int32) : (e_hp M V W).set a (.inl (3, n, .inl f)) = e_hp (e_u M a f) V W :=
  e_hp_set h (by simp only [e_fl, e_u_s]) (fun b hb => e_u_n M f hb) (fun _ _ => rfl) (fun _ _ => rfl)
theorem e_fld_get {M : e_MI} {V : e_ML} {W : e_MD} {a ci k : Nat} {fs : List Value} {v : Value} (h : e_sk[a]? = some (.inr (ci, fs))) (hk : fs[k]? = some v) : (e_hp M V W)[a]? = some (.inr (ci, fs.mapIdx fun k v => e_fv M V a k v)) ∧ (fs.mapIdx fun k v => e_fv M V a k v)[k]? = some (e_fv M V a k v) := by
  refine ⟨e_hp_at h, ?_⟩
  rw [List.getElem?_mapIdx, hk]
  rfl
theorem e_fld_seti {M : e_MI} {V : e_ML} {W : e_MD} {a ci k : Nat} {fs : List Value} {z x : Int32} (h : e_sk[a]? = some (.inr (ci, fs))) (hk : fs[k]? = some (.int z)) : (e_hp M V W).set a (.inr (ci, (fs.mapIdx fun k v => e_fv M V a k v).set k (.int x))) = e_hp (e_u M a (upd (M a) k x)) V W := by
  refine e_hp_set h ?_ (fun b hb => e_u_n M _ hb) (fun _ _ => rfl) (fun _ _ => rfl)
  simp only [e_fl]
  congr 2
  have hl : k < fs.length := (List.getElem?_eq_some_iff.mp hk).1
  apply List.ext_getElem?
  intro j
  rw [List.getElem?_set, List.getElem?_mapIdx, List.getElem?_mapIdx, List.length_mapIdx]
  by_cases hj : k = j
  · subst hj
    rw [if_pos rfl, if_pos hl, hk]
    simp only [Option.map_some, e_fv, e_u_s, upd, if_true]
  · rw [if_neg hj]
    congr 1
    funext v
    cases v <;> simp only [e_fv, e_u_s, upd, if_neg (Ne.symm hj)]
theorem e_fld_setl {M : e_MI} {V : e_ML} {W : e_MD} {a ci k : Nat} {fs : List Value} {z x : Int64} (h : e_sk[a]? = some (.inr (ci, fs))) (hk : fs[k]? = some (.long z)) : (e_hp M V W).set a (.inr (ci, (fs.mapIdx fun k v => e_fv M V a k v).set k (.long x))) = e_hp M (e_u V a (vp_updL (V a) k x)) W := by
  refine e_hp_set h ?_ (fun _ _ => rfl) (fun b hb => e_u_n V _ hb) (fun _ _ => rfl)
  simp only [e_fl]
  congr 2
  have hl : k < fs.length := (List.getElem?_eq_some_iff.mp hk).1
  apply List.ext_getElem?
  intro j
  rw [List.getElem?_set, List.getElem?_mapIdx, List.getElem?_mapIdx, List.length_mapIdx]
  by_cases hj : k = j
  · subst hj
    rw [if_pos rfl, if_pos hl, hk]
    simp only [Option.map_some, e_fv, e_u_s, vp_updL, if_true]
  · rw [if_neg hj]
    congr 1
    funext v
    cases v <;> simp only [e_fv, e_u_s, vp_updL, if_neg (Ne.symm hj)]
