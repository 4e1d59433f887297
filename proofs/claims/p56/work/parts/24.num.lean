/-! whole numbers in the machine's: iI z -/
def iI (z : Int) : Int32 := Int32.ofInt z
def bI (b : Bool) : Int32 := if b then iI 1 else iI 0
theorem iI_add (a b : Int) : iI a + iI b = iI (a + b) := (Int32.ofInt_add a b).symm
theorem iI_sub (a b : Int) : iI a - iI b = iI (a - b) := (Int32.ofInt_sub a b).symm
theorem iI_mul (a b : Int) : iI a * iI b = iI (a * b) := (Int32.ofInt_mul a b).symm
theorem iI_neg (a : Int) : -iI a = iI (-a) := (Int32.ofInt_neg a).symm
theorem iI_toInt {z : Int} (h1 : -2147483648 ≤ z) (h2 : z < 2147483648) : (iI z).toInt = z := by
  unfold iI
  exact Int32.toInt_ofInt_of_le h1 h2
theorem iI_of (x : Int32) : ∃ z : Int, x = iI z ∧ -2147483648 ≤ z ∧ z < 2147483648 := by
  refine ⟨x.toInt, ?_, ?_, ?_⟩
  · unfold iI; rw [Int32.ofInt_toInt]
  · exact Int32.le_toInt x
  · exact Int32.toInt_lt x
theorem iI_lt {a b : Int} (ha : -2147483648 ≤ a ∧ a < 2147483648) (hb : -2147483648 ≤ b ∧ b < 2147483648) : iI a < iI b ↔ a < b := by
  rw [Int32.lt_iff_toInt_lt, iI_toInt ha.1 ha.2, iI_toInt hb.1 hb.2]
theorem iI_le {a b : Int} (ha : -2147483648 ≤ a ∧ a < 2147483648) (hb : -2147483648 ≤ b ∧ b < 2147483648) : iI a ≤ iI b ↔ a ≤ b := by
  rw [Int32.le_iff_toInt_le, iI_toInt ha.1 ha.2, iI_toInt hb.1 hb.2]
theorem iI_eq {a b : Int} (ha : -2147483648 ≤ a ∧ a < 2147483648) (hb : -2147483648 ≤ b ∧ b < 2147483648) : iI a = iI b ↔ a = b := by
  rw [← Int32.toInt_inj, iI_toInt ha.1 ha.2, iI_toInt hb.1 hb.2]
theorem iI_nat {z : Int} (h1 : 0 ≤ z) (h2 : z < 2147483648) : (iI z).toNatClampNeg = z.toNat := by
  show (iI z).toInt.toNat = z.toNat
  rw [iI_toInt (by omega) h2]
theorem iI_vin {z : Int} {n : Nat} (h1 : 0 ≤ z) (h2 : z < n) (h3 : n < 2147483648) : e_vin (iI z) n = true := by
  unfold e_vin
  have h0 : ¬ iI z < 0 := by
    rw [Int32.lt_iff_toInt_lt, iI_toInt (by omega) (by omega)]
    show ¬ z < 0
    omega
  rw [iI_nat h1 (by omega), decide_eq_false h0, decide_eq_false (by omega)]
  rfl
theorem iI_nvin {z : Int} {n : Nat} (h : -2147483648 ≤ z ∧ z < 2147483648) (h2 : z < 0 ∨ (n : Int) ≤ z) : e_vin (iI z) n = false := by
  unfold e_vin
  rcases h2 with h2 | h2
  · have h0 : iI z < 0 := by
      rw [Int32.lt_iff_toInt_lt, iI_toInt h.1 h.2]
      show z < 0
      omega
    rw [decide_eq_true h0]
    rfl
  · by_cases hz : z < 0
    · have h0 : iI z < 0 := by
        rw [Int32.lt_iff_toInt_lt, iI_toInt h.1 h.2]
        show z < 0
        omega
      rw [decide_eq_true h0]
      rfl
    · rw [iI_nat (by omega) h.2, decide_eq_true (p := n ≤ z.toNat) (by omega), Bool.or_true]
      rfl
theorem iI_ofNat (n : Nat) : Int32.ofNat n = iI (n : Int) := rfl
theorem bI_t : bI true = iI 1 := rfl
theorem bI_f : bI false = iI 0 := rfl
theorem bI_0 (b : Bool) : bI b = iI 0 ↔ b = false := by cases b <;> decide
theorem bI_dec (c : Prop) [Decidable c] : (if c then iI 1 else iI 0) = bI (decide c) := by
  unfold bI
  by_cases h : c
  · simp [h]
  · simp [h]
/-- fits a boolean -/
def e_bo (x : Int32) : Bool := x == 0 || x == 1
theorem e_bo_b (b : Bool) : e_bo (bI b) = true := by cases b <;> decide
theorem e_bo_0 : e_bo (iI 0) = true := by decide
theorem e_bo_1 : e_bo (iI 1) = true := by decide
theorem e_bo_nar {x : Int32} (h : e_bo x = true) : narrow .boolean (.int x) = .int x := by
  unfold e_bo at h
  simp only [Bool.or_eq_true, beq_iff_eq] at h
  rcases h with rfl | rfl <;> rfl
/-- no long, no double -/
def e_nk : Option Value → Bool
  | some v => v.category == 1
  | none => true
theorem e_nk_n : e_nk none = true := rfl
theorem e_nk_i (x : Int32) : e_nk (some (.int x)) = true := rfl
theorem e_nk_r (x : Nat) : e_nk (some (.ref x)) = true := rfl
theorem e_nk_0 : e_nk (some .null) = true := rfl
theorem e_nk_kl {l : e_L} {j : Nat} {o : Option Value} (h : l[j]? = some o) (hk : e_nk o = true) : e_kl l (j + 1) = l := by
  unfold e_kl
  simp only
  rw [h]
  cases o with
  | none => rfl
  | some v =>
    simp only
    unfold e_nk at hk
    simp only [beq_iff_eq] at hk
    rw [if_neg (by omega)]
section E24
variable {L : Nat} {xs : Nat → Int32} {d y pc : Nat} {l : e_L} {st : List Value} {h : e_H}
theorem G_ic {n : Int} {v : Int32} (hd : decode (e_bc y) pc = .ok (.iconst n, 1)) (hv : Int32.ofInt n = v) : e_lim L xs d y pc l st h = e_lim L xs d y (pc + 1) l (.int v :: st) h := by subst hv; exact R_op hd rfl
theorem G_bi {n : Int} {v : Int32} (hd : decode (e_bc y) pc = .ok (.bipush n, 2)) (hv : (Int8.ofInt n).toInt32 = v) : e_lim L xs d y pc l st h = e_lim L xs d y (pc + 2) l (.int v :: st) h := by subst hv; exact R_op hd rfl
theorem G_si {n : Int} {v : Int32} (hd : decode (e_bc y) pc = .ok (.sipush n, 3)) (hv : (Int16.ofInt n).toInt32 = v) : e_lim L xs d y pc l st h = e_lim L xs d y (pc + 3) l (.int v :: st) h := by subst hv; exact R_op hd rfl
theorem G_ldc {idx : Nat} {v : Int32} (hd : decode (e_bc y) pc = .ok (.ldc idx, 2)) (hv : e_irv e_cst (e_cy y) idx = some v) : e_lim L xs d y pc l st h = e_lim L xs d y (pc + 2) l (.int v :: st) h := by
  refine R_hl hd ⟨⟨fun _ _ => rfl, fun _ _ => rfl⟩, fun _ _ _ => rfl⟩ ?_
  unfold e_hl
  simp only [hv]
theorem G_ldcw {idx : Nat} {v : Int32} (hd : decode (e_bc y) pc = .ok (.ldc_w idx, 3)) (hv : e_irv e_cst (e_cy y) idx = some v) : e_lim L xs d y pc l st h = e_lim L xs d y (pc + 3) l (.int v :: st) h := by
  refine R_hl hd ⟨⟨fun _ _ => rfl, fun _ _ => rfl⟩, fun _ _ _ => rfl⟩ ?_
  unfold e_hl
  simp only [hv]
theorem G_xl (hd : decode (e_bc y) pc = .ok (.arraylength, 1)) : e_lim L xs d y pc l (.ref e_SCR :: st) h = e_lim L xs d y (pc + 1) l (.int (iI (L : Int)) :: st) h := by
  refine R_hl (ins := .arraylength) hd ⟨⟨fun _ _ => rfl, fun _ _ => rfl⟩, fun _ _ _ => rfl⟩ ?_
  unfold e_hl
  simp only [if_true]
  rfl
theorem G_xs {z : Int} (hd : decode (e_bc y) pc = .ok (.iaload, 1)) (h0 : 0 ≤ z) (h1 : z < (L : Int)) (hL : L ≤ 260) : e_lim L xs d y pc l (.int (iI z) :: .ref e_SCR :: st) h = e_lim L xs d y (pc + 1) l (.int (xs z.toNat) :: st) h := by
  refine R_hl (ins := .iaload) hd ⟨⟨fun _ _ => rfl, fun _ _ => rfl⟩, fun _ _ _ => rfl⟩ ?_
  unfold e_hl
  simp only [if_true]
  rw [if_pos (iI_vin (n := L) h0 (by omega) (by omega)), iI_nat h0 (by omega)]
/-- an int or a reference into a local that isn't the first, past one that is no long -/
theorem G_st {ins : Instr} {i n : Nat} {v : Value} {o : Option Value} {st2 : List Value} (hd : decode (e_bc y) pc = .ok (ins, n)) (h1 : e_os ins l st = some (n, e_s1 l (i + 1) v, st2)) (ho : l[i]? = some o) (hk : e_nk o = true) : e_lim L xs d y pc l st h = e_lim L xs d y (pc + n) (l.set (i + 1) (some v)) st2 h := by
  rw [R_os hd h1]
  unfold e_s1
  rw [e_nk_kl ho hk]
theorem G_ii {i : Nat} {n : Int} {x v : Int32} {o : Option Value} (hd : decode (e_bc y) pc = .ok (.iinc (i + 1) n, 3)) (hx : e_ld l (i + 1) = some (.int x)) (hi : i + 1 < l.length) (hv : Int32.ofInt n = v) (ho : l[i]? = some o) (hk : e_nk o = true) : e_lim L xs d y pc l st h = e_lim L xs d y (pc + 3) (l.set (i + 1) (some (.int (x + v)))) st h := by
  subst hv
  refine G_st (v := .int (x + Int32.ofInt n)) hd ?_ ho hk
  unfold e_os
  simp only [hx, if_pos hi]
theorem G_iirem {y2 x2 : Int32} (hd : decode (e_bc y) pc = .ok (.irem, 1)) (h0 : y2 ≠ 0) : e_lim L xs d y pc l (.int y2 :: .int x2 :: st) h = e_lim L xs d y (pc + 1) l (.int (x2 - x2 / y2 * y2) :: st) h := by
  refine R_op hd ?_
  unfold e_op
  simp only [if_neg h0]
theorem G_idiv {y2 x2 : Int32} (hd : decode (e_bc y) pc = .ok (.idiv, 1)) (h0 : y2 ≠ 0) : e_lim L xs d y pc l (.int y2 :: .int x2 :: st) h = e_lim L xs d y (pc + 1) l (.int (x2 / y2) :: st) h := by
  refine R_op hd ?_
  unfold e_op
  simp only [if_neg h0]
theorem G_ret {ty : FieldType} {v : Int32} (hd : decode (e_bc y) pc = .ok (.ireturn, 1)) (hr : e_rt y = some ty) (hn : narrow ty (.int v) = .int v) : e_lim L xs d y pc l [.int v] h = some (.inl (some (.int v)), h, 0, 0) := by
  refine R_rn hd ⟨⟨fun _ _ => rfl, fun _ _ => rfl⟩, fun _ _ _ => rfl, fun _ _ _ => rfl, fun _ _ _ => rfl⟩ ?_
  unfold e_rn
  simp only [hr, hn, if_true]
theorem G_vret (hd : decode (e_bc y) pc = .ok (.return_, 1)) (hr : e_rt y = none) : e_lim L xs d y pc l [] h = some (.inl none, h, 0, 0) := by
  refine R_rn hd ⟨⟨fun _ _ => rfl, fun _ _ => rfl⟩, fun _ _ _ => rfl, fun _ _ _ => rfl, fun _ _ _ => rfl⟩ ?_
  unfold e_rn
  simp only [hr, if_true]
theorem G_lret {v : Int64} (hd : decode (e_bc y) pc = .ok (.lreturn, 1)) (hr : e_rt y = some .long) : e_lim L xs d y pc l [.long v] h = some (.inl (some (.long v)), h, 0, 0) := by
  refine R_rn hd ⟨⟨fun _ _ => rfl, fun _ _ => rfl⟩, fun _ _ _ => rfl, fun _ _ _ => rfl, fun _ _ _ => rfl⟩ ?_
  unfold e_rn
  simp only [hr, if_true]
theorem G_aret {v : Nat} {C : String} (hd : decode (e_bc y) pc = .ok (.areturn, 1)) (hr : e_rt y = some (.object C)) : e_lim L xs d y pc l [.ref v] h = some (.inl (some (.ref v)), h, 0, 0) := by
  refine R_rn hd ⟨⟨fun _ _ => rfl, fun _ _ => rfl⟩, fun _ _ _ => rfl, fun _ _ _ => rfl, fun _ _ _ => rfl⟩ ?_
  unfold e_rn
  simp only [hr]
theorem G_bl2 {idx b : Nat} {x y2 v : Int32} (hd : decode (e_bc y) pc = .ok (.invokestatic idx, 3)) (ht : e_ir2 e_call (e_cy y) idx = none) (hb : e_ir e_blt (e_cy y) idx = some b) (hv : (b = 1000 ∧ v = if x < y2 then y2 else x) ∨ (b = 1001 ∧ v = if y2 < x then y2 else x)) (hc : (st.map fun v => v.category).sum ≤ 40) : e_lim L xs (d + 1) y pc l (.int y2 :: .int x :: st) h = e_lim L xs (d + 1) y (pc + 3) l (.int v :: st) h := by
  refine R_bl hd rfl ⟨⟨fun _ _ => rfl, fun _ _ => rfl⟩, fun _ _ _ => rfl, fun _ _ _ => rfl, fun _ _ _ => rfl, fun _ _ => rfl⟩ ht hb ?_
  unfold e_bl
  rcases hv with ⟨rfl, rfl⟩ | ⟨rfl, rfl⟩
  · simp only [if_pos hc, if_true]
  · simp only [if_pos hc]
    rw [if_neg (by decide), if_pos trivial]
theorem G_abs {idx : Nat} {x : Int32} (hd : decode (e_bc y) pc = .ok (.invokestatic idx, 3)) (ht : e_ir2 e_call (e_cy y) idx = none) (hb : e_ir e_blt (e_cy y) idx = some 1002) (hs : ∀ z s, st ≠ .int z :: s) (hc : (st.map fun v => v.category).sum ≤ 40) : e_lim L xs (d + 1) y pc l (.int x :: st) h = e_lim L xs (d + 1) y (pc + 3) l (.int (if 0 ≤ x then x else 0 - x) :: st) h := by
  refine R_bl hd rfl ⟨⟨fun _ _ => rfl, fun _ _ => rfl⟩, fun _ _ _ => rfl, fun _ _ _ => rfl, fun _ _ _ => rfl, fun _ _ => rfl⟩ ht hb ?_
  unfold e_bl
  cases st with
  | nil => simp
  | cons a t =>
    cases a with
    | int z => exact absurd rfl (hs z t)
    | _ => simp only [hc, and_self, if_true]
end E24
