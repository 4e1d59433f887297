section Ea3
variable {L : Nat} {xs : Nat → Int32} {d : Nat} {M M2 M3 : e_MI} {V : e_ML} {W : e_MD} {K K2 : e_St} {h : e_H} {S : Int → e_St} {c cd n er o q k i w m : Int} {ρ ω β ε τ : Int → Int} {r : Option e_R} {an : Int32}
/-! floats and doubles -/
theorem enc64 {s : Bool} {c : Nat} {q : Int} (hc : c < 9007199254740992) (hq : q ≤ 971) : (FP.Core.encode FP.Core.b64 (.fin s c q) % 9223372036854775808 < 9218868437227405312 ∧ (c ≠ 0 → FP.Core.encode FP.Core.b64 (.fin s c q) % 9223372036854775808 ≠ 0)) ∧ FP.Core.encode FP.Core.b64 (.fin s c q) < 18446744073709551616 := by
  have e : FP.Core.encode FP.Core.b64 (.fin s c q) = if c < 4503599627370496 then (s.toNat * 2048 + 0) * 4503599627370496 + c else (s.toNat * 2048 + ((q - (-1074)).toNat + 1)) * 4503599627370496 + (c - 4503599627370496) := rfl
  rw [e]
  cases s
  · simp only [Bool.toNat_false]
    split <;> omega
  · simp only [Bool.toNat_true]
    split <;> omega
theorem inf64 {s : Bool} : FP.Core.encode FP.Core.b64 (.inf s) % 9223372036854775808 ≤ 9218868437227405312 ∧ FP.Core.encode FP.Core.b64 (.inf s) < 18446744073709551616 := by
  have e : FP.Core.encode FP.Core.b64 (.inf s) = (s.toNat * 2048 + 2047) * 4503599627370496 + 0 := rfl
  rw [e]
  cases s
  · simp only [Bool.toNat_false]
    omega
  · simp only [Bool.toNat_true]
    omega
theorem bnd64 {s : Bool} {c : Nat} {q : Int} (hc : c < 9007199254740992) : FP.Core.encode FP.Core.b64 (FP.Core.bound FP.Core.b64 s c q) % 9223372036854775808 ≤ 9218868437227405312 ∧ FP.Core.encode FP.Core.b64 (FP.Core.bound FP.Core.b64 s c q) < 18446744073709551616 := by
  have e : FP.Core.bound FP.Core.b64 s c q = if q ≤ 971 then .fin s c q else .inf s := rfl
  rw [e]
  split
  · next h =>
    have := enc64 (s := s) hc h
    omega
  · exact inf64
theorem stl64 {s : Bool} {c : Nat} {q : Int} : FP.Core.encode FP.Core.b64 (FP.Core.settle FP.Core.b64 s c q) % 9223372036854775808 ≤ 9218868437227405312 ∧ FP.Core.encode FP.Core.b64 (FP.Core.settle FP.Core.b64 s c q) < 18446744073709551616 := by
  have e : FP.Core.settle FP.Core.b64 s c q = if c < 9007199254740992 then FP.Core.bound FP.Core.b64 s c q else FP.Core.bound FP.Core.b64 s 4503599627370496 (q + 1) := rfl
  rw [e]
  split
  · next h => exact bnd64 h
  · exact bnd64 (by decide)
theorem rrt64 {s : Bool} {n k : Nat} {e : Int} : FP.Core.encode FP.Core.b64 (FP.Core.roundRatio FP.Core.b64 s n k e) % 9223372036854775808 ≤ 9218868437227405312 ∧ FP.Core.encode FP.Core.b64 (FP.Core.roundRatio FP.Core.b64 s n k e) < 18446744073709551616 := by
  unfold FP.Core.roundRatio
  split
  · have := enc64 (s := s) (c := 0) (q := FP.Core.b64.qmin) (by decide) (by decide)
    omega
  · exact stl64
theorem dec64 {n : Nat} (h : n % 9223372036854775808 < 9218868437227405312) : ∃ (s : Bool) (c : Nat) (q : Int), FP.Core.decode FP.Core.b64 n = .fin s c q ∧ (n % 9223372036854775808 ≠ 0 → c ≠ 0) := by
  have e : FP.Core.decode FP.Core.b64 n = if n / 4503599627370496 % 2048 = 2047 then (if n % 4503599627370496 = 0 then .inf (FP.Core.fieldS FP.Core.b64 n) else .nan) else if n / 4503599627370496 % 2048 = 0 then .fin (FP.Core.fieldS FP.Core.b64 n) (n % 4503599627370496) (-1074) else .fin (FP.Core.fieldS FP.Core.b64 n) (4503599627370496 + n % 4503599627370496) (-1074 + (((n / 4503599627370496 % 2048 : Nat) : Int) - 1)) := rfl
  rw [e, if_neg (by omega)]
  split
  · exact ⟨_, _, _, rfl, by omega⟩
  · exact ⟨_, _, _, rfl, by omega⟩
theorem int64 {v : Int} (hv : 0 ≤ v ∧ v ≤ 16384) : FP.Core.fromInt FP.Core.b64 v % 9223372036854775808 < 9218868437227405312 ∧ (v ≠ 0 → FP.Core.fromInt FP.Core.b64 v % 9223372036854775808 ≠ 0) ∧ FP.Core.fromInt FP.Core.b64 v < 18446744073709551616 := by
  have e : FP.Core.fromInt FP.Core.b64 v = FP.Core.encode FP.Core.b64 (FP.Core.roundRatio FP.Core.b64 (decide (v < 0)) v.natAbs 1 0) := rfl
  rw [e]
  unfold FP.Core.roundRatio
  by_cases h0 : v.natAbs = 0
  · rw [if_pos h0]
    have := enc64 (s := decide (v < 0)) (c := 0) (q := FP.Core.b64.qmin) (by decide) (by decide)
    exact ⟨this.1.1, fun a => by omega, this.2⟩
  · rw [if_neg h0]
    have hl : (v.natAbs).log2 < 15 := (Nat.log2_lt h0).mpr (by omega)
    have hq : FP.Core.quantum FP.Core.b64 v.natAbs 1 0 ≤ -37 := by
      have hk : FP.Core.leading v.natAbs 1 ≤ 15 := by
        unfold FP.Core.leading
        simp only
        have h1 : (1 : Nat).log2 = 0 := by decide
        rw [h1]
        split <;> omega
      have e2 : FP.Core.quantum FP.Core.b64 v.natAbs 1 0 = max (-1074) (FP.Core.leading v.natAbs 1 + 0 - (53 - 1)) := rfl
      rw [e2]
      omega
    generalize FP.Core.quantum FP.Core.b64 v.natAbs 1 0 = q at *
    have hn : FP.Core.nearest (FP.Core.unitsNum v.natAbs 0 q) (FP.Core.unitsDen 1 0 q) ≠ 0 := by
      have e3 : FP.Core.unitsDen 1 0 q = 1 := by
        unfold FP.Core.unitsDen
        rw [show (q - 0).toNat = 0 by omega]
      have e4 : 1 ≤ FP.Core.unitsNum v.natAbs 0 q := by
        unfold FP.Core.unitsNum
        exact Nat.mul_pos (by omega) (Nat.two_pow_pos _)
      rw [e3]
      unfold FP.Core.nearest
      rw [if_pos (by omega)]
      omega
    show FP.Core.encode FP.Core.b64 (FP.Core.settle FP.Core.b64 _ _ _) % _ < _ ∧ _
    unfold FP.Core.roundAt
    generalize FP.Core.nearest (FP.Core.unitsNum v.natAbs 0 q) (FP.Core.unitsDen 1 0 q) = c at *
    have e5 : FP.Core.settle FP.Core.b64 (decide (v < 0)) c q = if c < 9007199254740992 then (if q ≤ 971 then .fin (decide (v < 0)) c q else .inf (decide (v < 0))) else (if q + 1 ≤ 971 then .fin (decide (v < 0)) 4503599627370496 (q + 1) else .inf (decide (v < 0))) := rfl
    rw [e5]
    by_cases hc : c < 9007199254740992
    · rw [if_pos hc, if_pos (by omega)]
      have := enc64 (s := decide (v < 0)) hc (show q ≤ 971 by omega)
      exact ⟨this.1.1, fun _ => this.1.2 hn, this.2⟩
    · rw [if_neg hc, if_pos (by omega)]
      have := enc64 (s := decide (v < 0)) (c := 4503599627370496) (q := q + 1) (by decide) (by omega)
      exact ⟨this.1.1, fun _ => this.1.2 (by decide), this.2⟩
theorem div64_ok {x y : Nat} (hx : x % 9223372036854775808 < 9218868437227405312) (hy : y % 9223372036854775808 < 9218868437227405312) (h0 : y % 9223372036854775808 ≠ 0) : FP.Core.div FP.Core.b64 x y % 9223372036854775808 ≤ 9218868437227405312 ∧ FP.Core.div FP.Core.b64 x y < 18446744073709551616 := by
  obtain ⟨s, c, q, e1, -⟩ := dec64 hx
  obtain ⟨t, k, r, e2, h2⟩ := dec64 hy
  have h2 := h2 h0
  unfold FP.Core.div
  rw [e1, e2]
  show FP.Core.encode FP.Core.b64 (if k = 0 then _ else _) % _ ≤ _ ∧ FP.Core.encode FP.Core.b64 (if k = 0 then _ else _) < _
  rw [if_neg h2]
  exact rrt64
theorem enc32 {s : Bool} {c : Nat} {q : Int} (hc : c < 16777216) (hq : q ≤ 104) : (FP.Core.encode FP.Core.b32 (.fin s c q) % 2147483648 < 2139095040 ∧ (c ≠ 0 → FP.Core.encode FP.Core.b32 (.fin s c q) % 2147483648 ≠ 0)) ∧ FP.Core.encode FP.Core.b32 (.fin s c q) < 4294967296 := by
  have e : FP.Core.encode FP.Core.b32 (.fin s c q) = if c < 8388608 then (s.toNat * 256 + 0) * 8388608 + c else (s.toNat * 256 + ((q - (-149)).toNat + 1)) * 8388608 + (c - 8388608) := rfl
  rw [e]
  cases s
  · simp only [Bool.toNat_false]
    split <;> omega
  · simp only [Bool.toNat_true]
    split <;> omega
theorem inf32 {s : Bool} : FP.Core.encode FP.Core.b32 (.inf s) % 2147483648 ≤ 2139095040 ∧ FP.Core.encode FP.Core.b32 (.inf s) < 4294967296 := by
  have e : FP.Core.encode FP.Core.b32 (.inf s) = (s.toNat * 256 + 255) * 8388608 + 0 := rfl
  rw [e]
  cases s
  · simp only [Bool.toNat_false]
    omega
  · simp only [Bool.toNat_true]
    omega
theorem bnd32 {s : Bool} {c : Nat} {q : Int} (hc : c < 16777216) : FP.Core.encode FP.Core.b32 (FP.Core.bound FP.Core.b32 s c q) % 2147483648 ≤ 2139095040 ∧ FP.Core.encode FP.Core.b32 (FP.Core.bound FP.Core.b32 s c q) < 4294967296 := by
  have e : FP.Core.bound FP.Core.b32 s c q = if q ≤ 104 then .fin s c q else .inf s := rfl
  rw [e]
  split
  · next h =>
    have := enc32 (s := s) hc h
    omega
  · exact inf32
theorem stl32 {s : Bool} {c : Nat} {q : Int} : FP.Core.encode FP.Core.b32 (FP.Core.settle FP.Core.b32 s c q) % 2147483648 ≤ 2139095040 ∧ FP.Core.encode FP.Core.b32 (FP.Core.settle FP.Core.b32 s c q) < 4294967296 := by
  have e : FP.Core.settle FP.Core.b32 s c q = if c < 16777216 then FP.Core.bound FP.Core.b32 s c q else FP.Core.bound FP.Core.b32 s 8388608 (q + 1) := rfl
  rw [e]
  split
  · next h => exact bnd32 h
  · exact bnd32 (by decide)
theorem rrt32 {s : Bool} {n k : Nat} {e : Int} : FP.Core.encode FP.Core.b32 (FP.Core.roundRatio FP.Core.b32 s n k e) % 2147483648 ≤ 2139095040 ∧ FP.Core.encode FP.Core.b32 (FP.Core.roundRatio FP.Core.b32 s n k e) < 4294967296 := by
  unfold FP.Core.roundRatio
  split
  · have := enc32 (s := s) (c := 0) (q := FP.Core.b32.qmin) (by decide) (by decide)
    omega
  · exact stl32
theorem dec32 {n : Nat} (h : n % 2147483648 < 2139095040) : ∃ (s : Bool) (c : Nat) (q : Int), FP.Core.decode FP.Core.b32 n = .fin s c q ∧ (n % 2147483648 ≠ 0 → c ≠ 0) := by
  have e : FP.Core.decode FP.Core.b32 n = if n / 8388608 % 256 = 255 then (if n % 8388608 = 0 then .inf (FP.Core.fieldS FP.Core.b32 n) else .nan) else if n / 8388608 % 256 = 0 then .fin (FP.Core.fieldS FP.Core.b32 n) (n % 8388608) (-149) else .fin (FP.Core.fieldS FP.Core.b32 n) (8388608 + n % 8388608) (-149 + (((n / 8388608 % 256 : Nat) : Int) - 1)) := rfl
  rw [e, if_neg (by omega)]
  split
  · exact ⟨_, _, _, rfl, by omega⟩
  · exact ⟨_, _, _, rfl, by omega⟩
theorem int32 {v : Int} (hv : 0 ≤ v ∧ v ≤ 16384) : FP.Core.fromInt FP.Core.b32 v % 2147483648 < 2139095040 ∧ (v ≠ 0 → FP.Core.fromInt FP.Core.b32 v % 2147483648 ≠ 0) ∧ FP.Core.fromInt FP.Core.b32 v < 4294967296 := by
  have e : FP.Core.fromInt FP.Core.b32 v = FP.Core.encode FP.Core.b32 (FP.Core.roundRatio FP.Core.b32 (decide (v < 0)) v.natAbs 1 0) := rfl
  rw [e]
  unfold FP.Core.roundRatio
  by_cases h0 : v.natAbs = 0
  · rw [if_pos h0]
    have := enc32 (s := decide (v < 0)) (c := 0) (q := FP.Core.b32.qmin) (by decide) (by decide)
    exact ⟨this.1.1, fun a => by omega, this.2⟩
  · rw [if_neg h0]
    have hl : (v.natAbs).log2 < 15 := (Nat.log2_lt h0).mpr (by omega)
    have hq : FP.Core.quantum FP.Core.b32 v.natAbs 1 0 ≤ -8 := by
      have hk : FP.Core.leading v.natAbs 1 ≤ 15 := by
        unfold FP.Core.leading
        simp only
        have h1 : (1 : Nat).log2 = 0 := by decide
        rw [h1]
        split <;> omega
      have e2 : FP.Core.quantum FP.Core.b32 v.natAbs 1 0 = max (-149) (FP.Core.leading v.natAbs 1 + 0 - (24 - 1)) := rfl
      rw [e2]
      omega
    generalize FP.Core.quantum FP.Core.b32 v.natAbs 1 0 = q at *
    have hn : FP.Core.nearest (FP.Core.unitsNum v.natAbs 0 q) (FP.Core.unitsDen 1 0 q) ≠ 0 := by
      have e3 : FP.Core.unitsDen 1 0 q = 1 := by
        unfold FP.Core.unitsDen
        rw [show (q - 0).toNat = 0 by omega]
      have e4 : 1 ≤ FP.Core.unitsNum v.natAbs 0 q := by
        unfold FP.Core.unitsNum
        exact Nat.mul_pos (by omega) (Nat.two_pow_pos _)
      rw [e3]
      unfold FP.Core.nearest
      rw [if_pos (by omega)]
      omega
    show FP.Core.encode FP.Core.b32 (FP.Core.settle FP.Core.b32 _ _ _) % _ < _ ∧ _
    unfold FP.Core.roundAt
    generalize FP.Core.nearest (FP.Core.unitsNum v.natAbs 0 q) (FP.Core.unitsDen 1 0 q) = c at *
    have e5 : FP.Core.settle FP.Core.b32 (decide (v < 0)) c q = if c < 16777216 then (if q ≤ 104 then .fin (decide (v < 0)) c q else .inf (decide (v < 0))) else (if q + 1 ≤ 104 then .fin (decide (v < 0)) 8388608 (q + 1) else .inf (decide (v < 0))) := rfl
    rw [e5]
    by_cases hc : c < 16777216
    · rw [if_pos hc, if_pos (by omega)]
      have := enc32 (s := decide (v < 0)) hc (show q ≤ 104 by omega)
      exact ⟨this.1.1, fun _ => this.1.2 hn, this.2⟩
    · rw [if_neg hc, if_pos (by omega)]
      have := enc32 (s := decide (v < 0)) (c := 8388608) (q := q + 1) (by decide) (by omega)
      exact ⟨this.1.1, fun _ => this.1.2 (by decide), this.2⟩
theorem div32_ok {x y : Nat} (hx : x % 2147483648 < 2139095040) (hy : y % 2147483648 < 2139095040) (h0 : y % 2147483648 ≠ 0) : FP.Core.div FP.Core.b32 x y % 2147483648 ≤ 2139095040 ∧ FP.Core.div FP.Core.b32 x y < 4294967296 := by
  obtain ⟨s, c, q, e1, -⟩ := dec32 hx
  obtain ⟨t, k, r, e2, h2⟩ := dec32 hy
  have h2 := h2 h0
  unfold FP.Core.div
  rw [e1, e2]
  show FP.Core.encode FP.Core.b32 (if k = 0 then _ else _) % _ ≤ _ ∧ FP.Core.encode FP.Core.b32 (if k = 0 then _ else _) < _
  rw [if_neg h2]
  exact rrt32
theorem n64_ok {x : UInt64} (h : x.toNat % 9223372036854775808 ≤ 9218868437227405312) : x &&& 0x7fffffffffffffff ≤ 0x7ff0000000000000 := by
  rw [UInt64.le_iff_toNat_le, UInt64.toNat_and]
  have e1 : (0x7fffffffffffffff : UInt64).toNat = 2 ^ 63 - 1 := rfl
  have e2 : (0x7ff0000000000000 : UInt64).toNat = 9218868437227405312 := by decide
  rw [e1, e2, Nat.and_two_pow_sub_one_eq_mod]
  exact h
theorem n32_ok {x : UInt32} (h : x.toNat % 2147483648 ≤ 2139095040) : x &&& 0x7fffffff ≤ 0x7f800000 := by
  rw [UInt32.le_iff_toNat_le, UInt32.toNat_and]
  have e1 : (0x7fffffff : UInt32).toNat = 2 ^ 31 - 1 := rfl
  have e2 : (0x7f800000 : UInt32).toNat = 2139095040 := by decide
  rw [e1, e2, Nat.and_two_pow_sub_one_eq_mod]
  exact h
theorem i2d_n {s : Int} (hs : 0 ≤ s ∧ s ≤ 16384) : (FP.i2d (iI s)).toNat = FP.Core.fromInt FP.Core.b64 s := by
  have h := int64 hs
  show (UInt64.ofNat (FP.Core.fromInt FP.Core.b64 (iI s).toInt)).toNat = _
  rw [iI_toInt (by omega) (by omega), UInt64.toNat_ofNat']
  exact Nat.mod_eq_of_lt h.2.2
theorem i2f_n {s : Int} (hs : 0 ≤ s ∧ s ≤ 16384) : (FP.i2f (iI s)).toNat = FP.Core.fromInt FP.Core.b32 s := by
  have h := int32 hs
  show (UInt32.ofNat (FP.Core.fromInt FP.Core.b32 (iI s).toInt)).toNat = _
  rw [iI_toInt (by omega) (by omega), UInt32.toNat_ofNat']
  exact Nat.mod_eq_of_lt h.2.2
theorem mean_ok {s n : Int} (hs : 0 ≤ s ∧ s ≤ 16384) (hn : 1 ≤ n ∧ n ≤ 16384) : FP.ddiv (FP.i2d (iI s)) (FP.i2d (iI n)) &&& 0x7fffffffffffffff ≤ 0x7ff0000000000000 := by
  have h1 := int64 hs
  have h2 := int64 (v := n) (by omega)
  have h3 := div64_ok h1.1 h2.1 (h2.2.1 (by omega))
  refine n64_ok ?_
  have e : (FP.ddiv (FP.i2d (iI s)) (FP.i2d (iI n))).toNat = FP.Core.div FP.Core.b64 (FP.Core.fromInt FP.Core.b64 s) (FP.Core.fromInt FP.Core.b64 n) := by
    show (UInt64.ofNat (FP.Core.div FP.Core.b64 (FP.i2d (iI s)).toNat (FP.i2d (iI n)).toNat)).toNat = _
    rw [i2d_n hs, i2d_n (by omega), UInt64.toNat_ofNat']
    exact Nat.mod_eq_of_lt h3.2
  rw [e]
  exact h3.1
theorem use_n {s n : Int} (hs : 0 ≤ s ∧ s ≤ 16384) (hn : 1 ≤ n ∧ n ≤ 16384) : (FP.fdiv (FP.i2f (iI s)) (FP.i2f (iI n))).toNat % 2147483648 ≤ 2139095040 := by
  have h1 := int32 hs
  have h2 := int32 (v := n) (by omega)
  have h3 := div32_ok h1.1 h2.1 (h2.2.1 (by omega))
  have e : (FP.fdiv (FP.i2f (iI s)) (FP.i2f (iI n))).toNat = FP.Core.div FP.Core.b32 (FP.Core.fromInt FP.Core.b32 s) (FP.Core.fromInt FP.Core.b32 n) := by
    show (UInt32.ofNat (FP.Core.div FP.Core.b32 (FP.i2f (iI s)).toNat (FP.i2f (iI n)).toNat)).toNat = _
    rw [i2f_n hs, i2f_n (by omega), UInt32.toNat_ofNat']
    exact Nat.mod_eq_of_lt h3.2
  rw [e]
  exact h3.1
theorem use_ok {s n : Int} (hs : 0 ≤ s ∧ s ≤ 16384) (hn : 1 ≤ n ∧ n ≤ 16384) : FP.fdiv (FP.i2f (iI s)) (FP.i2f (iI n)) &&& 0x7fffffff ≤ 0x7f800000 := n32_ok (use_n hs hn)
def mnS (K : e_St) : Int := SU (fun o => enO K (rwK K) o) (K 310)
def mnW (K : e_St) : UInt64 := if K 310 = 0 then 0 else FP.ddiv (FP.i2d (iI (mnS K))) (FP.i2d (iI (K 310)))
theorem rf_meanEnd (H : RK M K c S) : ∃ (M2 : e_MI) (z : UInt64), e_lim L xs (d + 7) 286 0 [some (.ref 184), none, none] [] (e_hp M V W) = some (.inl (some (.double z)), e_hp M2 V W, 0, 0) ∧ RK M2 K c S ∧ frQ M M2 ∧ M2 184 0 = iI (cdT K 1) ∧ (cdT K 1 = 0 → z = mnW K) := by
  have hn := H.r.n
  obtain ⟨M2, ρ, ω, β, ε, e1, HK, hq, hS, hg, hz, h0⟩ := rf_noTimes (L := L) (xs := xs) (d := d) (V := V) (W := W) H.mT (mT_0 M) (e := 1) (by omega)
  unfold cdT
  cases hb : ft K with
  | true =>
    rw [hb] at e1 h0
    have e2 := mm_many (L := L) (xs := xs) (d := d + 6) (V := V) (W := W) HK.km
    unfold mnW
    by_cases hn0 : K 310 = 0
    · rw [if_pos hn0]
      rw [hn0] at e2
      refine ⟨M2, 0, ?_, HK, (frQ_mT M).t hq, h0, fun _ => rfl⟩
      simp (disch := first | assumption | exact e_nk_i _ | exact e_nk_n | exact e_nk_r _ | exact e_bo_0 | exact e_bo_1 | exact e_bo_b _ | omega) only [e_cl_v, e_cl_x, e_add_0, e_add_s, Option.toList_some, Option.toList_none, List.cons_append, List.nil_append, iI_add, iI_sub, iI_mul, iI_lt, iI_eq, iI_le, r286_0, r286_1, r286_2, r286_5, r286_6, r286_7, r286_10, r286_13, r286_14, r286_17, r286_20, r286_21, e1, e2, bI_0]
      simp
    · rw [if_neg hn0]
      have hsum := SU_le (f := fun o => enO K (rwK K) o) (n := K 310) (c := 2001) (fun o u v => enO_rg H.r H.v.2 H.v.1 hS (hg hb) ⟨u, v⟩) hn.1
      have hm : 0 ≤ mnS K ∧ mnS K ≤ 16384 := by
        unfold mnS
        omega
      refine ⟨M2, _, ?_, HK, (frQ_mT M).t hq, h0, fun _ => rfl⟩
      simp (disch := first | assumption | exact e_nk_i _ | exact e_nk_n | exact e_nk_r _ | exact e_bo_0 | exact e_bo_1 | exact e_bo_b _ | omega) only [e_cl_v, e_cl_x, e_add_0, e_add_s, Option.toList_some, Option.toList_none, List.cons_append, List.nil_append, iI_add, iI_sub, iI_mul, iI_lt, iI_eq, iI_le, r286_0, r286_1, r286_2, r286_5, r286_6, r286_7, r286_10, r286_13, r286_14, r286_17, r286_20, r286_21, r286_22, r286_23, r286_24, r286_25, e1, e2, bI_0]
      simp only [if_neg hn0]
      have main : e_lim L xs (d + 7) 286 26 [some (.ref 184), some (.int (iI 0)), some (.int (iI 0))] [] (e_hp M2 V W) = some (.inl (some (.double (FP.ddiv (FP.i2d (iI (mnS K))) (FP.i2d (iI (K 310)))))), e_hp M2 V W, 0, 0) := by
        rw [show (iI 0 : Int32) = iI (SU (fun o => enO K (rwK K) o) 0) from rfl]
        refine G_loopI (C := fun i => e_lim L xs (d + 7) 286 26 [some (.ref 184), some (.int (iI (SU (fun o => enO K (rwK K) o) i))), some (.int (iI i))] [] (e_hp M2 V W)) (i := 0) hn.1 (fun j a b hc => ?_) ?_
        · have e3 := mm_endIs (L := L) (xs := xs) (d := d + 5) (V := V) (W := W) HK.km H.r H.v.2 H.v.1 hS (hg hb) (o := j) ⟨a, b⟩
          have e3' : e_lim L xs (d + 6) 231 0 [some (.ref 184), some (.int (iI j))] [] (e_hp M2 V W) = some (.inl (some (.int (iI (enO K (rwK K) j)))), e_hp M2 V W, 0, 0) := e3
          rw [SU_s _ a] at hc
          rw [r286_26]
          simp (disch := first | assumption | exact e_nk_i _ | exact e_nk_n | exact e_nk_r _ | exact e_bo_0 | exact e_bo_1 | exact e_bo_b _ | omega) only [e_cl_v, e_cl_x, e_add_0, e_add_s, Option.toList_some, Option.toList_none, List.cons_append, List.nil_append, iI_add, iI_sub, iI_mul, iI_lt, iI_eq, iI_le, r286_27, r286_28, r286_31, r286_34, r286_35, r286_36, r286_37, r286_40, r286_41, r286_42, r286_45, e2, e3']
          rw [if_pos b]
          exact hc
        · rw [r286_26]
          simp (disch := first | assumption | exact e_nk_i _ | exact e_nk_n | exact e_nk_r _ | exact e_bo_0 | exact e_bo_1 | exact e_bo_b _ | omega) only [e_cl_v, e_cl_x, e_add_0, e_add_s, Option.toList_some, Option.toList_none, List.cons_append, List.nil_append, iI_add, iI_sub, iI_mul, iI_lt, iI_eq, iI_le, r286_27, r286_28, r286_31, r286_48, r286_49, r286_50, r286_51, r286_54, e2]
          rw [if_neg (by omega)]
          show e_lim L xs (d + 7) 286 55 [some (.ref 184), some (.int (iI (mnS K))), some (.int (iI (K 310)))] [.double (FP.i2d (iI (K 310))), .double (FP.i2d (iI (mnS K)))] (e_hp M2 V W) = _
          rw [r286_55 (mean_ok hm (by omega)), r286_56]
      first
      | exact main
      | (simp; exact main)
  | false =>
    rw [hb] at e1 h0
    refine ⟨M2, 0, ?_, HK, (frQ_mT M).t hq, h0, fun q => by cases q⟩
    simp (disch := first | assumption | exact e_nk_i _ | exact e_nk_n | exact e_nk_r _ | exact e_bo_0 | exact e_bo_1 | exact e_bo_b _ | omega) only [e_cl_v, e_cl_x, e_add_0, e_add_s, Option.toList_some, Option.toList_none, List.cons_append, List.nil_append, iI_add, iI_sub, iI_mul, iI_lt, iI_eq, iI_le, r286_0, r286_1, r286_2, r286_5, r286_6, r286_7, r286_10, r286_13, r286_14, r286_17, r286_20, r286_21, e1, bI_0]
    simp
def cdUs (K : e_St) (m : Int) : Int := if 0 ≤ m ∧ m ≤ 3 then cdT K 2 else 1
def usW (K : e_St) (m : Int) : UInt32 := if edW K = 0 then 0 else FP.fdiv (FP.i2f (iI (lO K m))) (FP.i2f (iI (edW K)))
theorem rf_use (H : RK M K c S) (hm : i32 m) : ∃ (M2 : e_MI) (z : UInt32), e_lim L xs (d + 7) 287 0 [some (.ref 184), some (.int (iI m))] [] (e_hp M V W) = some (.inl (some (.float z)), e_hp M2 V W, 0, 0) ∧ RK M2 K c S ∧ frQ M M2 ∧ M2 184 0 = iI (cdUs K m) ∧ (cdUs K m = 0 → z = usW K m ∧ 0 ≤ edW K ∧ edW K ≤ 2001) := by
  unfold cdUs
  by_cases h1 : 0 ≤ m ∧ m ≤ 3
  · have e0 := mm_noMachineT (L := L) (xs := xs) (d := d + 4) (V := V) (W := W) (mT_0 M) h1
    obtain ⟨M2, ρ, ω, β, ε, e1, HK, hq, hS, hg, hz, h0⟩ := rf_noTimes (L := L) (xs := xs) (d := d) (V := V) (W := W) H.mT (mT_0 M) (e := 2) (by omega)
    rw [if_pos h1]
    unfold cdT
    cases hb : ft K with
    | true =>
      rw [hb] at e1 h0
      have hv16 := H.v.1.2
      have e2 := mm_endNow (L := L) (xs := xs) (d := d + 6) (V := V) (W := W) H.v.1 hz hS
      have r2 := mX_rg (f := ε) (n := aW K) (c := 2001) H.v.1.1 (by omega) (fun p u v => (hS.2.2.2.2.2.2.2 p u (by omega)).2)
      rw [edW_eq H.v.1.1 (hg hb)] at e2 r2
      have e3 := mm_loadOf (L := L) (xs := xs) (d := d + 4) (V := V) (W := W) HK.km H.r (m := m) h1
      have r3 := lO_rg H.r (m := m)
      unfold usW
      by_cases hz0 : edW K = 0
      · rw [if_pos hz0]
        rw [hz0] at e2
        refine ⟨M2, 0, ?_, HK, (frQ_mT M).t hq, h0, fun _ => ⟨rfl, r2⟩⟩
        simp (disch := first | assumption | exact e_nk_i _ | exact e_nk_n | exact e_nk_r _ | exact e_bo_0 | exact e_bo_1 | exact e_bo_b _ | omega) only [e_cl_v, e_cl_x, e_add_0, e_add_s, Option.toList_some, Option.toList_none, List.cons_append, List.nil_append, iI_add, iI_sub, iI_mul, iI_lt, iI_eq, iI_le, r287_0, r287_1, r287_2, r287_5, r287_6, r287_7, r287_10, r287_13, r287_14, r287_15, r287_18, r287_21, r287_22, r287_23, r287_24, r287_27, r287_30, r287_31, r287_46, e0, e1, e2, bI_0]
        simp
      · rw [if_neg hz0]
        refine ⟨M2, _, ?_, HK, (frQ_mT M).t hq, h0, fun _ => ⟨rfl, r2⟩⟩
        simp (disch := first | assumption | exact e_nk_i _ | exact e_nk_n | exact e_nk_r _ | exact e_bo_0 | exact e_bo_1 | exact e_bo_b _ | omega) only [e_cl_v, e_cl_x, e_add_0, e_add_s, Option.toList_some, Option.toList_none, List.cons_append, List.nil_append, iI_add, iI_sub, iI_mul, iI_lt, iI_eq, iI_le, r287_0, r287_1, r287_2, r287_5, r287_6, r287_7, r287_10, r287_13, r287_14, r287_15, r287_18, r287_21, r287_22, r287_23, r287_24, r287_27, r287_30, r287_31, r287_34, r287_35, r287_36, r287_39, r287_40, r287_41, r287_44, e0, e1, e2, e3, bI_0]
        simp [hz0]
        rw [r287_45 (use_ok (by omega) (by omega)), r287_46]
    | false =>
      rw [hb] at e1 h0
      refine ⟨M2, 0, ?_, HK, (frQ_mT M).t hq, h0, fun q => by cases q⟩
      simp (disch := first | assumption | exact e_nk_i _ | exact e_nk_n | exact e_nk_r _ | exact e_bo_0 | exact e_bo_1 | exact e_bo_b _ | omega) only [e_cl_v, e_cl_x, e_add_0, e_add_s, Option.toList_some, Option.toList_none, List.cons_append, List.nil_append, iI_add, iI_sub, iI_mul, iI_lt, iI_eq, iI_le, r287_0, r287_1, r287_2, r287_5, r287_6, r287_7, r287_10, r287_13, r287_14, r287_15, r287_18, r287_21, r287_22, e0, e1, bI_0]
      simp
  · have e0 := mm_noMachineF (L := L) (xs := xs) (d := d + 4) (V := V) (W := W) (mT_0 M) hm h1
    rw [if_neg h1]
    refine ⟨mF (mT M) false 1, 0, ?_, H.mT.mF false 1, (frQ_mT M).t (frQ_mF _ false 1), mF_0 _ false 1 (mT_0 M), fun q => by omega⟩
    simp (disch := first | assumption | exact e_nk_i _ | exact e_nk_n | exact e_nk_r _ | exact e_bo_0 | exact e_bo_1 | exact e_bo_b _ | omega) only [e_cl_v, e_cl_x, e_add_0, e_add_s, Option.toList_some, Option.toList_none, List.cons_append, List.nil_append, iI_add, iI_sub, iI_mul, iI_lt, iI_eq, iI_le, r287_0, r287_1, r287_2, r287_5, r287_6, r287_7, r287_10, r287_13, r287_14, r287_15, r287_18, r287_21, r287_22, e0]
    all_goals first | (simp; done) | rfl | (simp; rfl)
end Ea3
