/-! the abstract machine: locals by place, a stack, a heap whose references are places in it -/
abbrev e_H : Type := List va_E
abbrev e_L : Type := List (Option Value)
/-- what a run gives: a value or a thrown class, the heap, cells and slots made -/
abbrev e_R : Type := (Option Value ⊕ Nat) × e_H × Nat × Nat
def e_SCR : Nat := 1000000
def e_ir : List (Nat × Nat × Nat) → Nat → Nat → Option Nat
  | [], _, _ => none
  | q :: t, c, i => if q.1 = c ∧ q.2.1 = i then some q.2.2 else e_ir t c i
def e_ir2 : List (Nat × Nat × Nat × Nat) → Nat → Nat → Option (Nat × Nat)
  | [], _, _ => none
  | q :: t, c, i => if q.1 = c ∧ q.2.1 = i then some q.2.2 else e_ir2 t c i
def e_irv : List (Nat × Nat × Int32) → Nat → Nat → Option Int32
  | [], _, _ => none
  | q :: t, c, i => if q.1 = c ∧ q.2.1 = i then some q.2.2 else e_irv t c i
theorem e_ir_mem : ∀ {l : List (Nat × Nat × Nat)} {c i x : Nat}, e_ir l c i = some x → (c, i, x) ∈ l
  | [], _, _, _, h => by cases h
  | (a, b, y) :: t, c, i, x, h => by
    unfold e_ir at h
    split at h
    · next q => obtain ⟨rfl, rfl⟩ := q; cases h; exact List.mem_cons_self
    · exact List.mem_cons_of_mem _ (e_ir_mem h)
theorem e_ir2_mem : ∀ {l : List (Nat × Nat × Nat × Nat)} {c i : Nat} {x : Nat × Nat}, e_ir2 l c i = some x → (c, i, x) ∈ l
  | [], _, _, _, h => by cases h
  | (a, b, y) :: t, c, i, x, h => by
    unfold e_ir2 at h
    split at h
    · next q => obtain ⟨rfl, rfl⟩ := q; cases h; exact List.mem_cons_self
    · exact List.mem_cons_of_mem _ (e_ir2_mem h)
theorem e_irv_mem : ∀ {l : List (Nat × Nat × Int32)} {c i : Nat} {x : Int32}, e_irv l c i = some x → (c, i, x) ∈ l
  | [], _, _, _, h => by cases h
  | (a, b, y) :: t, c, i, x, h => by
    unfold e_irv at h
    split at h
    · next q => obtain ⟨rfl, rfl⟩ := q; cases h; exact List.mem_cons_self
    · exact List.mem_cons_of_mem _ (e_irv_mem h)
/-! rows of the table -/
def e_row (y : Nat) : e_Row := e_tab.getD y (yL_law, cL_law, maxLocals, ret, [], 0, 1)
def e_nm (y : Nat) : MethodName := (e_row y).1
def e_bc (y : Nat) : ByteArray := (e_row y).2.1
def e_ml (y : Nat) : Nat := (e_row y).2.2.1
def e_rt (y : Nat) : Option FieldType := (e_row y).2.2.2.1
def e_hh (y : Nat) : List (Nat × Nat × Nat × Nat) := (e_row y).2.2.2.2.1
def e_kd (y : Nat) : Nat := (e_row y).2.2.2.2.2.1
def e_np (y : Nat) : Nat := (e_row y).2.2.2.2.2.2
/-- the number of a method's class -/
def e_cnf : List String → String → Nat → Nat
  | [], _, n => n
  | a :: t, s, n => if a = s then n else e_cnf t s (n + 1)
def e_cy (y : Nat) : Nat := e_cnf [RX0, RX1, RX2, RX3, RX4, RX5, RX6, RX7, RX8, RX9, RL] (e_nm y).cls 0
/-! locals -/
def e_ld (l : e_L) (i : Nat) : Option Value := match l[i]? with
  | some (some v) => some v
  | _ => none
def e_kl (l : e_L) (i : Nat) : e_L := match i with
  | 0 => l
  | j + 1 => match l[j]? with
    | some (some v) => if v.category = 2 then l.set j none else l
    | _ => l
def e_s1 (l : e_L) (i : Nat) (v : Value) : e_L := (e_kl l i).set i (some v)
def e_s2 (l : e_L) (i : Nat) (v : Value) : e_L := ((e_kl l i).set i (some v)).set (i + 1) none
def e_sx (l : e_L) (i : Nat) : e_L := (e_kl l i).set i none
/-- loads -/
def e_ildi (l : e_L) (i : Nat) (st : List Value) : Option (List Value) := match e_ld l i with
  | some (.int x) => some (.int x :: st)
  | _ => none
def e_ildl (l : e_L) (i : Nat) (st : List Value) : Option (List Value) := match e_ld l i with
  | some (.long x) => some (.long x :: st)
  | _ => none
def e_ildf (l : e_L) (i : Nat) (st : List Value) : Option (List Value) := match e_ld l i with
  | some (.float x) => some (.float x :: st)
  | _ => none
def e_ildd (l : e_L) (i : Nat) (st : List Value) : Option (List Value) := match e_ld l i with
  | some (.double x) => some (.double x :: st)
  | _ => none
def e_ilda (l : e_L) (i : Nat) (st : List Value) : Option (List Value) := match e_ld l i with
  | some (.ref x) => some (.ref x :: st)
  | some .null => some (.null :: st)
  | _ => none
/-- what touches the stack alone: the length of the instruction, the stack behind it -/
def e_op (ins : Instr) (l : e_L) (st : List Value) : Option (Nat × List Value) :=
  match ins, st with
  | .iload i, st => (e_ildi l i st).map fun s => (2, s)
  | .iload_n k, st => (e_ildi l k st).map fun s => (1, s)
  | .lload i, st => (e_ildl l i st).map fun s => (2, s)
  | .lload_n k, st => (e_ildl l k st).map fun s => (1, s)
  | .fload i, st => (e_ildf l i st).map fun s => (2, s)
  | .dload i, st => (e_ildd l i st).map fun s => (2, s)
  | .aload i, st => (e_ilda l i st).map fun s => (2, s)
  | .aload_n k, st => (e_ilda l k st).map fun s => (1, s)
  | .iconst n, st => some (1, .int (Int32.ofInt n) :: st)
  | .bipush n, st => some (2, .int (Int8.ofInt n).toInt32 :: st)
  | .sipush n, st => some (3, .int (Int16.ofInt n).toInt32 :: st)
  | .lconst n, st => some (1, .long (Int64.ofNat (n : Nat)) :: st)
  | .aconst_null, st => some (1, .null :: st)
  | .iadd, .int y :: .int x :: st => some (1, .int (x + y) :: st)
  | .isub, .int y :: .int x :: st => some (1, .int (x - y) :: st)
  | .imul, .int y :: .int x :: st => some (1, .int (x * y) :: st)
  | .idiv, .int y :: .int x :: st => if y = 0 then none else some (1, .int (x / y) :: st)
  | .irem, .int y :: .int x :: st => if y = 0 then none else some (1, .int (x - x / y * y) :: st)
  | .iand, .int y :: .int x :: st => some (1, .int (x &&& y) :: st)
  | .ior, .int y :: .int x :: st => some (1, .int (x ||| y) :: st)
  | .ixor, .int y :: .int x :: st => some (1, .int (x ^^^ y) :: st)
  | .ishl, .int y :: .int x :: st => some (1, .int (x <<< (y &&& 31)) :: st)
  | .ishr, .int y :: .int x :: st => some (1, .int (x >>> (y &&& 31)) :: st)
  | .iushr, .int y :: .int x :: st => some (1, .int (x.toUInt32 >>> (y.toUInt32 &&& Int32.toUInt32 31)).toInt32 :: st)
  | .ineg, .int x :: st => some (1, .int (-x) :: st)
  | .i2c, .int x :: st => some (1, .int (x.toUInt32 % 65536).toInt32 :: st)
  | .i2l, .int x :: st => some (1, .long x.toInt64 :: st)
  | .i2d, .int x :: st => some (1, .double (FP.i2d x) :: st)
  | .i2f, .int x :: st => some (1, .float (FP.i2f x) :: st)
  | .ladd, .long y :: .long x :: st => some (1, .long (x + y) :: st)
  | .lsub, .long y :: .long x :: st => some (1, .long (x - y) :: st)
  | .lmul, .long y :: .long x :: st => some (1, .long (x * y) :: st)
  | .lcmp, .long y :: .long x :: st => some (1, .int (lg_cmp x y) :: st)
  | .dup, v :: st => if v.category = 1 then some (1, v :: v :: st) else none
  | .pop, v :: st => if v.category = 1 then some (1, st) else none
  | .dup2, v :: w :: st => if v.category = 1 ∧ w.category = 1 then some (1, v :: w :: v :: w :: st) else none
  | _, _ => none
/-- floats and doubles, none of which may answer NaN -/
def e_of (ins : Instr) (st : List Value) : Option (Nat × List Value) :=
  match ins, st with
  | .fconst n, st => if n = 0 then some (1, .float 0 :: st) else none
  | .dconst n, st => if n = 0 then some (1, .double 0 :: st) else none
  | .ddiv, .double y :: .double x :: st => if FP.ddiv x y &&& 0x7fffffffffffffff ≤ 0x7ff0000000000000 then some (1, .double (FP.ddiv x y) :: st) else none
  | .fdiv, .float y :: .float x :: st => if FP.fdiv x y &&& 0x7fffffff ≤ 0x7f800000 then some (1, .float (FP.fdiv x y) :: st) else none
  | .f2d, .float x :: st => if FP.f2d x &&& 0x7fffffffffffffff ≤ 0x7ff0000000000000 then some (1, .double (FP.f2d x) :: st) else none
  | .dcmp op, .double y :: .double x :: st => some (1, .int (Op.cmpValue (FP.dcmp x y) op) :: st)
  | .fcmp op, .float y :: .float x :: st => some (1, .int (Op.cmpValue (FP.fcmp x y) op) :: st)
  | _, _ => none
/-- stores into locals: the length, the locals and the stack behind it -/
def e_os (ins : Instr) (l : e_L) (st : List Value) : Option (Nat × e_L × List Value) :=
  match ins, st with
  | .istore i, .int x :: st => if i < l.length then some (2, e_s1 l i (.int x), st) else none
  | .istore_n k, .int x :: st => if (k : Nat) < l.length then some (1, e_s1 l k (.int x), st) else none
  | .fstore i, .float x :: st => if i < l.length then some (2, e_s1 l i (.float x), st) else none
  | .astore i, .ref x :: st => if i < l.length then some (2, e_s1 l i (.ref x), st) else none
  | .astore_n k, .ref x :: st => if (k : Nat) < l.length then some (1, e_s1 l k (.ref x), st) else none
  | .astore i, .null :: st => if i < l.length then some (2, e_s1 l i .null, st) else none
  | .astore_n k, .null :: st => if (k : Nat) < l.length then some (1, e_s1 l k .null, st) else none
  | .lstore i, .long x :: st => if i + 1 < l.length then some (2, e_s2 l i (.long x), st) else none
  | .lstore_n k, .long x :: st => if (k : Nat) + 1 < l.length then some (1, e_s2 l k (.long x), st) else none
  | .dstore i, .double x :: st => if i + 1 < l.length then some (2, e_s2 l i (.double x), st) else none
  | .iinc i n, st => match e_ld l i with
    | some (.int x) => if i < l.length then some (3, e_s1 l i (.int (x + Int32.ofInt n)), st) else none
    | _ => none
  | _, _ => none
/-- where a branch goes -/
def e_tg (pc : Nat) (off : Int) : Option Nat := if 0 ≤ (pc : Int) + off then some ((pc : Int) + off).toNat else none
def e_br (ins : Instr) (len pc : Nat) (st : List Value) : Option (Nat × List Value) :=
  match ins, st with
  | .goto off, st => if len = 3 then (e_tg pc off).map fun t => (t, st) else none
  | .ifCond .eq off, .int x :: st => if len = 3 then (e_tg pc off).map fun t => (if x = 0 then t else pc + 3, st) else none
  | .ifCond .ne off, .int x :: st => if len = 3 then (e_tg pc off).map fun t => (if x = 0 then pc + 3 else t, st) else none
  | .ifCond .lt off, .int x :: st => if len = 3 then (e_tg pc off).map fun t => (if x < 0 then t else pc + 3, st) else none
  | .ifCond .le off, .int x :: st => if len = 3 then (e_tg pc off).map fun t => (if x ≤ 0 then t else pc + 3, st) else none
  | .ifCond .gt off, .int x :: st => if len = 3 then (e_tg pc off).map fun t => (if x ≤ 0 then pc + 3 else t, st) else none
  | .ifCond .ge off, .int x :: st => if len = 3 then (e_tg pc off).map fun t => (if x < 0 then pc + 3 else t, st) else none
  | .if_icmp .eq off, .int y :: .int x :: st => if len = 3 then (e_tg pc off).map fun t => (if x = y then t else pc + 3, st) else none
  | .if_icmp .ne off, .int y :: .int x :: st => if len = 3 then (e_tg pc off).map fun t => (if x = y then pc + 3 else t, st) else none
  | .if_icmp .lt off, .int y :: .int x :: st => if len = 3 then (e_tg pc off).map fun t => (if x < y then t else pc + 3, st) else none
  | .if_icmp .ge off, .int y :: .int x :: st => if len = 3 then (e_tg pc off).map fun t => (if x < y then pc + 3 else t, st) else none
  | .if_icmp .gt off, .int y :: .int x :: st => if len = 3 then (e_tg pc off).map fun t => (if y < x then t else pc + 3, st) else none
  | .if_icmp .le off, .int y :: .int x :: st => if len = 3 then (e_tg pc off).map fun t => (if y < x then pc + 3 else t, st) else none
  | .ifnull off, .ref _ :: st => if len = 3 then (e_tg pc off).map fun _ => (pc + 3, st) else none
  | .ifnull off, .null :: st => if len = 3 then (e_tg pc off).map fun t => (t, st) else none
  | .tableswitch dflt lo hi offs, .int x :: st => if x.toInt < lo ∨ hi < x.toInt then (e_tg pc dflt).map fun t => (t, st) else
      match offs[(x.toInt - lo).toNat]? with
      | some off => (e_tg pc off).map fun t => (t, st)
      | none => none
  | _, _ => none
/-- may the value stand in a field of the type as it is -/
def e_fit : FieldType → Value → Bool
  | .int, .int _ => true
  | .boolean, .int x => x == 0 || x == 1
  | .long, .long _ => true
  | .object _, .ref _ => true
  | .object _, .null => true
  | .array _, .ref _ => true
  | .array _, .null => true
  | _, _ => false
def e_vin (i : Int32) (n : Nat) : Bool := !(decide (i < 0) || decide (n ≤ i.toNatClampNeg))
def e_fT (ci k : Nat) : String × String × String × Bool := (vwCl.getD ci (RX0, TX0, 3)).2.1 k
/-- loads out of the heap: y the method, the script of L ints xs at e_SCR -/
def e_hl (L : Nat) (xs : Nat → Int32) (y : Nat) (ins : Instr) (st : List Value) (h : e_H) : Option (Nat × List Value) :=
  match ins, st with
  | .getfield idx, .ref a :: st => match e_ir2 e_fld (e_cy y) idx with
    | some (ci, k) => match h[a]? with
      | some (.inr (c2, fs)) => if c2 = ci then (match fs[k]? with
        | some v => some (3, v :: st)
        | none => none) else none
      | _ => none
    | none => none
  | .ldc idx, st => match e_irv e_cst (e_cy y) idx with
    | some v => some (2, .int v :: st)
    | none => none
  | .ldc_w idx, st => match e_irv e_cst (e_cy y) idx with
    | some v => some (3, .int v :: st)
    | none => none
  | .iaload, .int i :: .ref a :: st => if a = e_SCR then (if e_vin i L = true then some (1, .int (xs i.toNatClampNeg) :: st) else none) else match h[a]? with
    | some (.inl (0, n, .inl f)) => if e_vin i n = true then some (1, .int (f i.toNatClampNeg) :: st) else none
    | _ => none
  | .caload, .int i :: .ref a :: st => match h[a]? with
    | some (.inl (3, n, .inl f)) => if e_vin i n = true then some (1, .int (f i.toNatClampNeg) :: st) else none
    | _ => none
  | .aaload, .int i :: .ref a :: st => match h[a]? with
    | some (.inl (4, n, .inr (.inr (.inr (.inr f))))) => if e_vin i n = true then some (1, va_rf (f i.toNatClampNeg) :: st) else none
    | _ => none
  | .arraylength, .ref a :: st => if a = e_SCR then some (1, .int (Int32.ofNat L) :: st) else match h[a]? with
    | some (.inl (t, n, _)) => if t < 5 then some (1, .int (Int32.ofNat n) :: st) else none
    | _ => none
  | _, _ => none
/-- stores into the heap -/
def e_hs (y : Nat) (ins : Instr) (st : List Value) (h : e_H) : Option (Nat × List Value × e_H) :=
  match ins, st with
  | .putfield idx, v :: .ref a :: st => match e_ir2 e_fld (e_cy y) idx with
    | some (ci, k) => match h[a]? with
      | some (.inr (c2, fs)) => if c2 = ci ∧ k < fs.length ∧ e_fit (e_ty ci k) v = true ∧ ((e_fT ci k).2.2.2 = false ∨ ((e_nm y).name = "<init>" ∧ (e_fT ci k).1 = (e_nm y).cls)) then some (3, st, h.set a (.inr (c2, fs.set k v))) else none
      | _ => none
    | none => none
  | .iastore, .int x :: .int i :: .ref a :: st => match h[a]? with
    | some (.inl (0, n, .inl f)) => if e_vin i n = true then some (1, st, h.set a (.inl (0, n, .inl (upd f i.toNatClampNeg x)))) else none
    | _ => none
  | .castore, .int x :: .int i :: .ref a :: st => match h[a]? with
    | some (.inl (3, n, .inl f)) => if e_vin i n = true then some (1, st, h.set a (.inl (3, n, .inl (upd f i.toNatClampNeg (vp_nar .char x))))) else none
    | _ => none
  | .aastore, .ref v :: .int i :: .ref a :: st => match h[a]? with
    | some (.inl (4, n, .inr (.inr (.inr (.inr f))))) => match h[v]? with
      | some (.inr (3, _)) => if e_vin i n = true then some (1, st, h.set a (.inl (4, n, .inr (.inr (.inr (.inr (va_up f i.toNatClampNeg (some v)))))))) else none
      | _ => none
    | _ => none
  | _, _ => none
/-- a value that names no cell from n on -/
def e_vk (n : Nat) : Value → Bool
  | .ref k => decide (k < n) || decide (k = e_SCR)
  | _ => true
def e_ck (n : Nat) : va_E → Bool
  | .inl (_, m, .inr (.inr (.inr (.inr f)))) => (List.range m).all fun j => match f j with
    | some k => decide (k < n)
    | none => true
  | .inl _ => true
  | .inr (_, fs) => fs.all (e_vk n)
/-- locals that name a cell from n on are forgotten -/
def e_lf (n : Nat) (l : e_L) : e_L := l.map fun o => match o with
  | some v => if e_vk n v = true then some v else none
  | none => none
/-- a class's cell as it is born -/
def e_df (ci : Nat) : List Value := (List.range (vwCl.getD ci (RX0, TX0, 3)).2.2).map fun k => defaultValue (e_ty ci k)
/-- makings: the length, what is made -/
def e_mk (y : Nat) (ins : Instr) (st : List Value) : Option (Nat × List Value × va_E × Nat) :=
  match ins, st with
  | .new idx, st => match e_ir e_new (e_cy y) idx with
    | some ci => some (3, st, .inr (ci, e_df ci), (vwCl.getD ci (RX0, TX0, 3)).2.2)
    | none => none
  | .newarray .int, .int n :: st => if n < 0 ∨ 100000 < n.toNatClampNeg then none else some (2, st, .inl (0, n.toNatClampNeg, .inl fun _ => 0), n.toNatClampNeg)
  | .newarray .char, .int n :: st => if n < 0 ∨ 100000 < n.toNatClampNeg then none else some (2, st, .inl (3, n.toNatClampNeg, .inl fun _ => 0), n.toNatClampNeg)
  | .anewarray idx, .int n :: st => if e_cy y = 0 ∧ idx = 9 then (if n < 0 ∨ 100000 < n.toNatClampNeg then none else some (3, st, .inl (4, n.toNatClampNeg, .inr (.inr (.inr (.inr fun _ => none)))), n.toNatClampNeg)) else none
  | _, _ => none
/-- a return: what is answered -/
def e_rn (y : Nat) (ins : Instr) (st : List Value) : Option (Option Value) :=
  match ins, st with
  | .return_, [] => if e_rt y = none then some none else none
  | .ireturn, [.int v] => match e_rt y with
    | some ty => if narrow ty (.int v) = .int v then some (some (.int v)) else none
    | none => none
  | .lreturn, [.long v] => if e_rt y = some .long then some (some (.long v)) else none
  | .freturn, [.float v] => if e_rt y = some .float then some (some (.float v)) else none
  | .dreturn, [.double v] => if e_rt y = some .double then some (some (.double v)) else none
  | .areturn, [.ref v] => match e_rt y with
    | some (.object _) => some (some (.ref v))
    | _ => none
  | .areturn, [.null] => match e_rt y with
    | some (.object _) => some (some .null)
    | _ => none
  | _, _ => none
/-- the library's own: max, min, abs, arraycopy over ints, Object.<init> -/
def e_bl (b : Nat) (ins : Instr) (st : List Value) (h : e_H) : Option (List Value × e_H) :=
  match ins, st with
  | .invokestatic _, .int y :: .int x :: st => if (st.map fun v => v.category).sum ≤ 40 then (if b = 1000 then some (.int (if x < y then y else x) :: st, h) else if b = 1001 then some (.int (if y < x then y else x) :: st, h)
      else if b = 1002 then some (.int (if 0 ≤ y then y else 0 - y) :: .int x :: st, h)
      else if b = 1003 then (match x, st with
        | dp, .ref a1 :: .int sp :: .ref a0 :: st => match h[a0]?, h[a1]? with
          | some (.inl (0, n0, .inl f)), some (.inl (0, n1, .inl g)) => if sp < 0 ∨ dp < 0 ∨ y < 0 ∨ n0 < sp.toNatClampNeg + y.toNatClampNeg ∨ n1 < dp.toNatClampNeg + y.toNatClampNeg then none else some (st, h.set a1 (.inl (0, n1, .inl (va_cpy f g sp.toNatClampNeg dp.toNatClampNeg y.toNatClampNeg))))
          | _, _ => none
        | _, _ => none) else none) else none
  | .invokestatic _, .int y :: st => if b = 1002 ∧ (st.map fun v => v.category).sum ≤ 40 then some (.int (if 0 ≤ y then y else 0 - y) :: st, h) else none
  | .invokespecial _, .ref _ :: st => if b = 1004 ∧ (st.map fun v => v.category).sum ≤ 40 then some (st, h) else none
  | _, _ => none
/-- the kind of method that a call wants -/
def e_ik : Instr → Option (Nat × Nat)
  | .invokestatic i => some (0, i)
  | .invokevirtual i => some (1, i)
  | .invokespecial i => some (2, i)
  | _ => none
/-- a callee's locals -/
def e_en (av : List Value) (n : Nat) : e_L :=
  let u := av.flatMap fun v => if v.category = 2 then [some v, none] else [some v]
  u ++ List.replicate (n - u.length) none
/-- the handler of a thrown class -/
def e_hd (c : Nat) (E : Nat) (pc : Nat) : List (Nat × Nat × Nat × Nat) → Option Nat
  | [] => none
  | q :: t => if q.1 ≤ pc ∧ pc < q.2.1 then (match e_ir e_cat c q.2.2.2 with
    | some x => if x = E then some q.2.2.1 else e_hd c E pc t
    | none => none) else e_hd c E pc t
def e_cv (pc : Nat) (hh : List (Nat × Nat × Nat × Nat)) : Bool := hh.any fun q => decide (q.1 ≤ pc ∧ pc < q.2.1)
/-- a handler's first instruction puts the thrown one away -/
def e_ha (y pc : Nat) : Option (Nat × Nat) := match decode (e_bc y) pc with
  | .ok (.astore_n k, 1) => some ((k : Nat), 1)
  | .ok (.astore i, 2) => some (i, 2)
  | _ => none
def e_add (m n : Nat) : Option e_R → Option e_R
  | some (r, h, a, b) => some (r, h, m + a, n + b)
  | none => none
/-- the same, where the heap has grown beyond k -/
def e_adk (k m n : Nat) : Option e_R → Option e_R
  | some (r, h, a, b) => if k < h.length then some (r, h, m + a, n + b) else none
  | none => none
/-- throw new X(): the places of its four instructions -/
def e_tw (y pc : Nat) (ins : Instr) : Option Nat := match ins with
  | .new idx => match e_ir2 e_thr (e_cy y) idx with
    | some (ic, E) => if decode (e_bc y) (pc + 3) = .ok (.dup, 1) ∧ decode (e_bc y) (pc + 4) = .ok (.invokespecial ic, 3) ∧ decode (e_bc y) (pc + 7) = .ok (.athrow, 1) ∧ e_hh y = [] then some E else none
    | none => none
  | _ => none
abbrev e_Rec : Type := Nat → Nat → Nat → e_L → List Value → e_H → Option e_R
/-- a call that is the program's own -/
def e_ca (rec : e_Rec) (d y pc y2 : Nat) (m : Nat) (l : e_L) (st : List Value) (h : e_H) : Option e_R :=
  match d with
  | 0 => none
  | d2 + 1 =>
    if m ≤ st.length ∧ ((st.drop m).map fun v => v.category).sum ≤ 8 ∧ (e_en (st.take m).reverse (e_ml y2)).length = e_ml y2 then
      match rec d2 y2 0 (e_en (st.take m).reverse (e_ml y2)) [] h with
      | none => none
      | some (.inl v, h2, a, b) => if h2.length = h.length then e_add a b (rec (d2 + 1) y (pc + 3) l (v.toList ++ st.drop m) h2) else
        if h.length < h2.length ∧ (st.drop m).all (e_vk h.length) = true then e_adk h.length a b (rec (d2 + 1) y (pc + 3) (e_lf h.length l) (v.toList ++ st.drop m) h2) else none
      | some (.inr E, h2, a, b) => if e_cv pc (e_hh y) = false then some (.inr E, h2, a, b) else
        match e_hd (e_cy y) E pc (e_hh y) with
        | some hpc => match e_ha y hpc with
          | some (i, n) => if i < l.length ∧ (h2.length = h.length) then e_add a b (rec (d2 + 1) y (hpc + n) (e_sx l i) [] h2) else none
          | none => none
        | none => none
    else none
def e_bd (L : Nat) (xs : Nat → Int32) (rec : e_Rec) : e_Rec := fun d y pc l st h =>
  match decode (e_bc y) pc with
  | .error _ => none
  | .ok (ins, len) =>
    match e_op ins l st with
    | some (n, st2) => if n = len then rec d y (pc + n) l st2 h else none
    | none =>
    match e_os ins l st with
    | some (n, l2, st2) => if n = len then rec d y (pc + n) l2 st2 h else none
    | none =>
    match e_br ins len pc st with
    | some (t, st2) => rec d y t l st2 h
    | none =>
    match e_hl L xs y ins st h with
    | some (n, st2) => if n = len then rec d y (pc + n) l st2 h else none
    | none =>
    match e_hs y ins st h with
    | some (n, st2, h2) => if n = len then rec d y (pc + n) l st2 h2 else none
    | none =>
    match e_rn y ins st with
    | some v => if len = 1 then some (.inl v, h, 0, 0) else none
    | none =>
    match e_ik ins with
    | some (kd, idx) => if len = 3 then (match e_ir2 e_call (e_cy y) idx with
      | some (y2, _) => if e_kd y2 = kd then (if kd = 0 then e_ca rec d y pc y2 (e_np y2) l st h else
          match st[e_np y2]? with
          | some (.ref a) => match h[a]? with
            | some (.inr (c2, _)) => if e_cn c2 = (e_nm y2).cls then e_ca rec d y pc y2 (e_np y2 + 1) l st h else none
            | _ => none
          | _ => none) else none
      | none => match e_ir e_blt (e_cy y) idx with
        | some b => match d, e_bl b ins st h with
          | _ + 1, some (st2, h2) => rec d y (pc + 3) l st2 h2
          | _, _ => none
        | none => none) else none
    | none =>
    match e_of ins st with
    | some (n, st2) => if n = len then rec d y (pc + n) l st2 h else none
    | none =>
    match e_mk y ins st with
    | some (n, st2, e, k) => if n = len ∧ h.length < e_SCR ∧ st2.all (e_vk h.length) = true ∧ h.all (e_ck h.length) = true then e_adk h.length 1 k (rec d y (pc + n) (e_lf h.length l) (.ref h.length :: st2) (h ++ [e])) else none
    | none =>
    match e_tw y pc ins with
    | some E => if len = 3 ∧ (st.map fun v => v.category).sum ≤ 40 then some (.inr E, h, 1, 6) else none
    | none => none
def e_run (L : Nat) (xs : Nat → Int32) : Nat → e_Rec
  | 0 => fun _ _ _ _ _ _ => none
  | n + 1 => e_bd L xs (e_run L xs n)
