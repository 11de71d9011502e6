section
/-! A small machine of ours over the class's bytecode: cells by numbers, rows of decoded instructions. What it computes, the machine does (part 03). -/
-- an entry of the heap: an object (class, fields); an array (tag, length, numbers); nothing
abbrev jxE := (Nat × List Value) ⊕ ((Nat × vp_A) ⊕ Unit)
abbrev jxO (c : Nat) (fs : List Value) : jxE := .inl (c, fs)
abbrev jxI (t n : Nat) (g : Nat → Int32) : jxE := .inr (.inl (t, n, .inl g))
abbrev jxL (n : Nat) (g : Nat → Int64) : jxE := .inr (.inl (1, n, .inr (.inl g)))
abbrev jxQ (t n : Nat) (g : Nat → Option Nat) : jxE := .inr (.inl (t, n, .inr (.inr (.inr (.inr g)))))
-- the heap: how many cells, how many slots, what they are
abbrev jxH := Nat × Nat × (Nat → jxE)
def jx_at (h : jxH) (a : Nat) : jxE := h.2.2 a
def jx_set (h : jxH) (a : Nat) (e : jxE) : jxH := (h.1, h.2.1, va_up h.2.2 a e)
def jx_new (h : jxH) (n : Nat) (e : jxE) : jxH := (h.1 + 1, h.2.1 + n, va_up h.2.2 h.1 e)
-- a method's answer, and the heap behind it
abbrev jxR := Option (Option Value × jxH)
-- instruction's number, locals, stack, heap
abbrev jxS := Nat × List (Nat × Value) × List Value × jxH
-- pc, instruction, length, three numbers, an int, a long, numbers, the locals that live at its head (if it is one)
abbrev jxRow := Nat × Instr × Nat × (Nat × Nat × Nat) × Int32 × Int64 × List Nat × Option (List Nat)
abbrev jxRow.pc (r : jxRow) : Nat := r.1
abbrev jxRow.ins (r : jxRow) : Instr := r.2.1
abbrev jxRow.len (r : jxRow) : Nat := r.2.2.1
abbrev jxRow.x (r : jxRow) : Nat := r.2.2.2.1.1
abbrev jxRow.y (r : jxRow) : Nat := r.2.2.2.1.2.1
abbrev jxRow.z (r : jxRow) : Nat := r.2.2.2.1.2.2
abbrev jxRow.v (r : jxRow) : Int32 := r.2.2.2.2.1
abbrev jxRow.w (r : jxRow) : Int64 := r.2.2.2.2.2.1
abbrev jxRow.ts (r : jxRow) : List Nat := r.2.2.2.2.2.2.1
abbrev jxRow.lv (r : jxRow) : Option (List Nat) := r.2.2.2.2.2.2.2
def jx_ld : List (Nat × Value) → Nat → Option Value
  | [], _ => none
  | q :: t, i => if q.1 = i then some q.2 else jx_ld t i
def jx_st1 (l : List (Nat × Value)) (i : Nat) (v : Value) : List (Nat × Value) := (i, v) :: l.filter (fun q => !(q.1 == i) && !(q.1 + 1 == i && q.2.category == 2))
def jx_st2 (l : List (Nat × Value)) (i : Nat) (v : Value) : List (Nat × Value) := (i, v) :: l.filter (fun q => !(q.1 == i) && (!(q.1 == i + 1) && !(q.1 + 1 == i && q.2.category == 2)))
def jx_pick (l : List (Nat × Value)) : List Nat → List (Nat × Value)
  | [] => []
  | i :: t => match jx_ld l i with
    | some v => (i, v) :: jx_pick l t
    | none => jx_pick l t
-- reads
def jx_out (i : Int32) (n : Nat) : Bool := decide (i < 0) || decide (n ≤ i.toNatClampNeg)
def jx_gI (e : jxE) (c k : Nat) : Option Int32 := match e with
  | .inl (c', fs) => if c' = c then (match fs[k]? with
    | some (.int x) => some x
    | _ => none) else none
  | _ => none
def jx_gL (e : jxE) (c k : Nat) : Option Int64 := match e with
  | .inl (c', fs) => if c' = c then (match fs[k]? with
    | some (.long x) => some x
    | _ => none) else none
  | _ => none
def jx_gR (e : jxE) (c k : Nat) : Option Nat := match e with
  | .inl (c', fs) => if c' = c then (match fs[k]? with
    | some (.ref x) => some x
    | _ => none) else none
  | _ => none
def jx_pF (e : jxE) (c k : Nat) (v : Value) : Option jxE := match e with
  | .inl (c', fs) => if c' = c ∧ k < fs.length then some (.inl (c', fs.set k v)) else none
  | _ => none
def jx_aI (e : jxE) (t : Nat) (i : Int32) : Option Int32 := match e with
  | .inr (.inl (t', n, .inl g)) => if t' = t ∧ jx_out i n = false then some (g i.toNatClampNeg) else none
  | _ => none
def jx_aL (e : jxE) (i : Int32) : Option Int64 := match e with
  | .inr (.inl (t', n, .inr (.inl g))) => if t' = 1 ∧ jx_out i n = false then some (g i.toNatClampNeg) else none
  | _ => none
def jx_aQ (e : jxE) (t : Nat) (i : Int32) : Option (Option Nat) := match e with
  | .inr (.inl (t', n, .inr (.inr (.inr (.inr g))))) => if t' = t ∧ jx_out i n = false then some (g i.toNatClampNeg) else none
  | _ => none
def jx_sI (e : jxE) (t : Nat) (i x : Int32) : Option jxE := match e with
  | .inr (.inl (t', n, .inl g)) => if t' = t ∧ jx_out i n = false then some (.inr (.inl (t', n, .inl (upd g i.toNatClampNeg x)))) else none
  | _ => none
def jx_sL (e : jxE) (i : Int32) (x : Int64) : Option jxE := match e with
  | .inr (.inl (t', n, .inr (.inl g))) => if t' = 1 ∧ jx_out i n = false then some (.inr (.inl (t', n, .inr (.inl (vp_updL g i.toNatClampNeg x))))) else none
  | _ => none
def jx_sQ (e : jxE) (t : Nat) (i : Int32) (x : Option Nat) : Option jxE := match e with
  | .inr (.inl (t', n, .inr (.inr (.inr (.inr g))))) => if t' = t ∧ jx_out i n = false then some (.inr (.inl (t', n, .inr (.inr (.inr (.inr (va_up g i.toNatClampNeg x))))))) else none
  | _ => none
def jx_len (e : jxE) : Option Nat := match e with
  | .inr (.inl (_, n, _)) => some n
  | _ => none
def jx_is (e : jxE) (c : Nat) : Bool := match e with
  | .inl (c', _) => c' == c
  | _ => false
/-- System.arraycopy of int or byte arrays (tag t) -/
def jx_cp (e e' : jxE) (t : Nat) (sp dp n : Int32) : Option jxE := match e, e' with
  | .inr (.inl (t1, n1, .inl f)), .inr (.inl (t2, n2, .inl g)) =>
    if t1 = t ∧ t2 = t ∧ ¬ sp < 0 ∧ ¬ dp < 0 ∧ ¬ n < 0 ∧ sp.toNatClampNeg + n.toNatClampNeg ≤ n1 ∧ dp.toNatClampNeg + n.toNatClampNeg ≤ n2 then some (.inr (.inl (t2, n2, .inl (va_cpy f g sp.toNatClampNeg dp.toNatClampNeg n.toNatClampNeg)))) else none
  | _, _ => none
def jx_bool (x : Int32) : Bool := x == 0 || x == 1
def jx_short : List Value → Bool
  | [] => true
  | [_] => true
  | [_, _] => true
  | [_, _, _] => true
  | [_, _, _, _] => true
  | _ => false
def jx_pop : Nat → List Value → List Value → Option (List Value × List Value)
  | 0, acc, st => some (acc, st)
  | n + 1, acc, v :: st => jx_pop n (v :: acc) st
  | _ + 1, _, [] => none
-- stack shapes
def jx_1 (st : List Value) (f : Int32 → List Value → jxR) : jxR := match st with
  | .int x :: t => f x t
  | _ => none
def jx_2 (st : List Value) (f : Int32 → Int32 → List Value → jxR) : jxR := match st with
  | .int y :: .int x :: t => f x y t
  | _ => none
def jx_1L (st : List Value) (f : Int64 → List Value → jxR) : jxR := match st with
  | .long x :: t => f x t
  | _ => none
def jx_2L (st : List Value) (f : Int64 → Int64 → List Value → jxR) : jxR := match st with
  | .long y :: .long x :: t => f x y t
  | _ => none
def jx_LI (st : List Value) (f : Int64 → Int32 → List Value → jxR) : jxR := match st with
  | .int y :: .long x :: t => f x y t
  | _ => none
def jx_r (st : List Value) (f : Nat → List Value → jxR) : jxR := match st with
  | .ref a :: t => f a t
  | _ => none
-- answers of calls
def jx_cV (r : jxR) (f : jxH → jxR) : jxR := match r with
  | some (none, h) => f h
  | _ => none
def jx_cI (r : jxR) (f : Int32 → jxH → jxR) : jxR := match r with
  | some (some (.int x), h) => f x h
  | _ => none
def jx_cL (r : jxR) (f : Int64 → jxH → jxR) : jxR := match r with
  | some (some (.long x), h) => f x h
  | _ => none
def jx_cR (r : jxR) (f : Option Nat → jxH → jxR) : jxR := match r with
  | some (some (.ref x), h) => f (some x) h
  | some (some .null, h) => f none h
  | _ => none
/-- a switch: targets one behind the other, from lo on -/
def jx_sw (x lo : Int32) (d : Nat) (K : Nat → jxR) : List Nat → jxR
  | [] => K d
  | t :: ts => if x = lo then K t else jx_sw x (lo + 1) d K ts
def jx_inner (h : jxH) (n m : Nat) : jxH := (h.1 + 1 + n, h.2.1 + n + n * m, fun a => if a = h.1 then jxQ 8 n (fun i => if i < n then some (h.1 + 1 + i) else none) else if h.1 < a ∧ a ≤ h.1 + n then jxI 0 m (fun _ => 0) else h.2.2 a)
def jx_lI (ls : List (Nat × Value)) (x : Nat) (f : Int32 → jxR) : jxR := match jx_ld ls x with
  | some (.int a) => f a
  | _ => none
def jx_lL (ls : List (Nat × Value)) (x : Nat) (f : Int64 → jxR) : jxR := match jx_ld ls x with
  | some (.long a) => f a
  | _ => none
def jx_lA (ls : List (Nat × Value)) (x : Nat) (f : Value → jxR) : jxR := match jx_ld ls x with
  | some (.ref a) => f (.ref a)
  | some (.retAddr a) => f (.retAddr a)
  | some .null => f .null
  | _ => none
def jx_pA (st : List Value) (f : Value → List Value → jxR) : jxR := match st with
  | .ref a :: t => f (.ref a) t
  | .null :: t => f .null t
  | _ => none
def jx_dup (st : List Value) (f : Value → List Value → jxR) : jxR := match st with
  | .int a :: t => f (.int a) t
  | .ref a :: t => f (.ref a) t
  | _ => none
def jx_dup2 (st : List Value) (f : List Value → List Value → jxR) : jxR := match st with
  | .int a :: .int b :: t => f [.int a, .int b] t
  | .int a :: .ref b :: t => f [.int a, .ref b] t
  | .long a :: t => f [.long a] t
  | _ => none
def jx_nl (st : List Value) (f g : List Value → jxR) : jxR := match st with
  | .ref _ :: t => f t
  | .null :: t => g t
  | _ => none
def jx_pv (z : Nat) (st : List Value) (f : Value → Nat → List Value → jxR) : jxR := match z with
  | 0 => match st with
    | .int v :: .ref a :: t => f (.int v) a t
    | _ => none
  | 1 => match st with
    | .long v :: .ref a :: t => f (.long v) a t
    | _ => none
  | 2 => match st with
    | .ref v :: .ref a :: t => f (.ref v) a t
    | _ => none
  | _ => match st with
    | .int v :: .ref a :: t => if jx_bool v = true then f (.int v) a t else none
    | _ => none
def jx_ia (st : List Value) (f : Int32 → Nat → List Value → jxR) : jxR := match st with
  | .int k :: .ref a :: t => f k a t
  | _ => none
def jx_ir (st : List Value) (f g : Int32 → Nat → List Value → jxR) : jxR := match st with
  | .int k :: .ref a :: t => f k a t
  | .int k :: .retAddr a :: t => g k a t
  | _ => none
def jx_rr (st : List Value) (f g : Nat → List Value → jxR) : jxR := match st with
  | .ref a :: t => f a t
  | .retAddr a :: t => g a t
  | _ => none
def jx_vs (st : List Value) (f : Int32 → Int32 → Nat → List Value → jxR) : jxR := match st with
  | .int v :: .int k :: .ref a :: t => f v k a t
  | _ => none
def jx_vsL (st : List Value) (f : Int64 → Int32 → Nat → List Value → jxR) : jxR := match st with
  | .long v :: .int k :: .ref a :: t => f v k a t
  | _ => none
def jx_vsQ (st : List Value) (f : Nat → Int32 → Nat → List Value → jxR) (g : Int32 → Nat → List Value → jxR) : jxR := match st with
  | .ref v :: .int k :: .ref a :: t => f v k a t
  | .null :: .int k :: .ref a :: t => g k a t
  | _ => none
def jx_cps (st : List Value) (f : Nat → Int32 → Nat → Int32 → Int32 → List Value → jxR) : jxR := match st with
  | .int n :: .int dp :: .ref b :: .int sp :: .ref a :: t => f a sp b dp n t
  | _ => none
def jx_ov (v : Option Nat) (f : Value → jxR) : jxR := match v with
  | some b => f (.ref b)
  | none => f .null
def jx_arr (x n : Nat) : jxE := match x with
  | 1 => jxL n (fun _ => 0)
  | t => jxI t n (fun _ => 0)
def jx_ret (z : Nat) (r : jxR) (f : List Value → jxH → jxR) : jxR := match z with
  | 0 => jx_cV r fun h => f [] h
  | 1 => jx_cI r fun v h => f [.int v] h
  | 2 => jx_cL r fun v h => f [.long v] h
  | _ => jx_cR r fun v h => jx_ov v fun w => f [w] h
def jx_call (y z : Nat) (st : List Value) (c : List Value → jxR) (f : List Value → jxH → jxR) : jxR := (jx_pop y [] st).bind fun q => if jx_short q.2 = true then jx_ret z (c q.1) (fun p h => f (p ++ q.2) h) else none
def jx_ri (z : Nat) (st : List Value) (h : jxH) : jxR := match st with
  | [.int a] => match z with
    | 0 => some (some (.int a), h)
    | _ => if jx_bool a = true then some (some (.int a), h) else none
  | _ => none
def jx_rl (st : List Value) (h : jxH) : jxR := match st with
  | [.long a] => some (some (.long a), h)
  | _ => none
def jx_ra (st : List Value) (h : jxH) : jxR := match st with
  | [.ref a] => some (some (.ref a), h)
  | [.null] => some (some .null, h)
  | _ => none
def jx_rv (st : List Value) (h : jxH) : jxR := match st with
  | [] => some (none, h)
  | _ => none
end
section
/-! One instruction, and what a method answers. rc: the tables that nobody writes (and the law's script): lengths and numbers. c: what a call answers. -/
def jx_step (rc : Nat → Nat × (Nat → Int32)) (df : Nat → List Value) (c : Nat → List Value → jxH → jxR) (K : jxS → jxR) (r : jxRow) (i : Nat) (ls : List (Nat × Value)) (st : List Value) (h : jxH) : jxR :=
  match r.ins with
  | .iconst _ => K (i + 1, ls, .int r.v :: st, h)
  | .bipush _ => K (i + 1, ls, .int r.v :: st, h)
  | .sipush _ => K (i + 1, ls, .int r.v :: st, h)
  | .ldc _ => K (i + 1, ls, .int r.v :: st, h)
  | .ldc_w _ => K (i + 1, ls, .int r.v :: st, h)
  | .lconst _ => K (i + 1, ls, .long r.w :: st, h)
  | .ldc2_w _ => K (i + 1, ls, .long r.w :: st, h)
  | .aconst_null => K (i + 1, ls, .null :: st, h)
  | .iload _ => jx_lI ls r.x fun a => K (i + 1, ls, .int a :: st, h)
  | .iload_n _ => jx_lI ls r.x fun a => K (i + 1, ls, .int a :: st, h)
  | .lload _ => jx_lL ls r.x fun a => K (i + 1, ls, .long a :: st, h)
  | .lload_n _ => jx_lL ls r.x fun a => K (i + 1, ls, .long a :: st, h)
  | .aload _ => jx_lA ls r.x fun a => K (i + 1, ls, a :: st, h)
  | .aload_n _ => jx_lA ls r.x fun a => K (i + 1, ls, a :: st, h)
  | .istore _ => jx_1 st fun a t => K (i + 1, jx_st1 ls r.x (.int a), t, h)
  | .istore_n _ => jx_1 st fun a t => K (i + 1, jx_st1 ls r.x (.int a), t, h)
  | .lstore _ => jx_1L st fun a t => K (i + 1, jx_st2 ls r.x (.long a), t, h)
  | .lstore_n _ => jx_1L st fun a t => K (i + 1, jx_st2 ls r.x (.long a), t, h)
  | .astore _ => jx_pA st fun a t => K (i + 1, jx_st1 ls r.x a, t, h)
  | .astore_n _ => jx_pA st fun a t => K (i + 1, jx_st1 ls r.x a, t, h)
  | .iinc _ _ => jx_lI ls r.x fun a => K (i + 1, jx_st1 ls r.x (.int (a + r.v)), st, h)
  | .iadd => jx_2 st fun a b t => K (i + 1, ls, .int (a + b) :: t, h)
  | .isub => jx_2 st fun a b t => K (i + 1, ls, .int (a - b) :: t, h)
  | .imul => jx_2 st fun a b t => K (i + 1, ls, .int (a * b) :: t, h)
  | .iand => jx_2 st fun a b t => K (i + 1, ls, .int (a &&& b) :: t, h)
  | .ior => jx_2 st fun a b t => K (i + 1, ls, .int (a ||| b) :: t, h)
  | .ixor => jx_2 st fun a b t => K (i + 1, ls, .int (a ^^^ b) :: t, h)
  | .idiv => jx_2 st fun a b t => if b = 0 then none else K (i + 1, ls, .int (a / b) :: t, h)
  | .irem => jx_2 st fun a b t => if b = 0 then none else K (i + 1, ls, .int (a - a / b * b) :: t, h)
  | .ishl => jx_2 st fun a b t => K (i + 1, ls, .int (a <<< (b &&& 31)) :: t, h)
  | .ishr => jx_2 st fun a b t => K (i + 1, ls, .int (a >>> (b &&& 31)) :: t, h)
  | .iushr => jx_2 st fun a b t => K (i + 1, ls, .int ((a.toUInt32 >>> (b.toUInt32 &&& Int32.toUInt32 31)).toInt32) :: t, h)
  | .ineg => jx_1 st fun a t => K (i + 1, ls, .int (-a) :: t, h)
  | .ladd => jx_2L st fun a b t => K (i + 1, ls, .long (a + b) :: t, h)
  | .lsub => jx_2L st fun a b t => K (i + 1, ls, .long (a - b) :: t, h)
  | .lmul => jx_2L st fun a b t => K (i + 1, ls, .long (a * b) :: t, h)
  | .land => jx_2L st fun a b t => K (i + 1, ls, .long (a &&& b) :: t, h)
  | .lor => jx_2L st fun a b t => K (i + 1, ls, .long (a ||| b) :: t, h)
  | .lxor => jx_2L st fun a b t => K (i + 1, ls, .long (a ^^^ b) :: t, h)
  | .ldiv => jx_2L st fun a b t => if b = 0 then none else K (i + 1, ls, .long (a / b) :: t, h)
  | .lrem => jx_2L st fun a b t => if b = 0 then none else K (i + 1, ls, .long (a - a / b * b) :: t, h)
  | .lneg => jx_1L st fun a t => K (i + 1, ls, .long (-a) :: t, h)
  | .lshl => jx_LI st fun a b t => K (i + 1, ls, .long (a <<< (b.toInt64 &&& 63)) :: t, h)
  | .lshr => jx_LI st fun a b t => K (i + 1, ls, .long (a >>> (b.toInt64 &&& 63)) :: t, h)
  | .lcmp => jx_2L st fun a b t => K (i + 1, ls, .int (lg_cmp a b) :: t, h)
  | .i2l => jx_1 st fun a t => K (i + 1, ls, .long a.toInt64 :: t, h)
  | .l2i => jx_1L st fun a t => K (i + 1, ls, .int a.toInt32 :: t, h)
  | .i2b => jx_1 st fun a t => K (i + 1, ls, .int a.toInt8.toInt32 :: t, h)
  | .i2s => jx_1 st fun a t => K (i + 1, ls, .int a.toInt16.toInt32 :: t, h)
  | .dup => jx_dup st fun a t => K (i + 1, ls, a :: a :: t, h)
  | .dup2 => jx_dup2 st fun p t => K (i + 1, ls, p ++ (p ++ t), h)
  | .pop => jx_1 st fun _ t => K (i + 1, ls, t, h)
  | .ifCond .eq _ => jx_1 st fun a t => if a = 0 then K (r.x, ls, t, h) else K (i + 1, ls, t, h)
  | .ifCond .ne _ => jx_1 st fun a t => if a = 0 then K (i + 1, ls, t, h) else K (r.x, ls, t, h)
  | .ifCond .lt _ => jx_1 st fun a t => if a < 0 then K (r.x, ls, t, h) else K (i + 1, ls, t, h)
  | .ifCond .ge _ => jx_1 st fun a t => if 0 ≤ a then K (r.x, ls, t, h) else K (i + 1, ls, t, h)
  | .ifCond .gt _ => jx_1 st fun a t => if 0 < a then K (r.x, ls, t, h) else K (i + 1, ls, t, h)
  | .ifCond .le _ => jx_1 st fun a t => if a ≤ 0 then K (r.x, ls, t, h) else K (i + 1, ls, t, h)
  | .if_icmp .eq _ => jx_2 st fun a b t => if a = b then K (r.x, ls, t, h) else K (i + 1, ls, t, h)
  | .if_icmp .ne _ => jx_2 st fun a b t => if a = b then K (i + 1, ls, t, h) else K (r.x, ls, t, h)
  | .if_icmp .lt _ => jx_2 st fun a b t => if a < b then K (r.x, ls, t, h) else K (i + 1, ls, t, h)
  | .if_icmp .ge _ => jx_2 st fun a b t => if b ≤ a then K (r.x, ls, t, h) else K (i + 1, ls, t, h)
  | .if_icmp .gt _ => jx_2 st fun a b t => if b < a then K (r.x, ls, t, h) else K (i + 1, ls, t, h)
  | .if_icmp .le _ => jx_2 st fun a b t => if a ≤ b then K (r.x, ls, t, h) else K (i + 1, ls, t, h)
  | .ifnull _ => jx_nl st (fun t => K (i + 1, ls, t, h)) (fun t => K (r.x, ls, t, h))
  | .ifnonnull _ => jx_nl st (fun t => K (r.x, ls, t, h)) (fun t => K (i + 1, ls, t, h))
  | .goto _ => K (r.x, ls, st, h)
  | .tableswitch _ _ _ _ => jx_1 st fun a t => jx_sw a r.v r.x (fun k => K (k, ls, t, h)) r.ts
  | .getfield _ => jx_r st fun a t => match r.z with
    | 0 => (jx_gI (jx_at h a) r.x r.y).bind fun v => K (i + 1, ls, .int v :: t, h)
    | 1 => (jx_gL (jx_at h a) r.x r.y).bind fun v => K (i + 1, ls, .long v :: t, h)
    | _ => (jx_gR (jx_at h a) r.x r.y).bind fun v => K (i + 1, ls, .ref v :: t, h)
  | .putfield _ => jx_pv r.z st fun v a t => (jx_pF (jx_at h a) r.x r.y v).bind fun e => K (i + 1, ls, t, jx_set h a e)
  | .getstatic _ => K (i + 1, ls, .retAddr r.x :: st, h)
  | .iaload => jx_ir st (fun k a t => (jx_aI (jx_at h a) 0 k).bind fun v => K (i + 1, ls, .int v :: t, h)) (fun k a t => if jx_out k (rc a).1 = true then none else K (i + 1, ls, .int ((rc a).2 k.toNatClampNeg) :: t, h))
  | .baload => jx_ia st fun k a t => match r.z with
    | 2 => (jx_aI (jx_at h a) 2 k).bind fun v => K (i + 1, ls, .int v.toInt8.toInt32 :: t, h)
    | _ => (jx_aI (jx_at h a) 3 k).bind fun v => K (i + 1, ls, .int v :: t, h)
  | .laload => jx_ia st fun k a t => (jx_aL (jx_at h a) k).bind fun v => K (i + 1, ls, .long v :: t, h)
  | .aaload => jx_ia st fun k a t => (jx_aQ (jx_at h a) r.z k).bind fun v => jx_ov v fun w => K (i + 1, ls, w :: t, h)
  | .iastore => jx_vs st fun v k a t => (jx_sI (jx_at h a) 0 k v).bind fun e => K (i + 1, ls, t, jx_set h a e)
  | .bastore => jx_vs st fun v k a t => match r.z with
    | 2 => (jx_sI (jx_at h a) 2 k v.toInt8.toInt32).bind fun e => K (i + 1, ls, t, jx_set h a e)
    | _ => if jx_bool v = true then (jx_sI (jx_at h a) 3 k v).bind fun e => K (i + 1, ls, t, jx_set h a e) else none
  | .lastore => jx_vsL st fun v k a t => (jx_sL (jx_at h a) k v).bind fun e => K (i + 1, ls, t, jx_set h a e)
  | .aastore => jx_vsQ st (fun v k a t => if jx_is (jx_at h v) r.x = true then (jx_sQ (jx_at h a) r.z k (some v)).bind fun e => K (i + 1, ls, t, jx_set h a e) else none) (fun k a t => (jx_sQ (jx_at h a) r.z k none).bind fun e => K (i + 1, ls, t, jx_set h a e))
  | .arraylength => jx_rr st (fun a t => (jx_len (jx_at h a)).bind fun n => K (i + 1, ls, .int (Int32.ofNat n) :: t, h)) (fun a t => K (i + 1, ls, .int (Int32.ofNat (rc a).1) :: t, h))
  | .new _ => K (i + 1, ls, .ref h.1 :: st, jx_new h r.y (.inl (r.x, df r.x)))
  | .newarray _ => jx_1 st fun n t => if n < 0 ∨ 5000 < n then none else K (i + 1, ls, .ref h.1 :: t, jx_new h n.toNatClampNeg (jx_arr r.x n.toNatClampNeg))
  | .anewarray _ => jx_1 st fun n t => if n < 0 ∨ 5000 < n then none else K (i + 1, ls, .ref h.1 :: t, jx_new h n.toNatClampNeg (jxQ r.x n.toNatClampNeg (fun _ => none)))
  | .multianewarray _ _ => jx_2 st fun n k t => if n < 0 ∨ 5000 < n ∨ k < 0 ∨ 5000 < k then none else K (i + 1, ls, .ref h.1 :: t, jx_inner h n.toNatClampNeg k.toNatClampNeg)
  | .invokespecial _ => match r.z with
    | 9 => jx_r st fun _ t => if jx_short t = true then K (i + 1, ls, t, h) else none
    | _ => jx_call (r.y + 1) 0 st (fun as => c r.x as h) fun st' h' => K (i + 1, ls, st', h')
  | .invokestatic _ => match r.z with
    | 9 => jx_cps st fun a sp b dp n t => if jx_short t = true then (jx_cp (jx_at h a) (jx_at h b) r.x sp dp n).bind fun e => K (i + 1, ls, t, jx_set h b e) else none
    | _ => jx_call r.y r.z st (fun as => c r.x as h) fun st' h' => K (i + 1, ls, st', h')
  | .invokevirtual _ => jx_call (r.y + 1) r.z st (fun as => c r.x as h) fun st' h' => K (i + 1, ls, st', h')
  | .ireturn => jx_ri r.z st h
  | .lreturn => jx_rl st h
  | .areturn => jx_ra st h
  | .return_ => jx_rv st h
  | _ => none
def jx_one (rc : Nat → Nat × (Nat → Int32)) (df : Nat → List Value) (c : Nat → List Value → jxH → jxR) (code : List jxRow) (K : jxS → jxR) (s : jxS) : jxR := match code[s.1]? with
  | some r => jx_step rc df c K r s.1 s.2.1 s.2.2.1 s.2.2.2
  | none => none
/-- the locals that live at a head, for every way that comes there -/
def jx_hd (code : List jxRow) (i : Nat) : Option (List Nat) := match code[i]? with
  | some r => r.lv
  | none => none
def jx_norm (code : List jxRow) (s : jxS) : jxS := match jx_hd code s.1 with
  | some L => (s.1, jx_pick s.2.1 L, s.2.2)
  | none => s
def jx_loop (rc : Nat → Nat × (Nat → Int32)) (df : Nat → List Value) (c : Nat → List Value → jxH → jxR) (code : List jxRow) : Nat → jxS → jxR
  | 0, _ => none
  | n + 1, s => jx_one rc df c code (fun s' => jx_loop rc df c code n (jx_norm code s')) s
/-- on till the next head -/
def jx_run (rc : Nat → Nat × (Nat → Int32)) (df : Nat → List Value) (c : Nat → List Value → jxH → jxR) (code : List jxRow) (K : jxS → jxR) : Nat → jxS → jxR
  | 0, s => K s
  | n + 1, s => jx_one rc df c code (fun s' => match jx_hd code s'.1 with
    | some L => K (s'.1, jx_pick s'.2.1 L, s'.2.2)
    | none => jx_run rc df c code K n s') s
end
section
/-! What an instruction does behind it: one state, or an answer; the limit over all numbers of instructions -/
theorem jx_1_some {st : List Value} {f : Int32 → List Value → jxR} {res} (h : jx_1 st f = some res) : ∃ a t, st = .int a :: t ∧ f a t = some res := by
  unfold jx_1 at h
  split at h
  · exact ⟨_, _, rfl, h⟩
  · cases h
theorem jx_2_some {st : List Value} {f : Int32 → Int32 → List Value → jxR} {res} (h : jx_2 st f = some res) : ∃ a b t, st = .int b :: .int a :: t ∧ f a b t = some res := by
  unfold jx_2 at h
  split at h
  · exact ⟨_, _, _, rfl, h⟩
  · cases h
theorem jx_1L_some {st : List Value} {f : Int64 → List Value → jxR} {res} (h : jx_1L st f = some res) : ∃ a t, st = .long a :: t ∧ f a t = some res := by
  unfold jx_1L at h
  split at h
  · exact ⟨_, _, rfl, h⟩
  · cases h
theorem jx_2L_some {st : List Value} {f : Int64 → Int64 → List Value → jxR} {res} (h : jx_2L st f = some res) : ∃ a b t, st = .long b :: .long a :: t ∧ f a b t = some res := by
  unfold jx_2L at h
  split at h
  · exact ⟨_, _, _, rfl, h⟩
  · cases h
theorem jx_LI_some {st : List Value} {f : Int64 → Int32 → List Value → jxR} {res} (h : jx_LI st f = some res) : ∃ a b t, st = .int b :: .long a :: t ∧ f a b t = some res := by
  unfold jx_LI at h
  split at h
  · exact ⟨_, _, _, rfl, h⟩
  · cases h
theorem jx_r_some {st : List Value} {f : Nat → List Value → jxR} {res} (h : jx_r st f = some res) : ∃ a t, st = .ref a :: t ∧ f a t = some res := by
  unfold jx_r at h
  split at h
  · exact ⟨_, _, rfl, h⟩
  · cases h
theorem jx_cV_some {r : jxR} {f : jxH → jxR} {res} (h : jx_cV r f = some res) : ∃ h', r = some (none, h') ∧ f h' = some res := by
  unfold jx_cV at h
  split at h
  · exact ⟨_, rfl, h⟩
  · cases h
theorem jx_cI_some {r : jxR} {f : Int32 → jxH → jxR} {res} (h : jx_cI r f = some res) : ∃ x h', r = some (some (.int x), h') ∧ f x h' = some res := by
  unfold jx_cI at h
  split at h
  · exact ⟨_, _, rfl, h⟩
  · cases h
theorem jx_cL_some {r : jxR} {f : Int64 → jxH → jxR} {res} (h : jx_cL r f = some res) : ∃ x h', r = some (some (.long x), h') ∧ f x h' = some res := by
  unfold jx_cL at h
  split at h
  · exact ⟨_, _, rfl, h⟩
  · cases h
theorem jx_cR_some {r : jxR} {f : Option Nat → jxH → jxR} {res} (h : jx_cR r f = some res) : ∃ x h', r = some (some (va_rf x), h') ∧ f x h' = some res := by
  unfold jx_cR at h
  split at h
  · exact ⟨some _, _, rfl, h⟩
  · exact ⟨none, _, rfl, h⟩
  · cases h
theorem jx_bind_some {α : Type} {o : Option α} {f : α → jxR} {res} (h : o.bind f = some res) : ∃ v, o = some v ∧ f v = some res := by
  cases o with
  | none => cases h
  | some v => exact ⟨v, rfl, h⟩
theorem jx_if_some {c : Prop} [Decidable c] {a b : jxR} {res} (h : (if c then a else b) = some res) : (c ∧ a = some res) ∨ (¬ c ∧ b = some res) := by
  by_cases hc : c
  · exact Or.inl ⟨hc, by rw [if_pos hc] at h; exact h⟩
  · exact Or.inr ⟨hc, by rw [if_neg hc] at h; exact h⟩
theorem jx_sw_some {x : Int32} {d : Nat} {K : Nat → jxR} {res} : ∀ (ts : List Nat) (lo : Int32), jx_sw x lo d K ts = some res → ∃ k, K k = some res ∧ ∀ K' : Nat → jxR, K' k = some res → jx_sw x lo d K' ts = some res
  | [], lo, h => ⟨d, h, fun K' h' => h'⟩
  | t :: ts, lo, h => by
    unfold jx_sw at h
    rcases jx_if_some h with ⟨hc, h⟩ | ⟨hc, h⟩
    · exact ⟨t, h, fun K' h' => by unfold jx_sw; rw [if_pos hc]; exact h'⟩
    · obtain ⟨k, h1, h2⟩ := jx_sw_some ts (lo + 1) h
      exact ⟨k, h1, fun K' h' => by unfold jx_sw; rw [if_neg hc]; exact h2 K' h'⟩
theorem jx_lI_some {ls : List (Nat × Value)} {x : Nat} {f : Int32 → jxR} {res} (h : jx_lI ls x f = some res) : ∃ a, jx_ld ls x = some (.int a) ∧ f a = some res := by
  unfold jx_lI at h
  split at h
  · rename_i e; exact ⟨_, e, h⟩
  · cases h
theorem jx_lL_some {ls : List (Nat × Value)} {x : Nat} {f : Int64 → jxR} {res} (h : jx_lL ls x f = some res) : ∃ a, jx_ld ls x = some (.long a) ∧ f a = some res := by
  unfold jx_lL at h
  split at h
  · rename_i e; exact ⟨_, e, h⟩
  · cases h
theorem jx_lA_some {ls : List (Nat × Value)} {x : Nat} {f : Value → jxR} {res} (h : jx_lA ls x f = some res) : ∃ a, jx_ld ls x = some a ∧ ((∃ k, a = .ref k) ∨ (∃ k, a = .retAddr k) ∨ a = .null) ∧ f a = some res := by
  unfold jx_lA at h
  split at h
  · rename_i e; exact ⟨_, e, Or.inl ⟨_, rfl⟩, h⟩
  · rename_i e; exact ⟨_, e, Or.inr (Or.inl ⟨_, rfl⟩), h⟩
  · rename_i e; exact ⟨_, e, Or.inr (Or.inr rfl), h⟩
  · cases h
theorem jx_pA_some {st : List Value} {f : Value → List Value → jxR} {res} (h : jx_pA st f = some res) : ∃ a t, st = a :: t ∧ ((∃ k, a = .ref k) ∨ a = .null) ∧ f a t = some res := by
  unfold jx_pA at h
  split at h
  · exact ⟨_, _, rfl, Or.inl ⟨_, rfl⟩, h⟩
  · exact ⟨_, _, rfl, Or.inr rfl, h⟩
  · cases h
theorem jx_dup_some {st : List Value} {f : Value → List Value → jxR} {res} (h : jx_dup st f = some res) : ∃ a t, st = a :: t ∧ ((∃ k, a = .int k) ∨ ∃ k, a = .ref k) ∧ f a t = some res := by
  unfold jx_dup at h
  split at h
  · exact ⟨_, _, rfl, Or.inl ⟨_, rfl⟩, h⟩
  · exact ⟨_, _, rfl, Or.inr ⟨_, rfl⟩, h⟩
  · cases h
theorem jx_dup2_some {st : List Value} {f : List Value → List Value → jxR} {res} (h : jx_dup2 st f = some res) : ∃ p t, st = p ++ t ∧ ((∃ a b, p = [.int a, .int b]) ∨ (∃ a b, p = [.int a, .ref b]) ∨ ∃ a, p = [.long a]) ∧ f p t = some res := by
  unfold jx_dup2 at h
  split at h
  · exact ⟨_, _, rfl, Or.inl ⟨_, _, rfl⟩, h⟩
  · exact ⟨_, _, rfl, Or.inr (Or.inl ⟨_, _, rfl⟩), h⟩
  · exact ⟨_, _, rfl, Or.inr (Or.inr ⟨_, rfl⟩), h⟩
  · cases h
theorem jx_nl_some {st : List Value} {f g : List Value → jxR} {res} (h : jx_nl st f g = some res) : (∃ a t, st = .ref a :: t ∧ f t = some res) ∨ ∃ t, st = .null :: t ∧ g t = some res := by
  unfold jx_nl at h
  split at h
  · exact Or.inl ⟨_, _, rfl, h⟩
  · exact Or.inr ⟨_, rfl, h⟩
  · cases h
theorem jx_pv_some {z : Nat} {st : List Value} {f : Value → Nat → List Value → jxR} {res} (h : jx_pv z st f = some res) : ∃ v a t, st = v :: .ref a :: t ∧ ((z = 0 ∧ ∃ k, v = .int k) ∨ (z = 1 ∧ ∃ k, v = .long k) ∨ (z = 2 ∧ ∃ k, v = .ref k) ∨ ((z ≠ 0 ∧ z ≠ 1 ∧ z ≠ 2) ∧ ∃ k, jx_bool k = true ∧ v = .int k)) ∧ f v a t = some res := by
  unfold jx_pv at h
  split at h
  · split at h
    · exact ⟨_, _, _, rfl, Or.inl ⟨rfl, _, rfl⟩, h⟩
    · cases h
  · split at h
    · exact ⟨_, _, _, rfl, Or.inr (Or.inl ⟨rfl, _, rfl⟩), h⟩
    · cases h
  · split at h
    · exact ⟨_, _, _, rfl, Or.inr (Or.inr (Or.inl ⟨rfl, _, rfl⟩)), h⟩
    · cases h
  · rename_i h0 h1 h2
    split at h
    · rcases jx_if_some h with ⟨hc, h⟩ | ⟨_, h⟩
      · exact ⟨_, _, _, rfl, Or.inr (Or.inr (Or.inr ⟨⟨h0, h1, h2⟩, _, hc, rfl⟩)), h⟩
      · cases h
    · cases h
theorem jx_ia_some {st : List Value} {f : Int32 → Nat → List Value → jxR} {res} (h : jx_ia st f = some res) : ∃ k a t, st = .int k :: .ref a :: t ∧ f k a t = some res := by
  unfold jx_ia at h
  split at h
  · exact ⟨_, _, _, rfl, h⟩
  · cases h
theorem jx_ir_some {st : List Value} {f g : Int32 → Nat → List Value → jxR} {res} (h : jx_ir st f g = some res) : (∃ k a t, st = .int k :: .ref a :: t ∧ f k a t = some res) ∨ ∃ k a t, st = .int k :: .retAddr a :: t ∧ g k a t = some res := by
  unfold jx_ir at h
  split at h
  · exact Or.inl ⟨_, _, _, rfl, h⟩
  · exact Or.inr ⟨_, _, _, rfl, h⟩
  · cases h
theorem jx_rr_some {st : List Value} {f g : Nat → List Value → jxR} {res} (h : jx_rr st f g = some res) : (∃ a t, st = .ref a :: t ∧ f a t = some res) ∨ ∃ a t, st = .retAddr a :: t ∧ g a t = some res := by
  unfold jx_rr at h
  split at h
  · exact Or.inl ⟨_, _, rfl, h⟩
  · exact Or.inr ⟨_, _, rfl, h⟩
  · cases h
theorem jx_vs_some {st : List Value} {f : Int32 → Int32 → Nat → List Value → jxR} {res} (h : jx_vs st f = some res) : ∃ v k a t, st = .int v :: .int k :: .ref a :: t ∧ f v k a t = some res := by
  unfold jx_vs at h
  split at h
  · exact ⟨_, _, _, _, rfl, h⟩
  · cases h
theorem jx_vsL_some {st : List Value} {f : Int64 → Int32 → Nat → List Value → jxR} {res} (h : jx_vsL st f = some res) : ∃ v k a t, st = .long v :: .int k :: .ref a :: t ∧ f v k a t = some res := by
  unfold jx_vsL at h
  split at h
  · exact ⟨_, _, _, _, rfl, h⟩
  · cases h
theorem jx_vsQ_some {st : List Value} {f : Nat → Int32 → Nat → List Value → jxR} {g : Int32 → Nat → List Value → jxR} {res} (h : jx_vsQ st f g = some res) : (∃ v k a t, st = .ref v :: .int k :: .ref a :: t ∧ f v k a t = some res) ∨ ∃ k a t, st = .null :: .int k :: .ref a :: t ∧ g k a t = some res := by
  unfold jx_vsQ at h
  split at h
  · exact Or.inl ⟨_, _, _, _, rfl, h⟩
  · exact Or.inr ⟨_, _, _, rfl, h⟩
  · cases h
theorem jx_cps_some {st : List Value} {f : Nat → Int32 → Nat → Int32 → Int32 → List Value → jxR} {res} (h : jx_cps st f = some res) : ∃ a sp b dp n t, st = .int n :: .int dp :: .ref b :: .int sp :: .ref a :: t ∧ f a sp b dp n t = some res := by
  unfold jx_cps at h
  split at h
  · exact ⟨_, _, _, _, _, _, rfl, h⟩
  · cases h
theorem jx_ov_some {v : Option Nat} {f : Value → jxR} {res} (h : jx_ov v f = some res) : f (va_rf v) = some res := by
  unfold jx_ov at h
  split at h <;> exact h
theorem jx_ov_of {v : Option Nat} {f : Value → jxR} {res} (h : f (va_rf v) = some res) : jx_ov v f = some res := by
  cases v <;> exact h
theorem jx_ret_some {z : Nat} {r : jxR} {f : List Value → jxH → jxR} {res} (h : jx_ret z r f = some res) : ∃ v h', r = some (v, h') ∧ f v.toList h' = some res ∧ ((z = 0 ∧ v = none) ∨ (z = 1 ∧ ∃ k, v = some (.int k)) ∨ (z = 2 ∧ ∃ k, v = some (.long k)) ∨ (3 ≤ z ∧ ∃ k, v = some (va_rf k))) ∧ ∀ f' : List Value → jxH → jxR, f' v.toList h' = some res → jx_ret z r f' = some res := by
  rcases z with _ | _ | _ | z
  · obtain ⟨h', rfl, h⟩ := jx_cV_some h
    exact ⟨none, h', rfl, h, Or.inl ⟨rfl, rfl⟩, fun f' h => h⟩
  · obtain ⟨x, h', rfl, h⟩ := jx_cI_some h
    exact ⟨some (.int x), h', rfl, h, Or.inr (Or.inl ⟨rfl, _, rfl⟩), fun f' h => h⟩
  · obtain ⟨x, h', rfl, h⟩ := jx_cL_some h
    exact ⟨some (.long x), h', rfl, h, Or.inr (Or.inr (Or.inl ⟨rfl, _, rfl⟩)), fun f' h => h⟩
  · have h : (jx_cR r fun v h => jx_ov v fun w => f [w] h) = some res := h
    obtain ⟨x, h', rfl, hq⟩ := jx_cR_some h
    refine ⟨some (va_rf x), h', rfl, jx_ov_some hq, Or.inr (Or.inr (Or.inr ⟨by omega, _, rfl⟩)), fun f' h => ?_⟩
    cases x <;> exact h
theorem jx_pop_some : ∀ {y : Nat} {acc st : List Value} {q}, jx_pop y acc st = some q → ∃ as : List Value, as.length = y ∧ st = as ++ q.2 ∧ q.1 = as.reverse ++ acc
  | 0, acc, st, q, h => by
    cases h
    exact ⟨[], rfl, rfl, rfl⟩
  | y + 1, acc, [], q, h => by cases h
  | y + 1, acc, v :: st, q, h => by
    obtain ⟨as, h1, h2, h3⟩ := jx_pop_some (y := y) h
    exact ⟨v :: as, by simp [h1], by rw [h2]; rfl, by rw [h3]; simp⟩
theorem jx_call_some {y z : Nat} {st : List Value} {c : List Value → jxR} {f : List Value → jxH → jxR} {res} (h : jx_call y z st c f = some res) : ∃ (as rest : List Value) (v : Option Value) (h' : jxH), as.length = y ∧ st = as.reverse ++ rest ∧ jx_short rest = true ∧ c as = some (v, h') ∧ f (v.toList ++ rest) h' = some res ∧ ((z = 0 ∧ v = none) ∨ (z = 1 ∧ ∃ k, v = some (.int k)) ∨ (z = 2 ∧ ∃ k, v = some (.long k)) ∨ (3 ≤ z ∧ ∃ k, v = some (va_rf k))) ∧ ∀ f' : List Value → jxH → jxR, f' (v.toList ++ rest) h' = some res → jx_call y z st c f' = some res := by
  unfold jx_call at h ⊢
  obtain ⟨q, hq, h⟩ := jx_bind_some h
  rcases jx_if_some h with ⟨hs, h⟩ | ⟨_, h⟩
  · obtain ⟨as, h1, h2, h3⟩ := jx_pop_some hq
    obtain ⟨v, h', g1, g2, g3, g4⟩ := jx_ret_some h
    refine ⟨q.1, q.2, v, h', by rw [h3]; simp [h1], by rw [h2, h3]; simp, hs, g1, g2, g3, fun f' hf => ?_⟩
    rw [hq]
    show (if jx_short q.2 = true then _ else _) = _
    rw [if_pos hs]
    exact g4 _ hf
  · cases h
/-- heaps grow -/
def jx_le (h h' : jxH) : Prop := h.1 ≤ h'.1 ∧ h.2.1 ≤ h'.2.1
theorem jx_le_rf (h : jxH) : jx_le h h := ⟨Nat.le_refl _, Nat.le_refl _⟩
theorem jx_le_tr {a b c : jxH} (h : jx_le a b) (h' : jx_le b c) : jx_le a c := ⟨Nat.le_trans h.1 h'.1, Nat.le_trans h.2 h'.2⟩
def jx_grows (c : Nat → List Value → jxH → jxR) : Prop := ∀ k a h r h', c k a h = some (r, h') → jx_le h h'
section TAIL
variable {rc : Nat → Nat × (Nat → Int32)} {df : Nat → List Value} {c : Nat → List Value → jxH → jxR} {code : List jxRow}
def jx_T (F : (jxS → jxR) → jxR) (K : jxS → jxR) (h : jxH) (res : Option Value × jxH) : Prop :=
  (∃ s' : jxS, K s' = some res ∧ jx_le h s'.2.2.2 ∧ ∀ K' : jxS → jxR, K' s' = some res → F K' = some res) ∨ (res.2 = h ∧ ∀ K' : jxS → jxR, F K' = some res)
set_option maxHeartbeats 4000000 in
theorem jx_tail (hc : jx_grows c) {K : jxS → jxR} {r : jxRow} {i : Nat} {ls : List (Nat × Value)} {st : List Value} {h : jxH} {res} (hh : jx_step rc df c K r i ls st h = some res) :
    jx_T (fun K' => jx_step rc df c K' r i ls st h) K h res := by
  obtain ⟨pc, ins, len, ⟨x, y, z⟩, v, w, ts, lv⟩ := r
  cases ins
  all_goals first
    | (cases (show (none : jxR) = some res from hh); done)
    | exact Or.inl ⟨_, hh, jx_le_rf _, fun K' hk => hk⟩
    | (obtain ⟨a, b, t, rfl, hh⟩ := jx_2_some hh; exact Or.inl ⟨_, hh, jx_le_rf _, fun K' hk => hk⟩)
    | (obtain ⟨a, t, rfl, hh⟩ := jx_1_some hh; exact Or.inl ⟨_, hh, jx_le_rf _, fun K' hk => hk⟩)
    | (obtain ⟨a, b, t, rfl, hh⟩ := jx_2L_some hh; exact Or.inl ⟨_, hh, jx_le_rf _, fun K' hk => hk⟩)
    | (obtain ⟨a, t, rfl, hh⟩ := jx_1L_some hh; exact Or.inl ⟨_, hh, jx_le_rf _, fun K' hk => hk⟩)
    | (obtain ⟨a, b, t, rfl, hh⟩ := jx_LI_some hh; exact Or.inl ⟨_, hh, jx_le_rf _, fun K' hk => hk⟩)
    | (obtain ⟨a, e, hh⟩ := jx_lI_some hh; exact Or.inl ⟨_, hh, jx_le_rf _, fun K' hk => by show jx_lI _ _ _ = _; unfold jx_lI; rw [e]; exact hk⟩)
    | (obtain ⟨a, e, hh⟩ := jx_lL_some hh; exact Or.inl ⟨_, hh, jx_le_rf _, fun K' hk => by show jx_lL _ _ _ = _; unfold jx_lL; rw [e]; exact hk⟩)
    | (rcases jx_nl_some hh with ⟨a, t, rfl, hh⟩ | ⟨t, rfl, hh⟩ <;> exact Or.inl ⟨_, hh, jx_le_rf _, fun K' hk => hk⟩)
    | (obtain ⟨a, b, t, rfl, hh⟩ := jx_2_some hh; rcases jx_if_some hh with ⟨hq, hh⟩ | ⟨hq, hh⟩; · cases hh
       exact Or.inl ⟨_, hh, jx_le_rf _, fun K' hk => by show (if _ then _ else _) = _; rw [if_neg hq]; exact hk⟩)
    | (obtain ⟨a, b, t, rfl, hh⟩ := jx_2L_some hh; rcases jx_if_some hh with ⟨hq, hh⟩ | ⟨hq, hh⟩; · cases hh
       exact Or.inl ⟨_, hh, jx_le_rf _, fun K' hk => by show (if _ then _ else _) = _; rw [if_neg hq]; exact hk⟩)
    | skip
  case aload =>
    have hq : jx_lA ls x (fun a => K (i + 1, ls, a :: st, h)) = some res := hh
    obtain ⟨a, e, ha, hh⟩ := jx_lA_some hq
    rcases ha with ⟨k, rfl⟩ | ⟨k, rfl⟩ | rfl
    · exact Or.inl ⟨_, hh, jx_le_rf _, fun K' hk => by show jx_lA ls x (fun a => K' (i + 1, ls, a :: st, h)) = _; unfold jx_lA; rw [e]; exact hk⟩
    · exact Or.inl ⟨_, hh, jx_le_rf _, fun K' hk => by show jx_lA ls x (fun a => K' (i + 1, ls, a :: st, h)) = _; unfold jx_lA; rw [e]; exact hk⟩
    · exact Or.inl ⟨_, hh, jx_le_rf _, fun K' hk => by show jx_lA ls x (fun a => K' (i + 1, ls, a :: st, h)) = _; unfold jx_lA; rw [e]; exact hk⟩
  case aload_n =>
    have hq : jx_lA ls x (fun a => K (i + 1, ls, a :: st, h)) = some res := hh
    obtain ⟨a, e, ha, hh⟩ := jx_lA_some hq
    rcases ha with ⟨k, rfl⟩ | ⟨k, rfl⟩ | rfl
    · exact Or.inl ⟨_, hh, jx_le_rf _, fun K' hk => by show jx_lA ls x (fun a => K' (i + 1, ls, a :: st, h)) = _; unfold jx_lA; rw [e]; exact hk⟩
    · exact Or.inl ⟨_, hh, jx_le_rf _, fun K' hk => by show jx_lA ls x (fun a => K' (i + 1, ls, a :: st, h)) = _; unfold jx_lA; rw [e]; exact hk⟩
    · exact Or.inl ⟨_, hh, jx_le_rf _, fun K' hk => by show jx_lA ls x (fun a => K' (i + 1, ls, a :: st, h)) = _; unfold jx_lA; rw [e]; exact hk⟩
  case astore =>
    have hq : jx_pA st (fun a t => K (i + 1, jx_st1 ls x a, t, h)) = some res := hh
    obtain ⟨a, t, rfl, ha, hh⟩ := jx_pA_some hq
    rcases ha with ⟨k, rfl⟩ | rfl
    · exact Or.inl ⟨_, hh, jx_le_rf _, fun K' hk => hk⟩
    · exact Or.inl ⟨_, hh, jx_le_rf _, fun K' hk => hk⟩
  case astore_n =>
    have hq : jx_pA st (fun a t => K (i + 1, jx_st1 ls x a, t, h)) = some res := hh
    obtain ⟨a, t, rfl, ha, hh⟩ := jx_pA_some hq
    rcases ha with ⟨k, rfl⟩ | rfl
    · exact Or.inl ⟨_, hh, jx_le_rf _, fun K' hk => hk⟩
    · exact Or.inl ⟨_, hh, jx_le_rf _, fun K' hk => hk⟩
  case dup =>
    have hq : jx_dup st (fun a t => K (i + 1, ls, a :: a :: t, h)) = some res := hh
    obtain ⟨a, t, rfl, ha, hh⟩ := jx_dup_some hq
    rcases ha with ⟨k, rfl⟩ | ⟨k, rfl⟩
    · exact Or.inl ⟨_, hh, jx_le_rf _, fun K' hk => hk⟩
    · exact Or.inl ⟨_, hh, jx_le_rf _, fun K' hk => hk⟩
  case dup2 =>
    have hq : jx_dup2 st (fun p t => K (i + 1, ls, p ++ (p ++ t), h)) = some res := hh
    obtain ⟨p, t, rfl, ha, hh⟩ := jx_dup2_some hq
    rcases ha with ⟨a, b, rfl⟩ | ⟨a, b, rfl⟩ | ⟨a, rfl⟩
    · exact Or.inl ⟨_, hh, jx_le_rf _, fun K' hk => hk⟩
    · exact Or.inl ⟨_, hh, jx_le_rf _, fun K' hk => hk⟩
    · exact Or.inl ⟨_, hh, jx_le_rf _, fun K' hk => hk⟩
  case ifCond cnd off =>
    cases cnd <;> (obtain ⟨a, t, rfl, hh⟩ := jx_1_some hh
                   rcases jx_if_some hh with ⟨hq, hh⟩ | ⟨hq, hh⟩
                   · exact Or.inl ⟨_, hh, jx_le_rf _, fun K' hk => by show (if _ then _ else _) = _; rw [if_pos hq]; exact hk⟩
                   · exact Or.inl ⟨_, hh, jx_le_rf _, fun K' hk => by show (if _ then _ else _) = _; rw [if_neg hq]; exact hk⟩)
  case if_icmp cnd off =>
    cases cnd <;> (obtain ⟨a, b, t, rfl, hh⟩ := jx_2_some hh
                   rcases jx_if_some hh with ⟨hq, hh⟩ | ⟨hq, hh⟩
                   · exact Or.inl ⟨_, hh, jx_le_rf _, fun K' hk => by show (if _ then _ else _) = _; rw [if_pos hq]; exact hk⟩
                   · exact Or.inl ⟨_, hh, jx_le_rf _, fun K' hk => by show (if _ then _ else _) = _; rw [if_neg hq]; exact hk⟩)
  case tableswitch =>
    obtain ⟨a, t, rfl, hh⟩ := jx_1_some hh
    obtain ⟨k, h1, h2⟩ := jx_sw_some _ _ hh
    exact Or.inl ⟨_, h1, jx_le_rf _, fun K' hk => h2 (fun k => K' (k, ls, t, h)) hk⟩
  case getfield =>
    obtain ⟨a, t, rfl, hh⟩ := jx_r_some hh
    rcases z with _ | _ | z <;> (obtain ⟨q, hq, hh⟩ := jx_bind_some hh; exact Or.inl ⟨_, hh, jx_le_rf _, fun K' hk => by show Option.bind _ _ = _; rw [hq]; exact hk⟩)
  case putfield =>
    have hh0 : jx_pv z st (fun v a t => (jx_pF (jx_at h a) x y v).bind fun e => K (i + 1, ls, t, jx_set h a e)) = some res := hh
    clear hh
    obtain ⟨q, a, t, rfl, hz, hh⟩ := jx_pv_some hh0
    clear hh0
    obtain ⟨e, he, hb⟩ := jx_bind_some hh
    rcases hz with ⟨h0, k, rfl⟩ | ⟨h0, k, rfl⟩ | ⟨h0, k, rfl⟩ | ⟨h0, k, hk, rfl⟩
    · cases h0
      exact Or.inl ⟨_, hb, jx_le_rf _, fun K' hk => by show Option.bind _ _ = _; rw [he]; exact hk⟩
    · cases h0
      exact Or.inl ⟨_, hb, jx_le_rf _, fun K' hk => by show Option.bind _ _ = _; rw [he]; exact hk⟩
    · cases h0
      exact Or.inl ⟨_, hb, jx_le_rf _, fun K' hk => by show Option.bind _ _ = _; rw [he]; exact hk⟩
    · obtain ⟨z', rfl⟩ : ∃ z', z = z' + 3 := ⟨z - 3, by omega⟩
      exact Or.inl ⟨_, hb, jx_le_rf _, fun K' hk' => by show (if jx_bool k = true then Option.bind _ _ else _) = _; rw [if_pos hk, he]; exact hk'⟩
  case iaload =>
    rcases jx_ir_some hh with ⟨k, a, t, rfl, hh⟩ | ⟨k, a, t, rfl, hh⟩
    · obtain ⟨q, hq, hh⟩ := jx_bind_some hh
      exact Or.inl ⟨_, hh, jx_le_rf _, fun K' hk => by show Option.bind _ _ = _; rw [hq]; exact hk⟩
    · rcases jx_if_some hh with ⟨hq, hh⟩ | ⟨hq, hh⟩
      · cases hh
      · exact Or.inl ⟨_, hh, jx_le_rf _, fun K' hk => by show (if _ then _ else _) = _; rw [if_neg hq]; exact hk⟩
  case baload =>
    obtain ⟨k, a, t, rfl, hh⟩ := jx_ia_some hh
    rcases z with _ | _ | _ | z <;> (obtain ⟨q, hq, hh⟩ := jx_bind_some hh; exact Or.inl ⟨_, hh, jx_le_rf _, fun K' hk => by show Option.bind _ _ = _; rw [hq]; exact hk⟩)
  case laload =>
    obtain ⟨k, a, t, rfl, hh⟩ := jx_ia_some hh
    obtain ⟨q, hq, hh⟩ := jx_bind_some hh
    exact Or.inl ⟨_, hh, jx_le_rf _, fun K' hk => by show Option.bind _ _ = _; rw [hq]; exact hk⟩
  case aaload =>
    obtain ⟨k, a, t, rfl, hh⟩ := jx_ia_some hh
    obtain ⟨q, hq, hh⟩ := jx_bind_some hh
    exact Or.inl ⟨_, jx_ov_some hh, jx_le_rf _, fun K' hk => by show Option.bind _ _ = _; rw [hq]; exact jx_ov_of (f := fun w => K' (i + 1, ls, w :: t, h)) hk⟩
  case iastore =>
    obtain ⟨q, k, a, t, rfl, hh⟩ := jx_vs_some hh
    obtain ⟨e, he, hh⟩ := jx_bind_some hh
    exact Or.inl ⟨_, hh, jx_le_rf _, fun K' hk => by show Option.bind _ _ = _; rw [he]; exact hk⟩
  case bastore =>
    obtain ⟨q, k, a, t, rfl, hh⟩ := jx_vs_some hh
    rcases z with _ | _ | _ | z
    · rcases jx_if_some hh with ⟨hq, hh⟩ | ⟨hq, hh⟩
      · obtain ⟨e, he, hh⟩ := jx_bind_some hh
        exact Or.inl ⟨_, hh, jx_le_rf _, fun K' hk => by show (if _ then Option.bind _ _ else _) = _; rw [if_pos hq, he]; exact hk⟩
      · cases hh
    · rcases jx_if_some hh with ⟨hq, hh⟩ | ⟨hq, hh⟩
      · obtain ⟨e, he, hh⟩ := jx_bind_some hh
        exact Or.inl ⟨_, hh, jx_le_rf _, fun K' hk => by show (if _ then Option.bind _ _ else _) = _; rw [if_pos hq, he]; exact hk⟩
      · cases hh
    · obtain ⟨e, he, hh⟩ := jx_bind_some hh
      exact Or.inl ⟨_, hh, jx_le_rf _, fun K' hk => by show Option.bind _ _ = _; rw [he]; exact hk⟩
    · rcases jx_if_some hh with ⟨hq, hh⟩ | ⟨hq, hh⟩
      · obtain ⟨e, he, hh⟩ := jx_bind_some hh
        exact Or.inl ⟨_, hh, jx_le_rf _, fun K' hk => by show (if _ then Option.bind _ _ else _) = _; rw [if_pos hq, he]; exact hk⟩
      · cases hh
  case lastore =>
    obtain ⟨q, k, a, t, rfl, hh⟩ := jx_vsL_some hh
    obtain ⟨e, he, hh⟩ := jx_bind_some hh
    exact Or.inl ⟨_, hh, jx_le_rf _, fun K' hk => by show Option.bind _ _ = _; rw [he]; exact hk⟩
  case aastore =>
    rcases jx_vsQ_some hh with ⟨q, k, a, t, rfl, hh⟩ | ⟨k, a, t, rfl, hh⟩
    · rcases jx_if_some hh with ⟨hq, hh⟩ | ⟨hq, hh⟩
      · obtain ⟨e, he, hh⟩ := jx_bind_some hh
        exact Or.inl ⟨_, hh, jx_le_rf _, fun K' hk => by show (if _ then Option.bind _ _ else _) = _; rw [if_pos hq, he]; exact hk⟩
      · cases hh
    · obtain ⟨e, he, hh⟩ := jx_bind_some hh
      exact Or.inl ⟨_, hh, jx_le_rf _, fun K' hk => by show Option.bind _ _ = _; rw [he]; exact hk⟩
  case arraylength =>
    rcases jx_rr_some hh with ⟨a, t, rfl, hh⟩ | ⟨a, t, rfl, hh⟩
    · obtain ⟨e, he, hh⟩ := jx_bind_some hh
      exact Or.inl ⟨_, hh, jx_le_rf _, fun K' hk => by show Option.bind _ _ = _; rw [he]; exact hk⟩
    · exact Or.inl ⟨_, hh, jx_le_rf _, fun K' hk => hk⟩
  case new => exact Or.inl ⟨_, hh, ⟨Nat.le_succ _, Nat.le_add_right _ _⟩, fun K' hk => hk⟩
  case newarray =>
    obtain ⟨a, t, rfl, hh⟩ := jx_1_some hh
    rcases jx_if_some hh with ⟨hq, hh⟩ | ⟨hq, hh⟩
    · cases hh
    · exact Or.inl ⟨_, hh, ⟨Nat.le_succ _, Nat.le_add_right _ _⟩, fun K' hk => by show (if _ then _ else _) = _; rw [if_neg hq]; exact hk⟩
  case anewarray =>
    obtain ⟨a, t, rfl, hh⟩ := jx_1_some hh
    rcases jx_if_some hh with ⟨hq, hh⟩ | ⟨hq, hh⟩
    · cases hh
    · exact Or.inl ⟨_, hh, ⟨Nat.le_succ _, Nat.le_add_right _ _⟩, fun K' hk => by show (if _ then _ else _) = _; rw [if_neg hq]; exact hk⟩
  case multianewarray =>
    obtain ⟨a, b, t, rfl, hh⟩ := jx_2_some hh
    rcases jx_if_some hh with ⟨hq, hh⟩ | ⟨hq, hh⟩
    · cases hh
    · exact Or.inl ⟨_, hh, ⟨by show h.1 ≤ h.1 + 1 + _; omega, by show h.2.1 ≤ h.2.1 + _ + _; omega⟩, fun K' hk => by show (if _ then _ else _) = _; rw [if_neg hq]; exact hk⟩
  case invokespecial ix =>
    by_cases h9 : z = 9
    · subst h9
      obtain ⟨a, t, rfl, hh⟩ := jx_r_some hh
      rcases jx_if_some hh with ⟨hq, hh⟩ | ⟨hq, hh⟩
      · exact Or.inl ⟨_, hh, jx_le_rf _, fun K' hk => by show (if _ then _ else _) = _; rw [if_pos hq]; exact hk⟩
      · cases hh
    · have e9 : ∀ K' : jxS → jxR, jx_step rc df c K' (pc, .invokespecial ix, len, (x, y, z), v, w, ts, lv) i ls st h = jx_call (y + 1) 0 st (fun as => c x as h) fun st' h' => K' (i + 1, ls, st', h') := fun K' => by
        unfold jx_step
        dsimp only
        split
        · rename_i e; exact absurd e h9
        · rfl
      rw [e9] at hh
      obtain ⟨as, rest, v', h', -, -, -, hcall, hh, -, hk⟩ := jx_call_some hh
      exact Or.inl ⟨_, hh, hc _ _ _ _ _ hcall, fun K' hk' => by show jx_step rc df c K' _ i ls st h = _; rw [e9]; exact hk (fun st' h' => K' (i + 1, ls, st', h')) hk'⟩
  case invokestatic ix =>
    by_cases h9 : z = 9
    · subst h9
      obtain ⟨a, sp, b, dp, n, t, rfl, hh⟩ := jx_cps_some hh
      rcases jx_if_some hh with ⟨hq, hh⟩ | ⟨hq, hh⟩
      · obtain ⟨e, he, hh⟩ := jx_bind_some hh
        exact Or.inl ⟨_, hh, jx_le_rf _, fun K' hk => by show (if _ then Option.bind _ _ else _) = _; rw [if_pos hq, he]; exact hk⟩
      · cases hh
    · have e9 : ∀ K' : jxS → jxR, jx_step rc df c K' (pc, .invokestatic ix, len, (x, y, z), v, w, ts, lv) i ls st h = jx_call y z st (fun as => c x as h) fun st' h' => K' (i + 1, ls, st', h') := fun K' => by
        unfold jx_step
        dsimp only
        split
        · rename_i e; exact absurd e h9
        · rfl
      rw [e9] at hh
      obtain ⟨as, rest, v', h', -, -, -, hcall, hh, -, hk⟩ := jx_call_some hh
      exact Or.inl ⟨_, hh, hc _ _ _ _ _ hcall, fun K' hk' => by show jx_step rc df c K' _ i ls st h = _; rw [e9]; exact hk (fun st' h' => K' (i + 1, ls, st', h')) hk'⟩
  case invokevirtual =>
    have hh : jx_call (y + 1) z st (fun as => c x as h) (fun st' h' => K (i + 1, ls, st', h')) = some res := hh
    obtain ⟨as, rest, v', h', -, -, -, hcall, hh, -, hk⟩ := jx_call_some hh
    exact Or.inl ⟨_, hh, hc _ _ _ _ _ hcall, fun K' hk' => hk (fun st' h' => K' (i + 1, ls, st', h')) hk'⟩
  case ireturn =>
    refine Or.inr ⟨?_, fun K' => hh⟩
    revert hh
    show jx_ri z st h = _ → _
    unfold jx_ri
    split
    · split
      · intro hh; cases hh; rfl
      · intro hh
        rcases jx_if_some hh with ⟨hq, hh⟩ | ⟨hq, hh⟩
        · cases hh; rfl
        · cases hh
    · intro hh; cases hh
  case lreturn =>
    refine Or.inr ⟨?_, fun K' => hh⟩
    revert hh
    show jx_rl st h = _ → _
    unfold jx_rl
    split
    · intro hh; cases hh; rfl
    · intro hh; cases hh
  case areturn =>
    refine Or.inr ⟨?_, fun K' => hh⟩
    revert hh
    show jx_ra st h = _ → _
    unfold jx_ra
    split
    · intro hh; cases hh; rfl
    · intro hh; cases hh; rfl
    · intro hh; cases hh
  case return_ =>
    refine Or.inr ⟨?_, fun K' => hh⟩
    revert hh
    show jx_rv st h = _ → _
    unfold jx_rv
    split
    · intro hh; cases hh; rfl
    · intro hh; cases hh
theorem jx_tail1 (hc : jx_grows c) {K : jxS → jxR} {s : jxS} {res} (hh : jx_one rc df c code K s = some res) : jx_T (fun K' => jx_one rc df c code K' s) K s.2.2.2 res := by
  unfold jx_one at hh ⊢
  split at hh
  · exact jx_tail hc hh
  · cases hh
theorem jx_norm_h (s : jxS) : (jx_norm code s).2.2.2 = s.2.2.2 := by
  unfold jx_norm
  split <;> rfl
theorem jx_loop_up (hc : jx_grows c) : ∀ (n : Nat) (s : jxS) (res), jx_loop rc df c code n s = some res → jx_loop rc df c code (n + 1) s = some res
  | 0, _, _, h => by cases h
  | n + 1, s, res, h => by
    rcases jx_tail1 hc (K := fun s' => jx_loop rc df c code n (jx_norm code s')) h with ⟨s', h1, -, h2⟩ | ⟨-, h2⟩
    · exact h2 (fun s' => jx_loop rc df c code (n + 1) (jx_norm code s')) (jx_loop_up hc n _ _ h1)
    · exact h2 _
theorem jx_loop_le (hc : jx_grows c) {n m : Nat} (h : n ≤ m) {s : jxS} {res} (hh : jx_loop rc df c code n s = some res) : jx_loop rc df c code m s = some res := by
  induction h with
  | refl => exact hh
  | step _ ih => exact jx_loop_up hc _ _ _ ih
theorem jx_loop_grow (hc : jx_grows c) : ∀ (n : Nat) (s : jxS) (res), jx_loop rc df c code n s = some res → jx_le s.2.2.2 res.2
  | 0, _, _, h => by cases h
  | n + 1, s, res, h => by
    rcases jx_tail1 hc (K := fun s' => jx_loop rc df c code n (jx_norm code s')) h with ⟨s', h1, h3, -⟩ | ⟨h3, -⟩
    · have := jx_loop_grow hc n _ _ h1
      rw [jx_norm_h] at this
      exact jx_le_tr h3 this
    · rw [h3]; exact jx_le_rf _
theorem jx_G_ex (s : jxS) (hc : jx_grows c) : ∃ o : jxR, ∀ res, o = some res ↔ ∃ n, jx_loop rc df c code n s = some res := by
  by_cases h : ∃ res n, jx_loop rc df c code n s = some res
  · obtain ⟨res, n, h⟩ := h
    refine ⟨some res, fun res' => ⟨fun e => ⟨n, by cases e; exact h⟩, fun ⟨m, h'⟩ => ?_⟩⟩
    have h1 := jx_loop_le hc (Nat.le_max_left n m) h
    have h2 := jx_loop_le hc (Nat.le_max_right n m) h'
    exact h1.symm.trans h2
  · refine ⟨none, fun res => ⟨fun e => (by cases e), fun ⟨n, hn⟩ => absurd ⟨res, n, hn⟩ h⟩⟩
end TAIL
/-- what a method's code answers from a state on -/
noncomputable def jx_G (rc : Nat → Nat × (Nat → Int32)) (df : Nat → List Value) (c : Nat → List Value → jxH → jxR) (code : List jxRow) (s : jxS) : jxR :=
  Classical.epsilon (fun o : jxR => ∀ res, o = some res ↔ ∃ n, jx_loop rc df c code n s = some res)
section LIM
variable {rc : Nat → Nat × (Nat → Int32)} {df : Nat → List Value} {c : Nat → List Value → jxH → jxR} {code : List jxRow}
theorem jx_G_iff (hc : jx_grows c) (s : jxS) (res) : jx_G rc df c code s = some res ↔ ∃ n, jx_loop rc df c code n s = some res :=
  Classical.epsilon_spec (p := fun o : jxR => ∀ res, o = some res ↔ ∃ n, jx_loop rc df c code n s = some res) (jx_G_ex s hc) res
theorem jx_opt_ext {α : Type} {a b : Option α} (h : ∀ r, a = some r ↔ b = some r) : a = b := by
  cases a with
  | none =>
    cases b with
    | none => rfl
    | some b => exact ((h b).mpr rfl).symm ▸ rfl
  | some a => exact ((h a).mp rfl).symm
theorem jx_G_eq (hc : jx_grows c) (s : jxS) : jx_G rc df c code s = jx_one rc df c code (fun s' => jx_G rc df c code (jx_norm code s')) s := by
  refine jx_opt_ext fun res => ?_
  rw [jx_G_iff hc]
  constructor
  · rintro ⟨n, h⟩
    cases n with
    | zero => cases h
    | succ n =>
      rcases jx_tail1 hc (K := fun s' => jx_loop rc df c code n (jx_norm code s')) h with ⟨s', h1, -, h2⟩ | ⟨-, h2⟩
      · exact h2 _ ((jx_G_iff hc _ _).mpr ⟨n, h1⟩)
      · exact h2 _
  · intro h
    rcases jx_tail1 hc h with ⟨s', h1, -, h2⟩ | ⟨-, h2⟩
    · obtain ⟨n, hn⟩ := (jx_G_iff hc _ _).mp h1
      exact ⟨n + 1, h2 (fun s' => jx_loop rc df c code n (jx_norm code s')) hn⟩
    · exact ⟨1, h2 (fun s' => jx_loop rc df c code 0 (jx_norm code s'))⟩
theorem jx_one_congr {K K' : jxS → jxR} (h : ∀ s, K s = K' s) (s : jxS) : jx_one rc df c code K s = jx_one rc df c code K' s := by
  rw [show K = K' from funext h]
theorem jx_G_run (hc : jx_grows c) : ∀ (n : Nat) (s : jxS), jx_G rc df c code s = jx_run rc df c code (jx_G rc df c code) n s
  | 0, _ => rfl
  | n + 1, s => by
    rw [jx_G_eq hc]
    show _ = jx_one rc df c code _ s
    refine jx_one_congr (fun s' => ?_) s
    unfold jx_norm
    split
    · rfl
    · exact jx_G_run hc n s'
end LIM
/-- calls, to a depth; mt: a method's code by its number, and the class of its object (if it has one) -/
noncomputable def jx_X (rc : Nat → Nat × (Nat → Int32)) (df : Nat → List Value) (mt : Nat → Option (Option Nat × List jxRow)) : Nat → Nat → List Value → jxH → jxR
  | 0 => fun _ _ _ => none
  | d + 1 => fun k as h => match mt k with
    | some (none, code) => jx_G rc df (jx_X rc df mt d) code (jx_norm code (0, lv_args 0 as, [], h))
    | some (some ci, code) => match as with
      | .ref b :: _ => if jx_is (jx_at h b) ci = true then jx_G rc df (jx_X rc df mt d) code (jx_norm code (0, lv_args 0 as, [], h)) else none
      | _ => none
    | none => none
theorem jx_X_grows (rc : Nat → Nat × (Nat → Int32)) (df : Nat → List Value) (mt : Nat → Option (Option Nat × List jxRow)) : ∀ d, jx_grows (jx_X rc df mt d)
  | 0 => fun _ _ _ _ _ h => by cases h
  | d + 1 => by
    have ih := jx_X_grows rc df mt d
    have key : ∀ (code : List jxRow) (as : List Value) (h : jxH) (r : Option Value) (h' : jxH), jx_G rc df (jx_X rc df mt d) code (jx_norm code (0, lv_args 0 as, [], h)) = some (r, h') → jx_le h h' := by
      intro code as h r h' hh
      obtain ⟨n, hn⟩ := (jx_G_iff ih _ _).mp hh
      have := jx_loop_grow ih n _ _ hn
      rw [jx_norm_h] at this
      exact this
    intro k as h r h' hh
    unfold jx_X at hh
    split at hh
    · exact key _ _ _ _ _ hh
    · split at hh
      · rcases jx_if_some hh with ⟨-, hh⟩ | ⟨-, hh⟩
        · exact key _ _ _ _ _ hh
        · cases hh
      · cases hh
    · cases hh
end
