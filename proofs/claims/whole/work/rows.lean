section
/-! A small machine of ours over the class's bytecode: cells by numbers, rows of decoded instructions. What it computes, the machine does (part 03). -/
-- an entry of the heap: an object (class, fields); an array (tag, length, numbers); nothing
abbrev jxE := (Nat × List Value) ⊕ ((Nat × vp_A) ⊕ Unit)
abbrev jxO (c : Nat) (fs : List Value) : jxE := .inl (c, fs)
abbrev jxI (t n : Nat) (g : Nat → Int32) : jxE := .inr (.inl (t, n, .inl g))
abbrev jxL (n : Nat) (g : Nat → Int64) : jxE := .inr (.inl (1, n, .inr (.inl g)))
abbrev jxQ (t n : Nat) (g : Nat → Option Nat) : jxE := .inr (.inl (t, n, .inr (.inr (.inr (.inr g)))))
-- the heap: how many cells, how many slots, what they are
abbrev jxH := Nat × Nat × (Nat → jxE)
def jx_at (h : jxH) (a : Nat) : jxE := h.2.2 a
def jx_set (h : jxH) (a : Nat) (e : jxE) : jxH := (h.1, h.2.1, va_up h.2.2 a e)
def jx_new (h : jxH) (n : Nat) (e : jxE) : jxH := (h.1 + 1, h.2.1 + n, va_up h.2.2 h.1 e)
-- a method's answer, and the heap behind it
abbrev jxR := Option (Option Value × jxH)
-- instruction's number, locals, stack, heap
abbrev jxS := Nat × List (Nat × Value) × List Value × jxH
-- pc, instruction, length, three numbers, an int, a long, numbers, the locals that live at its head (if it is one)
abbrev jxRow := Nat × Instr × Nat × (Nat × Nat × Nat) × Int32 × Int64 × List Nat × Option (List Nat)
abbrev jxRow.pc (r : jxRow) : Nat := r.1
abbrev jxRow.ins (r : jxRow) : Instr := r.2.1
abbrev jxRow.len (r : jxRow) : Nat := r.2.2.1
abbrev jxRow.x (r : jxRow) : Nat := r.2.2.2.1.1
abbrev jxRow.y (r : jxRow) : Nat := r.2.2.2.1.2.1
abbrev jxRow.z (r : jxRow) : Nat := r.2.2.2.1.2.2
abbrev jxRow.v (r : jxRow) : Int32 := r.2.2.2.2.1
abbrev jxRow.w (r : jxRow) : Int64 := r.2.2.2.2.2.1
abbrev jxRow.ts (r : jxRow) : List Nat := r.2.2.2.2.2.2.1
abbrev jxRow.lv (r : jxRow) : Option (List Nat) := r.2.2.2.2.2.2.2
def jx_ld : List (Nat × Value) → Nat → Option Value
  | [], _ => none
  | q :: t, i => if q.1 = i then some q.2 else jx_ld t i
def jx_st1 (l : List (Nat × Value)) (i : Nat) (v : Value) : List (Nat × Value) := (i, v) :: l.filter (fun q => !(q.1 == i) && !(q.1 + 1 == i && q.2.category == 2))
def jx_st2 (l : List (Nat × Value)) (i : Nat) (v : Value) : List (Nat × Value) := (i, v) :: l.filter (fun q => !(q.1 == i) && (!(q.1 == i + 1) && !(q.1 + 1 == i && q.2.category == 2)))
def jx_pick (l : List (Nat × Value)) : List Nat → List (Nat × Value)
  | [] => []
  | i :: t => match jx_ld l i with
    | some v => (i, v) :: jx_pick l t
    | none => jx_pick l t
-- reads
def jx_out (i : Int32) (n : Nat) : Bool := decide (i < 0) || decide (n ≤ i.toNatClampNeg)
def jx_gI (e : jxE) (c k : Nat) : Option Int32 := match e with
  | .inl (c', fs) => if c' = c then (match fs[k]? with
    | some (.int x) => some x
    | _ => none) else none
  | _ => none
def jx_gL (e : jxE) (c k : Nat) : Option Int64 := match e with
  | .inl (c', fs) => if c' = c then (match fs[k]? with
    | some (.long x) => some x
    | _ => none) else none
  | _ => none
def jx_gR (e : jxE) (c k : Nat) : Option Nat := match e with
  | .inl (c', fs) => if c' = c then (match fs[k]? with
    | some (.ref x) => some x
    | _ => none) else none
  | _ => none
def jx_pF (e : jxE) (c k : Nat) (v : Value) : Option jxE := match e with
  | .inl (c', fs) => if c' = c ∧ k < fs.length then some (.inl (c', fs.set k v)) else none
  | _ => none
def jx_aI (e : jxE) (t : Nat) (i : Int32) : Option Int32 := match e with
  | .inr (.inl (t', n, .inl g)) => if t' = t ∧ jx_out i n = false then some (g i.toNatClampNeg) else none
  | _ => none
def jx_aL (e : jxE) (i : Int32) : Option Int64 := match e with
  | .inr (.inl (t', n, .inr (.inl g))) => if t' = 1 ∧ jx_out i n = false then some (g i.toNatClampNeg) else none
  | _ => none
def jx_aQ (e : jxE) (t : Nat) (i : Int32) : Option (Option Nat) := match e with
  | .inr (.inl (t', n, .inr (.inr (.inr (.inr g))))) => if t' = t ∧ jx_out i n = false then some (g i.toNatClampNeg) else none
  | _ => none
def jx_sI (e : jxE) (t : Nat) (i x : Int32) : Option jxE := match e with
  | .inr (.inl (t', n, .inl g)) => if t' = t ∧ jx_out i n = false then some (.inr (.inl (t', n, .inl (upd g i.toNatClampNeg x)))) else none
  | _ => none
def jx_sL (e : jxE) (i : Int32) (x : Int64) : Option jxE := match e with
  | .inr (.inl (t', n, .inr (.inl g))) => if t' = 1 ∧ jx_out i n = false then some (.inr (.inl (t', n, .inr (.inl (vp_updL g i.toNatClampNeg x))))) else none
  | _ => none
def jx_sQ (e : jxE) (t : Nat) (i : Int32) (x : Option Nat) : Option jxE := match e with
  | .inr (.inl (t', n, .inr (.inr (.inr (.inr g))))) => if t' = t ∧ jx_out i n = false then some (.inr (.inl (t', n, .inr (.inr (.inr (.inr (va_up g i.toNatClampNeg x))))))) else none
  | _ => none
def jx_len (e : jxE) : Option Nat := match e with
  | .inr (.inl (t, n, _)) => if t < 9 then some n else none
  | _ => none
def jx_is (e : jxE) (c : Nat) : Bool := match e with
  | .inl (c', _) => c' == c
  | _ => false
/-- System.arraycopy of int or byte arrays (tag t) -/
def jx_cp (e e' : jxE) (t : Nat) (sp dp n : Int32) : Option jxE := match e, e' with
  | .inr (.inl (t1, n1, .inl f)), .inr (.inl (t2, n2, .inl g)) =>
    if t1 = t ∧ t2 = t ∧ ¬ sp < 0 ∧ ¬ dp < 0 ∧ ¬ n < 0 ∧ sp.toNatClampNeg + n.toNatClampNeg ≤ n1 ∧ dp.toNatClampNeg + n.toNatClampNeg ≤ n2 then some (.inr (.inl (t2, n2, .inl (va_cpy f g sp.toNatClampNeg dp.toNatClampNeg n.toNatClampNeg)))) else none
  | _, _ => none
def jx_bool (x : Int32) : Bool := x == 0 || x == 1
def jx_short : List Value → Bool
  | [] => true
  | [_] => true
  | [_, _] => true
  | [_, _, _] => true
  | [_, _, _, _] => true
  | _ => false
def jx_pop : Nat → List Value → List Value → Option (List Value × List Value)
  | 0, acc, st => some (acc, st)
  | n + 1, acc, v :: st => jx_pop n (v :: acc) st
  | _ + 1, _, [] => none
-- stack shapes
def jx_1 (st : List Value) (f : Int32 → List Value → jxR) : jxR := match st with
  | .int x :: t => f x t
  | _ => none
def jx_2 (st : List Value) (f : Int32 → Int32 → List Value → jxR) : jxR := match st with
  | .int y :: .int x :: t => f x y t
  | _ => none
def jx_1L (st : List Value) (f : Int64 → List Value → jxR) : jxR := match st with
  | .long x :: t => f x t
  | _ => none
def jx_2L (st : List Value) (f : Int64 → Int64 → List Value → jxR) : jxR := match st with
  | .long y :: .long x :: t => f x y t
  | _ => none
def jx_LI (st : List Value) (f : Int64 → Int32 → List Value → jxR) : jxR := match st with
  | .int y :: .long x :: t => f x y t
  | _ => none
def jx_r (st : List Value) (f : Nat → List Value → jxR) : jxR := match st with
  | .ref a :: t => f a t
  | _ => none
-- answers of calls
def jx_cV (r : jxR) (f : jxH → jxR) : jxR := match r with
  | some (none, h) => f h
  | _ => none
def jx_cI (r : jxR) (f : Int32 → jxH → jxR) : jxR := match r with
  | some (some (.int x), h) => f x h
  | _ => none
def jx_cL (r : jxR) (f : Int64 → jxH → jxR) : jxR := match r with
  | some (some (.long x), h) => f x h
  | _ => none
def jx_cR (r : jxR) (f : Option Nat → jxH → jxR) : jxR := match r with
  | some (some (.ref x), h) => f (some x) h
  | some (some .null, h) => f none h
  | _ => none
/-- a switch: targets one behind the other, from lo on -/
def jx_sw (x lo : Int32) (d : Nat) (K : Nat → jxR) : List Nat → jxR
  | [] => K d
  | t :: ts => if x = lo then K t else jx_sw x (lo + 1) d K ts
def jx_inner (h : jxH) (n m : Nat) : jxH := (h.1 + 1 + n, h.2.1 + n + n * m, fun a => if a = h.1 then jxQ 8 n (fun i => if i < n then some (h.1 + 1 + i) else none) else if h.1 < a ∧ a ≤ h.1 + n then jxI 0 m (fun _ => 0) else h.2.2 a)
def jx_lI (ls : List (Nat × Value)) (x : Nat) (f : Int32 → jxR) : jxR := match jx_ld ls x with
  | some (.int a) => f a
  | _ => none
def jx_lL (ls : List (Nat × Value)) (x : Nat) (f : Int64 → jxR) : jxR := match jx_ld ls x with
  | some (.long a) => f a
  | _ => none
def jx_lA (ls : List (Nat × Value)) (x : Nat) (f : Value → jxR) : jxR := match jx_ld ls x with
  | some (.ref a) => f (.ref a)
  | some (.retAddr a) => f (.retAddr a)
  | some .null => f .null
  | _ => none
def jx_pA (st : List Value) (f : Value → List Value → jxR) : jxR := match st with
  | .ref a :: t => f (.ref a) t
  | .null :: t => f .null t
  | _ => none
def jx_dup (st : List Value) (f : Value → List Value → jxR) : jxR := match st with
  | .int a :: t => f (.int a) t
  | .ref a :: t => f (.ref a) t
  | _ => none
def jx_dup2 (st : List Value) (f : List Value → List Value → jxR) : jxR := match st with
  | .int a :: .int b :: t => f [.int a, .int b] t
  | .int a :: .ref b :: t => f [.int a, .ref b] t
  | .long a :: t => f [.long a] t
  | _ => none
def jx_nl (st : List Value) (f g : List Value → jxR) : jxR := match st with
  | .ref _ :: t => f t
  | .null :: t => g t
  | _ => none
def jx_pv (z : Nat) (st : List Value) (f : Value → Nat → List Value → jxR) : jxR := match z with
  | 0 => match st with
    | .int v :: .ref a :: t => f (.int v) a t
    | _ => none
  | 1 => match st with
    | .long v :: .ref a :: t => f (.long v) a t
    | _ => none
  | 2 => match st with
    | .ref v :: .ref a :: t => f (.ref v) a t
    | _ => none
  | _ => match st with
    | .int v :: .ref a :: t => if jx_bool v = true then f (.int v) a t else none
    | _ => none
def jx_ia (st : List Value) (f : Int32 → Nat → List Value → jxR) : jxR := match st with
  | .int k :: .ref a :: t => f k a t
  | _ => none
def jx_ir (st : List Value) (f g : Int32 → Nat → List Value → jxR) : jxR := match st with
  | .int k :: .ref a :: t => f k a t
  | .int k :: .retAddr a :: t => g k a t
  | _ => none
def jx_rr (st : List Value) (f g : Nat → List Value → jxR) : jxR := match st with
  | .ref a :: t => f a t
  | .retAddr a :: t => g a t
  | _ => none
def jx_vs (st : List Value) (f : Int32 → Int32 → Nat → List Value → jxR) : jxR := match st with
  | .int v :: .int k :: .ref a :: t => f v k a t
  | _ => none
def jx_vsL (st : List Value) (f : Int64 → Int32 → Nat → List Value → jxR) : jxR := match st with
  | .long v :: .int k :: .ref a :: t => f v k a t
  | _ => none
def jx_vsQ (st : List Value) (f : Nat → Int32 → Nat → List Value → jxR) (g : Int32 → Nat → List Value → jxR) : jxR := match st with
  | .ref v :: .int k :: .ref a :: t => f v k a t
  | .null :: .int k :: .ref a :: t => g k a t
  | _ => none
def jx_cps (st : List Value) (f : Nat → Int32 → Nat → Int32 → Int32 → List Value → jxR) : jxR := match st with
  | .int n :: .int dp :: .ref b :: .int sp :: .ref a :: t => f a sp b dp n t
  | _ => none
def jx_mo (v : Option Nat) (f : Nat → jxR) (g : jxR) : jxR := match v with
  | some b => f b
  | none => g
def jx_ov (v : Option Nat) (f : Value → jxR) : jxR := jx_mo v (fun b => f (.ref b)) (f .null)
def jx_arr (x n : Nat) : jxE := match x with
  | 1 => jxL n (fun _ => 0)
  | t => jxI t n (fun _ => 0)
def jx_ret (z : Nat) (r : jxR) (f : List Value → jxH → jxR) : jxR := match z with
  | 0 => jx_cV r fun h => f [] h
  | 1 => jx_cI r fun v h => f [.int v] h
  | 2 => jx_cL r fun v h => f [.long v] h
  | _ => jx_cR r fun v h => jx_ov v fun w => f [w] h
def jx_call (y z : Nat) (st : List Value) (c : List Value → jxR) (f : List Value → jxH → jxR) : jxR := (jx_pop y [] st).bind fun q => if jx_short q.2 = true then jx_ret z (c q.1) (fun p h => f (p ++ q.2) h) else none
def jx_ri (z : Nat) (st : List Value) (h : jxH) : jxR := match st with
  | [.int a] => match z with
    | 0 => some (some (.int a), h)
    | _ => if jx_bool a = true then some (some (.int a), h) else none
  | _ => none
def jx_rl (st : List Value) (h : jxH) : jxR := match st with
  | [.long a] => some (some (.long a), h)
  | _ => none
def jx_ra (st : List Value) (h : jxH) : jxR := match st with
  | [.ref a] => some (some (.ref a), h)
  | [.null] => some (some .null, h)
  | _ => none
def jx_rv (st : List Value) (h : jxH) : jxR := match st with
  | [] => some (none, h)
  | _ => none
end
section
/-! One instruction, and what a method answers. rc: the tables that nobody writes (and the law's script): lengths and numbers. c: what a call answers. -/
def jx_step (rc : Nat → Nat × (Nat → Int32)) (df : Nat → List Value) (c : Nat → List Value → jxH → jxR) (K : jxS → jxR) (r : jxRow) (i : Nat) (ls : List (Nat × Value)) (st : List Value) (h : jxH) : jxR :=
  match r.ins with
  | .iconst _ => K (i + 1, ls, .int r.v :: st, h)
  | .bipush _ => K (i + 1, ls, .int r.v :: st, h)
  | .sipush _ => K (i + 1, ls, .int r.v :: st, h)
  | .ldc _ => K (i + 1, ls, .int r.v :: st, h)
  | .ldc_w _ => K (i + 1, ls, .int r.v :: st, h)
  | .lconst _ => K (i + 1, ls, .long r.w :: st, h)
  | .ldc2_w _ => K (i + 1, ls, .long r.w :: st, h)
  | .aconst_null => K (i + 1, ls, .null :: st, h)
  | .iload _ => jx_lI ls r.x fun a => K (i + 1, ls, .int a :: st, h)
  | .iload_n _ => jx_lI ls r.x fun a => K (i + 1, ls, .int a :: st, h)
  | .lload _ => jx_lL ls r.x fun a => K (i + 1, ls, .long a :: st, h)
  | .lload_n _ => jx_lL ls r.x fun a => K (i + 1, ls, .long a :: st, h)
  | .aload _ => jx_lA ls r.x fun a => K (i + 1, ls, a :: st, h)
  | .aload_n _ => jx_lA ls r.x fun a => K (i + 1, ls, a :: st, h)
  | .istore _ => jx_1 st fun a t => K (i + 1, jx_st1 ls r.x (.int a), t, h)
  | .istore_n _ => jx_1 st fun a t => K (i + 1, jx_st1 ls r.x (.int a), t, h)
  | .lstore _ => jx_1L st fun a t => K (i + 1, jx_st2 ls r.x (.long a), t, h)
  | .lstore_n _ => jx_1L st fun a t => K (i + 1, jx_st2 ls r.x (.long a), t, h)
  | .astore _ => jx_pA st fun a t => K (i + 1, jx_st1 ls r.x a, t, h)
  | .astore_n _ => jx_pA st fun a t => K (i + 1, jx_st1 ls r.x a, t, h)
  | .iinc _ _ => jx_lI ls r.x fun a => K (i + 1, jx_st1 ls r.x (.int (a + r.v)), st, h)
  | .iadd => jx_2 st fun a b t => K (i + 1, ls, .int (a + b) :: t, h)
  | .isub => jx_2 st fun a b t => K (i + 1, ls, .int (a - b) :: t, h)
  | .imul => jx_2 st fun a b t => K (i + 1, ls, .int (a * b) :: t, h)
  | .iand => jx_2 st fun a b t => K (i + 1, ls, .int (a &&& b) :: t, h)
  | .ior => jx_2 st fun a b t => K (i + 1, ls, .int (a ||| b) :: t, h)
  | .ixor => jx_2 st fun a b t => K (i + 1, ls, .int (a ^^^ b) :: t, h)
  | .idiv => jx_2 st fun a b t => if b = 0 then none else K (i + 1, ls, .int (a / b) :: t, h)
  | .irem => jx_2 st fun a b t => if b = 0 then none else K (i + 1, ls, .int (a - a / b * b) :: t, h)
  | .ishl => jx_2 st fun a b t => K (i + 1, ls, .int (a <<< (b &&& 31)) :: t, h)
  | .ishr => jx_2 st fun a b t => K (i + 1, ls, .int (a >>> (b &&& 31)) :: t, h)
  | .iushr => jx_2 st fun a b t => K (i + 1, ls, .int ((a.toUInt32 >>> (b.toUInt32 &&& Int32.toUInt32 31)).toInt32) :: t, h)
  | .ineg => jx_1 st fun a t => K (i + 1, ls, .int (-a) :: t, h)
  | .ladd => jx_2L st fun a b t => K (i + 1, ls, .long (a + b) :: t, h)
  | .lsub => jx_2L st fun a b t => K (i + 1, ls, .long (a - b) :: t, h)
  | .lmul => jx_2L st fun a b t => K (i + 1, ls, .long (a * b) :: t, h)
  | .land => jx_2L st fun a b t => K (i + 1, ls, .long (a &&& b) :: t, h)
  | .lor => jx_2L st fun a b t => K (i + 1, ls, .long (a ||| b) :: t, h)
  | .lxor => jx_2L st fun a b t => K (i + 1, ls, .long (a ^^^ b) :: t, h)
  | .ldiv => jx_2L st fun a b t => if b = 0 then none else K (i + 1, ls, .long (a / b) :: t, h)
  | .lrem => jx_2L st fun a b t => if b = 0 then none else K (i + 1, ls, .long (a - a / b * b) :: t, h)
  | .lneg => jx_1L st fun a t => K (i + 1, ls, .long (-a) :: t, h)
  | .lshl => jx_LI st fun a b t => K (i + 1, ls, .long (a <<< (b.toInt64 &&& 63)) :: t, h)
  | .lshr => jx_LI st fun a b t => K (i + 1, ls, .long (a >>> (b.toInt64 &&& 63)) :: t, h)
  | .lcmp => jx_2L st fun a b t => K (i + 1, ls, .int (lg_cmp a b) :: t, h)
  | .i2l => jx_1 st fun a t => K (i + 1, ls, .long a.toInt64 :: t, h)
  | .l2i => jx_1L st fun a t => K (i + 1, ls, .int a.toInt32 :: t, h)
  | .i2b => jx_1 st fun a t => K (i + 1, ls, .int a.toInt8.toInt32 :: t, h)
  | .i2s => jx_1 st fun a t => K (i + 1, ls, .int a.toInt16.toInt32 :: t, h)
  | .dup => jx_dup st fun a t => K (i + 1, ls, a :: a :: t, h)
  | .dup2 => jx_dup2 st fun p t => K (i + 1, ls, p ++ (p ++ t), h)
  | .pop => jx_1 st fun _ t => K (i + 1, ls, t, h)
  | .ifCond .eq _ => jx_1 st fun a t => if a = 0 then K (r.x, ls, t, h) else K (i + 1, ls, t, h)
  | .ifCond .ne _ => jx_1 st fun a t => if a = 0 then K (i + 1, ls, t, h) else K (r.x, ls, t, h)
  | .ifCond .lt _ => jx_1 st fun a t => if a < 0 then K (r.x, ls, t, h) else K (i + 1, ls, t, h)
  | .ifCond .ge _ => jx_1 st fun a t => if 0 ≤ a then K (r.x, ls, t, h) else K (i + 1, ls, t, h)
  | .ifCond .gt _ => jx_1 st fun a t => if 0 < a then K (r.x, ls, t, h) else K (i + 1, ls, t, h)
  | .ifCond .le _ => jx_1 st fun a t => if a ≤ 0 then K (r.x, ls, t, h) else K (i + 1, ls, t, h)
  | .if_icmp .eq _ => jx_2 st fun a b t => if a = b then K (r.x, ls, t, h) else K (i + 1, ls, t, h)
  | .if_icmp .ne _ => jx_2 st fun a b t => if a = b then K (i + 1, ls, t, h) else K (r.x, ls, t, h)
  | .if_icmp .lt _ => jx_2 st fun a b t => if a < b then K (r.x, ls, t, h) else K (i + 1, ls, t, h)
  | .if_icmp .ge _ => jx_2 st fun a b t => if b ≤ a then K (r.x, ls, t, h) else K (i + 1, ls, t, h)
  | .if_icmp .gt _ => jx_2 st fun a b t => if b < a then K (r.x, ls, t, h) else K (i + 1, ls, t, h)
  | .if_icmp .le _ => jx_2 st fun a b t => if a ≤ b then K (r.x, ls, t, h) else K (i + 1, ls, t, h)
  | .ifnull _ => jx_nl st (fun t => K (i + 1, ls, t, h)) (fun t => K (r.x, ls, t, h))
  | .ifnonnull _ => jx_nl st (fun t => K (r.x, ls, t, h)) (fun t => K (i + 1, ls, t, h))
  | .goto _ => K (r.x, ls, st, h)
  | .tableswitch _ _ _ _ => jx_1 st fun a t => jx_sw a r.v r.x (fun k => K (k, ls, t, h)) r.ts
  | .getfield _ => jx_r st fun a t => match r.z with
    | 0 => (jx_gI (jx_at h a) r.x r.y).bind fun v => K (i + 1, ls, .int v :: t, h)
    | 1 => (jx_gL (jx_at h a) r.x r.y).bind fun v => K (i + 1, ls, .long v :: t, h)
    | _ => (jx_gR (jx_at h a) r.x r.y).bind fun v => K (i + 1, ls, .ref v :: t, h)
  | .putfield _ => jx_pv r.z st fun v a t => (jx_pF (jx_at h a) r.x r.y v).bind fun e => K (i + 1, ls, t, jx_set h a e)
  | .getstatic _ => K (i + 1, ls, .retAddr r.x :: st, h)
  | .iaload => jx_ir st (fun k a t => (jx_aI (jx_at h a) 0 k).bind fun v => K (i + 1, ls, .int v :: t, h)) (fun k a t => if jx_out k (rc a).1 = true then none else K (i + 1, ls, .int ((rc a).2 k.toNatClampNeg) :: t, h))
  | .baload => jx_ia st fun k a t => match r.z with
    | 2 => (jx_aI (jx_at h a) 2 k).bind fun v => K (i + 1, ls, .int v.toInt8.toInt32 :: t, h)
    | _ => (jx_aI (jx_at h a) 3 k).bind fun v => K (i + 1, ls, .int v :: t, h)
  | .laload => jx_ia st fun k a t => (jx_aL (jx_at h a) k).bind fun v => K (i + 1, ls, .long v :: t, h)
  | .aaload => jx_ia st fun k a t => (jx_aQ (jx_at h a) r.z k).bind fun v => jx_ov v fun w => K (i + 1, ls, w :: t, h)
  | .iastore => jx_vs st fun v k a t => (jx_sI (jx_at h a) 0 k v).bind fun e => K (i + 1, ls, t, jx_set h a e)
  | .bastore => jx_vs st fun v k a t => match r.z with
    | 2 => (jx_sI (jx_at h a) 2 k v.toInt8.toInt32).bind fun e => K (i + 1, ls, t, jx_set h a e)
    | _ => if jx_bool v = true then (jx_sI (jx_at h a) 3 k v).bind fun e => K (i + 1, ls, t, jx_set h a e) else none
  | .lastore => jx_vsL st fun v k a t => (jx_sL (jx_at h a) k v).bind fun e => K (i + 1, ls, t, jx_set h a e)
  | .aastore => jx_vsQ st (fun v k a t => if jx_is (jx_at h v) r.x = true then (jx_sQ (jx_at h a) r.z k (some v)).bind fun e => K (i + 1, ls, t, jx_set h a e) else none) (fun k a t => (jx_sQ (jx_at h a) r.z k none).bind fun e => K (i + 1, ls, t, jx_set h a e))
  | .arraylength => jx_rr st (fun a t => (jx_len (jx_at h a)).bind fun n => K (i + 1, ls, .int (Int32.ofNat n) :: t, h)) (fun a t => K (i + 1, ls, .int (Int32.ofNat (rc a).1) :: t, h))
  | .new _ => K (i + 1, ls, .ref h.1 :: st, jx_new h r.y (.inl (r.x, df r.x)))
  | .newarray _ => jx_1 st fun n t => if n < 0 ∨ 5000 < n then none else K (i + 1, ls, .ref h.1 :: t, jx_new h n.toNatClampNeg (jx_arr r.x n.toNatClampNeg))
  | .anewarray _ => jx_1 st fun n t => if n < 0 ∨ 5000 < n then none else K (i + 1, ls, .ref h.1 :: t, jx_new h n.toNatClampNeg (jxQ r.x n.toNatClampNeg (fun _ => none)))
  | .multianewarray _ _ => jx_2 st fun n k t => if n < 0 ∨ 5000 < n ∨ k < 0 ∨ 5000 < k then none else K (i + 1, ls, .ref h.1 :: t, jx_inner h n.toNatClampNeg k.toNatClampNeg)
  | .invokespecial _ => match r.z with
    | 9 => jx_r st fun _ t => if jx_short t = true then K (i + 1, ls, t, h) else none
    | _ => jx_call (r.y + 1) 0 st (fun as => c r.x as h) fun st' h' => K (i + 1, ls, st', h')
  | .invokestatic _ => match r.z with
    | 9 => jx_cps st fun a sp b dp n t => if jx_short t = true then (jx_cp (jx_at h a) (jx_at h b) r.x sp dp n).bind fun e => K (i + 1, ls, t, jx_set h b e) else none
    | _ => jx_call r.y r.z st (fun as => c r.x as h) fun st' h' => K (i + 1, ls, st', h')
  | .invokevirtual _ => jx_call (r.y + 1) r.z st (fun as => c r.x as h) fun st' h' => K (i + 1, ls, st', h')
  | .ireturn => jx_ri r.z st h
  | .lreturn => jx_rl st h
  | .areturn => jx_ra st h
  | .return_ => jx_rv st h
  | _ => none
def jx_one (rc : Nat → Nat × (Nat → Int32)) (df : Nat → List Value) (c : Nat → List Value → jxH → jxR) (code : List jxRow) (K : jxS → jxR) (s : jxS) : jxR := match code[s.1]? with
  | some r => jx_step rc df c K r s.1 s.2.1 s.2.2.1 s.2.2.2
  | none => none
/-- the locals that live at a head, for every way that comes there -/
def jx_hd (code : List jxRow) (i : Nat) : Option (List Nat) := match code[i]? with
  | some r => r.lv
  | none => none
def jx_norm (code : List jxRow) (s : jxS) : jxS := match jx_hd code s.1 with
  | some L => (s.1, jx_pick s.2.1 L, s.2.2)
  | none => s
def jx_loop (rc : Nat → Nat × (Nat → Int32)) (df : Nat → List Value) (c : Nat → List Value → jxH → jxR) (code : List jxRow) : Nat → jxS → jxR
  | 0, _ => none
  | n + 1, s => jx_one rc df c code (fun s' => jx_loop rc df c code n (jx_norm code s')) s
/-- on till the next head -/
def jx_run (rc : Nat → Nat × (Nat → Int32)) (df : Nat → List Value) (c : Nat → List Value → jxH → jxR) (code : List jxRow) (K : jxS → jxR) : Nat → jxS → jxR
  | 0, s => K s
  | n + 1, s => jx_one rc df c code (fun s' => match jx_hd code s'.1 with
    | some L => K (s'.1, jx_pick s'.2.1 L, s'.2.2)
    | none => jx_run rc df c code K n s') s
end
section
/-! What an instruction does behind it: one state, or an answer; the limit over all numbers of instructions -/
theorem jx_1_some {st : List Value} {f : Int32 → List Value → jxR} {res} (h : jx_1 st f = some res) : ∃ a t, st = .int a :: t ∧ f a t = some res := by
  unfold jx_1 at h
  split at h
  · exact ⟨_, _, rfl, h⟩
  · cases h
theorem jx_2_some {st : List Value} {f : Int32 → Int32 → List Value → jxR} {res} (h : jx_2 st f = some res) : ∃ a b t, st = .int b :: .int a :: t ∧ f a b t = some res := by
  unfold jx_2 at h
  split at h
  · exact ⟨_, _, _, rfl, h⟩
  · cases h
theorem jx_1L_some {st : List Value} {f : Int64 → List Value → jxR} {res} (h : jx_1L st f = some res) : ∃ a t, st = .long a :: t ∧ f a t = some res := by
  unfold jx_1L at h
  split at h
  · exact ⟨_, _, rfl, h⟩
  · cases h
theorem jx_2L_some {st : List Value} {f : Int64 → Int64 → List Value → jxR} {res} (h : jx_2L st f = some res) : ∃ a b t, st = .long b :: .long a :: t ∧ f a b t = some res := by
  unfold jx_2L at h
  split at h
  · exact ⟨_, _, _, rfl, h⟩
  · cases h
theorem jx_LI_some {st : List Value} {f : Int64 → Int32 → List Value → jxR} {res} (h : jx_LI st f = some res) : ∃ a b t, st = .int b :: .long a :: t ∧ f a b t = some res := by
  unfold jx_LI at h
  split at h
  · exact ⟨_, _, _, rfl, h⟩
  · cases h
theorem jx_r_some {st : List Value} {f : Nat → List Value → jxR} {res} (h : jx_r st f = some res) : ∃ a t, st = .ref a :: t ∧ f a t = some res := by
  unfold jx_r at h
  split at h
  · exact ⟨_, _, rfl, h⟩
  · cases h
theorem jx_cV_some {r : jxR} {f : jxH → jxR} {res} (h : jx_cV r f = some res) : ∃ h', r = some (none, h') ∧ f h' = some res := by
  unfold jx_cV at h
  split at h
  · exact ⟨_, rfl, h⟩
  · cases h
theorem jx_cI_some {r : jxR} {f : Int32 → jxH → jxR} {res} (h : jx_cI r f = some res) : ∃ x h', r = some (some (.int x), h') ∧ f x h' = some res := by
  unfold jx_cI at h
  split at h
  · exact ⟨_, _, rfl, h⟩
  · cases h
theorem jx_cL_some {r : jxR} {f : Int64 → jxH → jxR} {res} (h : jx_cL r f = some res) : ∃ x h', r = some (some (.long x), h') ∧ f x h' = some res := by
  unfold jx_cL at h
  split at h
  · exact ⟨_, _, rfl, h⟩
  · cases h
theorem jx_cR_some {r : jxR} {f : Option Nat → jxH → jxR} {res} (h : jx_cR r f = some res) : ∃ x h', r = some (some (va_rf x), h') ∧ f x h' = some res := by
  unfold jx_cR at h
  split at h
  · exact ⟨some _, _, rfl, h⟩
  · exact ⟨none, _, rfl, h⟩
  · cases h
theorem jx_bind_some {α : Type} {o : Option α} {f : α → jxR} {res} (h : o.bind f = some res) : ∃ v, o = some v ∧ f v = some res := by
  cases o with
  | none => cases h
  | some v => exact ⟨v, rfl, h⟩
theorem jx_if_some {c : Prop} [Decidable c] {a b : jxR} {res} (h : (if c then a else b) = some res) : (c ∧ a = some res) ∨ (¬ c ∧ b = some res) := by
  by_cases hc : c
  · exact Or.inl ⟨hc, by rw [if_pos hc] at h; exact h⟩
  · exact Or.inr ⟨hc, by rw [if_neg hc] at h; exact h⟩
theorem jx_sw_some {x : Int32} {d : Nat} {K : Nat → jxR} {res} : ∀ (ts : List Nat) (lo : Int32), jx_sw x lo d K ts = some res → ∃ k, K k = some res ∧ ∀ K' : Nat → jxR, K' k = some res → jx_sw x lo d K' ts = some res
  | [], lo, h => ⟨d, h, fun K' h' => h'⟩
  | t :: ts, lo, h => by
    unfold jx_sw at h
    rcases jx_if_some h with ⟨hc, h⟩ | ⟨hc, h⟩
    · exact ⟨t, h, fun K' h' => by unfold jx_sw; rw [if_pos hc]; exact h'⟩
    · obtain ⟨k, h1, h2⟩ := jx_sw_some ts (lo + 1) h
      exact ⟨k, h1, fun K' h' => by unfold jx_sw; rw [if_neg hc]; exact h2 K' h'⟩
theorem jx_lI_some {ls : List (Nat × Value)} {x : Nat} {f : Int32 → jxR} {res} (h : jx_lI ls x f = some res) : ∃ a, jx_ld ls x = some (.int a) ∧ f a = some res := by
  unfold jx_lI at h
  split at h
  · rename_i e; exact ⟨_, e, h⟩
  · cases h
theorem jx_lL_some {ls : List (Nat × Value)} {x : Nat} {f : Int64 → jxR} {res} (h : jx_lL ls x f = some res) : ∃ a, jx_ld ls x = some (.long a) ∧ f a = some res := by
  unfold jx_lL at h
  split at h
  · rename_i e; exact ⟨_, e, h⟩
  · cases h
theorem jx_lA_some {ls : List (Nat × Value)} {x : Nat} {f : Value → jxR} {res} (h : jx_lA ls x f = some res) : ∃ a, jx_ld ls x = some a ∧ ((∃ k, a = .ref k) ∨ (∃ k, a = .retAddr k) ∨ a = .null) ∧ f a = some res := by
  unfold jx_lA at h
  split at h
  · rename_i e; exact ⟨_, e, Or.inl ⟨_, rfl⟩, h⟩
  · rename_i e; exact ⟨_, e, Or.inr (Or.inl ⟨_, rfl⟩), h⟩
  · rename_i e; exact ⟨_, e, Or.inr (Or.inr rfl), h⟩
  · cases h
theorem jx_pA_some {st : List Value} {f : Value → List Value → jxR} {res} (h : jx_pA st f = some res) : ∃ a t, st = a :: t ∧ ((∃ k, a = .ref k) ∨ a = .null) ∧ f a t = some res := by
  unfold jx_pA at h
  split at h
  · exact ⟨_, _, rfl, Or.inl ⟨_, rfl⟩, h⟩
  · exact ⟨_, _, rfl, Or.inr rfl, h⟩
  · cases h
theorem jx_dup_some {st : List Value} {f : Value → List Value → jxR} {res} (h : jx_dup st f = some res) : ∃ a t, st = a :: t ∧ ((∃ k, a = .int k) ∨ ∃ k, a = .ref k) ∧ f a t = some res := by
  unfold jx_dup at h
  split at h
  · exact ⟨_, _, rfl, Or.inl ⟨_, rfl⟩, h⟩
  · exact ⟨_, _, rfl, Or.inr ⟨_, rfl⟩, h⟩
  · cases h
theorem jx_dup2_some {st : List Value} {f : List Value → List Value → jxR} {res} (h : jx_dup2 st f = some res) : ∃ p t, st = p ++ t ∧ ((∃ a b, p = [.int a, .int b]) ∨ (∃ a b, p = [.int a, .ref b]) ∨ ∃ a, p = [.long a]) ∧ f p t = some res := by
  unfold jx_dup2 at h
  split at h
  · exact ⟨_, _, rfl, Or.inl ⟨_, _, rfl⟩, h⟩
  · exact ⟨_, _, rfl, Or.inr (Or.inl ⟨_, _, rfl⟩), h⟩
  · exact ⟨_, _, rfl, Or.inr (Or.inr ⟨_, rfl⟩), h⟩
  · cases h
theorem jx_nl_some {st : List Value} {f g : List Value → jxR} {res} (h : jx_nl st f g = some res) : (∃ a t, st = .ref a :: t ∧ f t = some res) ∨ ∃ t, st = .null :: t ∧ g t = some res := by
  unfold jx_nl at h
  split at h
  · exact Or.inl ⟨_, _, rfl, h⟩
  · exact Or.inr ⟨_, rfl, h⟩
  · cases h
theorem jx_pv_some {z : Nat} {st : List Value} {f : Value → Nat → List Value → jxR} {res} (h : jx_pv z st f = some res) : ∃ v a t, st = v :: .ref a :: t ∧ ((z = 0 ∧ ∃ k, v = .int k) ∨ (z = 1 ∧ ∃ k, v = .long k) ∨ (z = 2 ∧ ∃ k, v = .ref k) ∨ ((z ≠ 0 ∧ z ≠ 1 ∧ z ≠ 2) ∧ ∃ k, jx_bool k = true ∧ v = .int k)) ∧ f v a t = some res := by
  unfold jx_pv at h
  split at h
  · split at h
    · exact ⟨_, _, _, rfl, Or.inl ⟨rfl, _, rfl⟩, h⟩
    · cases h
  · split at h
    · exact ⟨_, _, _, rfl, Or.inr (Or.inl ⟨rfl, _, rfl⟩), h⟩
    · cases h
  · split at h
    · exact ⟨_, _, _, rfl, Or.inr (Or.inr (Or.inl ⟨rfl, _, rfl⟩)), h⟩
    · cases h
  · rename_i h0 h1 h2
    split at h
    · rcases jx_if_some h with ⟨hc, h⟩ | ⟨_, h⟩
      · exact ⟨_, _, _, rfl, Or.inr (Or.inr (Or.inr ⟨⟨h0, h1, h2⟩, _, hc, rfl⟩)), h⟩
      · cases h
    · cases h
theorem jx_ia_some {st : List Value} {f : Int32 → Nat → List Value → jxR} {res} (h : jx_ia st f = some res) : ∃ k a t, st = .int k :: .ref a :: t ∧ f k a t = some res := by
  unfold jx_ia at h
  split at h
  · exact ⟨_, _, _, rfl, h⟩
  · cases h
theorem jx_ir_some {st : List Value} {f g : Int32 → Nat → List Value → jxR} {res} (h : jx_ir st f g = some res) : (∃ k a t, st = .int k :: .ref a :: t ∧ f k a t = some res) ∨ ∃ k a t, st = .int k :: .retAddr a :: t ∧ g k a t = some res := by
  unfold jx_ir at h
  split at h
  · exact Or.inl ⟨_, _, _, rfl, h⟩
  · exact Or.inr ⟨_, _, _, rfl, h⟩
  · cases h
theorem jx_rr_some {st : List Value} {f g : Nat → List Value → jxR} {res} (h : jx_rr st f g = some res) : (∃ a t, st = .ref a :: t ∧ f a t = some res) ∨ ∃ a t, st = .retAddr a :: t ∧ g a t = some res := by
  unfold jx_rr at h
  split at h
  · exact Or.inl ⟨_, _, rfl, h⟩
  · exact Or.inr ⟨_, _, rfl, h⟩
  · cases h
theorem jx_vs_some {st : List Value} {f : Int32 → Int32 → Nat → List Value → jxR} {res} (h : jx_vs st f = some res) : ∃ v k a t, st = .int v :: .int k :: .ref a :: t ∧ f v k a t = some res := by
  unfold jx_vs at h
  split at h
  · exact ⟨_, _, _, _, rfl, h⟩
  · cases h
theorem jx_vsL_some {st : List Value} {f : Int64 → Int32 → Nat → List Value → jxR} {res} (h : jx_vsL st f = some res) : ∃ v k a t, st = .long v :: .int k :: .ref a :: t ∧ f v k a t = some res := by
  unfold jx_vsL at h
  split at h
  · exact ⟨_, _, _, _, rfl, h⟩
  · cases h
theorem jx_vsQ_some {st : List Value} {f : Nat → Int32 → Nat → List Value → jxR} {g : Int32 → Nat → List Value → jxR} {res} (h : jx_vsQ st f g = some res) : (∃ v k a t, st = .ref v :: .int k :: .ref a :: t ∧ f v k a t = some res) ∨ ∃ k a t, st = .null :: .int k :: .ref a :: t ∧ g k a t = some res := by
  unfold jx_vsQ at h
  split at h
  · exact Or.inl ⟨_, _, _, _, rfl, h⟩
  · exact Or.inr ⟨_, _, _, rfl, h⟩
  · cases h
theorem jx_cps_some {st : List Value} {f : Nat → Int32 → Nat → Int32 → Int32 → List Value → jxR} {res} (h : jx_cps st f = some res) : ∃ a sp b dp n t, st = .int n :: .int dp :: .ref b :: .int sp :: .ref a :: t ∧ f a sp b dp n t = some res := by
  unfold jx_cps at h
  split at h
  · exact ⟨_, _, _, _, _, _, rfl, h⟩
  · cases h
theorem jx_ov_some {v : Option Nat} {f : Value → jxR} {res} (h : jx_ov v f = some res) : f (va_rf v) = some res := by
  cases v <;> exact h
theorem jx_ov_of {v : Option Nat} {f : Value → jxR} {res} (h : f (va_rf v) = some res) : jx_ov v f = some res := by
  cases v <;> exact h
theorem jx_ret_some {z : Nat} {r : jxR} {f : List Value → jxH → jxR} {res} (h : jx_ret z r f = some res) : ∃ v h', r = some (v, h') ∧ f v.toList h' = some res ∧ ((z = 0 ∧ v = none) ∨ (z = 1 ∧ ∃ k, v = some (.int k)) ∨ (z = 2 ∧ ∃ k, v = some (.long k)) ∨ (3 ≤ z ∧ ∃ k, v = some (va_rf k))) ∧ ∀ f' : List Value → jxH → jxR, f' v.toList h' = some res → jx_ret z r f' = some res := by
  rcases z with _ | _ | _ | z
  · obtain ⟨h', rfl, h⟩ := jx_cV_some h
    exact ⟨none, h', rfl, h, Or.inl ⟨rfl, rfl⟩, fun f' h => h⟩
  · obtain ⟨x, h', rfl, h⟩ := jx_cI_some h
    exact ⟨some (.int x), h', rfl, h, Or.inr (Or.inl ⟨rfl, _, rfl⟩), fun f' h => h⟩
  · obtain ⟨x, h', rfl, h⟩ := jx_cL_some h
    exact ⟨some (.long x), h', rfl, h, Or.inr (Or.inr (Or.inl ⟨rfl, _, rfl⟩)), fun f' h => h⟩
  · have h : (jx_cR r fun v h => jx_ov v fun w => f [w] h) = some res := h
    obtain ⟨x, h', rfl, hq⟩ := jx_cR_some h
    refine ⟨some (va_rf x), h', rfl, jx_ov_some hq, Or.inr (Or.inr (Or.inr ⟨by omega, _, rfl⟩)), fun f' h => ?_⟩
    cases x <;> exact h
theorem jx_pop_some : ∀ {y : Nat} {acc st : List Value} {q}, jx_pop y acc st = some q → ∃ as : List Value, as.length = y ∧ st = as ++ q.2 ∧ q.1 = as.reverse ++ acc
  | 0, acc, st, q, h => by
    cases h
    exact ⟨[], rfl, rfl, rfl⟩
  | y + 1, acc, [], q, h => by cases h
  | y + 1, acc, v :: st, q, h => by
    obtain ⟨as, h1, h2, h3⟩ := jx_pop_some (y := y) h
    exact ⟨v :: as, by simp [h1], by rw [h2]; rfl, by rw [h3]; simp⟩
theorem jx_call_some {y z : Nat} {st : List Value} {c : List Value → jxR} {f : List Value → jxH → jxR} {res} (h : jx_call y z st c f = some res) : ∃ (as rest : List Value) (v : Option Value) (h' : jxH), as.length = y ∧ st = as.reverse ++ rest ∧ jx_short rest = true ∧ c as = some (v, h') ∧ f (v.toList ++ rest) h' = some res ∧ ((z = 0 ∧ v = none) ∨ (z = 1 ∧ ∃ k, v = some (.int k)) ∨ (z = 2 ∧ ∃ k, v = some (.long k)) ∨ (3 ≤ z ∧ ∃ k, v = some (va_rf k))) ∧ ∀ f' : List Value → jxH → jxR, f' (v.toList ++ rest) h' = some res → jx_call y z st c f' = some res := by
  unfold jx_call at h ⊢
  obtain ⟨q, hq, h⟩ := jx_bind_some h
  rcases jx_if_some h with ⟨hs, h⟩ | ⟨_, h⟩
  · obtain ⟨as, h1, h2, h3⟩ := jx_pop_some hq
    obtain ⟨v, h', g1, g2, g3, g4⟩ := jx_ret_some h
    refine ⟨q.1, q.2, v, h', by rw [h3]; simp [h1], by rw [h2, h3]; simp, hs, g1, g2, g3, fun f' hf => ?_⟩
    rw [hq]
    show (if jx_short q.2 = true then _ else _) = _
    rw [if_pos hs]
    exact g4 _ hf
  · cases h
/-- heaps grow -/
def jx_le (h h' : jxH) : Prop := h.1 ≤ h'.1 ∧ h.2.1 ≤ h'.2.1
theorem jx_le_rf (h : jxH) : jx_le h h := ⟨Nat.le_refl _, Nat.le_refl _⟩
theorem jx_le_tr {a b c : jxH} (h : jx_le a b) (h' : jx_le b c) : jx_le a c := ⟨Nat.le_trans h.1 h'.1, Nat.le_trans h.2 h'.2⟩
def jx_grows (c : Nat → List Value → jxH → jxR) : Prop := ∀ k a h r h', c k a h = some (r, h') → jx_le h h'
section TAIL
variable {rc : Nat → Nat × (Nat → Int32)} {df : Nat → List Value} {c : Nat → List Value → jxH → jxR} {code : List jxRow}
def jx_T (F : (jxS → jxR) → jxR) (K : jxS → jxR) (h : jxH) (res : Option Value × jxH) : Prop :=
  (∃ s' : jxS, K s' = some res ∧ jx_le h s'.2.2.2 ∧ ∀ K' : jxS → jxR, K' s' = some res → F K' = some res) ∨ (res.2 = h ∧ ∀ K' : jxS → jxR, F K' = some res)
set_option maxHeartbeats 4000000 in
theorem jx_tail (hc : jx_grows c) {K : jxS → jxR} {r : jxRow} {i : Nat} {ls : List (Nat × Value)} {st : List Value} {h : jxH} {res} (hh : jx_step rc df c K r i ls st h = some res) :
    jx_T (fun K' => jx_step rc df c K' r i ls st h) K h res := by
  obtain ⟨pc, ins, len, ⟨x, y, z⟩, v, w, ts, lv⟩ := r
  cases ins
  all_goals first
    | (cases (show (none : jxR) = some res from hh); done)
    | exact Or.inl ⟨_, hh, jx_le_rf _, fun K' hk => hk⟩
    | (obtain ⟨a, b, t, rfl, hh⟩ := jx_2_some hh; exact Or.inl ⟨_, hh, jx_le_rf _, fun K' hk => hk⟩)
    | (obtain ⟨a, t, rfl, hh⟩ := jx_1_some hh; exact Or.inl ⟨_, hh, jx_le_rf _, fun K' hk => hk⟩)
    | (obtain ⟨a, b, t, rfl, hh⟩ := jx_2L_some hh; exact Or.inl ⟨_, hh, jx_le_rf _, fun K' hk => hk⟩)
    | (obtain ⟨a, t, rfl, hh⟩ := jx_1L_some hh; exact Or.inl ⟨_, hh, jx_le_rf _, fun K' hk => hk⟩)
    | (obtain ⟨a, b, t, rfl, hh⟩ := jx_LI_some hh; exact Or.inl ⟨_, hh, jx_le_rf _, fun K' hk => hk⟩)
    | (obtain ⟨a, e, hh⟩ := jx_lI_some hh; exact Or.inl ⟨_, hh, jx_le_rf _, fun K' hk => by show jx_lI _ _ _ = _; unfold jx_lI; rw [e]; exact hk⟩)
    | (obtain ⟨a, e, hh⟩ := jx_lL_some hh; exact Or.inl ⟨_, hh, jx_le_rf _, fun K' hk => by show jx_lL _ _ _ = _; unfold jx_lL; rw [e]; exact hk⟩)
    | (rcases jx_nl_some hh with ⟨a, t, rfl, hh⟩ | ⟨t, rfl, hh⟩ <;> exact Or.inl ⟨_, hh, jx_le_rf _, fun K' hk => hk⟩)
    | (obtain ⟨a, b, t, rfl, hh⟩ := jx_2_some hh; rcases jx_if_some hh with ⟨hq, hh⟩ | ⟨hq, hh⟩; · cases hh
       exact Or.inl ⟨_, hh, jx_le_rf _, fun K' hk => by show (if _ then _ else _) = _; rw [if_neg hq]; exact hk⟩)
    | (obtain ⟨a, b, t, rfl, hh⟩ := jx_2L_some hh; rcases jx_if_some hh with ⟨hq, hh⟩ | ⟨hq, hh⟩; · cases hh
       exact Or.inl ⟨_, hh, jx_le_rf _, fun K' hk => by show (if _ then _ else _) = _; rw [if_neg hq]; exact hk⟩)
    | skip
  case aload =>
    have hq : jx_lA ls x (fun a => K (i + 1, ls, a :: st, h)) = some res := hh
    obtain ⟨a, e, ha, hh⟩ := jx_lA_some hq
    rcases ha with ⟨k, rfl⟩ | ⟨k, rfl⟩ | rfl
    · exact Or.inl ⟨_, hh, jx_le_rf _, fun K' hk => by show jx_lA ls x (fun a => K' (i + 1, ls, a :: st, h)) = _; unfold jx_lA; rw [e]; exact hk⟩
    · exact Or.inl ⟨_, hh, jx_le_rf _, fun K' hk => by show jx_lA ls x (fun a => K' (i + 1, ls, a :: st, h)) = _; unfold jx_lA; rw [e]; exact hk⟩
    · exact Or.inl ⟨_, hh, jx_le_rf _, fun K' hk => by show jx_lA ls x (fun a => K' (i + 1, ls, a :: st, h)) = _; unfold jx_lA; rw [e]; exact hk⟩
  case aload_n =>
    have hq : jx_lA ls x (fun a => K (i + 1, ls, a :: st, h)) = some res := hh
    obtain ⟨a, e, ha, hh⟩ := jx_lA_some hq
    rcases ha with ⟨k, rfl⟩ | ⟨k, rfl⟩ | rfl
    · exact Or.inl ⟨_, hh, jx_le_rf _, fun K' hk => by show jx_lA ls x (fun a => K' (i + 1, ls, a :: st, h)) = _; unfold jx_lA; rw [e]; exact hk⟩
    · exact Or.inl ⟨_, hh, jx_le_rf _, fun K' hk => by show jx_lA ls x (fun a => K' (i + 1, ls, a :: st, h)) = _; unfold jx_lA; rw [e]; exact hk⟩
    · exact Or.inl ⟨_, hh, jx_le_rf _, fun K' hk => by show jx_lA ls x (fun a => K' (i + 1, ls, a :: st, h)) = _; unfold jx_lA; rw [e]; exact hk⟩
  case astore =>
    have hq : jx_pA st (fun a t => K (i + 1, jx_st1 ls x a, t, h)) = some res := hh
    obtain ⟨a, t, rfl, ha, hh⟩ := jx_pA_some hq
    rcases ha with ⟨k, rfl⟩ | rfl
    · exact Or.inl ⟨_, hh, jx_le_rf _, fun K' hk => hk⟩
    · exact Or.inl ⟨_, hh, jx_le_rf _, fun K' hk => hk⟩
  case astore_n =>
    have hq : jx_pA st (fun a t => K (i + 1, jx_st1 ls x a, t, h)) = some res := hh
    obtain ⟨a, t, rfl, ha, hh⟩ := jx_pA_some hq
    rcases ha with ⟨k, rfl⟩ | rfl
    · exact Or.inl ⟨_, hh, jx_le_rf _, fun K' hk => hk⟩
    · exact Or.inl ⟨_, hh, jx_le_rf _, fun K' hk => hk⟩
  case dup =>
    have hq : jx_dup st (fun a t => K (i + 1, ls, a :: a :: t, h)) = some res := hh
    obtain ⟨a, t, rfl, ha, hh⟩ := jx_dup_some hq
    rcases ha with ⟨k, rfl⟩ | ⟨k, rfl⟩
    · exact Or.inl ⟨_, hh, jx_le_rf _, fun K' hk => hk⟩
    · exact Or.inl ⟨_, hh, jx_le_rf _, fun K' hk => hk⟩
  case dup2 =>
    have hq : jx_dup2 st (fun p t => K (i + 1, ls, p ++ (p ++ t), h)) = some res := hh
    obtain ⟨p, t, rfl, ha, hh⟩ := jx_dup2_some hq
    rcases ha with ⟨a, b, rfl⟩ | ⟨a, b, rfl⟩ | ⟨a, rfl⟩
    · exact Or.inl ⟨_, hh, jx_le_rf _, fun K' hk => hk⟩
    · exact Or.inl ⟨_, hh, jx_le_rf _, fun K' hk => hk⟩
    · exact Or.inl ⟨_, hh, jx_le_rf _, fun K' hk => hk⟩
  case ifCond cnd off =>
    cases cnd <;> (obtain ⟨a, t, rfl, hh⟩ := jx_1_some hh
                   rcases jx_if_some hh with ⟨hq, hh⟩ | ⟨hq, hh⟩
                   · exact Or.inl ⟨_, hh, jx_le_rf _, fun K' hk => by show (if _ then _ else _) = _; rw [if_pos hq]; exact hk⟩
                   · exact Or.inl ⟨_, hh, jx_le_rf _, fun K' hk => by show (if _ then _ else _) = _; rw [if_neg hq]; exact hk⟩)
  case if_icmp cnd off =>
    cases cnd <;> (obtain ⟨a, b, t, rfl, hh⟩ := jx_2_some hh
                   rcases jx_if_some hh with ⟨hq, hh⟩ | ⟨hq, hh⟩
                   · exact Or.inl ⟨_, hh, jx_le_rf _, fun K' hk => by show (if _ then _ else _) = _; rw [if_pos hq]; exact hk⟩
                   · exact Or.inl ⟨_, hh, jx_le_rf _, fun K' hk => by show (if _ then _ else _) = _; rw [if_neg hq]; exact hk⟩)
  case tableswitch =>
    obtain ⟨a, t, rfl, hh⟩ := jx_1_some hh
    obtain ⟨k, h1, h2⟩ := jx_sw_some _ _ hh
    exact Or.inl ⟨_, h1, jx_le_rf _, fun K' hk => h2 (fun k => K' (k, ls, t, h)) hk⟩
  case getfield =>
    obtain ⟨a, t, rfl, hh⟩ := jx_r_some hh
    rcases z with _ | _ | z <;> (obtain ⟨q, hq, hh⟩ := jx_bind_some hh; exact Or.inl ⟨_, hh, jx_le_rf _, fun K' hk => by show Option.bind _ _ = _; rw [hq]; exact hk⟩)
  case putfield =>
    have hh0 : jx_pv z st (fun v a t => (jx_pF (jx_at h a) x y v).bind fun e => K (i + 1, ls, t, jx_set h a e)) = some res := hh
    clear hh
    obtain ⟨q, a, t, rfl, hz, hh⟩ := jx_pv_some hh0
    clear hh0
    obtain ⟨e, he, hb⟩ := jx_bind_some hh
    rcases hz with ⟨h0, k, rfl⟩ | ⟨h0, k, rfl⟩ | ⟨h0, k, rfl⟩ | ⟨h0, k, hk, rfl⟩
    · cases h0
      exact Or.inl ⟨_, hb, jx_le_rf _, fun K' hk => by show Option.bind _ _ = _; rw [he]; exact hk⟩
    · cases h0
      exact Or.inl ⟨_, hb, jx_le_rf _, fun K' hk => by show Option.bind _ _ = _; rw [he]; exact hk⟩
    · cases h0
      exact Or.inl ⟨_, hb, jx_le_rf _, fun K' hk => by show Option.bind _ _ = _; rw [he]; exact hk⟩
    · obtain ⟨z', rfl⟩ : ∃ z', z = z' + 3 := ⟨z - 3, by omega⟩
      exact Or.inl ⟨_, hb, jx_le_rf _, fun K' hk' => by show (if jx_bool k = true then Option.bind _ _ else _) = _; rw [if_pos hk, he]; exact hk'⟩
  case iaload =>
    rcases jx_ir_some hh with ⟨k, a, t, rfl, hh⟩ | ⟨k, a, t, rfl, hh⟩
    · obtain ⟨q, hq, hh⟩ := jx_bind_some hh
      exact Or.inl ⟨_, hh, jx_le_rf _, fun K' hk => by show Option.bind _ _ = _; rw [hq]; exact hk⟩
    · rcases jx_if_some hh with ⟨hq, hh⟩ | ⟨hq, hh⟩
      · cases hh
      · exact Or.inl ⟨_, hh, jx_le_rf _, fun K' hk => by show (if _ then _ else _) = _; rw [if_neg hq]; exact hk⟩
  case baload =>
    obtain ⟨k, a, t, rfl, hh⟩ := jx_ia_some hh
    rcases z with _ | _ | _ | z <;> (obtain ⟨q, hq, hh⟩ := jx_bind_some hh; exact Or.inl ⟨_, hh, jx_le_rf _, fun K' hk => by show Option.bind _ _ = _; rw [hq]; exact hk⟩)
  case laload =>
    obtain ⟨k, a, t, rfl, hh⟩ := jx_ia_some hh
    obtain ⟨q, hq, hh⟩ := jx_bind_some hh
    exact Or.inl ⟨_, hh, jx_le_rf _, fun K' hk => by show Option.bind _ _ = _; rw [hq]; exact hk⟩
  case aaload =>
    obtain ⟨k, a, t, rfl, hh⟩ := jx_ia_some hh
    obtain ⟨q, hq, hh⟩ := jx_bind_some hh
    exact Or.inl ⟨_, jx_ov_some hh, jx_le_rf _, fun K' hk => by show Option.bind _ _ = _; rw [hq]; exact jx_ov_of (f := fun w => K' (i + 1, ls, w :: t, h)) hk⟩
  case iastore =>
    obtain ⟨q, k, a, t, rfl, hh⟩ := jx_vs_some hh
    obtain ⟨e, he, hh⟩ := jx_bind_some hh
    exact Or.inl ⟨_, hh, jx_le_rf _, fun K' hk => by show Option.bind _ _ = _; rw [he]; exact hk⟩
  case bastore =>
    obtain ⟨q, k, a, t, rfl, hh⟩ := jx_vs_some hh
    rcases z with _ | _ | _ | z
    · rcases jx_if_some hh with ⟨hq, hh⟩ | ⟨hq, hh⟩
      · obtain ⟨e, he, hh⟩ := jx_bind_some hh
        exact Or.inl ⟨_, hh, jx_le_rf _, fun K' hk => by show (if _ then Option.bind _ _ else _) = _; rw [if_pos hq, he]; exact hk⟩
      · cases hh
    · rcases jx_if_some hh with ⟨hq, hh⟩ | ⟨hq, hh⟩
      · obtain ⟨e, he, hh⟩ := jx_bind_some hh
        exact Or.inl ⟨_, hh, jx_le_rf _, fun K' hk => by show (if _ then Option.bind _ _ else _) = _; rw [if_pos hq, he]; exact hk⟩
      · cases hh
    · obtain ⟨e, he, hh⟩ := jx_bind_some hh
      exact Or.inl ⟨_, hh, jx_le_rf _, fun K' hk => by show Option.bind _ _ = _; rw [he]; exact hk⟩
    · rcases jx_if_some hh with ⟨hq, hh⟩ | ⟨hq, hh⟩
      · obtain ⟨e, he, hh⟩ := jx_bind_some hh
        exact Or.inl ⟨_, hh, jx_le_rf _, fun K' hk => by show (if _ then Option.bind _ _ else _) = _; rw [if_pos hq, he]; exact hk⟩
      · cases hh
  case lastore =>
    obtain ⟨q, k, a, t, rfl, hh⟩ := jx_vsL_some hh
    obtain ⟨e, he, hh⟩ := jx_bind_some hh
    exact Or.inl ⟨_, hh, jx_le_rf _, fun K' hk => by show Option.bind _ _ = _; rw [he]; exact hk⟩
  case aastore =>
    rcases jx_vsQ_some hh with ⟨q, k, a, t, rfl, hh⟩ | ⟨k, a, t, rfl, hh⟩
    · rcases jx_if_some hh with ⟨hq, hh⟩ | ⟨hq, hh⟩
      · obtain ⟨e, he, hh⟩ := jx_bind_some hh
        exact Or.inl ⟨_, hh, jx_le_rf _, fun K' hk => by show (if _ then Option.bind _ _ else _) = _; rw [if_pos hq, he]; exact hk⟩
      · cases hh
    · obtain ⟨e, he, hh⟩ := jx_bind_some hh
      exact Or.inl ⟨_, hh, jx_le_rf _, fun K' hk => by show Option.bind _ _ = _; rw [he]; exact hk⟩
  case arraylength =>
    rcases jx_rr_some hh with ⟨a, t, rfl, hh⟩ | ⟨a, t, rfl, hh⟩
    · obtain ⟨e, he, hh⟩ := jx_bind_some hh
      exact Or.inl ⟨_, hh, jx_le_rf _, fun K' hk => by show Option.bind _ _ = _; rw [he]; exact hk⟩
    · exact Or.inl ⟨_, hh, jx_le_rf _, fun K' hk => hk⟩
  case new => exact Or.inl ⟨_, hh, ⟨Nat.le_succ _, Nat.le_add_right _ _⟩, fun K' hk => hk⟩
  case newarray =>
    obtain ⟨a, t, rfl, hh⟩ := jx_1_some hh
    rcases jx_if_some hh with ⟨hq, hh⟩ | ⟨hq, hh⟩
    · cases hh
    · exact Or.inl ⟨_, hh, ⟨Nat.le_succ _, Nat.le_add_right _ _⟩, fun K' hk => by show (if _ then _ else _) = _; rw [if_neg hq]; exact hk⟩
  case anewarray =>
    obtain ⟨a, t, rfl, hh⟩ := jx_1_some hh
    rcases jx_if_some hh with ⟨hq, hh⟩ | ⟨hq, hh⟩
    · cases hh
    · exact Or.inl ⟨_, hh, ⟨Nat.le_succ _, Nat.le_add_right _ _⟩, fun K' hk => by show (if _ then _ else _) = _; rw [if_neg hq]; exact hk⟩
  case multianewarray =>
    obtain ⟨a, b, t, rfl, hh⟩ := jx_2_some hh
    rcases jx_if_some hh with ⟨hq, hh⟩ | ⟨hq, hh⟩
    · cases hh
    · exact Or.inl ⟨_, hh, ⟨by show h.1 ≤ h.1 + 1 + _; omega, by show h.2.1 ≤ h.2.1 + _ + _; omega⟩, fun K' hk => by show (if _ then _ else _) = _; rw [if_neg hq]; exact hk⟩
  case invokespecial ix =>
    by_cases h9 : z = 9
    · subst h9
      obtain ⟨a, t, rfl, hh⟩ := jx_r_some hh
      rcases jx_if_some hh with ⟨hq, hh⟩ | ⟨hq, hh⟩
      · exact Or.inl ⟨_, hh, jx_le_rf _, fun K' hk => by show (if _ then _ else _) = _; rw [if_pos hq]; exact hk⟩
      · cases hh
    · have e9 : ∀ K' : jxS → jxR, jx_step rc df c K' (pc, .invokespecial ix, len, (x, y, z), v, w, ts, lv) i ls st h = jx_call (y + 1) 0 st (fun as => c x as h) fun st' h' => K' (i + 1, ls, st', h') := fun K' => by
        unfold jx_step
        dsimp only
        split
        · rename_i e; exact absurd e h9
        · rfl
      rw [e9] at hh
      obtain ⟨as, rest, v', h', -, -, -, hcall, hh, -, hk⟩ := jx_call_some hh
      exact Or.inl ⟨_, hh, hc _ _ _ _ _ hcall, fun K' hk' => by show jx_step rc df c K' _ i ls st h = _; rw [e9]; exact hk (fun st' h' => K' (i + 1, ls, st', h')) hk'⟩
  case invokestatic ix =>
    by_cases h9 : z = 9
    · subst h9
      obtain ⟨a, sp, b, dp, n, t, rfl, hh⟩ := jx_cps_some hh
      rcases jx_if_some hh with ⟨hq, hh⟩ | ⟨hq, hh⟩
      · obtain ⟨e, he, hh⟩ := jx_bind_some hh
        exact Or.inl ⟨_, hh, jx_le_rf _, fun K' hk => by show (if _ then Option.bind _ _ else _) = _; rw [if_pos hq, he]; exact hk⟩
      · cases hh
    · have e9 : ∀ K' : jxS → jxR, jx_step rc df c K' (pc, .invokestatic ix, len, (x, y, z), v, w, ts, lv) i ls st h = jx_call y z st (fun as => c x as h) fun st' h' => K' (i + 1, ls, st', h') := fun K' => by
        unfold jx_step
        dsimp only
        split
        · rename_i e; exact absurd e h9
        · rfl
      rw [e9] at hh
      obtain ⟨as, rest, v', h', -, -, -, hcall, hh, -, hk⟩ := jx_call_some hh
      exact Or.inl ⟨_, hh, hc _ _ _ _ _ hcall, fun K' hk' => by show jx_step rc df c K' _ i ls st h = _; rw [e9]; exact hk (fun st' h' => K' (i + 1, ls, st', h')) hk'⟩
  case invokevirtual =>
    have hh : jx_call (y + 1) z st (fun as => c x as h) (fun st' h' => K (i + 1, ls, st', h')) = some res := hh
    obtain ⟨as, rest, v', h', -, -, -, hcall, hh, -, hk⟩ := jx_call_some hh
    exact Or.inl ⟨_, hh, hc _ _ _ _ _ hcall, fun K' hk' => hk (fun st' h' => K' (i + 1, ls, st', h')) hk'⟩
  case ireturn =>
    refine Or.inr ⟨?_, fun K' => hh⟩
    revert hh
    show jx_ri z st h = _ → _
    unfold jx_ri
    split
    · split
      · intro hh; cases hh; rfl
      · intro hh
        rcases jx_if_some hh with ⟨hq, hh⟩ | ⟨hq, hh⟩
        · cases hh; rfl
        · cases hh
    · intro hh; cases hh
  case lreturn =>
    refine Or.inr ⟨?_, fun K' => hh⟩
    revert hh
    show jx_rl st h = _ → _
    unfold jx_rl
    split
    · intro hh; cases hh; rfl
    · intro hh; cases hh
  case areturn =>
    refine Or.inr ⟨?_, fun K' => hh⟩
    revert hh
    show jx_ra st h = _ → _
    unfold jx_ra
    split
    · intro hh; cases hh; rfl
    · intro hh; cases hh; rfl
    · intro hh; cases hh
  case return_ =>
    refine Or.inr ⟨?_, fun K' => hh⟩
    revert hh
    show jx_rv st h = _ → _
    unfold jx_rv
    split
    · intro hh; cases hh; rfl
    · intro hh; cases hh
theorem jx_tail1 (hc : jx_grows c) {K : jxS → jxR} {s : jxS} {res} (hh : jx_one rc df c code K s = some res) : jx_T (fun K' => jx_one rc df c code K' s) K s.2.2.2 res := by
  unfold jx_one at hh ⊢
  split at hh
  · exact jx_tail hc hh
  · cases hh
theorem jx_norm_h (s : jxS) : (jx_norm code s).2.2.2 = s.2.2.2 := by
  unfold jx_norm
  split <;> rfl
theorem jx_loop_up (hc : jx_grows c) : ∀ (n : Nat) (s : jxS) (res), jx_loop rc df c code n s = some res → jx_loop rc df c code (n + 1) s = some res
  | 0, _, _, h => by cases h
  | n + 1, s, res, h => by
    rcases jx_tail1 hc (K := fun s' => jx_loop rc df c code n (jx_norm code s')) h with ⟨s', h1, -, h2⟩ | ⟨-, h2⟩
    · exact h2 (fun s' => jx_loop rc df c code (n + 1) (jx_norm code s')) (jx_loop_up hc n _ _ h1)
    · exact h2 _
theorem jx_loop_le (hc : jx_grows c) {n m : Nat} (h : n ≤ m) {s : jxS} {res} (hh : jx_loop rc df c code n s = some res) : jx_loop rc df c code m s = some res := by
  induction h with
  | refl => exact hh
  | step _ ih => exact jx_loop_up hc _ _ _ ih
theorem jx_loop_grow (hc : jx_grows c) : ∀ (n : Nat) (s : jxS) (res), jx_loop rc df c code n s = some res → jx_le s.2.2.2 res.2
  | 0, _, _, h => by cases h
  | n + 1, s, res, h => by
    rcases jx_tail1 hc (K := fun s' => jx_loop rc df c code n (jx_norm code s')) h with ⟨s', h1, h3, -⟩ | ⟨h3, -⟩
    · have := jx_loop_grow hc n _ _ h1
      rw [jx_norm_h] at this
      exact jx_le_tr h3 this
    · rw [h3]; exact jx_le_rf _
theorem jx_G_ex (s : jxS) (hc : jx_grows c) : ∃ o : jxR, ∀ res, o = some res ↔ ∃ n, jx_loop rc df c code n s = some res := by
  by_cases h : ∃ res n, jx_loop rc df c code n s = some res
  · obtain ⟨res, n, h⟩ := h
    refine ⟨some res, fun res' => ⟨fun e => ⟨n, by cases e; exact h⟩, fun ⟨m, h'⟩ => ?_⟩⟩
    have h1 := jx_loop_le hc (Nat.le_max_left n m) h
    have h2 := jx_loop_le hc (Nat.le_max_right n m) h'
    exact h1.symm.trans h2
  · refine ⟨none, fun res => ⟨fun e => (by cases e), fun ⟨n, hn⟩ => absurd ⟨res, n, hn⟩ h⟩⟩
end TAIL
/-- what a method's code answers from a state on -/
noncomputable def jx_G (rc : Nat → Nat × (Nat → Int32)) (df : Nat → List Value) (c : Nat → List Value → jxH → jxR) (code : List jxRow) (s : jxS) : jxR :=
  Classical.epsilon (fun o : jxR => ∀ res, o = some res ↔ ∃ n, jx_loop rc df c code n s = some res)
section LIM
variable {rc : Nat → Nat × (Nat → Int32)} {df : Nat → List Value} {c : Nat → List Value → jxH → jxR} {code : List jxRow}
theorem jx_G_iff (hc : jx_grows c) (s : jxS) (res) : jx_G rc df c code s = some res ↔ ∃ n, jx_loop rc df c code n s = some res :=
  Classical.epsilon_spec (p := fun o : jxR => ∀ res, o = some res ↔ ∃ n, jx_loop rc df c code n s = some res) (jx_G_ex s hc) res
theorem jx_opt_ext {α : Type} {a b : Option α} (h : ∀ r, a = some r ↔ b = some r) : a = b := by
  cases a with
  | none =>
    cases b with
    | none => rfl
    | some b => exact ((h b).mpr rfl).symm ▸ rfl
  | some a => exact ((h a).mp rfl).symm
theorem jx_G_eq (hc : jx_grows c) (s : jxS) : jx_G rc df c code s = jx_one rc df c code (fun s' => jx_G rc df c code (jx_norm code s')) s := by
  refine jx_opt_ext fun res => ?_
  rw [jx_G_iff hc]
  constructor
  · rintro ⟨n, h⟩
    cases n with
    | zero => cases h
    | succ n =>
      rcases jx_tail1 hc (K := fun s' => jx_loop rc df c code n (jx_norm code s')) h with ⟨s', h1, -, h2⟩ | ⟨-, h2⟩
      · exact h2 _ ((jx_G_iff hc _ _).mpr ⟨n, h1⟩)
      · exact h2 _
  · intro h
    rcases jx_tail1 hc h with ⟨s', h1, -, h2⟩ | ⟨-, h2⟩
    · obtain ⟨n, hn⟩ := (jx_G_iff hc _ _).mp h1
      exact ⟨n + 1, h2 (fun s' => jx_loop rc df c code n (jx_norm code s')) hn⟩
    · exact ⟨1, h2 (fun s' => jx_loop rc df c code 0 (jx_norm code s'))⟩
theorem jx_one_congr {K K' : jxS → jxR} (h : ∀ s, K s = K' s) (s : jxS) : jx_one rc df c code K s = jx_one rc df c code K' s := by
  rw [show K = K' from funext h]
theorem jx_G_run (hc : jx_grows c) : ∀ (n : Nat) (s : jxS), jx_G rc df c code s = jx_run rc df c code (jx_G rc df c code) n s
  | 0, _ => rfl
  | n + 1, s => by
    rw [jx_G_eq hc]
    show _ = jx_one rc df c code _ s
    refine jx_one_congr (fun s' => ?_) s
    unfold jx_norm
    split
    · rfl
    · exact jx_G_run hc n s'
end LIM
/-- how many words values take -/
def jx_wl : List Value → Nat
  | [] => 0
  | v :: t => v.category + jx_wl t
/-- calls, to a depth; mt: a method's code by its number, its locals, and the class of its object (if it has one) -/
noncomputable def jx_X (rc : Nat → Nat × (Nat → Int32)) (df : Nat → List Value) (mt : Nat → Option (Option Nat × Nat × List jxRow)) : Nat → Nat → List Value → jxH → jxR
  | 0 => fun _ _ _ => none
  | d + 1 => fun k as h => match mt k with
    | some (none, nL, code) => if Nat.ble (jx_wl as) nL = true then jx_G rc df (jx_X rc df mt d) code (jx_norm code (0, lv_args 0 as, [], h)) else none
    | some (some ci, nL, code) => match as with
      | .ref b :: t => if Nat.ble (jx_wl (.ref b :: t)) nL = true then (if jx_is (jx_at h b) ci = true then jx_G rc df (jx_X rc df mt d) code (jx_norm code (0, lv_args 0 (.ref b :: t), [], h)) else none) else none
      | _ => none
    | none => none
theorem jx_X_inv {rc : Nat → Nat × (Nat → Int32)} {df : Nat → List Value} {mt : Nat → Option (Option Nat × Nat × List jxRow)} {d k : Nat} {as : List Value} {h : jxH} {res} (hh : jx_X rc df mt (d + 1) k as h = some res) :
    ∃ oc nL code, mt k = some (oc, nL, code) ∧ jx_wl as ≤ nL ∧ (∀ ci, oc = some ci → ∃ b t, as = .ref b :: t ∧ jx_is (jx_at h b) ci = true) ∧ jx_G rc df (jx_X rc df mt d) code (jx_norm code (0, lv_args 0 as, [], h)) = some res := by
  unfold jx_X at hh
  split at hh
  · rename_i nL code e
    rcases jx_if_some hh with ⟨hq, hh⟩ | ⟨hq, hh⟩
    · exact ⟨none, nL, code, e, Nat.le_of_ble_eq_true hq, fun ci z => (by cases z), hh⟩
    · cases hh
  · rename_i ci nL code e
    split at hh
    · rename_i b t
      rcases jx_if_some hh with ⟨hq, hh⟩ | ⟨hq, hh⟩
      · rcases jx_if_some hh with ⟨hq2, hh⟩ | ⟨hq2, hh⟩
        · exact ⟨some ci, nL, code, e, Nat.le_of_ble_eq_true hq, fun ci' z => ⟨b, t, rfl, by cases z; exact hq2⟩, hh⟩
        · cases hh
      · cases hh
    · cases hh
  · cases hh
theorem jx_X_grows (rc : Nat → Nat × (Nat → Int32)) (df : Nat → List Value) (mt : Nat → Option (Option Nat × Nat × List jxRow)) : ∀ d, jx_grows (jx_X rc df mt d)
  | 0 => fun _ _ _ _ _ h => by cases h
  | d + 1 => by
    have ih := jx_X_grows rc df mt d
    intro k as h r h' hh
    obtain ⟨oc, nL, code, -, -, -, hh⟩ := jx_X_inv hh
    obtain ⟨n, hn⟩ := (jx_G_iff ih _ _).mp hh
    have := jx_loop_grow ih n _ _ hn
    rw [jx_norm_h] at this
    exact this
end
section
-- ===== PART A: goes FIRST, ahead of the names: the tables' words, and 'selects' of the private methods out of them =====
/-- a private method of a class that the tables say can be made, by its rows of tables_1 -/
def lw_okq (q : MethodName × Nat) : Prop := (q.1.cls ≠ "java/lang/invoke/MethodHandle" ∧ q.1.cls ≠ "java/lang/invoke/VarHandle") ∧ Cond.instantiable q.1.cls q.2 ∈ tables_1 ∧ Cond.privateMethod q.1 ∈ tables_1 ∧ Cond.instanceMethod q.1 ∈ tables_1
theorem lw_p0 : lw_okq (⟨"RoomTrees", "refuse", "(I)I"⟩, 17) := ⟨⟨by decide +kernel, by decide +kernel⟩, List.mem_of_getElem? (i := 19) (by decide +kernel), List.mem_of_getElem? (i := 371) (by decide +kernel), List.mem_of_getElem? (i := 372) (by decide +kernel)⟩
theorem lw_p1 : lw_okq (⟨"RoomTrees", "treeOf", "(I)I"⟩, 17) := ⟨⟨by decide +kernel, by decide +kernel⟩, List.mem_of_getElem? (i := 19) (by decide +kernel), List.mem_of_getElem? (i := 421) (by decide +kernel), List.mem_of_getElem? (i := 422) (by decide +kernel)⟩
theorem lw_p2 : lw_okq (⟨"RoomTrees$Walk", "spread", "(LRoomTrees$Forest;II)V"⟩, 5) := ⟨⟨by decide +kernel, by decide +kernel⟩, List.mem_of_getElem? (i := 110) (by decide +kernel), List.mem_of_getElem? (i := 430) (by decide +kernel), List.mem_of_getElem? (i := 431) (by decide +kernel)⟩
theorem lw_p3 : lw_okq (⟨"RoomTrees$Walk", "enter", "(III)V"⟩, 5) := ⟨⟨by decide +kernel, by decide +kernel⟩, List.mem_of_getElem? (i := 110) (by decide +kernel), List.mem_of_getElem? (i := 434) (by decide +kernel), List.mem_of_getElem? (i := 435) (by decide +kernel)⟩
theorem lw_p4 : lw_okq (⟨"RoomTrees$Step", "isTold", "(LRoomTrees$Forest;)Z"⟩, 7) := ⟨⟨by decide +kernel, by decide +kernel⟩, List.mem_of_getElem? (i := 47) (by decide +kernel), List.mem_of_getElem? (i := 508) (by decide +kernel), List.mem_of_getElem? (i := 509) (by decide +kernel)⟩
theorem lw_p5 : lw_okq (⟨"RoomTrees$Step", "fits", "(LRoomTrees$Forest;)Z"⟩, 7) := ⟨⟨by decide +kernel, by decide +kernel⟩, List.mem_of_getElem? (i := 47) (by decide +kernel), List.mem_of_getElem? (i := 515) (by decide +kernel), List.mem_of_getElem? (i := 516) (by decide +kernel)⟩
theorem lw_p6 : lw_okq (⟨"RoomTrees$Step", "overloads", "(LRoomTrees$Forest;)Z"⟩, 7) := ⟨⟨by decide +kernel, by decide +kernel⟩, List.mem_of_getElem? (i := 47) (by decide +kernel), List.mem_of_getElem? (i := 523) (by decide +kernel), List.mem_of_getElem? (i := 524) (by decide +kernel)⟩
theorem lw_p7 : lw_okq (⟨"RoomTrees$Step", "blowDown", "(LRoomTrees$Forest;)V"⟩, 7) := ⟨⟨by decide +kernel, by decide +kernel⟩, List.mem_of_getElem? (i := 47) (by decide +kernel), List.mem_of_getElem? (i := 573) (by decide +kernel), List.mem_of_getElem? (i := 574) (by decide +kernel)⟩
theorem lw_p8 : lw_okq (⟨"RoomTrees$Step", "bud", "(LRoomTrees$Forest;)I"⟩, 7) := ⟨⟨by decide +kernel, by decide +kernel⟩, List.mem_of_getElem? (i := 47) (by decide +kernel), List.mem_of_getElem? (i := 584) (by decide +kernel), List.mem_of_getElem? (i := 585) (by decide +kernel)⟩
theorem lw_p9 : lw_okq (⟨"RoomTrees$Step", "absorb", "(LRoomTrees$Forest;)V"⟩, 7) := ⟨⟨by decide +kernel, by decide +kernel⟩, List.mem_of_getElem? (i := 47) (by decide +kernel), List.mem_of_getElem? (i := 589) (by decide +kernel), List.mem_of_getElem? (i := 590) (by decide +kernel)⟩
theorem lw_p10 : lw_okq (⟨"RoomTrees$Step", "draw", "(LRoomTrees$Forest;)V"⟩, 7) := ⟨⟨by decide +kernel, by decide +kernel⟩, List.mem_of_getElem? (i := 47) (by decide +kernel), List.mem_of_getElem? (i := 602) (by decide +kernel), List.mem_of_getElem? (i := 603) (by decide +kernel)⟩
theorem lw_p11 : lw_okq (⟨"RoomTrees$Reckoner", "start", "(LRoomTrees$Forest;I)V"⟩, 12) := ⟨⟨by decide +kernel, by decide +kernel⟩, List.mem_of_getElem? (i := 134) (by decide +kernel), List.mem_of_getElem? (i := 652) (by decide +kernel), List.mem_of_getElem? (i := 653) (by decide +kernel)⟩
theorem lw_p12 : lw_okq (⟨"RoomTrees$Reckoner", "fold", "(III)V"⟩, 12) := ⟨⟨by decide +kernel, by decide +kernel⟩, List.mem_of_getElem? (i := 134) (by decide +kernel), List.mem_of_getElem? (i := 669) (by decide +kernel), List.mem_of_getElem? (i := 670) (by decide +kernel)⟩
theorem lw_p13 : lw_okq (⟨"RoomTrees", "tell", "(J)I"⟩, 17) := ⟨⟨by decide +kernel, by decide +kernel⟩, List.mem_of_getElem? (i := 19) (by decide +kernel), List.mem_of_getElem? (i := 673) (by decide +kernel), List.mem_of_getElem? (i := 674) (by decide +kernel)⟩
theorem lw_p14 : lw_okq (⟨"RoomTrees$Reckoner", "settle", "(III)V"⟩, 12) := ⟨⟨by decide +kernel, by decide +kernel⟩, List.mem_of_getElem? (i := 134) (by decide +kernel), List.mem_of_getElem? (i := 714) (by decide +kernel), List.mem_of_getElem? (i := 715) (by decide +kernel)⟩
theorem lw_p15 : lw_okq (⟨"RoomTrees$Reckoner", "rowWith", "(II)I"⟩, 12) := ⟨⟨by decide +kernel, by decide +kernel⟩, List.mem_of_getElem? (i := 134) (by decide +kernel), List.mem_of_getElem? (i := 735) (by decide +kernel), List.mem_of_getElem? (i := 736) (by decide +kernel)⟩
def lw_privs_1 : List (MethodName × Nat) := [(⟨"RoomTrees", "refuse", "(I)I"⟩, 17), (⟨"RoomTrees", "treeOf", "(I)I"⟩, 17), (⟨"RoomTrees$Walk", "spread", "(LRoomTrees$Forest;II)V"⟩, 5), (⟨"RoomTrees$Walk", "enter", "(III)V"⟩, 5), (⟨"RoomTrees$Step", "isTold", "(LRoomTrees$Forest;)Z"⟩, 7), (⟨"RoomTrees$Step", "fits", "(LRoomTrees$Forest;)Z"⟩, 7), (⟨"RoomTrees$Step", "overloads", "(LRoomTrees$Forest;)Z"⟩, 7), (⟨"RoomTrees$Step", "blowDown", "(LRoomTrees$Forest;)V"⟩, 7), (⟨"RoomTrees$Step", "bud", "(LRoomTrees$Forest;)I"⟩, 7), (⟨"RoomTrees$Step", "absorb", "(LRoomTrees$Forest;)V"⟩, 7), (⟨"RoomTrees$Step", "draw", "(LRoomTrees$Forest;)V"⟩, 7), (⟨"RoomTrees$Reckoner", "start", "(LRoomTrees$Forest;I)V"⟩, 12), (⟨"RoomTrees$Reckoner", "fold", "(III)V"⟩, 12), (⟨"RoomTrees", "tell", "(J)I"⟩, 17), (⟨"RoomTrees$Reckoner", "settle", "(III)V"⟩, 12), (⟨"RoomTrees$Reckoner", "rowWith", "(II)I"⟩, 12)]
theorem lw_r1 : ∀ q ∈ lw_privs_1, lw_okq q := List.forall_mem_cons.mpr ⟨lw_p0, List.forall_mem_cons.mpr ⟨lw_p1, List.forall_mem_cons.mpr ⟨lw_p2, List.forall_mem_cons.mpr ⟨lw_p3, List.forall_mem_cons.mpr ⟨lw_p4, List.forall_mem_cons.mpr ⟨lw_p5, List.forall_mem_cons.mpr ⟨lw_p6, List.forall_mem_cons.mpr ⟨lw_p7, List.forall_mem_cons.mpr ⟨lw_p8, List.forall_mem_cons.mpr ⟨lw_p9, List.forall_mem_cons.mpr ⟨lw_p10, List.forall_mem_cons.mpr ⟨lw_p11, List.forall_mem_cons.mpr ⟨lw_p12, List.forall_mem_cons.mpr ⟨lw_p13, List.forall_mem_cons.mpr ⟨lw_p14, List.forall_mem_cons.mpr ⟨lw_p15, fun _ h => absurd h List.not_mem_nil⟩⟩⟩⟩⟩⟩⟩⟩⟩⟩⟩⟩⟩⟩⟩⟩
theorem lw_p16 : lw_okq (⟨"RoomTrees$Reckoner", "clearColumn", "(II)V"⟩, 12) := ⟨⟨by decide +kernel, by decide +kernel⟩, List.mem_of_getElem? (i := 134) (by decide +kernel), List.mem_of_getElem? (i := 739) (by decide +kernel), List.mem_of_getElem? (i := 740) (by decide +kernel)⟩
theorem lw_p17 : lw_okq (⟨"RoomTrees$Reckoner", "readLeast", "(I)V"⟩, 12) := ⟨⟨by decide +kernel, by decide +kernel⟩, List.mem_of_getElem? (i := 134) (by decide +kernel), List.mem_of_getElem? (i := 747) (by decide +kernel), List.mem_of_getElem? (i := 748) (by decide +kernel)⟩
theorem lw_p18 : lw_okq (⟨"RoomTrees$Tape", "skipBlanks", "(I)I"⟩, 3) := ⟨⟨by decide +kernel, by decide +kernel⟩, List.mem_of_getElem? (i := 273) (by decide +kernel), List.mem_of_getElem? (i := 826) (by decide +kernel), List.mem_of_getElem? (i := 827) (by decide +kernel)⟩
theorem lw_p19 : lw_okq (⟨"RoomTrees$Tape", "byteAt", "(I)I"⟩, 3) := ⟨⟨by decide +kernel, by decide +kernel⟩, List.mem_of_getElem? (i := 273) (by decide +kernel), List.mem_of_getElem? (i := 830) (by decide +kernel), List.mem_of_getElem? (i := 831) (by decide +kernel)⟩
theorem lw_p20 : lw_okq (⟨"RoomTrees$Tape", "weightSize", "(I)I"⟩, 3) := ⟨⟨by decide +kernel, by decide +kernel⟩, List.mem_of_getElem? (i := 273) (by decide +kernel), List.mem_of_getElem? (i := 834) (by decide +kernel), List.mem_of_getElem? (i := 835) (by decide +kernel)⟩
theorem lw_p21 : lw_okq (⟨"RoomTrees$Tape", "isDigit", "(I)Z"⟩, 3) := ⟨⟨by decide +kernel, by decide +kernel⟩, List.mem_of_getElem? (i := 273) (by decide +kernel), List.mem_of_getElem? (i := 838) (by decide +kernel), List.mem_of_getElem? (i := 839) (by decide +kernel)⟩
theorem lw_p22 : lw_okq (⟨"RoomTrees$Tape", "weightAt", "(II)I"⟩, 3) := ⟨⟨by decide +kernel, by decide +kernel⟩, List.mem_of_getElem? (i := 273) (by decide +kernel), List.mem_of_getElem? (i := 842) (by decide +kernel), List.mem_of_getElem? (i := 843) (by decide +kernel)⟩
theorem lw_p23 : lw_okq (⟨"RoomTrees$Tape", "hang", "(LRoomTrees$Forest;I)I"⟩, 3) := ⟨⟨by decide +kernel, by decide +kernel⟩, List.mem_of_getElem? (i := 273) (by decide +kernel), List.mem_of_getElem? (i := 849) (by decide +kernel), List.mem_of_getElem? (i := 850) (by decide +kernel)⟩
theorem lw_p24 : lw_okq (⟨"RoomTrees", "swap", "(LRoomTrees$Forest;)I"⟩, 17) := ⟨⟨by decide +kernel, by decide +kernel⟩, List.mem_of_getElem? (i := 19) (by decide +kernel), List.mem_of_getElem? (i := 856) (by decide +kernel), List.mem_of_getElem? (i := 857) (by decide +kernel)⟩
theorem lw_p25 : lw_okq (⟨"RoomTrees$Speller", "spellVertex", "(LRoomTrees$Forest;I)V"⟩, 3) := ⟨⟨by decide +kernel, by decide +kernel⟩, List.mem_of_getElem? (i := 187) (by decide +kernel), List.mem_of_getElem? (i := 873) (by decide +kernel), List.mem_of_getElem? (i := 874) (by decide +kernel)⟩
theorem lw_p26 : lw_okq (⟨"RoomTrees$Forest", "nearSum", "(I)I"⟩, 3) := ⟨⟨by decide +kernel, by decide +kernel⟩, List.mem_of_getElem? (i := 27) (by decide +kernel), List.mem_of_getElem? (i := 935) (by decide +kernel), List.mem_of_getElem? (i := 936) (by decide +kernel)⟩
theorem lw_p27 : lw_okq (⟨"RoomTrees", "thinkToTheEnd", "(II)I"⟩, 17) := ⟨⟨by decide +kernel, by decide +kernel⟩, List.mem_of_getElem? (i := 19) (by decide +kernel), List.mem_of_getElem? (i := 1031) (by decide +kernel), List.mem_of_getElem? (i := 1032) (by decide +kernel)⟩
theorem lw_p28 : lw_okq (⟨"RoomTrees$Search", "levelAt", "(I)LRoomTrees$Forest;"⟩, 10) := ⟨⟨by decide +kernel, by decide +kernel⟩, List.mem_of_getElem? (i := 224) (by decide +kernel), List.mem_of_getElem? (i := 1056) (by decide +kernel), List.mem_of_getElem? (i := 1057) (by decide +kernel)⟩
theorem lw_p29 : lw_okq (⟨"RoomTrees$Search", "deepen", "(III)V"⟩, 10) := ⟨⟨by decide +kernel, by decide +kernel⟩, List.mem_of_getElem? (i := 224) (by decide +kernel), List.mem_of_getElem? (i := 1061) (by decide +kernel), List.mem_of_getElem? (i := 1062) (by decide +kernel)⟩
theorem lw_p30 : lw_okq (⟨"RoomTrees$Search", "note", "(III)V"⟩, 10) := ⟨⟨by decide +kernel, by decide +kernel⟩, List.mem_of_getElem? (i := 224) (by decide +kernel), List.mem_of_getElem? (i := 1067) (by decide +kernel), List.mem_of_getElem? (i := 1068) (by decide +kernel)⟩
theorem lw_p31 : lw_okq (⟨"RoomTrees$Search", "climb", "(II)Z"⟩, 10) := ⟨⟨by decide +kernel, by decide +kernel⟩, List.mem_of_getElem? (i := 224) (by decide +kernel), List.mem_of_getElem? (i := 1077) (by decide +kernel), List.mem_of_getElem? (i := 1078) (by decide +kernel)⟩
def lw_privs_2 : List (MethodName × Nat) := [(⟨"RoomTrees$Reckoner", "clearColumn", "(II)V"⟩, 12), (⟨"RoomTrees$Reckoner", "readLeast", "(I)V"⟩, 12), (⟨"RoomTrees$Tape", "skipBlanks", "(I)I"⟩, 3), (⟨"RoomTrees$Tape", "byteAt", "(I)I"⟩, 3), (⟨"RoomTrees$Tape", "weightSize", "(I)I"⟩, 3), (⟨"RoomTrees$Tape", "isDigit", "(I)Z"⟩, 3), (⟨"RoomTrees$Tape", "weightAt", "(II)I"⟩, 3), (⟨"RoomTrees$Tape", "hang", "(LRoomTrees$Forest;I)I"⟩, 3), (⟨"RoomTrees", "swap", "(LRoomTrees$Forest;)I"⟩, 17), (⟨"RoomTrees$Speller", "spellVertex", "(LRoomTrees$Forest;I)V"⟩, 3), (⟨"RoomTrees$Forest", "nearSum", "(I)I"⟩, 3), (⟨"RoomTrees", "thinkToTheEnd", "(II)I"⟩, 17), (⟨"RoomTrees$Search", "levelAt", "(I)LRoomTrees$Forest;"⟩, 10), (⟨"RoomTrees$Search", "deepen", "(III)V"⟩, 10), (⟨"RoomTrees$Search", "note", "(III)V"⟩, 10), (⟨"RoomTrees$Search", "climb", "(II)Z"⟩, 10)]
theorem lw_r2 : ∀ q ∈ lw_privs_2, lw_okq q := List.forall_mem_cons.mpr ⟨lw_p16, List.forall_mem_cons.mpr ⟨lw_p17, List.forall_mem_cons.mpr ⟨lw_p18, List.forall_mem_cons.mpr ⟨lw_p19, List.forall_mem_cons.mpr ⟨lw_p20, List.forall_mem_cons.mpr ⟨lw_p21, List.forall_mem_cons.mpr ⟨lw_p22, List.forall_mem_cons.mpr ⟨lw_p23, List.forall_mem_cons.mpr ⟨lw_p24, List.forall_mem_cons.mpr ⟨lw_p25, List.forall_mem_cons.mpr ⟨lw_p26, List.forall_mem_cons.mpr ⟨lw_p27, List.forall_mem_cons.mpr ⟨lw_p28, List.forall_mem_cons.mpr ⟨lw_p29, List.forall_mem_cons.mpr ⟨lw_p30, List.forall_mem_cons.mpr ⟨lw_p31, fun _ h => absurd h List.not_mem_nil⟩⟩⟩⟩⟩⟩⟩⟩⟩⟩⟩⟩⟩⟩⟩⟩
theorem lw_p32 : lw_okq (⟨"RoomTrees", "shelvesHeld", "()I"⟩, 17) := ⟨⟨by decide +kernel, by decide +kernel⟩, List.mem_of_getElem? (i := 19) (by decide +kernel), List.mem_of_getElem? (i := 1168) (by decide +kernel), List.mem_of_getElem? (i := 1169) (by decide +kernel)⟩
theorem lw_p33 : lw_okq (⟨"RoomTreesModel", "error", "(I)I"⟩, 40) := ⟨⟨by decide +kernel, by decide +kernel⟩, List.mem_of_getElem? (i := 1181) (by decide +kernel), List.mem_of_getElem? (i := 1359) (by decide +kernel), List.mem_of_getElem? (i := 1360) (by decide +kernel)⟩
theorem lw_p34 : lw_okq (⟨"RoomTreesModel", "goes", "(IIIII)V"⟩, 40) := ⟨⟨by decide +kernel, by decide +kernel⟩, List.mem_of_getElem? (i := 1181) (by decide +kernel), List.mem_of_getElem? (i := 1364) (by decide +kernel), List.mem_of_getElem? (i := 1365) (by decide +kernel)⟩
theorem lw_p35 : lw_okq (⟨"RoomTreesModel", "byHand", "()V"⟩, 40) := ⟨⟨by decide +kernel, by decide +kernel⟩, List.mem_of_getElem? (i := 1181) (by decide +kernel), List.mem_of_getElem? (i := 1422) (by decide +kernel), List.mem_of_getElem? (i := 1423) (by decide +kernel)⟩
theorem lw_p36 : lw_okq (⟨"RoomTreesModel", "isVertex", "(I)Z"⟩, 40) := ⟨⟨by decide +kernel, by decide +kernel⟩, List.mem_of_getElem? (i := 1181) (by decide +kernel), List.mem_of_getElem? (i := 1430) (by decide +kernel), List.mem_of_getElem? (i := 1431) (by decide +kernel)⟩
theorem lw_p37 : lw_okq (⟨"RoomTreesModel", "possible", "(I)I"⟩, 40) := ⟨⟨by decide +kernel, by decide +kernel⟩, List.mem_of_getElem? (i := 1181) (by decide +kernel), List.mem_of_getElem? (i := 1457) (by decide +kernel), List.mem_of_getElem? (i := 1458) (by decide +kernel)⟩
theorem lw_p38 : lw_okq (⟨"RoomTreesModel", "farthest", "(I)I"⟩, 40) := ⟨⟨by decide +kernel, by decide +kernel⟩, List.mem_of_getElem? (i := 1181) (by decide +kernel), List.mem_of_getElem? (i := 1461) (by decide +kernel), List.mem_of_getElem? (i := 1462) (by decide +kernel)⟩
theorem lw_p39 : lw_okq (⟨"RoomTreesModel", "pair", "(II)I"⟩, 40) := ⟨⟨by decide +kernel, by decide +kernel⟩, List.mem_of_getElem? (i := 1181) (by decide +kernel), List.mem_of_getElem? (i := 1469) (by decide +kernel), List.mem_of_getElem? (i := 1470) (by decide +kernel)⟩
theorem lw_p40 : lw_okq (⟨"RoomTreesModel", "minorOf", "(I)J"⟩, 40) := ⟨⟨by decide +kernel, by decide +kernel⟩, List.mem_of_getElem? (i := 1181) (by decide +kernel), List.mem_of_getElem? (i := 1478) (by decide +kernel), List.mem_of_getElem? (i := 1479) (by decide +kernel)⟩
theorem lw_p41 : lw_okq (⟨"RoomTreesModel", "layMinors", "()V"⟩, 40) := ⟨⟨by decide +kernel, by decide +kernel⟩, List.mem_of_getElem? (i := 1181) (by decide +kernel), List.mem_of_getElem? (i := 1482) (by decide +kernel), List.mem_of_getElem? (i := 1483) (by decide +kernel)⟩
theorem lw_p42 : lw_okq (⟨"RoomTreesModel", "orOver", "(J)I"⟩, 40) := ⟨⟨by decide +kernel, by decide +kernel⟩, List.mem_of_getElem? (i := 1181) (by decide +kernel), List.mem_of_getElem? (i := 1486) (by decide +kernel), List.mem_of_getElem? (i := 1487) (by decide +kernel)⟩
theorem lw_p43 : lw_okq (⟨"RoomTreesModel", "without", "(II)J"⟩, 40) := ⟨⟨by decide +kernel, by decide +kernel⟩, List.mem_of_getElem? (i := 1181) (by decide +kernel), List.mem_of_getElem? (i := 1500) (by decide +kernel), List.mem_of_getElem? (i := 1501) (by decide +kernel)⟩
theorem lw_p44 : lw_okq (⟨"RoomTreesModel", "inertiaOf", "(I)I"⟩, 40) := ⟨⟨by decide +kernel, by decide +kernel⟩, List.mem_of_getElem? (i := 1181) (by decide +kernel), List.mem_of_getElem? (i := 1518) (by decide +kernel), List.mem_of_getElem? (i := 1519) (by decide +kernel)⟩
theorem lw_p45 : lw_okq (⟨"RoomTreesModel", "above", "()I"⟩, 40) := ⟨⟨by decide +kernel, by decide +kernel⟩, List.mem_of_getElem? (i := 1181) (by decide +kernel), List.mem_of_getElem? (i := 1522) (by decide +kernel), List.mem_of_getElem? (i := 1523) (by decide +kernel)⟩
theorem lw_p46 : lw_okq (⟨"RoomTreesModel", "layTerms", "()V"⟩, 40) := ⟨⟨by decide +kernel, by decide +kernel⟩, List.mem_of_getElem? (i := 1181) (by decide +kernel), List.mem_of_getElem? (i := 1526) (by decide +kernel), List.mem_of_getElem? (i := 1527) (by decide +kernel)⟩
theorem lw_p47 : lw_okq (⟨"RoomTreesModel", "noughts", "()I"⟩, 40) := ⟨⟨by decide +kernel, by decide +kernel⟩, List.mem_of_getElem? (i := 1181) (by decide +kernel), List.mem_of_getElem? (i := 1530) (by decide +kernel), List.mem_of_getElem? (i := 1531) (by decide +kernel)⟩
def lw_privs_3 : List (MethodName × Nat) := [(⟨"RoomTrees", "shelvesHeld", "()I"⟩, 17), (⟨"RoomTreesModel", "error", "(I)I"⟩, 40), (⟨"RoomTreesModel", "goes", "(IIIII)V"⟩, 40), (⟨"RoomTreesModel", "byHand", "()V"⟩, 40), (⟨"RoomTreesModel", "isVertex", "(I)Z"⟩, 40), (⟨"RoomTreesModel", "possible", "(I)I"⟩, 40), (⟨"RoomTreesModel", "farthest", "(I)I"⟩, 40), (⟨"RoomTreesModel", "pair", "(II)I"⟩, 40), (⟨"RoomTreesModel", "minorOf", "(I)J"⟩, 40), (⟨"RoomTreesModel", "layMinors", "()V"⟩, 40), (⟨"RoomTreesModel", "orOver", "(J)I"⟩, 40), (⟨"RoomTreesModel", "without", "(II)J"⟩, 40), (⟨"RoomTreesModel", "inertiaOf", "(I)I"⟩, 40), (⟨"RoomTreesModel", "above", "()I"⟩, 40), (⟨"RoomTreesModel", "layTerms", "()V"⟩, 40), (⟨"RoomTreesModel", "noughts", "()I"⟩, 40)]
theorem lw_r3 : ∀ q ∈ lw_privs_3, lw_okq q := List.forall_mem_cons.mpr ⟨lw_p32, List.forall_mem_cons.mpr ⟨lw_p33, List.forall_mem_cons.mpr ⟨lw_p34, List.forall_mem_cons.mpr ⟨lw_p35, List.forall_mem_cons.mpr ⟨lw_p36, List.forall_mem_cons.mpr ⟨lw_p37, List.forall_mem_cons.mpr ⟨lw_p38, List.forall_mem_cons.mpr ⟨lw_p39, List.forall_mem_cons.mpr ⟨lw_p40, List.forall_mem_cons.mpr ⟨lw_p41, List.forall_mem_cons.mpr ⟨lw_p42, List.forall_mem_cons.mpr ⟨lw_p43, List.forall_mem_cons.mpr ⟨lw_p44, List.forall_mem_cons.mpr ⟨lw_p45, List.forall_mem_cons.mpr ⟨lw_p46, List.forall_mem_cons.mpr ⟨lw_p47, fun _ h => absurd h List.not_mem_nil⟩⟩⟩⟩⟩⟩⟩⟩⟩⟩⟩⟩⟩⟩⟩⟩
theorem lw_p48 : lw_okq (⟨"RoomTreesModel", "kernelOf", "(I)I"⟩, 40) := ⟨⟨by decide +kernel, by decide +kernel⟩, List.mem_of_getElem? (i := 1181) (by decide +kernel), List.mem_of_getElem? (i := 1538) (by decide +kernel), List.mem_of_getElem? (i := 1539) (by decide +kernel)⟩
theorem lw_p49 : lw_okq (⟨"RoomTreesModel", "layRows", "(I)V"⟩, 40) := ⟨⟨by decide +kernel, by decide +kernel⟩, List.mem_of_getElem? (i := 1181) (by decide +kernel), List.mem_of_getElem? (i := 1542) (by decide +kernel), List.mem_of_getElem? (i := 1543) (by decide +kernel)⟩
theorem lw_p50 : lw_okq (⟨"RoomTreesModel", "manyWu", "()I"⟩, 40) := ⟨⟨by decide +kernel, by decide +kernel⟩, List.mem_of_getElem? (i := 1181) (by decide +kernel), List.mem_of_getElem? (i := 1556) (by decide +kernel), List.mem_of_getElem? (i := 1557) (by decide +kernel)⟩
theorem lw_p51 : lw_okq (⟨"RoomTreesModel", "isWu", "(I)Z"⟩, 40) := ⟨⟨by decide +kernel, by decide +kernel⟩, List.mem_of_getElem? (i := 1181) (by decide +kernel), List.mem_of_getElem? (i := 1560) (by decide +kernel), List.mem_of_getElem? (i := 1561) (by decide +kernel)⟩
theorem lw_p52 : lw_okq (⟨"RoomTreesModel", "leastWu", "()I"⟩, 40) := ⟨⟨by decide +kernel, by decide +kernel⟩, List.mem_of_getElem? (i := 1181) (by decide +kernel), List.mem_of_getElem? (i := 1564) (by decide +kernel), List.mem_of_getElem? (i := 1565) (by decide +kernel)⟩
theorem lw_p53 : lw_okq (⟨"RoomTreesModel", "way", "(II)I"⟩, 40) := ⟨⟨by decide +kernel, by decide +kernel⟩, List.mem_of_getElem? (i := 1181) (by decide +kernel), List.mem_of_getElem? (i := 1576) (by decide +kernel), List.mem_of_getElem? (i := 1577) (by decide +kernel)⟩
theorem lw_p54 : lw_okq (⟨"RoomTreesModel", "isLine", "(I)Z"⟩, 40) := ⟨⟨by decide +kernel, by decide +kernel⟩, List.mem_of_getElem? (i := 1181) (by decide +kernel), List.mem_of_getElem? (i := 1584) (by decide +kernel), List.mem_of_getElem? (i := 1585) (by decide +kernel)⟩
theorem lw_p55 : lw_okq (⟨"RoomTreesModel", "roomN", "(I)J"⟩, 40) := ⟨⟨by decide +kernel, by decide +kernel⟩, List.mem_of_getElem? (i := 1181) (by decide +kernel), List.mem_of_getElem? (i := 1588) (by decide +kernel), List.mem_of_getElem? (i := 1589) (by decide +kernel)⟩
theorem lw_p56 : lw_okq (⟨"RoomTreesModel", "roomM", "(I)J"⟩, 40) := ⟨⟨by decide +kernel, by decide +kernel⟩, List.mem_of_getElem? (i := 1181) (by decide +kernel), List.mem_of_getElem? (i := 1595) (by decide +kernel), List.mem_of_getElem? (i := 1596) (by decide +kernel)⟩
theorem lw_p57 : lw_okq (⟨"RoomTreesModel", "forestHere", "()V"⟩, 40) := ⟨⟨by decide +kernel, by decide +kernel⟩, List.mem_of_getElem? (i := 1181) (by decide +kernel), List.mem_of_getElem? (i := 1628) (by decide +kernel), List.mem_of_getElem? (i := 1629) (by decide +kernel)⟩
theorem lw_p58 : lw_okq (⟨"RoomTreesModel", "here", "()I"⟩, 40) := ⟨⟨by decide +kernel, by decide +kernel⟩, List.mem_of_getElem? (i := 1181) (by decide +kernel), List.mem_of_getElem? (i := 1632) (by decide +kernel), List.mem_of_getElem? (i := 1633) (by decide +kernel)⟩
theorem lw_p59 : lw_okq (⟨"RoomTreesModel", "opensHere", "(I)I"⟩, 40) := ⟨⟨by decide +kernel, by decide +kernel⟩, List.mem_of_getElem? (i := 1181) (by decide +kernel), List.mem_of_getElem? (i := 1636) (by decide +kernel), List.mem_of_getElem? (i := 1637) (by decide +kernel)⟩
theorem lw_p60 : lw_okq (⟨"RoomTreesModel", "weightHere", "()I"⟩, 40) := ⟨⟨by decide +kernel, by decide +kernel⟩, List.mem_of_getElem? (i := 1181) (by decide +kernel), List.mem_of_getElem? (i := 1640) (by decide +kernel), List.mem_of_getElem? (i := 1641) (by decide +kernel)⟩
theorem lw_p61 : lw_okq (⟨"RoomTreesModel", "byteAt", "(I)I"⟩, 40) := ⟨⟨by decide +kernel, by decide +kernel⟩, List.mem_of_getElem? (i := 1181) (by decide +kernel), List.mem_of_getElem? (i := 1644) (by decide +kernel), List.mem_of_getElem? (i := 1645) (by decide +kernel)⟩
theorem lw_p62 : lw_okq (⟨"RoomTreesModel", "layText", "([I)V"⟩, 40) := ⟨⟨by decide +kernel, by decide +kernel⟩, List.mem_of_getElem? (i := 1181) (by decide +kernel), List.mem_of_getElem? (i := 1657) (by decide +kernel), List.mem_of_getElem? (i := 1658) (by decide +kernel)⟩
theorem lw_p63 : lw_okq (⟨"RoomTreesModel", "layTree", "([II)V"⟩, 40) := ⟨⟨by decide +kernel, by decide +kernel⟩, List.mem_of_getElem? (i := 1181) (by decide +kernel), List.mem_of_getElem? (i := 1661) (by decide +kernel), List.mem_of_getElem? (i := 1662) (by decide +kernel)⟩
def lw_privs_4 : List (MethodName × Nat) := [(⟨"RoomTreesModel", "kernelOf", "(I)I"⟩, 40), (⟨"RoomTreesModel", "layRows", "(I)V"⟩, 40), (⟨"RoomTreesModel", "manyWu", "()I"⟩, 40), (⟨"RoomTreesModel", "isWu", "(I)Z"⟩, 40), (⟨"RoomTreesModel", "leastWu", "()I"⟩, 40), (⟨"RoomTreesModel", "way", "(II)I"⟩, 40), (⟨"RoomTreesModel", "isLine", "(I)Z"⟩, 40), (⟨"RoomTreesModel", "roomN", "(I)J"⟩, 40), (⟨"RoomTreesModel", "roomM", "(I)J"⟩, 40), (⟨"RoomTreesModel", "forestHere", "()V"⟩, 40), (⟨"RoomTreesModel", "here", "()I"⟩, 40), (⟨"RoomTreesModel", "opensHere", "(I)I"⟩, 40), (⟨"RoomTreesModel", "weightHere", "()I"⟩, 40), (⟨"RoomTreesModel", "byteAt", "(I)I"⟩, 40), (⟨"RoomTreesModel", "layText", "([I)V"⟩, 40), (⟨"RoomTreesModel", "layTree", "([II)V"⟩, 40)]
theorem lw_r4 : ∀ q ∈ lw_privs_4, lw_okq q := List.forall_mem_cons.mpr ⟨lw_p48, List.forall_mem_cons.mpr ⟨lw_p49, List.forall_mem_cons.mpr ⟨lw_p50, List.forall_mem_cons.mpr ⟨lw_p51, List.forall_mem_cons.mpr ⟨lw_p52, List.forall_mem_cons.mpr ⟨lw_p53, List.forall_mem_cons.mpr ⟨lw_p54, List.forall_mem_cons.mpr ⟨lw_p55, List.forall_mem_cons.mpr ⟨lw_p56, List.forall_mem_cons.mpr ⟨lw_p57, List.forall_mem_cons.mpr ⟨lw_p58, List.forall_mem_cons.mpr ⟨lw_p59, List.forall_mem_cons.mpr ⟨lw_p60, List.forall_mem_cons.mpr ⟨lw_p61, List.forall_mem_cons.mpr ⟨lw_p62, List.forall_mem_cons.mpr ⟨lw_p63, fun _ h => absurd h List.not_mem_nil⟩⟩⟩⟩⟩⟩⟩⟩⟩⟩⟩⟩⟩⟩⟩⟩
theorem lw_p64 : lw_okq (⟨"RoomTreesModel", "layHang", "([III)V"⟩, 40) := ⟨⟨by decide +kernel, by decide +kernel⟩, List.mem_of_getElem? (i := 1181) (by decide +kernel), List.mem_of_getElem? (i := 1665) (by decide +kernel), List.mem_of_getElem? (i := 1666) (by decide +kernel)⟩
theorem lw_p65 : lw_okq (⟨"RoomTreesModel", "layDue", "([I)V"⟩, 40) := ⟨⟨by decide +kernel, by decide +kernel⟩, List.mem_of_getElem? (i := 1181) (by decide +kernel), List.mem_of_getElem? (i := 1694) (by decide +kernel), List.mem_of_getElem? (i := 1695) (by decide +kernel)⟩
theorem lw_p66 : lw_okq (⟨"RoomTreesModel", "isDue", "([I)Z"⟩, 40) := ⟨⟨by decide +kernel, by decide +kernel⟩, List.mem_of_getElem? (i := 1181) (by decide +kernel), List.mem_of_getElem? (i := 1698) (by decide +kernel), List.mem_of_getElem? (i := 1699) (by decide +kernel)⟩
theorem lw_p67 : lw_okq (⟨"RoomTreesModel", "isWorker", "(I)Z"⟩, 40) := ⟨⟨by decide +kernel, by decide +kernel⟩, List.mem_of_getElem? (i := 1181) (by decide +kernel), List.mem_of_getElem? (i := 1711) (by decide +kernel), List.mem_of_getElem? (i := 1712) (by decide +kernel)⟩
theorem lw_p68 : lw_okq (⟨"RoomTreesModel", "toTheEnd", "(II)I"⟩, 40) := ⟨⟨by decide +kernel, by decide +kernel⟩, List.mem_of_getElem? (i := 1181) (by decide +kernel), List.mem_of_getElem? (i := 1745) (by decide +kernel), List.mem_of_getElem? (i := 1746) (by decide +kernel)⟩
theorem lw_p69 : lw_okq (⟨"RoomTreesModel", "tries", "(III)V"⟩, 40) := ⟨⟨by decide +kernel, by decide +kernel⟩, List.mem_of_getElem? (i := 1181) (by decide +kernel), List.mem_of_getElem? (i := 1760) (by decide +kernel), List.mem_of_getElem? (i := 1761) (by decide +kernel)⟩
theorem lw_p70 : lw_okq (⟨"RoomTreesModel", "comesTo", "(III)Z"⟩, 40) := ⟨⟨by decide +kernel, by decide +kernel⟩, List.mem_of_getElem? (i := 1181) (by decide +kernel), List.mem_of_getElem? (i := 1768) (by decide +kernel), List.mem_of_getElem? (i := 1769) (by decide +kernel)⟩
theorem lw_p71 : lw_okq (⟨"RoomTreesModel", "lacks", "(II)I"⟩, 40) := ⟨⟨by decide +kernel, by decide +kernel⟩, List.mem_of_getElem? (i := 1181) (by decide +kernel), List.mem_of_getElem? (i := 1780) (by decide +kernel), List.mem_of_getElem? (i := 1781) (by decide +kernel)⟩
theorem lw_p72 : lw_okq (⟨"RoomTreesModel", "lays", "(III)V"⟩, 40) := ⟨⟨by decide +kernel, by decide +kernel⟩, List.mem_of_getElem? (i := 1181) (by decide +kernel), List.mem_of_getElem? (i := 1784) (by decide +kernel), List.mem_of_getElem? (i := 1785) (by decide +kernel)⟩
theorem lw_p73 : lw_okq (⟨"RoomTreesModel", "notThere", "(I)I"⟩, 40) := ⟨⟨by decide +kernel, by decide +kernel⟩, List.mem_of_getElem? (i := 1181) (by decide +kernel), List.mem_of_getElem? (i := 1800) (by decide +kernel), List.mem_of_getElem? (i := 1801) (by decide +kernel)⟩
theorem lw_p74 : lw_okq (⟨"RoomTreesModel", "edges", "()I"⟩, 40) := ⟨⟨by decide +kernel, by decide +kernel⟩, List.mem_of_getElem? (i := 1181) (by decide +kernel), List.mem_of_getElem? (i := 1825) (by decide +kernel), List.mem_of_getElem? (i := 1826) (by decide +kernel)⟩
theorem lw_p75 : lw_okq (⟨"RoomTreesModel", "heldOnes", "()I"⟩, 40) := ⟨⟨by decide +kernel, by decide +kernel⟩, List.mem_of_getElem? (i := 1181) (by decide +kernel), List.mem_of_getElem? (i := 1829) (by decide +kernel), List.mem_of_getElem? (i := 1830) (by decide +kernel)⟩
theorem lw_p76 : lw_okq (⟨"RoomTreesModel", "allJobs", "()I"⟩, 40) := ⟨⟨by decide +kernel, by decide +kernel⟩, List.mem_of_getElem? (i := 1181) (by decide +kernel), List.mem_of_getElem? (i := 1833) (by decide +kernel), List.mem_of_getElem? (i := 1834) (by decide +kernel)⟩
def lw_privs_5 : List (MethodName × Nat) := [(⟨"RoomTreesModel", "layHang", "([III)V"⟩, 40), (⟨"RoomTreesModel", "layDue", "([I)V"⟩, 40), (⟨"RoomTreesModel", "isDue", "([I)Z"⟩, 40), (⟨"RoomTreesModel", "isWorker", "(I)Z"⟩, 40), (⟨"RoomTreesModel", "toTheEnd", "(II)I"⟩, 40), (⟨"RoomTreesModel", "tries", "(III)V"⟩, 40), (⟨"RoomTreesModel", "comesTo", "(III)Z"⟩, 40), (⟨"RoomTreesModel", "lacks", "(II)I"⟩, 40), (⟨"RoomTreesModel", "lays", "(III)V"⟩, 40), (⟨"RoomTreesModel", "notThere", "(I)I"⟩, 40), (⟨"RoomTreesModel", "edges", "()I"⟩, 40), (⟨"RoomTreesModel", "heldOnes", "()I"⟩, 40), (⟨"RoomTreesModel", "allJobs", "()I"⟩, 40)]
theorem lw_r5 : ∀ q ∈ lw_privs_5, lw_okq q := List.forall_mem_cons.mpr ⟨lw_p64, List.forall_mem_cons.mpr ⟨lw_p65, List.forall_mem_cons.mpr ⟨lw_p66, List.forall_mem_cons.mpr ⟨lw_p67, List.forall_mem_cons.mpr ⟨lw_p68, List.forall_mem_cons.mpr ⟨lw_p69, List.forall_mem_cons.mpr ⟨lw_p70, List.forall_mem_cons.mpr ⟨lw_p71, List.forall_mem_cons.mpr ⟨lw_p72, List.forall_mem_cons.mpr ⟨lw_p73, List.forall_mem_cons.mpr ⟨lw_p74, List.forall_mem_cons.mpr ⟨lw_p75, List.forall_mem_cons.mpr ⟨lw_p76, fun _ h => absurd h List.not_mem_nil⟩⟩⟩⟩⟩⟩⟩⟩⟩⟩⟩⟩⟩
def lw_privs : List (MethodName × Nat) := lw_privs_1 ++ (lw_privs_2 ++ (lw_privs_3 ++ (lw_privs_4 ++ (lw_privs_5))))
def lw_tbl : List Cond := k2_sels lw_privs ++ tables_1
theorem lw_privs_ok : ∀ q ∈ lw_privs, lw_okq q := by
  show ∀ q ∈ lw_privs_1 ++ (lw_privs_2 ++ (lw_privs_3 ++ (lw_privs_4 ++ (lw_privs_5)))), lw_okq q
  exact List.forall_mem_append.mpr ⟨lw_r1, List.forall_mem_append.mpr ⟨lw_r2, List.forall_mem_append.mpr ⟨lw_r3, List.forall_mem_append.mpr ⟨lw_r4, lw_r5⟩⟩⟩⟩
def RX0 : String := "RoomTrees$Crew"
def TX0 : u_T := fun k => match k with
  | 0 => ("RoomTrees$Crew", "kinds", "[I", true)
  | 1 => ("RoomTrees$Crew", "starts", "[I", true)
  | 2 => ("RoomTrees$Crew", "jobs", "[I", true)
  | _ => ("RoomTrees$Crew", "size", "I", false)
def tyX0 : Nat → FieldType := fun k => match k with
  | 0 => .array .int
  | 1 => .array .int
  | 2 => .array .int
  | _ => .int
theorem nmX0 : ∀ a, a < 4 → ∀ b, b < 4 → a ≠ b → (TX0 a).2.1 ≠ (TX0 b).2.1 := by decide +kernel
theorem tyX0_ok : ∀ k, k < 4 → parseFieldDescriptor (TX0 k).2.2.1 = some (tyX0 k) := by decide +kernel
abbrev cX0_init : ByteArray := prog_2_method_1_code
def yX0_init : MethodName := ⟨RX0, "<init>", "()V"⟩
abbrev cX0_follow : ByteArray := prog_2_method_2_code
def yX0_follow : MethodName := ⟨RX0, "follow", "(LRoomTrees$Crew;)V"⟩
abbrev cX0_has : ByteArray := prog_2_method_3_code
def yX0_has : MethodName := ⟨RX0, "has", "(I)Z"⟩
abbrev cX0_hire : ByteArray := prog_2_method_4_code
def yX0_hire : MethodName := ⟨RX0, "hire", "(II)I"⟩
abbrev cX0_retrain : ByteArray := prog_2_method_5_code
def yX0_retrain : MethodName := ⟨RX0, "retrain", "(II)V"⟩
abbrev cX0_credit : ByteArray := prog_2_method_6_code
def yX0_credit : MethodName := ⟨RX0, "credit", "(II)V"⟩
abbrev cX0_kindOf : ByteArray := prog_2_method_7_code
def yX0_kindOf : MethodName := ⟨RX0, "kindOf", "(I)I"⟩
abbrev cX0_startOf : ByteArray := prog_2_method_8_code
def yX0_startOf : MethodName := ⟨RX0, "startOf", "(I)I"⟩
abbrev cX0_jobsOf : ByteArray := prog_2_method_9_code
def yX0_jobsOf : MethodName := ⟨RX0, "jobsOf", "(I)I"⟩
abbrev cX0_allJobs : ByteArray := prog_2_method_10_code
def yX0_allJobs : MethodName := ⟨RX0, "allJobs", "()I"⟩
abbrev cX0_isUnder : ByteArray := prog_2_method_11_code
def yX0_isUnder : MethodName := ⟨RX0, "isUnder", "(II)Z"⟩
abbrev cX0_cost : ByteArray := prog_2_method_12_code
def yX0_cost : MethodName := ⟨RX0, "cost", "(II)I"⟩
abbrev cX0_plan : ByteArray := prog_2_method_13_code
def yX0_plan : MethodName := ⟨RX0, "plan", "(LRoomTrees$Step;LRoomTrees$Forest;II)Z"⟩
def RX1 : String := "RoomTrees$Forest"
def TX1 : u_T := fun k => match k with
  | 0 => ("RoomTrees$Forest", "weights", "[I", true)
  | 1 => ("RoomTrees$Forest", "nears", "[I", true)
  | _ => ("RoomTrees$Forest", "set", "I", false)
def tyX1 : Nat → FieldType := fun k => match k with
  | 0 => .array .int
  | 1 => .array .int
  | _ => .int
theorem nmX1 : ∀ a, a < 3 → ∀ b, b < 3 → a ≠ b → (TX1 a).2.1 ≠ (TX1 b).2.1 := by decide +kernel
theorem tyX1_ok : ∀ k, k < 3 → parseFieldDescriptor (TX1 k).2.2.1 = some (tyX1 k) := by decide +kernel
abbrev cX1_init : ByteArray := prog_3_method_1_code
def yX1_init : MethodName := ⟨RX1, "<init>", "()V"⟩
abbrev cX1_clear : ByteArray := prog_3_method_2_code
def yX1_clear : MethodName := ⟨RX1, "clear", "()V"⟩
abbrev cX1_follow : ByteArray := prog_3_method_3_code
def yX1_follow : MethodName := ⟨RX1, "follow", "(LRoomTrees$Forest;)V"⟩
abbrev cX1_has : ByteArray := prog_3_method_4_code
def yX1_has : MethodName := ⟨RX1, "has", "(I)Z"⟩
abbrev cX1_size : ByteArray := prog_3_method_5_code
def yX1_size : MethodName := ⟨RX1, "size", "()I"⟩
abbrev cX1_weightAt : ByteArray := prog_3_method_6_code
def yX1_weightAt : MethodName := ⟨RX1, "weightAt", "(I)I"⟩
abbrev cX1_nearsAt : ByteArray := prog_3_method_7_code
def yX1_nearsAt : MethodName := ⟨RX1, "nearsAt", "(I)I"⟩
abbrev cX1_degree : ByteArray := prog_3_method_8_code
def yX1_degree : MethodName := ⟨RX1, "degree", "(I)I"⟩
abbrev cX1_areNear : ByteArray := prog_3_method_9_code
def yX1_areNear : MethodName := ⟨RX1, "areNear", "(II)Z"⟩
abbrev cX1_edges : ByteArray := prog_3_method_10_code
def yX1_edges : MethodName := ⟨RX1, "edges", "()I"⟩
abbrev cX1_trees : ByteArray := prog_3_method_11_code
def yX1_trees : MethodName := ⟨RX1, "trees", "()I"⟩
abbrev cX1_weightSum : ByteArray := prog_3_method_12_code
def yX1_weightSum : MethodName := ⟨RX1, "weightSum", "()I"⟩
abbrev cX1_isLine : ByteArray := prog_3_method_13_code
def yX1_isLine : MethodName := ⟨RX1, "isLine", "(I)Z"⟩
abbrev cX1_tableSum : ByteArray := prog_3_method_14_code
def yX1_tableSum : MethodName := ⟨RX1, "tableSum", "(I)I"⟩
abbrev cX1_setWeight : ByteArray := prog_3_method_15_code
def yX1_setWeight : MethodName := ⟨RX1, "setWeight", "(II)V"⟩
abbrev cX1_addWeight : ByteArray := prog_3_method_16_code
def yX1_addWeight : MethodName := ⟨RX1, "addWeight", "(II)V"⟩
abbrev cX1_mirror : ByteArray := prog_3_method_17_code
def yX1_mirror : MethodName := ⟨RX1, "mirror", "()V"⟩
abbrev cX1_grow : ByteArray := prog_3_method_18_code
def yX1_grow : MethodName := ⟨RX1, "grow", "(I)I"⟩
abbrev cX1_join : ByteArray := prog_3_method_19_code
def yX1_join : MethodName := ⟨RX1, "join", "(II)V"⟩
abbrev cX1_joinAll : ByteArray := prog_3_method_20_code
def yX1_joinAll : MethodName := ⟨RX1, "joinAll", "(II)V"⟩
abbrev cX1_part : ByteArray := prog_3_method_21_code
def yX1_part : MethodName := ⟨RX1, "part", "(II)V"⟩
abbrev cX1_partAll : ByteArray := prog_3_method_22_code
def yX1_partAll : MethodName := ⟨RX1, "partAll", "(II)V"⟩
abbrev cX1_remove : ByteArray := prog_3_method_23_code
def yX1_remove : MethodName := ⟨RX1, "remove", "(I)V"⟩
abbrev cX1_print : ByteArray := prog_3_method_24_code
def yX1_print : MethodName := ⟨RX1, "print", "()I"⟩
abbrev cX1_nearSum : ByteArray := prog_3_method_25_code
def yX1_nearSum : MethodName := ⟨RX1, "nearSum", "(I)I"⟩
def RX2 : String := "RoomTrees$Reckoner"
def TX2 : u_T := fun k => match k with
  | 0 => ("RoomTrees$Reckoner", "walk", "LRoomTrees$Walk;", true)
  | 1 => ("RoomTrees$Reckoner", "tops", "[J", true)
  | 2 => ("RoomTrees$Reckoner", "rests", "[J", true)
  | 3 => ("RoomTrees$Reckoner", "rows", "[I", true)
  | 4 => ("RoomTrees$Reckoner", "upper", "J", false)
  | 5 => ("RoomTrees$Reckoner", "lower", "J", false)
  | 6 => ("RoomTrees$Reckoner", "paired", "I", false)
  | 7 => ("RoomTrees$Reckoner", "above", "I", false)
  | 8 => ("RoomTrees$Reckoner", "below", "I", false)
  | 9 => ("RoomTrees$Reckoner", "zeros", "I", false)
  | 10 => ("RoomTrees$Reckoner", "wuFree", "I", false)
  | _ => ("RoomTrees$Reckoner", "wuLeast", "I", false)
def tyX2 : Nat → FieldType := fun k => match k with
  | 0 => .object "RoomTrees$Walk"
  | 1 => .array .long
  | 2 => .array .long
  | 3 => .array .int
  | 4 => .long
  | 5 => .long
  | 6 => .int
  | 7 => .int
  | 8 => .int
  | 9 => .int
  | 10 => .int
  | _ => .int
theorem nmX2 : ∀ a, a < 12 → ∀ b, b < 12 → a ≠ b → (TX2 a).2.1 ≠ (TX2 b).2.1 := by decide +kernel
theorem tyX2_ok : ∀ k, k < 12 → parseFieldDescriptor (TX2 k).2.2.1 = some (tyX2 k) := by decide +kernel
abbrev cX2_init : ByteArray := prog_4_method_1_code
def yX2_init : MethodName := ⟨RX2, "<init>", "()V"⟩
abbrev cX2_minorOf : ByteArray := prog_4_method_2_code
def yX2_minorOf : MethodName := ⟨RX2, "minorOf", "(LRoomTrees$Forest;I)J"⟩
abbrev cX2_start : ByteArray := prog_4_method_3_code
def yX2_start : MethodName := ⟨RX2, "start", "(LRoomTrees$Forest;I)V"⟩
abbrev cX2_fold : ByteArray := prog_4_method_4_code
def yX2_fold : MethodName := ⟨RX2, "fold", "(III)V"⟩
abbrev cX2_left : ByteArray := prog_4_method_5_code
def yX2_left : MethodName := ⟨RX2, "left", "(JI)J"⟩
abbrev cX2_inverseOf : ByteArray := prog_4_method_6_code
def yX2_inverseOf : MethodName := ⟨RX2, "inverseOf", "(LRoomTrees$Forest;II)Z"⟩
abbrev cX2_fractionOf : ByteArray := prog_4_method_7_code
def yX2_fractionOf : MethodName := ⟨RX2, "fractionOf", "(LRoomTrees$Forest;II)Z"⟩
abbrev cX2_roomOf : ByteArray := prog_4_method_8_code
def yX2_roomOf : MethodName := ⟨RX2, "roomOf", "(LRoomTrees$Forest;I)V"⟩
abbrev cX2_sortSigns : ByteArray := prog_4_method_9_code
def yX2_sortSigns : MethodName := ⟨RX2, "sortSigns", "(LRoomTrees$Forest;I)V"⟩
abbrev cX2_settle : ByteArray := prog_4_method_10_code
def yX2_settle : MethodName := ⟨RX2, "settle", "(III)V"⟩
abbrev cX2_solveWu : ByteArray := prog_4_method_11_code
def yX2_solveWu : MethodName := ⟨RX2, "solveWu", "(LRoomTrees$Forest;)V"⟩
abbrev cX2_rowWith : ByteArray := prog_4_method_12_code
def yX2_rowWith : MethodName := ⟨RX2, "rowWith", "(II)I"⟩
abbrev cX2_clearColumn : ByteArray := prog_4_method_13_code
def yX2_clearColumn : MethodName := ⟨RX2, "clearColumn", "(II)V"⟩
abbrev cX2_readLeast : ByteArray := prog_4_method_14_code
def yX2_readLeast : MethodName := ⟨RX2, "readLeast", "(I)V"⟩
def RX3 : String := "RoomTrees$Search"
def TX3 : u_T := fun k => match k with
  | 0 => ("RoomTrees$Search", "levels", "[LRoomTrees$Forest;", true)
  | 1 => ("RoomTrees$Search", "step", "LRoomTrees$Step;", true)
  | 2 => ("RoomTrees$Search", "speller", "LRoomTrees$Speller;", true)
  | 3 => ("RoomTrees$Search", "spelled", "LRoomTrees$Text;", true)
  | 4 => ("RoomTrees$Search", "goal", "LRoomTrees$Text;", true)
  | 5 => ("RoomTrees$Search", "goalSize", "I", false)
  | 6 => ("RoomTrees$Search", "goalPrint", "I", false)
  | 7 => ("RoomTrees$Search", "left", "I", false)
  | 8 => ("RoomTrees$Search", "moves", "I", false)
  | _ => ("RoomTrees$Search", "first", "I", false)
def tyX3 : Nat → FieldType := fun k => match k with
  | 0 => .array (.object "RoomTrees$Forest")
  | 1 => .object "RoomTrees$Step"
  | 2 => .object "RoomTrees$Speller"
  | 3 => .object "RoomTrees$Text"
  | 4 => .object "RoomTrees$Text"
  | 5 => .int
  | 6 => .int
  | 7 => .int
  | 8 => .int
  | _ => .int
theorem nmX3 : ∀ a, a < 10 → ∀ b, b < 10 → a ≠ b → (TX3 a).2.1 ≠ (TX3 b).2.1 := by decide +kernel
theorem tyX3_ok : ∀ k, k < 10 → parseFieldDescriptor (TX3 k).2.2.1 = some (tyX3 k) := by decide +kernel
abbrev cX3_init : ByteArray := prog_5_method_1_code
def yX3_init : MethodName := ⟨RX3, "<init>", "()V"⟩
abbrev cX3_levelAt : ByteArray := prog_5_method_2_code
def yX3_levelAt : MethodName := ⟨RX3, "levelAt", "(I)LRoomTrees$Forest;"⟩
abbrev cX3_begin : ByteArray := prog_5_method_3_code
def yX3_begin : MethodName := ⟨RX3, "begin", "(LRoomTrees$Forest;)V"⟩
abbrev cX3_dig : ByteArray := prog_5_method_4_code
def yX3_dig : MethodName := ⟨RX3, "dig", "(LRoomTrees$Forest;I)V"⟩
abbrev cX3_deepen : ByteArray := prog_5_method_5_code
def yX3_deepen : MethodName := ⟨RX3, "deepen", "(III)V"⟩
abbrev cX3_note : ByteArray := prog_5_method_6_code
def yX3_note : MethodName := ⟨RX3, "note", "(III)V"⟩
abbrev cX3_aim : ByteArray := prog_5_method_7_code
def yX3_aim : MethodName := ⟨RX3, "aim", "(LRoomTrees$Forest;)V"⟩
abbrev cX3_isGoal : ByteArray := prog_5_method_8_code
def yX3_isGoal : MethodName := ⟨RX3, "isGoal", "(LRoomTrees$Forest;)Z"⟩
abbrev cX3_climb : ByteArray := prog_5_method_9_code
def yX3_climb : MethodName := ⟨RX3, "climb", "(II)Z"⟩
def RX4 : String := "RoomTrees$Sheet"
def TX4 : u_T := fun k => match k with
  | 0 => ("RoomTrees$Sheet", "bits", "I", true)
  | _ => ("RoomTrees$Sheet", "numbers", "[I", true)
def tyX4 : Nat → FieldType := fun k => match k with
  | 0 => .int
  | _ => .array .int
theorem nmX4 : ∀ a, a < 2 → ∀ b, b < 2 → a ≠ b → (TX4 a).2.1 ≠ (TX4 b).2.1 := by decide +kernel
theorem tyX4_ok : ∀ k, k < 2 → parseFieldDescriptor (TX4 k).2.2.1 = some (tyX4 k) := by decide +kernel
abbrev cX4_init : ByteArray := prog_6_method_1_code
def yX4_init : MethodName := ⟨RX4, "<init>", "(II)V"⟩
abbrev cX4_has : ByteArray := prog_6_method_2_code
def yX4_has : MethodName := ⟨RX4, "has", "(I)Z"⟩
abbrev cX4_holds : ByteArray := prog_6_method_3_code
def yX4_holds : MethodName := ⟨RX4, "holds", "(II)Z"⟩
abbrev cX4_read : ByteArray := prog_6_method_4_code
def yX4_read : MethodName := ⟨RX4, "read", "(I)I"⟩
abbrev cX4_write : ByteArray := prog_6_method_5_code
def yX4_write : MethodName := ⟨RX4, "write", "(II)V"⟩
def RX5 : String := "RoomTrees$Speller"
def TX5 : u_T := fun k => match k with
  | 0 => ("RoomTrees$Speller", "walk", "LRoomTrees$Walk;", true)
  | 1 => ("RoomTrees$Speller", "hanging", "[LRoomTrees$Text;", true)
  | _ => ("RoomTrees$Speller", "trees", "[LRoomTrees$Text;", true)
def tyX5 : Nat → FieldType := fun k => match k with
  | 0 => .object "RoomTrees$Walk"
  | 1 => .array (.object "RoomTrees$Text")
  | _ => .array (.object "RoomTrees$Text")
theorem nmX5 : ∀ a, a < 3 → ∀ b, b < 3 → a ≠ b → (TX5 a).2.1 ≠ (TX5 b).2.1 := by decide +kernel
theorem tyX5_ok : ∀ k, k < 3 → parseFieldDescriptor (TX5 k).2.2.1 = some (tyX5 k) := by decide +kernel
abbrev cX5_init : ByteArray := prog_7_method_1_code
def yX5_init : MethodName := ⟨RX5, "<init>", "()V"⟩
abbrev cX5_spell : ByteArray := prog_7_method_2_code
def yX5_spell : MethodName := ⟨RX5, "spell", "(LRoomTrees$Forest;LRoomTrees$Text;)V"⟩
abbrev cX5_spellVertex : ByteArray := prog_7_method_3_code
def yX5_spellVertex : MethodName := ⟨RX5, "spellVertex", "(LRoomTrees$Forest;I)V"⟩
abbrev cX5_addInOrder : ByteArray := prog_7_method_4_code
def yX5_addInOrder : MethodName := ⟨RX5, "addInOrder", "(LRoomTrees$Text;[LRoomTrees$Text;I)V"⟩
def RX6 : String := "RoomTrees$Step"
def TX6 : u_T := fun k => match k with
  | 0 => ("RoomTrees$Step", "kind", "I", false)
  | 1 => ("RoomTrees$Step", "p", "I", false)
  | 2 => ("RoomTrees$Step", "q", "I", false)
  | 3 => ("RoomTrees$Step", "v", "I", false)
  | 4 => ("RoomTrees$Step", "s", "I", false)
  | 5 => ("RoomTrees$Step", "sign", "I", false)
  | _ => ("RoomTrees$Step", "ahead", "LRoomTrees$Forest;", true)
def tyX6 : Nat → FieldType := fun k => match k with
  | 0 => .int
  | 1 => .int
  | 2 => .int
  | 3 => .int
  | 4 => .int
  | 5 => .int
  | _ => .object "RoomTrees$Forest"
theorem nmX6 : ∀ a, a < 7 → ∀ b, b < 7 → a ≠ b → (TX6 a).2.1 ≠ (TX6 b).2.1 := by decide +kernel
theorem tyX6_ok : ∀ k, k < 7 → parseFieldDescriptor (TX6 k).2.2.1 = some (tyX6 k) := by decide +kernel
abbrev cX6_init : ByteArray := prog_8_method_1_code
def yX6_init : MethodName := ⟨RX6, "<init>", "()V"⟩
abbrev cX6_mean : ByteArray := prog_8_method_2_code
def yX6_mean : MethodName := ⟨RX6, "mean", "(IIIII)V"⟩
abbrev cX6_meanNumber : ByteArray := prog_8_method_3_code
def yX6_meanNumber : MethodName := ⟨RX6, "meanNumber", "(I)Z"⟩
abbrev cX6_shrink : ByteArray := prog_8_method_4_code
def yX6_shrink : MethodName := ⟨RX6, "shrink", "(LRoomTrees$Forest;I)Z"⟩
abbrev cX6_seek : ByteArray := prog_8_method_5_code
def yX6_seek : MethodName := ⟨RX6, "seek", "(LRoomTrees$Forest;IIIZI)Z"⟩
abbrev cX6_refusal : ByteArray := prog_8_method_6_code
def yX6_refusal : MethodName := ⟨RX6, "refusal", "(LRoomTrees$Forest;Z)I"⟩
abbrev cX6_isTold : ByteArray := prog_8_method_7_code
def yX6_isTold : MethodName := ⟨RX6, "isTold", "(LRoomTrees$Forest;)Z"⟩
abbrev cX6_fits : ByteArray := prog_8_method_8_code
def yX6_fits : MethodName := ⟨RX6, "fits", "(LRoomTrees$Forest;)Z"⟩
abbrev cX6_overloads : ByteArray := prog_8_method_9_code
def yX6_overloads : MethodName := ⟨RX6, "overloads", "(LRoomTrees$Forest;)Z"⟩
abbrev cX6_signOn : ByteArray := prog_8_method_10_code
def yX6_signOn : MethodName := ⟨RX6, "signOn", "(LRoomTrees$Forest;)I"⟩
abbrev cX6_act : ByteArray := prog_8_method_11_code
def yX6_act : MethodName := ⟨RX6, "act", "(LRoomTrees$Forest;)V"⟩
abbrev cX6_blowDown : ByteArray := prog_8_method_12_code
def yX6_blowDown : MethodName := ⟨RX6, "blowDown", "(LRoomTrees$Forest;)V"⟩
abbrev cX6_bud : ByteArray := prog_8_method_13_code
def yX6_bud : MethodName := ⟨RX6, "bud", "(LRoomTrees$Forest;)I"⟩
abbrev cX6_absorb : ByteArray := prog_8_method_14_code
def yX6_absorb : MethodName := ⟨RX6, "absorb", "(LRoomTrees$Forest;)V"⟩
abbrev cX6_draw : ByteArray := prog_8_method_15_code
def yX6_draw : MethodName := ⟨RX6, "draw", "(LRoomTrees$Forest;)V"⟩
def RX7 : String := "RoomTrees$Tape"
def TX7 : u_T := fun k => match k with
  | 0 => ("RoomTrees$Tape", "bytes", "[I", true)
  | 1 => ("RoomTrees$Tape", "holders", "[I", true)
  | _ => ("RoomTrees$Tape", "length", "I", false)
def tyX7 : Nat → FieldType := fun k => match k with
  | 0 => .array .int
  | 1 => .array .int
  | _ => .int
theorem nmX7 : ∀ a, a < 3 → ∀ b, b < 3 → a ≠ b → (TX7 a).2.1 ≠ (TX7 b).2.1 := by decide +kernel
theorem tyX7_ok : ∀ k, k < 3 → parseFieldDescriptor (TX7 k).2.2.1 = some (tyX7 k) := by decide +kernel
abbrev cX7_init : ByteArray := prog_9_method_1_code
def yX7_init : MethodName := ⟨RX7, "<init>", "()V"⟩
abbrev cX7_add : ByteArray := prog_9_method_2_code
def yX7_add : MethodName := ⟨RX7, "add", "(I)V"⟩
abbrev cX7_read : ByteArray := prog_9_method_3_code
def yX7_read : MethodName := ⟨RX7, "read", "(LRoomTrees$Forest;)I"⟩
abbrev cX7_hang : ByteArray := prog_9_method_4_code
def yX7_hang : MethodName := ⟨RX7, "hang", "(LRoomTrees$Forest;I)I"⟩
abbrev cX7_byteAt : ByteArray := prog_9_method_5_code
def yX7_byteAt : MethodName := ⟨RX7, "byteAt", "(I)I"⟩
abbrev cX7_isDigit : ByteArray := prog_9_method_6_code
def yX7_isDigit : MethodName := ⟨RX7, "isDigit", "(I)Z"⟩
abbrev cX7_skipBlanks : ByteArray := prog_9_method_7_code
def yX7_skipBlanks : MethodName := ⟨RX7, "skipBlanks", "(I)I"⟩
abbrev cX7_weightSize : ByteArray := prog_9_method_8_code
def yX7_weightSize : MethodName := ⟨RX7, "weightSize", "(I)I"⟩
abbrev cX7_weightAt : ByteArray := prog_9_method_9_code
def yX7_weightAt : MethodName := ⟨RX7, "weightAt", "(II)I"⟩
def RX8 : String := "RoomTrees$Text"
def TX8 : u_T := fun k => match k with
  | 0 => ("RoomTrees$Text", "bytes", "[B", true)
  | _ => ("RoomTrees$Text", "length", "I", false)
def tyX8 : Nat → FieldType := fun k => match k with
  | 0 => .array .byte
  | _ => .int
theorem nmX8 : ∀ a, a < 2 → ∀ b, b < 2 → a ≠ b → (TX8 a).2.1 ≠ (TX8 b).2.1 := by decide +kernel
theorem tyX8_ok : ∀ k, k < 2 → parseFieldDescriptor (TX8 k).2.2.1 = some (tyX8 k) := by decide +kernel
abbrev cX8_init : ByteArray := prog_10_method_1_code
def yX8_init : MethodName := ⟨RX8, "<init>", "()V"⟩
abbrev cX8_add : ByteArray := prog_10_method_2_code
def yX8_add : MethodName := ⟨RX8, "add", "(I)V"⟩
abbrev cX8_addWeight : ByteArray := prog_10_method_3_code
def yX8_addWeight : MethodName := ⟨RX8, "addWeight", "(I)V"⟩
abbrev cX8_addAll : ByteArray := prog_10_method_4_code
def yX8_addAll : MethodName := ⟨RX8, "addAll", "(LRoomTrees$Text;)V"⟩
abbrev cX8_byteAt : ByteArray := prog_10_method_5_code
def yX8_byteAt : MethodName := ⟨RX8, "byteAt", "(I)I"⟩
abbrev cX8_isAhead : ByteArray := prog_10_method_6_code
def yX8_isAhead : MethodName := ⟨RX8, "isAhead", "(LRoomTrees$Text;)Z"⟩
abbrev cX8_isSame : ByteArray := prog_10_method_7_code
def yX8_isSame : MethodName := ⟨RX8, "isSame", "(LRoomTrees$Text;)Z"⟩
def RX9 : String := "RoomTrees$Trail"
def TX9 : u_T := fun k => match k with
  | 0 => ("RoomTrees$Trail", "steps", "[LRoomTrees$Step;", true)
  | 1 => ("RoomTrees$Trail", "done", "I", false)
  | _ => ("RoomTrees$Trail", "known", "I", false)
def tyX9 : Nat → FieldType := fun k => match k with
  | 0 => .array (.object "RoomTrees$Step")
  | 1 => .int
  | _ => .int
theorem nmX9 : ∀ a, a < 3 → ∀ b, b < 3 → a ≠ b → (TX9 a).2.1 ≠ (TX9 b).2.1 := by decide +kernel
theorem tyX9_ok : ∀ k, k < 3 → parseFieldDescriptor (TX9 k).2.2.1 = some (tyX9 k) := by decide +kernel
abbrev cX9_init : ByteArray := prog_11_method_1_code
def yX9_init : MethodName := ⟨RX9, "<init>", "()V"⟩
abbrev cX9_stepAt : ByteArray := prog_11_method_2_code
def yX9_stepAt : MethodName := ⟨RX9, "stepAt", "(I)LRoomTrees$Step;"⟩
abbrev cX9_clear : ByteArray := prog_11_method_3_code
def yX9_clear : MethodName := ⟨RX9, "clear", "()V"⟩
abbrev cX9_perform : ByteArray := prog_11_method_4_code
def yX9_perform : MethodName := ⟨RX9, "perform", "(LRoomTrees$Step;LRoomTrees$Forest;)V"⟩
abbrev cX9_back : ByteArray := prog_11_method_5_code
def yX9_back : MethodName := ⟨RX9, "back", "(LRoomTrees$Forest;)Z"⟩
abbrev cX9_again : ByteArray := prog_11_method_6_code
def yX9_again : MethodName := ⟨RX9, "again", "(LRoomTrees$Forest;)Z"⟩
abbrev cX9_signs : ByteArray := prog_11_method_7_code
def yX9_signs : MethodName := ⟨RX9, "signs", "()I"⟩
def RX10 : String := "RoomTrees$Walk"
def TX10 : u_T := fun k => match k with
  | 0 => ("RoomTrees$Walk", "order", "[I", true)
  | 1 => ("RoomTrees$Walk", "holders", "[I", true)
  | 2 => ("RoomTrees$Walk", "depths", "[I", true)
  | 3 => ("RoomTrees$Walk", "size", "I", false)
  | _ => ("RoomTrees$Walk", "seen", "I", false)
def tyX10 : Nat → FieldType := fun k => match k with
  | 0 => .array .int
  | 1 => .array .int
  | 2 => .array .int
  | 3 => .int
  | _ => .int
theorem nmX10 : ∀ a, a < 5 → ∀ b, b < 5 → a ≠ b → (TX10 a).2.1 ≠ (TX10 b).2.1 := by decide +kernel
theorem tyX10_ok : ∀ k, k < 5 → parseFieldDescriptor (TX10 k).2.2.1 = some (tyX10 k) := by decide +kernel
abbrev cX10_init : ByteArray := prog_12_method_1_code
def yX10_init : MethodName := ⟨RX10, "<init>", "()V"⟩
abbrev cX10_over : ByteArray := prog_12_method_2_code
def yX10_over : MethodName := ⟨RX10, "over", "(LRoomTrees$Forest;I)V"⟩
abbrev cX10_from : ByteArray := prog_12_method_3_code
def yX10_from : MethodName := ⟨RX10, "from", "(LRoomTrees$Forest;I)V"⟩
abbrev cX10_spread : ByteArray := prog_12_method_4_code
def yX10_spread : MethodName := ⟨RX10, "spread", "(LRoomTrees$Forest;II)V"⟩
abbrev cX10_enter : ByteArray := prog_12_method_5_code
def yX10_enter : MethodName := ⟨RX10, "enter", "(III)V"⟩
abbrev cX10_placeAt : ByteArray := prog_12_method_6_code
def yX10_placeAt : MethodName := ⟨RX10, "placeAt", "(I)I"⟩
abbrev cX10_holderOf : ByteArray := prog_12_method_7_code
def yX10_holderOf : MethodName := ⟨RX10, "holderOf", "(I)I"⟩
abbrev cX10_depthAt : ByteArray := prog_12_method_8_code
def yX10_depthAt : MethodName := ⟨RX10, "depthAt", "(I)I"⟩
abbrev cX10_farthest : ByteArray := prog_12_method_9_code
def yX10_farthest : MethodName := ⟨RX10, "farthest", "()I"⟩
abbrev cX10_path : ByteArray := prog_12_method_10_code
def yX10_path : MethodName := ⟨RX10, "path", "(LRoomTrees$Forest;II)I"⟩
def RX11 : String := "RoomTrees"
def TX11 : u_T := fun k => match k with
  | 0 => ("RoomTrees", "told", "[I", true)
  | 1 => ("RoomTrees", "forest", "LRoomTrees$Forest;", true)
  | 2 => ("RoomTrees", "thought", "LRoomTrees$Forest;", true)
  | 3 => ("RoomTrees", "step", "LRoomTrees$Step;", true)
  | 4 => ("RoomTrees", "trail", "LRoomTrees$Trail;", true)
  | 5 => ("RoomTrees", "walk", "LRoomTrees$Walk;", true)
  | 6 => ("RoomTrees", "reckoner", "LRoomTrees$Reckoner;", true)
  | 7 => ("RoomTrees", "speller", "LRoomTrees$Speller;", true)
  | 8 => ("RoomTrees", "spelled", "LRoomTrees$Text;", true)
  | 9 => ("RoomTrees", "search", "LRoomTrees$Search;", true)
  | 10 => ("RoomTrees", "tape", "LRoomTrees$Tape;", true)
  | 11 => ("RoomTrees", "shelves", "[LRoomTrees$Forest;", true)
  | 12 => ("RoomTrees", "sheets", "[LRoomTrees$Sheet;", true)
  | 13 => ("RoomTrees", "crew", "LRoomTrees$Crew;", true)
  | 14 => ("RoomTrees", "imageForest", "LRoomTrees$Forest;", true)
  | 15 => ("RoomTrees", "imageCrew", "LRoomTrees$Crew;", true)
  | _ => ("RoomTrees", "imaged", "Z", false)
def tyX11 : Nat → FieldType := fun k => match k with
  | 0 => .array .int
  | 1 => .object "RoomTrees$Forest"
  | 2 => .object "RoomTrees$Forest"
  | 3 => .object "RoomTrees$Step"
  | 4 => .object "RoomTrees$Trail"
  | 5 => .object "RoomTrees$Walk"
  | 6 => .object "RoomTrees$Reckoner"
  | 7 => .object "RoomTrees$Speller"
  | 8 => .object "RoomTrees$Text"
  | 9 => .object "RoomTrees$Search"
  | 10 => .object "RoomTrees$Tape"
  | 11 => .array (.object "RoomTrees$Forest")
  | 12 => .array (.object "RoomTrees$Sheet")
  | 13 => .object "RoomTrees$Crew"
  | 14 => .object "RoomTrees$Forest"
  | 15 => .object "RoomTrees$Crew"
  | _ => .boolean
theorem nmX11 : ∀ a, a < 17 → ∀ b, b < 17 → a ≠ b → (TX11 a).2.1 ≠ (TX11 b).2.1 := by decide +kernel
theorem tyX11_ok : ∀ k, k < 17 → parseFieldDescriptor (TX11 k).2.2.1 = some (tyX11 k) := by decide +kernel
abbrev cX11_init : ByteArray := prog_1_method_1_code
def yX11_init : MethodName := ⟨RX11, "<init>", "()V"⟩
abbrev cX11_vertex : ByteArray := prog_1_method_2_code
def yX11_vertex : MethodName := ⟨RX11, "vertex", "(I)I"⟩
abbrev cX11_weigh : ByteArray := prog_1_method_3_code
def yX11_weigh : MethodName := ⟨RX11, "weigh", "(II)I"⟩
abbrev cX11_tie : ByteArray := prog_1_method_4_code
def yX11_tie : MethodName := ⟨RX11, "tie", "(II)I"⟩
abbrev cX11_cut : ByteArray := prog_1_method_5_code
def yX11_cut : MethodName := ⟨RX11, "cut", "(II)I"⟩
abbrev cX11_take : ByteArray := prog_1_method_6_code
def yX11_take : MethodName := ⟨RX11, "take", "(I)I"⟩
abbrev cX11_at : ByteArray := prog_1_method_7_code
def yX11_at : MethodName := ⟨RX11, "at", "(II)I"⟩
abbrev cX11_table : ByteArray := prog_1_method_8_code
def yX11_table : MethodName := ⟨RX11, "table", "(II)I"⟩
abbrev cX11_move : ByteArray := prog_1_method_9_code
def yX11_move : MethodName := ⟨RX11, "move", "(IIIII)I"⟩
abbrev cX11_undo : ByteArray := prog_1_method_10_code
def yX11_undo : MethodName := ⟨RX11, "undo", "()I"⟩
abbrev cX11_redo : ByteArray := prog_1_method_11_code
def yX11_redo : MethodName := ⟨RX11, "redo", "()I"⟩
abbrev cX11_trail : ByteArray := prog_1_method_12_code
def yX11_trail : MethodName := ⟨RX11, "trail", "(II)I"⟩
abbrev cX11_factor : ByteArray := prog_1_method_13_code
def yX11_factor : MethodName := ⟨RX11, "factor", "()I"⟩
abbrev cX11_minor : ByteArray := prog_1_method_14_code
def yX11_minor : MethodName := ⟨RX11, "minor", "(I)I"⟩
abbrev cX11_det : ByteArray := prog_1_method_15_code
def yX11_det : MethodName := ⟨RX11, "det", "()I"⟩
abbrev cX11_link : ByteArray := prog_1_method_16_code
def yX11_link : MethodName := ⟨RX11, "link", "(III)I"⟩
abbrev cX11_inertia : ByteArray := prog_1_method_17_code
def yX11_inertia : MethodName := ⟨RX11, "inertia", "(I)I"⟩
abbrev cX11_kernel : ByteArray := prog_1_method_18_code
def yX11_kernel : MethodName := ⟨RX11, "kernel", "(I)I"⟩
abbrev cX11_wu : ByteArray := prog_1_method_19_code
def yX11_wu : MethodName := ⟨RX11, "wu", "(I)I"⟩
abbrev cX11_mu : ByteArray := prog_1_method_20_code
def yX11_mu : MethodName := ⟨RX11, "mu", "()I"⟩
abbrev cX11_fraction : ByteArray := prog_1_method_21_code
def yX11_fraction : MethodName := ⟨RX11, "fraction", "(III)I"⟩
abbrev cX11_room : ByteArray := prog_1_method_22_code
def yX11_room : MethodName := ⟨RX11, "room", "(II)I"⟩
abbrev cX11_oneRoom : ByteArray := prog_1_method_23_code
def yX11_oneRoom : MethodName := ⟨RX11, "oneRoom", "(II)I"⟩
abbrev cX11_chain : ByteArray := prog_1_method_24_code
def yX11_chain : MethodName := ⟨RX11, "chain", "(III)I"⟩
abbrev cX11_plant : ByteArray := prog_1_method_25_code
def yX11_plant : MethodName := ⟨RX11, "plant", "(II)I"⟩
abbrev cX11_feed : ByteArray := prog_1_method_26_code
def yX11_feed : MethodName := ⟨RX11, "feed", "(JI)I"⟩
abbrev cX11_forest : ByteArray := prog_1_method_27_code
def yX11_forest : MethodName := ⟨RX11, "forest", "()I"⟩
abbrev cX11_least : ByteArray := prog_1_method_28_code
def yX11_least : MethodName := ⟨RX11, "least", "(I)I"⟩
abbrev cX11_keep : ByteArray := prog_1_method_29_code
def yX11_keep : MethodName := ⟨RX11, "keep", "(I)I"⟩
abbrev cX11_fetch : ByteArray := prog_1_method_30_code
def yX11_fetch : MethodName := ⟨RX11, "fetch", "(I)I"⟩
abbrev cX11_drop : ByteArray := prog_1_method_31_code
def yX11_drop : MethodName := ⟨RX11, "drop", "(I)I"⟩
abbrev cX11_alike : ByteArray := prog_1_method_32_code
def yX11_alike : MethodName := ⟨RX11, "alike", "(I)I"⟩
abbrev cX11_worker : ByteArray := prog_1_method_33_code
def yX11_worker : MethodName := ⟨RX11, "worker", "(II)I"⟩
abbrev cX11_workerIs : ByteArray := prog_1_method_34_code
def yX11_workerIs : MethodName := ⟨RX11, "workerIs", "(II)I"⟩
abbrev cX11_become : ByteArray := prog_1_method_35_code
def yX11_become : MethodName := ⟨RX11, "become", "(II)I"⟩
abbrev cX11_as : ByteArray := prog_1_method_36_code
def yX11_as : MethodName := ⟨RX11, "as", "(II)I"⟩
abbrev cX11_next : ByteArray := prog_1_method_37_code
def yX11_next : MethodName := ⟨RX11, "next", "(II)I"⟩
abbrev cX11_work : ByteArray := prog_1_method_38_code
def yX11_work : MethodName := ⟨RX11, "work", "(II)I"⟩
abbrev cX11_rest : ByteArray := prog_1_method_39_code
def yX11_rest : MethodName := ⟨RX11, "rest", "(II)I"⟩
abbrev cX11_best : ByteArray := prog_1_method_40_code
def yX11_best : MethodName := ⟨RX11, "best", "(I)I"⟩
abbrev cX11_fewest : ByteArray := prog_1_method_41_code
def yX11_fewest : MethodName := ⟨RX11, "fewest", "(II)I"⟩
abbrev cX11_reach : ByteArray := prog_1_method_42_code
def yX11_reach : MethodName := ⟨RX11, "reach", "(II)I"⟩
abbrev cX11_sheet : ByteArray := prog_1_method_43_code
def yX11_sheet : MethodName := ⟨RX11, "sheet", "(III)I"⟩
abbrev cX11_put : ByteArray := prog_1_method_44_code
def yX11_put : MethodName := ⟨RX11, "put", "(III)I"⟩
abbrev cX11_number : ByteArray := prog_1_method_45_code
def yX11_number : MethodName := ⟨RX11, "number", "(II)I"⟩
abbrev cX11_copy : ByteArray := prog_1_method_46_code
def yX11_copy : MethodName := ⟨RX11, "copy", "(IIIII)I"⟩
abbrev cX11_weighAll : ByteArray := prog_1_method_47_code
def yX11_weighAll : MethodName := ⟨RX11, "weighAll", "(I)I"⟩
abbrev cX11_book : ByteArray := prog_1_method_48_code
def yX11_book : MethodName := ⟨RX11, "book", "(I)I"⟩
abbrev cX11_plays : ByteArray := prog_1_method_49_code
def yX11_plays : MethodName := ⟨RX11, "plays", "(II)I"⟩
abbrev cX11_image : ByteArray := prog_1_method_50_code
def yX11_image : MethodName := ⟨RX11, "image", "()I"⟩
abbrev cX11_restore : ByteArray := prog_1_method_51_code
def yX11_restore : MethodName := ⟨RX11, "restore", "()I"⟩
abbrev cX11_count : ByteArray := prog_1_method_52_code
def yX11_count : MethodName := ⟨RX11, "count", "(I)I"⟩
abbrev cX11_told : ByteArray := prog_1_method_53_code
def yX11_told : MethodName := ⟨RX11, "told", "(I)I"⟩
abbrev cX11_refuse : ByteArray := prog_1_method_54_code
def yX11_refuse : MethodName := ⟨RX11, "refuse", "(I)I"⟩
abbrev cX11_tell : ByteArray := prog_1_method_55_code
def yX11_tell : MethodName := ⟨RX11, "tell", "(J)I"⟩
abbrev cX11_swap : ByteArray := prog_1_method_56_code
def yX11_swap : MethodName := ⟨RX11, "swap", "(LRoomTrees$Forest;)I"⟩
abbrev cX11_treeOf : ByteArray := prog_1_method_57_code
def yX11_treeOf : MethodName := ⟨RX11, "treeOf", "(I)I"⟩
abbrev cX11_thinkToTheEnd : ByteArray := prog_1_method_58_code
def yX11_thinkToTheEnd : MethodName := ⟨RX11, "thinkToTheEnd", "(II)I"⟩
abbrev cX11_shelvesHeld : ByteArray := prog_1_method_59_code
def yX11_shelvesHeld : MethodName := ⟨RX11, "shelvesHeld", "()I"⟩
abbrev cX11_isPlace : ByteArray := prog_1_method_60_code
def yX11_isPlace : MethodName := ⟨RX11, "isPlace", "(I)Z"⟩
abbrev cX11_isIn : ByteArray := prog_1_method_61_code
def yX11_isIn : MethodName := ⟨RX11, "isIn", "(II)Z"⟩
abbrev cX11_isWeight : ByteArray := prog_1_method_62_code
def yX11_isWeight : MethodName := ⟨RX11, "isWeight", "(I)Z"⟩
abbrev cX11_isPart : ByteArray := prog_1_method_63_code
def yX11_isPart : MethodName := ⟨RX11, "isPart", "(I)Z"⟩
abbrev cX11_isPrime : ByteArray := prog_1_method_64_code
def yX11_isPrime : MethodName := ⟨RX11, "isPrime", "(I)Z"⟩
abbrev cX11_isWorkerKind : ByteArray := prog_1_method_65_code
def yX11_isWorkerKind : MethodName := ⟨RX11, "isWorkerKind", "(I)Z"⟩
abbrev cX11_isStart : ByteArray := prog_1_method_66_code
def yX11_isStart : MethodName := ⟨RX11, "isStart", "(I)Z"⟩
abbrev cX11_isChain : ByteArray := prog_1_method_67_code
def yX11_isChain : MethodName := ⟨RX11, "isChain", "(II)Z"⟩
abbrev cX11_leastOf : ByteArray := prog_1_method_68_code
def yX11_leastOf : MethodName := ⟨RX11, "leastOf", "(I)I"⟩
abbrev cX11_greatestOf : ByteArray := prog_1_method_69_code
def yX11_greatestOf : MethodName := ⟨RX11, "greatestOf", "(I)I"⟩
abbrev cX11_commonDivisor : ByteArray := prog_1_method_70_code
def yX11_commonDivisor : MethodName := ⟨RX11, "commonDivisor", "(JJ)J"⟩
abbrev cX11_chainNumber : ByteArray := prog_1_method_71_code
def yX11_chainNumber : MethodName := ⟨RX11, "chainNumber", "(III)I"⟩
def RX12 : String := "RoomTreesModel"
def TX12 : u_T := fun k => match k with
  | 0 => ("RoomTreesModel", "errors", "[I", true)
  | 1 => ("RoomTreesModel", "f", "[I", true)
  | 2 => ("RoomTreesModel", "past", "[[I", true)
  | 3 => ("RoomTreesModel", "deeds", "[I", true)
  | 4 => ("RoomTreesModel", "done", "I", false)
  | 5 => ("RoomTreesModel", "all", "I", false)
  | 6 => ("RoomTreesModel", "minors", "[J", true)
  | 7 => ("RoomTreesModel", "sums", "[J", true)
  | 8 => ("RoomTreesModel", "terms", "[J", true)
  | 9 => ("RoomTreesModel", "rows", "[[I", true)
  | 10 => ("RoomTreesModel", "tape", "[I", true)
  | 11 => ("RoomTreesModel", "taped", "I", false)
  | 12 => ("RoomTreesModel", "at", "I", false)
  | 13 => ("RoomTreesModel", "isWrong", "Z", false)
  | 14 => ("RoomTreesModel", "read", "[I", true)
  | 15 => ("RoomTreesModel", "open", "[I", true)
  | 16 => ("RoomTreesModel", "hang", "[[I", true)
  | 17 => ("RoomTreesModel", "hangs", "[I", true)
  | 18 => ("RoomTreesModel", "best", "[[I", true)
  | 19 => ("RoomTreesModel", "bests", "[I", true)
  | 20 => ("RoomTreesModel", "text", "[I", true)
  | 21 => ("RoomTreesModel", "texted", "I", false)
  | 22 => ("RoomTreesModel", "shelves", "[[I", true)
  | 23 => ("RoomTreesModel", "isHeld", "[Z", true)
  | 24 => ("RoomTreesModel", "due", "[I", true)
  | 25 => ("RoomTreesModel", "dues", "I", false)
  | 26 => ("RoomTreesModel", "workers", "[I", true)
  | 27 => ("RoomTreesModel", "hired", "I", false)
  | 28 => ("RoomTreesModel", "thought", "[[I", true)
  | 29 => ("RoomTreesModel", "fewestLeft", "I", false)
  | 30 => ("RoomTreesModel", "fewestMoves", "I", false)
  | 31 => ("RoomTreesModel", "fewestFirst", "I", false)
  | 32 => ("RoomTreesModel", "bitsOf", "[I", true)
  | 33 => ("RoomTreesModel", "sizeOf", "[I", true)
  | 34 => ("RoomTreesModel", "numbers", "[I", true)
  | 35 => ("RoomTreesModel", "passing", "[I", true)
  | 36 => ("RoomTreesModel", "kept", "[I", true)
  | 37 => ("RoomTreesModel", "keptWorkers", "[I", true)
  | 38 => ("RoomTreesModel", "keptHired", "I", false)
  | _ => ("RoomTreesModel", "isKept", "Z", false)
def tyX12 : Nat → FieldType := fun k => match k with
  | 0 => .array .int
  | 1 => .array .int
  | 2 => .array (.array .int)
  | 3 => .array .int
  | 4 => .int
  | 5 => .int
  | 6 => .array .long
  | 7 => .array .long
  | 8 => .array .long
  | 9 => .array (.array .int)
  | 10 => .array .int
  | 11 => .int
  | 12 => .int
  | 13 => .boolean
  | 14 => .array .int
  | 15 => .array .int
  | 16 => .array (.array .int)
  | 17 => .array .int
  | 18 => .array (.array .int)
  | 19 => .array .int
  | 20 => .array .int
  | 21 => .int
  | 22 => .array (.array .int)
  | 23 => .array .boolean
  | 24 => .array .int
  | 25 => .int
  | 26 => .array .int
  | 27 => .int
  | 28 => .array (.array .int)
  | 29 => .int
  | 30 => .int
  | 31 => .int
  | 32 => .array .int
  | 33 => .array .int
  | 34 => .array .int
  | 35 => .array .int
  | 36 => .array .int
  | 37 => .array .int
  | 38 => .int
  | _ => .boolean
theorem nmX12 : ∀ a, a < 40 → ∀ b, b < 40 → a ≠ b → (TX12 a).2.1 ≠ (TX12 b).2.1 := by decide +kernel
theorem tyX12_ok : ∀ k, k < 40 → parseFieldDescriptor (TX12 k).2.2.1 = some (tyX12 k) := by decide +kernel
abbrev cX12_init : ByteArray := prog_14_method_1_code
def yX12_init : MethodName := ⟨RX12, "<init>", "()V"⟩
abbrev cX12_in : ByteArray := prog_14_method_2_code
def yX12_in : MethodName := ⟨RX12, "in", "(JJJ)Z"⟩
abbrev cX12_error : ByteArray := prog_14_method_3_code
def yX12_error : MethodName := ⟨RX12, "error", "(I)I"⟩
abbrev cX12_copies : ByteArray := prog_14_method_4_code
def yX12_copies : MethodName := ⟨RX12, "copies", "([I[I)V"⟩
abbrev cX12_has : ByteArray := prog_14_method_5_code
def yX12_has : MethodName := ⟨RX12, "has", "(II)Z"⟩
abbrev cX12_many : ByteArray := prog_14_method_6_code
def yX12_many : MethodName := ⟨RX12, "many", "(I)I"⟩
abbrev cX12_lowest : ByteArray := prog_14_method_7_code
def yX12_lowest : MethodName := ⟨RX12, "lowest", "(I)I"⟩
abbrev cX12_isThere : ByteArray := prog_14_method_8_code
def yX12_isThere : MethodName := ⟨RX12, "isThere", "([II)Z"⟩
abbrev cX12_isVertex : ByteArray := prog_14_method_9_code
def yX12_isVertex : MethodName := ⟨RX12, "isVertex", "(I)Z"⟩
abbrev cX12_isWeight : ByteArray := prog_14_method_10_code
def yX12_isWeight : MethodName := ⟨RX12, "isWeight", "(I)Z"⟩
abbrev cX12_comes : ByteArray := prog_14_method_11_code
def yX12_comes : MethodName := ⟨RX12, "comes", "([II)I"⟩
abbrev cX12_ties : ByteArray := prog_14_method_12_code
def yX12_ties : MethodName := ⟨RX12, "ties", "([III)V"⟩
abbrev cX12_cuts : ByteArray := prog_14_method_13_code
def yX12_cuts : MethodName := ⟨RX12, "cuts", "([III)V"⟩
abbrev cX12_leaves : ByteArray := prog_14_method_14_code
def yX12_leaves : MethodName := ⟨RX12, "leaves", "([II)V"⟩
abbrev cX12_treeOf : ByteArray := prog_14_method_15_code
def yX12_treeOf : MethodName := ⟨RX12, "treeOf", "([II)I"⟩
abbrev cX12_trees : ByteArray := prog_14_method_16_code
def yX12_trees : MethodName := ⟨RX12, "trees", "([I)I"⟩
abbrev cX12_lightest : ByteArray := prog_14_method_17_code
def yX12_lightest : MethodName := ⟨RX12, "lightest", "([II)I"⟩
abbrev cX12_other : ByteArray := prog_14_method_18_code
def yX12_other : MethodName := ⟨RX12, "other", "([II)I"⟩
abbrev cX12_isAsTold : ByteArray := prog_14_method_19_code
def yX12_isAsTold : MethodName := ⟨RX12, "isAsTold", "([IIIIII)Z"⟩
abbrev cX12_canBe : ByteArray := prog_14_method_20_code
def yX12_canBe : MethodName := ⟨RX12, "canBe", "([IIII)Z"⟩
abbrev cX12_room : ByteArray := prog_14_method_21_code
def yX12_room : MethodName := ⟨RX12, "room", "(I)I"⟩
abbrev cX12_isLight : ByteArray := prog_14_method_22_code
def yX12_isLight : MethodName := ⟨RX12, "isLight", "([IIIII)Z"⟩
abbrev cX12_refused : ByteArray := prog_14_method_23_code
def yX12_refused : MethodName := ⟨RX12, "refused", "([IIIIII)I"⟩
abbrev cX12_signOf : ByteArray := prog_14_method_24_code
def yX12_signOf : MethodName := ⟨RX12, "signOf", "([IIII)I"⟩
abbrev cX12_goesDown : ByteArray := prog_14_method_25_code
def yX12_goesDown : MethodName := ⟨RX12, "goesDown", "([II)V"⟩
abbrev cX12_goesUp : ByteArray := prog_14_method_26_code
def yX12_goesUp : MethodName := ⟨RX12, "goesUp", "([IIII)V"⟩
abbrev cX12_absorbs : ByteArray := prog_14_method_27_code
def yX12_absorbs : MethodName := ⟨RX12, "absorbs", "([II)V"⟩
abbrev cX12_draws : ByteArray := prog_14_method_28_code
def yX12_draws : MethodName := ⟨RX12, "draws", "([IIII)V"⟩
abbrev cX12_does : ByteArray := prog_14_method_29_code
def yX12_does : MethodName := ⟨RX12, "does", "([IIIIII)V"⟩
abbrev cX12_byHand : ByteArray := prog_14_method_30_code
def yX12_byHand : MethodName := ⟨RX12, "byHand", "()V"⟩
abbrev cX12_goes : ByteArray := prog_14_method_31_code
def yX12_goes : MethodName := ⟨RX12, "goes", "(IIIII)V"⟩
abbrev cX12_move : ByteArray := prog_14_method_32_code
def yX12_move : MethodName := ⟨RX12, "move", "(IIIII)I"⟩
abbrev cX12_undo : ByteArray := prog_14_method_33_code
def yX12_undo : MethodName := ⟨RX12, "undo", "()I"⟩
abbrev cX12_redo : ByteArray := prog_14_method_34_code
def yX12_redo : MethodName := ⟨RX12, "redo", "()I"⟩
abbrev cX12_trail : ByteArray := prog_14_method_35_code
def yX12_trail : MethodName := ⟨RX12, "trail", "(II)I"⟩
abbrev cX12_factor : ByteArray := prog_14_method_36_code
def yX12_factor : MethodName := ⟨RX12, "factor", "()I"⟩
abbrev cX12_vertex : ByteArray := prog_14_method_37_code
def yX12_vertex : MethodName := ⟨RX12, "vertex", "(I)I"⟩
abbrev cX12_weigh : ByteArray := prog_14_method_38_code
def yX12_weigh : MethodName := ⟨RX12, "weigh", "(II)I"⟩
abbrev cX12_tie : ByteArray := prog_14_method_39_code
def yX12_tie : MethodName := ⟨RX12, "tie", "(II)I"⟩
abbrev cX12_cut : ByteArray := prog_14_method_40_code
def yX12_cut : MethodName := ⟨RX12, "cut", "(II)I"⟩
abbrev cX12_take : ByteArray := prog_14_method_41_code
def yX12_take : MethodName := ⟨RX12, "take", "(I)I"⟩
abbrev cX12_possible : ByteArray := prog_14_method_42_code
def yX12_possible : MethodName := ⟨RX12, "possible", "(I)I"⟩
abbrev cX12_farthest : ByteArray := prog_14_method_43_code
def yX12_farthest : MethodName := ⟨RX12, "farthest", "(I)I"⟩
abbrev cX12_at : ByteArray := prog_14_method_44_code
def yX12_at : MethodName := ⟨RX12, "at", "(II)I"⟩
abbrev cX12_pair : ByteArray := prog_14_method_45_code
def yX12_pair : MethodName := ⟨RX12, "pair", "(II)I"⟩
abbrev cX12_table : ByteArray := prog_14_method_46_code
def yX12_table : MethodName := ⟨RX12, "table", "(II)I"⟩
abbrev cX12_layMinors : ByteArray := prog_14_method_47_code
def yX12_layMinors : MethodName := ⟨RX12, "layMinors", "()V"⟩
abbrev cX12_minorOf : ByteArray := prog_14_method_48_code
def yX12_minorOf : MethodName := ⟨RX12, "minorOf", "(I)J"⟩
abbrev cX12_orOver : ByteArray := prog_14_method_49_code
def yX12_orOver : MethodName := ⟨RX12, "orOver", "(J)I"⟩
abbrev cX12_minor : ByteArray := prog_14_method_50_code
def yX12_minor : MethodName := ⟨RX12, "minor", "(I)I"⟩
abbrev cX12_det : ByteArray := prog_14_method_51_code
def yX12_det : MethodName := ⟨RX12, "det", "()I"⟩
abbrev cX12_without : ByteArray := prog_14_method_52_code
def yX12_without : MethodName := ⟨RX12, "without", "(II)J"⟩
abbrev cX12_place : ByteArray := prog_14_method_53_code
def yX12_place : MethodName := ⟨RX12, "place", "(II)I"⟩
abbrev cX12_behind : ByteArray := prog_14_method_54_code
def yX12_behind : MethodName := ⟨RX12, "behind", "(II)I"⟩
abbrev cX12_divisor : ByteArray := prog_14_method_55_code
def yX12_divisor : MethodName := ⟨RX12, "divisor", "(JJ)J"⟩
abbrev cX12_link : ByteArray := prog_14_method_56_code
def yX12_link : MethodName := ⟨RX12, "link", "(III)I"⟩
abbrev cX12_layTerms : ByteArray := prog_14_method_57_code
def yX12_layTerms : MethodName := ⟨RX12, "layTerms", "()V"⟩
abbrev cX12_above : ByteArray := prog_14_method_58_code
def yX12_above : MethodName := ⟨RX12, "above", "()I"⟩
abbrev cX12_noughts : ByteArray := prog_14_method_59_code
def yX12_noughts : MethodName := ⟨RX12, "noughts", "()I"⟩
abbrev cX12_inertiaOf : ByteArray := prog_14_method_60_code
def yX12_inertiaOf : MethodName := ⟨RX12, "inertiaOf", "(I)I"⟩
abbrev cX12_inertia : ByteArray := prog_14_method_61_code
def yX12_inertia : MethodName := ⟨RX12, "inertia", "(I)I"⟩
abbrev cX12_inverse : ByteArray := prog_14_method_62_code
def yX12_inverse : MethodName := ⟨RX12, "inverse", "(II)I"⟩
abbrev cX12_mod : ByteArray := prog_14_method_63_code
def yX12_mod : MethodName := ⟨RX12, "mod", "(II)I"⟩
abbrev cX12_layRows : ByteArray := prog_14_method_64_code
def yX12_layRows : MethodName := ⟨RX12, "layRows", "(I)V"⟩
abbrev cX12_kernelOf : ByteArray := prog_14_method_65_code
def yX12_kernelOf : MethodName := ⟨RX12, "kernelOf", "(I)I"⟩
abbrev cX12_kernel : ByteArray := prog_14_method_66_code
def yX12_kernel : MethodName := ⟨RX12, "kernel", "(I)I"⟩
abbrev cX12_isWu : ByteArray := prog_14_method_67_code
def yX12_isWu : MethodName := ⟨RX12, "isWu", "(I)Z"⟩
abbrev cX12_leastWu : ByteArray := prog_14_method_68_code
def yX12_leastWu : MethodName := ⟨RX12, "leastWu", "()I"⟩
abbrev cX12_manyWu : ByteArray := prog_14_method_69_code
def yX12_manyWu : MethodName := ⟨RX12, "manyWu", "()I"⟩
abbrev cX12_wu : ByteArray := prog_14_method_70_code
def yX12_wu : MethodName := ⟨RX12, "wu", "(I)I"⟩
abbrev cX12_mu : ByteArray := prog_14_method_71_code
def yX12_mu : MethodName := ⟨RX12, "mu", "()I"⟩
abbrev cX12_way : ByteArray := prog_14_method_72_code
def yX12_way : MethodName := ⟨RX12, "way", "(II)I"⟩
abbrev cX12_fraction : ByteArray := prog_14_method_73_code
def yX12_fraction : MethodName := ⟨RX12, "fraction", "(III)I"⟩
abbrev cX12_isLine : ByteArray := prog_14_method_74_code
def yX12_isLine : MethodName := ⟨RX12, "isLine", "(I)Z"⟩
abbrev cX12_roomN : ByteArray := prog_14_method_75_code
def yX12_roomN : MethodName := ⟨RX12, "roomN", "(I)J"⟩
abbrev cX12_roomM : ByteArray := prog_14_method_76_code
def yX12_roomM : MethodName := ⟨RX12, "roomM", "(I)J"⟩
abbrev cX12_isOver : ByteArray := prog_14_method_77_code
def yX12_isOver : MethodName := ⟨RX12, "isOver", "(J)Z"⟩
abbrev cX12_room_ : ByteArray := prog_14_method_78_code
def yX12_room_ : MethodName := ⟨RX12, "room", "(II)I"⟩
abbrev cX12_oneRoom : ByteArray := prog_14_method_79_code
def yX12_oneRoom : MethodName := ⟨RX12, "oneRoom", "(II)I"⟩
abbrev cX12_isChain : ByteArray := prog_14_method_80_code
def yX12_isChain : MethodName := ⟨RX12, "isChain", "(II)Z"⟩
abbrev cX12_chained : ByteArray := prog_14_method_81_code
def yX12_chained : MethodName := ⟨RX12, "chained", "(III)I"⟩
abbrev cX12_chain : ByteArray := prog_14_method_82_code
def yX12_chain : MethodName := ⟨RX12, "chain", "(III)I"⟩
abbrev cX12_plant : ByteArray := prog_14_method_83_code
def yX12_plant : MethodName := ⟨RX12, "plant", "(II)I"⟩
abbrev cX12_feed : ByteArray := prog_14_method_84_code
def yX12_feed : MethodName := ⟨RX12, "feed", "(JI)I"⟩
abbrev cX12_here : ByteArray := prog_14_method_85_code
def yX12_here : MethodName := ⟨RX12, "here", "()I"⟩
abbrev cX12_byteAt : ByteArray := prog_14_method_86_code
def yX12_byteAt : MethodName := ⟨RX12, "byteAt", "(I)I"⟩
abbrev cX12_isDigit : ByteArray := prog_14_method_87_code
def yX12_isDigit : MethodName := ⟨RX12, "isDigit", "(I)Z"⟩
abbrev cX12_weightHere : ByteArray := prog_14_method_88_code
def yX12_weightHere : MethodName := ⟨RX12, "weightHere", "()I"⟩
abbrev cX12_opensHere : ByteArray := prog_14_method_89_code
def yX12_opensHere : MethodName := ⟨RX12, "opensHere", "(I)I"⟩
abbrev cX12_forestHere : ByteArray := prog_14_method_90_code
def yX12_forestHere : MethodName := ⟨RX12, "forestHere", "()V"⟩
abbrev cX12_forest : ByteArray := prog_14_method_91_code
def yX12_forest : MethodName := ⟨RX12, "forest", "()I"⟩
abbrev cX12_isAhead : ByteArray := prog_14_method_92_code
def yX12_isAhead : MethodName := ⟨RX12, "isAhead", "([II[II)Z"⟩
abbrev cX12_laysWeight : ByteArray := prog_14_method_93_code
def yX12_laysWeight : MethodName := ⟨RX12, "laysWeight", "([III)I"⟩
abbrev cX12_layHang : ByteArray := prog_14_method_94_code
def yX12_layHang : MethodName := ⟨RX12, "layHang", "([III)V"⟩
abbrev cX12_layTree : ByteArray := prog_14_method_95_code
def yX12_layTree : MethodName := ⟨RX12, "layTree", "([II)V"⟩
abbrev cX12_layText : ByteArray := prog_14_method_96_code
def yX12_layText : MethodName := ⟨RX12, "layText", "([I)V"⟩
abbrev cX12_least : ByteArray := prog_14_method_97_code
def yX12_least : MethodName := ⟨RX12, "least", "(I)I"⟩
abbrev cX12_isFour : ByteArray := prog_14_method_98_code
def yX12_isFour : MethodName := ⟨RX12, "isFour", "(I)Z"⟩
abbrev cX12_keep : ByteArray := prog_14_method_99_code
def yX12_keep : MethodName := ⟨RX12, "keep", "(I)I"⟩
abbrev cX12_fetch : ByteArray := prog_14_method_100_code
def yX12_fetch : MethodName := ⟨RX12, "fetch", "(I)I"⟩
abbrev cX12_drop : ByteArray := prog_14_method_101_code
def yX12_drop : MethodName := ⟨RX12, "drop", "(I)I"⟩
abbrev cX12_layDue : ByteArray := prog_14_method_102_code
def yX12_layDue : MethodName := ⟨RX12, "layDue", "([I)V"⟩
abbrev cX12_isDue : ByteArray := prog_14_method_103_code
def yX12_isDue : MethodName := ⟨RX12, "isDue", "([I)Z"⟩
abbrev cX12_alike : ByteArray := prog_14_method_104_code
def yX12_alike : MethodName := ⟨RX12, "alike", "(I)I"⟩
abbrev cX12_isWorker : ByteArray := prog_14_method_105_code
def yX12_isWorker : MethodName := ⟨RX12, "isWorker", "(I)Z"⟩
abbrev cX12_worker : ByteArray := prog_14_method_106_code
def yX12_worker : MethodName := ⟨RX12, "worker", "(II)I"⟩
abbrev cX12_cost : ByteArray := prog_14_method_107_code
def yX12_cost : MethodName := ⟨RX12, "cost", "(II)I"⟩
abbrev cX12_workerIs : ByteArray := prog_14_method_108_code
def yX12_workerIs : MethodName := ⟨RX12, "workerIs", "(II)I"⟩
abbrev cX12_become : ByteArray := prog_14_method_109_code
def yX12_become : MethodName := ⟨RX12, "become", "(II)I"⟩
abbrev cX12_as : ByteArray := prog_14_method_110_code
def yX12_as : MethodName := ⟨RX12, "as", "(II)I"⟩
abbrev cX12_found : ByteArray := prog_14_method_111_code
def yX12_found : MethodName := ⟨RX12, "found", "([IIIIIZ)I"⟩
abbrev cX12_nextOf : ByteArray := prog_14_method_112_code
def yX12_nextOf : MethodName := ⟨RX12, "nextOf", "([III)I"⟩
abbrev cX12_next : ByteArray := prog_14_method_113_code
def yX12_next : MethodName := ⟨RX12, "next", "(II)I"⟩
abbrev cX12_work : ByteArray := prog_14_method_114_code
def yX12_work : MethodName := ⟨RX12, "work", "(II)I"⟩
abbrev cX12_toTheEnd : ByteArray := prog_14_method_115_code
def yX12_toTheEnd : MethodName := ⟨RX12, "toTheEnd", "(II)I"⟩
abbrev cX12_weights : ByteArray := prog_14_method_116_code
def yX12_weights : MethodName := ⟨RX12, "weights", "([I)I"⟩
abbrev cX12_rest : ByteArray := prog_14_method_117_code
def yX12_rest : MethodName := ⟨RX12, "rest", "(II)I"⟩
abbrev cX12_best : ByteArray := prog_14_method_118_code
def yX12_best : MethodName := ⟨RX12, "best", "(I)I"⟩
abbrev cX12_tries : ByteArray := prog_14_method_119_code
def yX12_tries : MethodName := ⟨RX12, "tries", "(III)V"⟩
abbrev cX12_fewest : ByteArray := prog_14_method_120_code
def yX12_fewest : MethodName := ⟨RX12, "fewest", "(II)I"⟩
abbrev cX12_comesTo : ByteArray := prog_14_method_121_code
def yX12_comesTo : MethodName := ⟨RX12, "comesTo", "(III)Z"⟩
abbrev cX12_reach : ByteArray := prog_14_method_122_code
def yX12_reach : MethodName := ⟨RX12, "reach", "(II)I"⟩
abbrev cX12_sheet : ByteArray := prog_14_method_123_code
def yX12_sheet : MethodName := ⟨RX12, "sheet", "(III)I"⟩
abbrev cX12_lacks : ByteArray := prog_14_method_124_code
def yX12_lacks : MethodName := ⟨RX12, "lacks", "(II)I"⟩
abbrev cX12_lays : ByteArray := prog_14_method_125_code
def yX12_lays : MethodName := ⟨RX12, "lays", "(III)V"⟩
abbrev cX12_put : ByteArray := prog_14_method_126_code
def yX12_put : MethodName := ⟨RX12, "put", "(III)I"⟩
abbrev cX12_number : ByteArray := prog_14_method_127_code
def yX12_number : MethodName := ⟨RX12, "number", "(II)I"⟩
abbrev cX12_copy : ByteArray := prog_14_method_128_code
def yX12_copy : MethodName := ⟨RX12, "copy", "(IIIII)I"⟩
abbrev cX12_notThere : ByteArray := prog_14_method_129_code
def yX12_notThere : MethodName := ⟨RX12, "notThere", "(I)I"⟩
abbrev cX12_weighAll : ByteArray := prog_14_method_130_code
def yX12_weighAll : MethodName := ⟨RX12, "weighAll", "(I)I"⟩
abbrev cX12_book : ByteArray := prog_14_method_131_code
def yX12_book : MethodName := ⟨RX12, "book", "(I)I"⟩
abbrev cX12_plays : ByteArray := prog_14_method_132_code
def yX12_plays : MethodName := ⟨RX12, "plays", "(II)I"⟩
abbrev cX12_image : ByteArray := prog_14_method_133_code
def yX12_image : MethodName := ⟨RX12, "image", "()I"⟩
abbrev cX12_restore : ByteArray := prog_14_method_134_code
def yX12_restore : MethodName := ⟨RX12, "restore", "()I"⟩
abbrev cX12_edges : ByteArray := prog_14_method_135_code
def yX12_edges : MethodName := ⟨RX12, "edges", "()I"⟩
abbrev cX12_heldOnes : ByteArray := prog_14_method_136_code
def yX12_heldOnes : MethodName := ⟨RX12, "heldOnes", "()I"⟩
abbrev cX12_allJobs : ByteArray := prog_14_method_137_code
def yX12_allJobs : MethodName := ⟨RX12, "allJobs", "()I"⟩
abbrev cX12_count : ByteArray := prog_14_method_138_code
def yX12_count : MethodName := ⟨RX12, "count", "(I)I"⟩
abbrev cX12_told : ByteArray := prog_14_method_139_code
def yX12_told : MethodName := ⟨RX12, "told", "(I)I"⟩
def RJ6 : String := "java/lang/Integer"
def TJ6 : u_T := fun k => match k with
  | _ => ("", "", "", false)
def tyJ6 : Nat → FieldType := fun k => match k with
  | _ => .int
theorem nmJ6 : ∀ a, a < 0 → ∀ b, b < 0 → a ≠ b → (TJ6 a).2.1 ≠ (TJ6 b).2.1 := by decide +kernel
theorem tyJ6_ok : ∀ k, k < 0 → parseFieldDescriptor (TJ6 k).2.2.1 = some (tyJ6 k) := by decide +kernel
abbrev cJ6_bitCount_0f7a4 : ByteArray := prog_15_method_49_code
def yJ6_bitCount_0f7a4 : MethodName := ⟨RJ6, "bitCount", "(I)I"⟩
def RJ9 : String := "java/lang/Math"
def TJ9 : u_T := fun k => match k with
  | _ => ("", "", "", false)
def tyJ9 : Nat → FieldType := fun k => match k with
  | _ => .int
theorem nmJ9 : ∀ a, a < 0 → ∀ b, b < 0 → a ≠ b → (TJ9 a).2.1 ≠ (TJ9 b).2.1 := by decide +kernel
theorem tyJ9_ok : ∀ k, k < 0 → parseFieldDescriptor (TJ9 k).2.2.1 = some (tyJ9 k) := by decide +kernel
abbrev cJ9_floorMod_f86c9 : ByteArray := prog_16_method_52_code
def yJ9_floorMod_f86c9 : MethodName := ⟨RJ9, "floorMod", "(JJ)J"⟩
abbrev cJ9_max_7cf53 : ByteArray := prog_16_method_65_code
def yJ9_max_7cf53 : MethodName := ⟨RJ9, "max", "(II)I"⟩
abbrev cJ9_min_7cf53 : ByteArray := prog_16_method_69_code
def yJ9_min_7cf53 : MethodName := ⟨RJ9, "min", "(II)I"⟩
def RJ10 : String := "java/lang/System"
def TJ10 : u_T := fun k => match k with
  | _ => ("", "", "", false)
def tyJ10 : Nat → FieldType := fun k => match k with
  | _ => .int
theorem nmJ10 : ∀ a, a < 0 → ∀ b, b < 0 → a ≠ b → (TJ10 a).2.1 ≠ (TJ10 b).2.1 := by decide +kernel
theorem tyJ10_ok : ∀ k, k < 0 → parseFieldDescriptor (TJ10 k).2.2.1 = some (tyJ10 k) := by decide +kernel
def RJ7 : String := "java/util/Arrays"
def TJ7 : u_T := fun k => match k with
  | _ => ("", "", "", false)
def tyJ7 : Nat → FieldType := fun k => match k with
  | _ => .int
theorem nmJ7 : ∀ a, a < 0 → ∀ b, b < 0 → a ≠ b → (TJ7 a).2.1 ≠ (TJ7 b).2.1 := by decide +kernel
theorem tyJ7_ok : ∀ k, k < 0 → parseFieldDescriptor (TJ7 k).2.2.1 = some (tyJ7 k) := by decide +kernel
abbrev cJ7_fill_53178 : ByteArray := prog_18_method_103_code
def yJ7_fill_53178 : MethodName := ⟨RJ7, "fill", "([II)V"⟩
def RL : String := "RoomTreesLaw"
abbrev cL_law : ByteArray := code
def yL_law : MethodName := ⟨RL, "law", "([I)Z"⟩
abbrev vwCl : List vw_C := [(RX0, TX0, 4), (RX1, TX1, 3), (RX2, TX2, 12), (RX3, TX3, 10), (RX4, TX4, 2), (RX5, TX5, 3), (RX6, TX6, 7), (RX7, TX7, 3), (RX8, TX8, 2), (RX9, TX9, 3), (RX10, TX10, 5), (RX11, TX11, 17), (RX12, TX12, 40)]
end
section
-- written by wip/whole/gen_links.py
abbrev jxMi := MethodName × ByteArray × Nat × Option FieldType × Option Nat × Nat × Nat × Nat × Nat × Nat × Nat
-- name, code, locals, answer, class of the object, own class, arguments, places of words: code, initialized, static or not, selects
def jx_mi_0 : List jxMi := [(yX11_init, cX11_init, 1, none, some 11, 11, 0, 1022, 1001, 1021, 0),
  (yX11_vertex, cX11_vertex, 2, some .int, some 11, 11, 1, 2126, 1001, 2124, 2125),
  (yX11_weigh, cX11_weigh, 4, some .int, some 11, 11, 2, 2162, 1001, 2160, 2161),
  (yX11_tie, cX11_tie, 3, some .int, some 11, 11, 2, 2179, 1001, 2177, 2178),
  (yX11_cut, cX11_cut, 3, some .int, some 11, 11, 2, 2225, 1001, 2223, 2224),
  (yX11_take, cX11_take, 3, some .int, some 11, 11, 1, 2237, 1001, 2235, 2236),
  (yX11_at, cX11_at, 3, some .int, some 11, 11, 2, 3005, 1001, 3003, 3004),
  (yX11_table, cX11_table, 3, some .int, some 11, 11, 2, 3061, 1001, 3059, 3060),
  (yX11_move, cX11_move, 7, some .int, some 11, 11, 5, 3065, 1001, 3063, 3064),
  (yX11_undo, cX11_undo, 1, some .int, some 11, 11, 0, 3133, 1001, 3131, 3132),
  (yX11_redo, cX11_redo, 1, some .int, some 11, 11, 0, 3141, 1001, 3139, 3140),
  (yX11_trail, cX11_trail, 4, some .int, some 11, 11, 2, 3149, 1001, 3147, 3148),
  (yX11_factor, cX11_factor, 1, some .int, some 11, 11, 0, 3154, 1001, 3152, 3153),
  (yX11_minor, cX11_minor, 2, some .int, some 11, 11, 1, 3162, 1001, 3160, 3161),
  (yX11_det, cX11_det, 1, some .int, some 11, 11, 0, 3201, 1001, 3199, 3200),
  (yX11_link, cX11_link, 4, some .int, some 11, 11, 3, 3205, 1001, 3203, 3204),
  (yX11_inertia, cX11_inertia, 2, some .int, some 11, 11, 1, 3228, 1001, 3226, 3227),
  (yX11_kernel, cX11_kernel, 2, some .int, some 11, 11, 1, 4001, 1001, 3239, 4000),
  (yX11_wu, cX11_wu, 2, some .int, some 11, 11, 1, 4008, 1001, 4006, 4007),
  (yX11_mu, cX11_mu, 1, some .int, some 11, 11, 0, 4034, 1001, 4032, 4033),
  (yX11_fraction, cX11_fraction, 4, some .int, some 11, 11, 3, 4043, 1001, 4041, 4042),
  (yX11_room, cX11_room, 4, some .int, some 11, 11, 2, 4051, 1001, 4049, 4050),
  (yX11_oneRoom, cX11_oneRoom, 9, some .int, some 11, 11, 2, 4065, 1001, 4063, 4064),
  (yX11_chain, cX11_chain, 5, some .int, some 11, 11, 3, 4069, 1001, 4067, 4068),
  (yX11_plant, cX11_plant, 8, some .int, some 11, 11, 2, 4080, 1001, 4078, 4079),
  (yX11_feed, cX11_feed, 5, some .int, some 11, 11, 2, 4084, 1001, 4082, 4083),
  (yX11_forest, cX11_forest, 2, some .int, some 11, 11, 0, 4093, 1001, 4091, 4092),
  (yX11_least, cX11_least, 2, some .int, some 11, 11, 1, 4143, 1001, 4141, 4142),
  (yX11_keep, cX11_keep, 3, some .int, some 11, 11, 1, 4192, 1001, 4190, 4191),
  (yX11_fetch, cX11_fetch, 3, some .int, some 11, 11, 1, 4196, 1001, 4194, 4195),
  (yX11_drop, cX11_drop, 3, some .int, some 11, 11, 1, 4200, 1001, 4198, 4199),
  (yX11_alike, cX11_alike, 3, some .int, some 11, 11, 1, 4204, 1001, 4202, 4203),
  (yX11_worker, cX11_worker, 4, some .int, some 11, 11, 2, 4233, 1001, 4231, 4232),
  (yX11_workerIs, cX11_workerIs, 3, some .int, some 11, 11, 2, 5007, 1001, 5005, 5006),
  (yX11_become, cX11_become, 4, some .int, some 11, 11, 2, 5031, 1001, 5029, 5030),
  (yX11_as, cX11_as, 3, some .int, some 11, 11, 2, 5039, 1001, 5037, 5038),
  (yX11_next, cX11_next, 3, some .int, some 11, 11, 2, 5049, 1001, 5047, 5048),
  (yX11_work, cX11_work, 6, some .int, some 11, 11, 2, 5060, 1001, 5058, 5059),
  (yX11_rest, cX11_rest, 4, some .int, some 11, 11, 2, 5069, 1001, 5067, 5068),
  (yX11_best, cX11_best, 5, some .int, some 11, 11, 1, 5082, 1001, 5080, 5081),
  (yX11_fewest, cX11_fewest, 3, some .int, some 11, 11, 2, 5086, 1001, 5084, 5085),
  (yX11_reach, cX11_reach, 5, some .int, some 11, 11, 2, 5114, 1001, 5112, 5113),
  (yX11_sheet, cX11_sheet, 4, some .int, some 11, 11, 3, 5126, 1001, 5124, 5125),
  (yX11_put, cX11_put, 5, some .int, some 11, 11, 3, 5146, 1001, 5144, 5145),
  (yX11_number, cX11_number, 4, some .int, some 11, 11, 2, 5159, 1001, 5157, 5158),
  (yX11_copy, cX11_copy, 8, some .int, some 11, 11, 5, 5167, 1001, 5165, 5166),
  (yX11_weighAll, cX11_weighAll, 4, some .int, some 11, 11, 1, 5176, 1001, 5174, 5175),
  (yX11_book, cX11_book, 4, some .int, some 11, 11, 1, 5180, 1001, 5178, 5179),
  (yX11_plays, cX11_plays, 5, some .int, some 11, 11, 2, 5184, 1001, 5182, 5183),
  (yX11_image, cX11_image, 1, some .int, some 11, 11, 0, 5192, 1001, 5190, 5191),
  (yX11_restore, cX11_restore, 1, some .int, some 11, 11, 0, 5201, 1001, 5199, 5200),
  (yX11_count, cX11_count, 2, some .int, some 11, 11, 1, 5205, 1001, 5203, 5204),
  (yX11_told, cX11_told, 2, some .int, some 11, 11, 1, 5219, 1001, 5217, 5218),
  (yX11_refuse, cX11_refuse, 2, some .int, some 11, 11, 1, 2133, 1001, 2132, 0),
  (yX11_tell, cX11_tell, 3, some .int, some 11, 11, 1, 3195, 1001, 3194, 13),
  (yX11_swap, cX11_swap, 2, some .int, some 11, 11, 1, 4138, 1001, 4137, 24),
  (yX11_treeOf, cX11_treeOf, 2, some .int, some 11, 11, 1, 2183, 1001, 2182, 1),
  (yX11_thinkToTheEnd, cX11_thinkToTheEnd, 4, some .int, some 11, 11, 2, 5073, 1001, 5072, 27),
  (yX11_shelvesHeld, cX11_shelvesHeld, 3, some .int, some 11, 11, 0, 5210, 1001, 5209, 32),
  (yX11_isPlace, cX11_isPlace, 1, some .boolean, none, 11, 1, 2158, 1001, 2157, 0)]
def jx_mi_1 : List jxMi := [(yX11_isIn, cX11_isIn, 2, some .boolean, none, 11, 2, 2203, 1001, 2202, 0),
  (yX11_isWeight, cX11_isWeight, 1, some .boolean, none, 11, 1, 2129, 1001, 2128, 0),
  (yX11_isPart, cX11_isPart, 1, some .boolean, none, 11, 1, 3208, 1001, 3207, 0),
  (yX11_isPrime, cX11_isPrime, 1, some .boolean, none, 11, 1, 4004, 1001, 4003, 0),
  (yX11_isWorkerKind, cX11_isWorkerKind, 1, some .boolean, none, 11, 1, 4236, 1001, 4235, 0),
  (yX11_isStart, cX11_isStart, 1, some .boolean, none, 11, 1, 4239, 1001, 4238, 0),
  (yX11_isChain, cX11_isChain, 2, some .boolean, none, 11, 2, 4072, 1001, 4071, 0),
  (yX11_leastOf, cX11_leastOf, 2, some .int, none, 11, 1, 2155, 1001, 2154, 0),
  (yX11_greatestOf, cX11_greatestOf, 2, some .int, none, 11, 1, 3049, 1001, 3048, 0),
  (yX11_commonDivisor, cX11_commonDivisor, 11, some .long, none, 11, 2, 3224, 1001, 3223, 0),
  (yX11_chainNumber, cX11_chainNumber, 8, some .int, none, 11, 3, 4076, 1001, 4075, 0),
  (yX12_init, cX12_init, 1, none, some 12, 12, 0, 5224, 1012, 5223, 0),
  (yX12_in, cX12_in, 6, some .boolean, none, 12, 3, 6123, 1012, 6122, 0),
  (yX12_error, cX12_error, 2, some .int, some 12, 12, 1, 6161, 1012, 6160, 33),
  (yX12_copies, cX12_copies, 3, none, none, 12, 2, 6169, 1012, 6168, 0),
  (yX12_has, cX12_has, 2, some .boolean, none, 12, 2, 6130, 1012, 6129, 0),
  (yX12_many, cX12_many, 3, some .int, none, 12, 1, 6142, 1012, 6141, 0),
  (yX12_lowest, cX12_lowest, 2, some .int, none, 12, 1, 6154, 1012, 6153, 0),
  (yX12_isThere, cX12_isThere, 2, some .boolean, none, 12, 2, 6126, 1012, 6125, 0),
  (yX12_isVertex, cX12_isVertex, 2, some .boolean, some 12, 12, 1, 6232, 1012, 6231, 36),
  (yX12_isWeight, cX12_isWeight, 1, some .boolean, none, 12, 1, 6134, 1012, 6133, 0),
  (yX12_comes, cX12_comes, 3, some .int, none, 12, 2, 6193, 1012, 6192, 0),
  (yX12_ties, cX12_ties, 3, none, none, 12, 3, 6184, 1012, 6183, 0),
  (yX12_cuts, cX12_cuts, 3, none, none, 12, 3, 6190, 1012, 6189, 0),
  (yX12_leaves, cX12_leaves, 3, none, none, 12, 2, 6181, 1012, 6180, 0),
  (yX12_treeOf, cX12_treeOf, 5, some .int, none, 12, 2, 6239, 1012, 6238, 0),
  (yX12_trees, cX12_trees, 3, some .int, none, 12, 1, 7002, 1012, 7001, 0),
  (yX12_lightest, cX12_lightest, 2, some .int, none, 12, 2, 6151, 1012, 6150, 0),
  (yX12_other, cX12_other, 2, some .int, none, 12, 2, 6157, 1012, 6156, 0),
  (yX12_isAsTold, cX12_isAsTold, 6, some .boolean, none, 12, 6, 6119, 1012, 6118, 0),
  (yX12_canBe, cX12_canBe, 6, some .boolean, none, 12, 4, 6139, 1012, 6138, 0),
  (yX12_room, cX12_room, 1, some .int, none, 12, 1, 6145, 1012, 6144, 0),
  (yX12_isLight, cX12_isLight, 7, some .boolean, none, 12, 5, 6148, 1012, 6147, 0),
  (yX12_refused, cX12_refused, 6, some .int, none, 12, 6, 6116, 1012, 6115, 0),
  (yX12_signOf, cX12_signOf, 4, some .int, none, 12, 4, 6172, 1012, 6171, 0),
  (yX12_goesDown, cX12_goesDown, 5, none, none, 12, 2, 6178, 1012, 6177, 0),
  (yX12_goesUp, cX12_goesUp, 5, none, none, 12, 4, 6187, 1012, 6186, 0),
  (yX12_absorbs, cX12_absorbs, 6, none, none, 12, 2, 6196, 1012, 6195, 0),
  (yX12_draws, cX12_draws, 7, none, none, 12, 4, 6199, 1012, 6198, 0),
  (yX12_does, cX12_does, 7, none, none, 12, 6, 6175, 1012, 6174, 0),
  (yX12_byHand, cX12_byHand, 1, none, some 12, 12, 0, 6224, 1012, 6223, 35),
  (yX12_goes, cX12_goes, 7, none, some 12, 12, 5, 6166, 1012, 6165, 34),
  (yX12_move, cX12_move, 7, some .int, some 12, 12, 5, 6113, 1012, 6111, 6112),
  (yX12_undo, cX12_undo, 1, some .int, some 12, 12, 0, 6203, 1012, 6201, 6202),
  (yX12_redo, cX12_redo, 1, some .int, some 12, 12, 0, 6207, 1012, 6205, 6206),
  (yX12_trail, cX12_trail, 3, some .int, some 12, 12, 2, 6211, 1012, 6209, 6210),
  (yX12_factor, cX12_factor, 3, some .int, some 12, 12, 0, 6216, 1012, 6214, 6215),
  (yX12_vertex, cX12_vertex, 2, some .int, some 12, 12, 1, 6220, 1012, 6218, 6219),
  (yX12_weigh, cX12_weigh, 4, some .int, some 12, 12, 2, 6228, 1012, 6226, 6227),
  (yX12_tie, cX12_tie, 3, some .int, some 12, 12, 2, 6236, 1012, 6234, 6235),
  (yX12_cut, cX12_cut, 3, some .int, some 12, 12, 2, 7006, 1012, 7004, 7005),
  (yX12_take, cX12_take, 3, some .int, some 12, 12, 1, 7010, 1012, 7008, 7009),
  (yX12_possible, cX12_possible, 2, some .int, some 12, 12, 1, 7019, 1012, 7018, 37),
  (yX12_farthest, cX12_farthest, 7, some .int, some 12, 12, 1, 7023, 1012, 7022, 38),
  (yX12_at, cX12_at, 3, some .int, some 12, 12, 2, 7014, 1012, 7012, 7013),
  (yX12_pair, cX12_pair, 3, some .int, some 12, 12, 2, 7031, 1012, 7030, 39),
  (yX12_table, cX12_table, 3, some .int, some 12, 12, 2, 7027, 1012, 7025, 7026),
  (yX12_layMinors, cX12_layMinors, 7, none, some 12, 12, 0, 7044, 1012, 7043, 41),
  (yX12_minorOf, cX12_minorOf, 2, some .long, some 12, 12, 1, 7040, 1012, 7039, 40),
  (yX12_orOver, cX12_orOver, 3, some .int, some 12, 12, 1, 7048, 1012, 7047, 42)]
def jx_mi_2 : List jxMi := [(yX12_minor, cX12_minor, 2, some .int, some 12, 12, 1, 7035, 1012, 7033, 7034),
  (yX12_det, cX12_det, 1, some .int, some 12, 12, 0, 7054, 1012, 7052, 7053),
  (yX12_without, cX12_without, 13, some .long, some 12, 12, 2, 7062, 1012, 7061, 43),
  (yX12_place, cX12_place, 4, some .int, none, 12, 2, 7065, 1012, 7064, 0),
  (yX12_behind, cX12_behind, 2, some .int, none, 12, 2, 7068, 1012, 7067, 0),
  (yX12_divisor, cX12_divisor, 10, some .long, none, 12, 2, 7071, 1012, 7070, 0),
  (yX12_link, cX12_link, 10, some .int, some 12, 12, 3, 7058, 1012, 7056, 7057),
  (yX12_layTerms, cX12_layTerms, 2, none, some 12, 12, 0, 7088, 1012, 7087, 46),
  (yX12_above, cX12_above, 7, some .int, some 12, 12, 0, 7084, 1012, 7083, 45),
  (yX12_noughts, cX12_noughts, 2, some .int, some 12, 12, 0, 7092, 1012, 7091, 47),
  (yX12_inertiaOf, cX12_inertiaOf, 4, some .int, some 12, 12, 1, 7080, 1012, 7079, 44),
  (yX12_inertia, cX12_inertia, 2, some .int, some 12, 12, 1, 7075, 1012, 7073, 7074),
  (yX12_inverse, cX12_inverse, 3, some .int, none, 12, 2, 7110, 1012, 7109, 0),
  (yX12_mod, cX12_mod, 3, some .int, none, 12, 2, 7107, 1012, 7106, 0),
  (yX12_layRows, cX12_layRows, 4, none, some 12, 12, 1, 7104, 1012, 7103, 49),
  (yX12_kernelOf, cX12_kernelOf, 9, some .int, some 12, 12, 1, 7100, 1012, 7099, 48),
  (yX12_kernel, cX12_kernel, 3, some .int, some 12, 12, 1, 7096, 1012, 7094, 7095),
  (yX12_isWu, cX12_isWu, 4, some .boolean, some 12, 12, 1, 7122, 1012, 7121, 51),
  (yX12_leastWu, cX12_leastWu, 2, some .int, some 12, 12, 0, 7126, 1012, 7125, 52),
  (yX12_manyWu, cX12_manyWu, 3, some .int, some 12, 12, 0, 7118, 1012, 7117, 50),
  (yX12_wu, cX12_wu, 2, some .int, some 12, 12, 1, 7114, 1012, 7112, 7113),
  (yX12_mu, cX12_mu, 5, some .int, some 12, 12, 0, 7130, 1012, 7128, 7129),
  (yX12_way, cX12_way, 7, some .int, some 12, 12, 2, 7138, 1012, 7137, 53),
  (yX12_fraction, cX12_fraction, 11, some .int, some 12, 12, 3, 7134, 1012, 7132, 7133),
  (yX12_isLine, cX12_isLine, 3, some .boolean, some 12, 12, 1, 7146, 1012, 7145, 54),
  (yX12_roomN, cX12_roomN, 4, some .long, some 12, 12, 1, 7150, 1012, 7149, 55),
  (yX12_roomM, cX12_roomM, 11, some .long, some 12, 12, 1, 7157, 1012, 7156, 56),
  (yX12_isOver, cX12_isOver, 2, some .boolean, none, 12, 1, 7153, 1012, 7152, 0),
  (yX12_room_, cX12_room_, 4, some .int, some 12, 12, 2, 7142, 1012, 7140, 7141),
  (yX12_oneRoom, cX12_oneRoom, 7, some .int, some 12, 12, 2, 7161, 1012, 7159, 7160),
  (yX12_isChain, cX12_isChain, 2, some .boolean, none, 12, 2, 7168, 1012, 7167, 0),
  (yX12_chained, cX12_chained, 8, some .int, none, 12, 3, 7172, 1012, 7171, 0),
  (yX12_chain, cX12_chain, 5, some .int, some 12, 12, 3, 7165, 1012, 7163, 7164),
  (yX12_plant, cX12_plant, 8, some .int, some 12, 12, 2, 7176, 1012, 7174, 7175),
  (yX12_feed, cX12_feed, 5, some .int, some 12, 12, 2, 7180, 1012, 7178, 7179),
  (yX12_here, cX12_here, 1, some .int, some 12, 12, 0, 7194, 1012, 7193, 58),
  (yX12_byteAt, cX12_byteAt, 2, some .int, some 12, 12, 1, 7206, 1012, 7205, 61),
  (yX12_isDigit, cX12_isDigit, 1, some .boolean, none, 12, 1, 7209, 1012, 7208, 0),
  (yX12_weightHere, cX12_weightHere, 5, some .int, some 12, 12, 0, 7202, 1012, 7201, 60),
  (yX12_opensHere, cX12_opensHere, 4, some .int, some 12, 12, 1, 7198, 1012, 7197, 59),
  (yX12_forestHere, cX12_forestHere, 3, none, some 12, 12, 0, 7190, 1012, 7189, 57),
  (yX12_forest, cX12_forest, 2, some .int, some 12, 12, 0, 7186, 1012, 7184, 7185),
  (yX12_isAhead, cX12_isAhead, 5, some .boolean, none, 12, 4, 7233, 1012, 7232, 0),
  (yX12_laysWeight, cX12_laysWeight, 5, some .int, none, 12, 3, 7230, 1012, 7229, 0),
  (yX12_layHang, cX12_layHang, 9, none, some 12, 12, 3, 7227, 1012, 7226, 64),
  (yX12_layTree, cX12_layTree, 6, none, some 12, 12, 2, 7223, 1012, 7222, 63),
  (yX12_layText, cX12_layText, 5, none, some 12, 12, 1, 7219, 1012, 7218, 62),
  (yX12_least, cX12_least, 2, some .int, some 12, 12, 1, 7215, 1012, 7213, 7214),
  (yX12_isFour, cX12_isFour, 1, some .boolean, none, 12, 1, 8000, 1012, 7239, 0),
  (yX12_keep, cX12_keep, 2, some .int, some 12, 12, 1, 7237, 1012, 7235, 7236),
  (yX12_fetch, cX12_fetch, 2, some .int, some 12, 12, 1, 8004, 1012, 8002, 8003),
  (yX12_drop, cX12_drop, 3, some .int, some 12, 12, 1, 8008, 1012, 8006, 8007),
  (yX12_layDue, cX12_layDue, 3, none, some 12, 12, 1, 8016, 1012, 8015, 65),
  (yX12_isDue, cX12_isDue, 4, some .boolean, some 12, 12, 1, 8020, 1012, 8019, 66),
  (yX12_alike, cX12_alike, 2, some .int, some 12, 12, 1, 8012, 1012, 8010, 8011),
  (yX12_isWorker, cX12_isWorker, 2, some .boolean, some 12, 12, 1, 8033, 1012, 8032, 67),
  (yX12_worker, cX12_worker, 3, some .int, some 12, 12, 2, 8024, 1012, 8022, 8023),
  (yX12_cost, cX12_cost, 2, some .int, none, 12, 2, 8036, 1012, 8035, 0),
  (yX12_workerIs, cX12_workerIs, 3, some .int, some 12, 12, 2, 8029, 1012, 8027, 8028),
  (yX12_become, cX12_become, 4, some .int, some 12, 12, 2, 8040, 1012, 8038, 8039)]
def jx_mi_3 : List jxMi := [(yX12_as, cX12_as, 5, some .int, some 12, 12, 2, 8044, 1012, 8042, 8043),
  (yX12_found, cX12_found, 9, some .int, none, 12, 6, 8054, 1012, 8053, 0),
  (yX12_nextOf, cX12_nextOf, 4, some .int, none, 12, 3, 8051, 1012, 8050, 0),
  (yX12_next, cX12_next, 4, some .int, some 12, 12, 2, 8048, 1012, 8046, 8047),
  (yX12_work, cX12_work, 6, some .int, some 12, 12, 2, 8058, 1012, 8056, 8057),
  (yX12_toTheEnd, cX12_toTheEnd, 6, some .int, some 12, 12, 2, 8067, 1012, 8066, 68),
  (yX12_weights, cX12_weights, 3, some .int, none, 12, 1, 8070, 1012, 8069, 0),
  (yX12_rest, cX12_rest, 4, some .int, some 12, 12, 2, 8063, 1012, 8061, 8062),
  (yX12_best, cX12_best, 7, some .int, some 12, 12, 1, 8074, 1012, 8072, 8073),
  (yX12_tries, cX12_tries, 8, none, some 12, 12, 3, 8082, 1012, 8081, 69),
  (yX12_fewest, cX12_fewest, 3, some .int, some 12, 12, 2, 8078, 1012, 8076, 8077),
  (yX12_comesTo, cX12_comesTo, 7, some .boolean, some 12, 12, 3, 8090, 1012, 8089, 70),
  (yX12_reach, cX12_reach, 4, some .int, some 12, 12, 2, 8086, 1012, 8084, 8085),
  (yX12_sheet, cX12_sheet, 5, some .int, some 12, 12, 3, 8094, 1012, 8092, 8093),
  (yX12_lacks, cX12_lacks, 3, some .int, some 12, 12, 2, 8102, 1012, 8101, 71),
  (yX12_lays, cX12_lays, 5, none, some 12, 12, 3, 8106, 1012, 8105, 72),
  (yX12_put, cX12_put, 5, some .int, some 12, 12, 3, 8098, 1012, 8096, 8097),
  (yX12_number, cX12_number, 4, some .int, some 12, 12, 2, 8110, 1012, 8108, 8109),
  (yX12_copy, cX12_copy, 7, some .int, some 12, 12, 5, 8114, 1012, 8112, 8113),
  (yX12_notThere, cX12_notThere, 2, some .int, some 12, 12, 1, 8122, 1012, 8121, 73),
  (yX12_weighAll, cX12_weighAll, 4, some .int, some 12, 12, 1, 8118, 1012, 8116, 8117),
  (yX12_book, cX12_book, 5, some .int, some 12, 12, 1, 8126, 1012, 8124, 8125),
  (yX12_plays, cX12_plays, 9, some .int, some 12, 12, 2, 8130, 1012, 8128, 8129),
  (yX12_image, cX12_image, 2, some .int, some 12, 12, 0, 8135, 1012, 8133, 8134),
  (yX12_restore, cX12_restore, 2, some .int, some 12, 12, 0, 8139, 1012, 8137, 8138),
  (yX12_edges, cX12_edges, 3, some .int, some 12, 12, 0, 8147, 1012, 8146, 74),
  (yX12_heldOnes, cX12_heldOnes, 3, some .int, some 12, 12, 0, 8151, 1012, 8150, 75),
  (yX12_allJobs, cX12_allJobs, 3, some .int, some 12, 12, 0, 8155, 1012, 8154, 76),
  (yX12_count, cX12_count, 2, some .int, some 12, 12, 1, 8143, 1012, 8141, 8142),
  (yX12_told, cX12_told, 2, some .int, some 12, 12, 1, 8159, 1012, 8157, 8158),
  (yX0_init, cX0_init, 1, none, some 0, 0, 0, 2055, 1011, 2054, 0),
  (yX0_follow, cX0_follow, 2, none, some 0, 0, 1, 5196, 1011, 5194, 5195),
  (yX0_has, cX0_has, 2, some .boolean, some 0, 0, 1, 5011, 1011, 5009, 5010),
  (yX0_hire, cX0_hire, 3, some .int, some 0, 0, 2, 5003, 1011, 5001, 5002),
  (yX0_retrain, cX0_retrain, 3, none, some 0, 0, 2, 5035, 1011, 5033, 5034),
  (yX0_credit, cX0_credit, 3, none, some 0, 0, 2, 5064, 1011, 5062, 5063),
  (yX0_kindOf, cX0_kindOf, 2, some .int, some 0, 0, 1, 5015, 1011, 5013, 5014),
  (yX0_startOf, cX0_startOf, 2, some .int, some 0, 0, 1, 5020, 1011, 5018, 5019),
  (yX0_jobsOf, cX0_jobsOf, 2, some .int, some 0, 0, 1, 5024, 1011, 5022, 5023),
  (yX0_allJobs, cX0_allJobs, 3, some .int, some 0, 0, 0, 5214, 1011, 5212, 5213),
  (yX0_isUnder, cX0_isUnder, 4, some .boolean, none, 0, 2, 5042, 1011, 5041, 0),
  (yX0_cost, cX0_cost, 3, some .int, none, 0, 2, 5027, 1011, 5026, 0),
  (yX0_plan, cX0_plan, 4, some .boolean, none, 0, 4, 5052, 1011, 5051, 0),
  (yX1_init, cX1_init, 1, none, some 1, 1, 0, 1030, 1002, 1029, 0),
  (yX1_clear, cX1_clear, 1, none, some 1, 1, 0, 4101, 1002, 4099, 4100),
  (yX1_follow, cX1_follow, 2, none, some 1, 1, 1, 3084, 1002, 3082, 3083),
  (yX1_has, cX1_has, 2, some .boolean, some 1, 1, 1, 2166, 1002, 2164, 2165),
  (yX1_size, cX1_size, 1, some .int, some 1, 1, 0, 2138, 1002, 2136, 2137),
  (yX1_weightAt, cX1_weightAt, 2, some .int, some 1, 1, 1, 2170, 1002, 2168, 2169),
  (yX1_nearsAt, cX1_nearsAt, 2, some .int, some 1, 1, 1, 2200, 1002, 2198, 2199),
  (yX1_degree, cX1_degree, 2, some .int, some 1, 1, 1, 3009, 1002, 3007, 3008),
  (yX1_areNear, cX1_areNear, 3, some .boolean, some 1, 1, 2, 2229, 1002, 2227, 2228),
  (yX1_edges, cX1_edges, 3, some .int, some 1, 1, 0, 2221, 1002, 2219, 2220),
  (yX1_trees, cX1_trees, 1, some .int, some 1, 1, 0, 2216, 1002, 2214, 2215),
  (yX1_weightSum, cX1_weightSum, 3, some .int, some 1, 1, 0, 5078, 1002, 5076, 5077),
  (yX1_isLine, cX1_isLine, 3, some .boolean, some 1, 1, 1, 4055, 1002, 4053, 4054),
  (yX1_tableSum, cX1_tableSum, 4, some .int, some 1, 1, 1, 4038, 1002, 4036, 4037),
  (yX1_setWeight, cX1_setWeight, 3, none, some 1, 1, 2, 2174, 1002, 2172, 2173),
  (yX1_addWeight, cX1_addWeight, 3, none, some 1, 1, 2, 3100, 1002, 3098, 3099),
  (yX1_mirror, cX1_mirror, 2, none, some 1, 1, 0, 3120, 1002, 3118, 3119)]
def jx_mi_4 : List jxMi := [(yX1_grow, cX1_grow, 3, some .int, some 1, 1, 1, 2152, 1002, 2150, 2151),
  (yX1_join, cX1_join, 3, none, some 1, 1, 2, 2212, 1002, 2210, 2211),
  (yX1_joinAll, cX1_joinAll, 4, none, some 1, 1, 2, 3115, 1002, 3113, 3114),
  (yX1_part, cX1_part, 3, none, some 1, 1, 2, 2233, 1002, 2231, 2232),
  (yX1_partAll, cX1_partAll, 4, none, some 1, 1, 2, 3128, 1002, 3126, 3127),
  (yX1_remove, cX1_remove, 3, none, some 1, 1, 1, 3001, 1002, 2239, 3000),
  (yX1_print, cX1_print, 4, some .int, some 1, 1, 0, 4213, 1002, 4211, 4212),
  (yX1_nearSum, cX1_nearSum, 4, some .int, some 1, 1, 1, 4217, 1002, 4216, 26),
  (yX2_init, cX2_init, 1, none, some 2, 2, 0, 1137, 1006, 1136, 0),
  (yX2_minorOf, cX2_minorOf, 8, some .long, some 2, 2, 2, 3166, 1006, 3164, 3165),
  (yX2_start, cX2_start, 4, none, some 2, 2, 2, 3174, 1006, 3173, 11),
  (yX2_fold, cX2_fold, 4, none, some 2, 2, 3, 3191, 1006, 3190, 12),
  (yX2_left, cX2_left, 3, some .long, none, 2, 2, 3178, 1006, 3177, 0),
  (yX2_inverseOf, cX2_inverseOf, 13, some .boolean, some 2, 2, 3, 3212, 1006, 3210, 3211),
  (yX2_fractionOf, cX2_fractionOf, 5, some .boolean, some 2, 2, 3, 4047, 1006, 4045, 4046),
  (yX2_roomOf, cX2_roomOf, 9, none, some 2, 2, 2, 4060, 1006, 4058, 4059),
  (yX2_sortSigns, cX2_sortSigns, 5, none, some 2, 2, 2, 3232, 1006, 3230, 3231),
  (yX2_settle, cX2_settle, 5, none, some 2, 2, 3, 3236, 1006, 3235, 14),
  (yX2_solveWu, cX2_solveWu, 6, none, some 2, 2, 1, 4012, 1006, 4010, 4011),
  (yX2_rowWith, cX2_rowWith, 4, some .int, some 2, 2, 2, 4017, 1006, 4016, 15),
  (yX2_clearColumn, cX2_clearColumn, 4, none, some 2, 2, 2, 4021, 1006, 4020, 16),
  (yX2_readLeast, cX2_readLeast, 3, none, some 2, 2, 1, 4029, 1006, 4028, 17),
  (yX3_init, cX3_init, 2, none, some 3, 3, 0, 1227, 1009, 1226, 0),
  (yX3_levelAt, cX3_levelAt, 2, some (.object "RoomTrees$Forest"), some 3, 3, 1, 5098, 1009, 5097, 28),
  (yX3_begin, cX3_begin, 3, none, some 3, 3, 1, 5094, 1009, 5092, 5093),
  (yX3_dig, cX3_dig, 3, none, some 3, 3, 2, 5090, 1009, 5088, 5089),
  (yX3_deepen, cX3_deepen, 8, none, some 3, 3, 3, 5103, 1009, 5102, 29),
  (yX3_note, cX3_note, 4, none, some 3, 3, 3, 5109, 1009, 5108, 30),
  (yX3_aim, cX3_aim, 2, none, some 3, 3, 1, 4208, 1009, 4206, 4207),
  (yX3_isGoal, cX3_isGoal, 2, some .boolean, some 3, 3, 1, 4224, 1009, 4222, 4223),
  (yX3_climb, cX3_climb, 7, some .boolean, some 3, 3, 2, 5119, 1009, 5118, 31),
  (yX4_init, cX4_init, 3, none, some 4, 4, 2, 5130, 1017, 5129, 0),
  (yX4_has, cX4_has, 2, some .boolean, some 4, 4, 1, 5150, 1017, 5148, 5149),
  (yX4_holds, cX4_holds, 3, some .boolean, some 4, 4, 2, 5171, 1017, 5169, 5170),
  (yX4_read, cX4_read, 2, some .int, some 4, 4, 1, 5163, 1017, 5161, 5162),
  (yX4_write, cX4_write, 3, none, some 4, 4, 2, 5154, 1017, 5152, 5153),
  (yX5_init, cX5_init, 2, none, some 5, 5, 0, 1190, 1007, 1189, 0),
  (yX5_spell, cX5_spell, 8, none, some 5, 5, 2, 4147, 1007, 4145, 4146),
  (yX5_spellVertex, cX5_spellVertex, 6, none, some 5, 5, 2, 4155, 1007, 4154, 25),
  (yX5_addInOrder, cX5_addInOrder, 9, none, none, 5, 3, 4170, 1007, 4169, 0),
  (yX6_init, cX6_init, 1, none, some 6, 6, 0, 1050, 1003, 1049, 0),
  (yX6_mean, cX6_mean, 7, none, some 6, 6, 5, 3020, 1003, 3018, 3019),
  (yX6_meanNumber, cX6_meanNumber, 2, some .boolean, some 6, 6, 1, 5188, 1003, 5186, 5187),
  (yX6_shrink, cX6_shrink, 5, some .boolean, some 6, 6, 2, 3014, 1003, 3012, 3013),
  (yX6_seek, cX6_seek, 9, some .boolean, some 6, 6, 6, 5056, 1003, 5054, 5055),
  (yX6_refusal, cX6_refusal, 4, some .int, some 6, 6, 2, 3026, 1003, 3024, 3025),
  (yX6_isTold, cX6_isTold, 3, some .boolean, some 6, 6, 1, 3030, 1003, 3029, 4),
  (yX6_fits, cX6_fits, 3, some .boolean, some 6, 6, 1, 3037, 1003, 3036, 5),
  (yX6_overloads, cX6_overloads, 6, some .boolean, some 6, 6, 1, 3045, 1003, 3044, 6),
  (yX6_signOn, cX6_signOn, 2, some .int, some 6, 6, 1, 3080, 1003, 3078, 3079),
  (yX6_act, cX6_act, 2, none, some 6, 6, 1, 3091, 1003, 3089, 3090),
  (yX6_blowDown, cX6_blowDown, 6, none, some 6, 6, 1, 3095, 1003, 3094, 7),
  (yX6_bud, cX6_bud, 3, some .int, some 6, 6, 1, 3106, 1003, 3105, 8),
  (yX6_absorb, cX6_absorb, 5, none, some 6, 6, 1, 3111, 1003, 3110, 9),
  (yX6_draw, cX6_draw, 4, none, some 6, 6, 1, 3124, 1003, 3123, 10),
  (yX7_init, cX7_init, 1, none, some 7, 7, 0, 2036, 1010, 2035, 0),
  (yX7_add, cX7_add, 2, none, some 7, 7, 1, 4089, 1010, 4087, 4088),
  (yX7_read, cX7_read, 8, some .int, some 7, 7, 1, 4097, 1010, 4095, 4096),
  (yX7_hang, cX7_hang, 4, some .int, some 7, 7, 2, 4131, 1010, 4130, 23),
  (yX7_byteAt, cX7_byteAt, 2, some .int, some 7, 7, 1, 4112, 1010, 4111, 19)]
def jx_mi_5 : List jxMi := [(yX7_isDigit, cX7_isDigit, 2, some .boolean, some 7, 7, 1, 4120, 1010, 4119, 21),
  (yX7_skipBlanks, cX7_skipBlanks, 3, some .int, some 7, 7, 1, 4108, 1010, 4107, 18),
  (yX7_weightSize, cX7_weightSize, 5, some .int, some 7, 7, 1, 4116, 1010, 4115, 20),
  (yX7_weightAt, cX7_weightAt, 5, some .int, some 7, 7, 2, 4124, 1010, 4123, 22),
  (yX8_init, cX8_init, 1, none, some 8, 8, 0, 1199, 1008, 1198, 0),
  (yX8_add, cX8_add, 2, none, some 8, 8, 1, 4161, 1008, 4159, 4160),
  (yX8_addWeight, cX8_addWeight, 3, none, some 8, 8, 1, 4166, 1008, 4164, 4165),
  (yX8_addAll, cX8_addAll, 3, none, some 8, 8, 1, 4182, 1008, 4180, 4181),
  (yX8_byteAt, cX8_byteAt, 2, some .int, some 8, 8, 1, 4188, 1008, 4186, 4187),
  (yX8_isAhead, cX8_isAhead, 4, some .boolean, some 8, 8, 1, 4175, 1008, 4173, 4174),
  (yX8_isSame, cX8_isSame, 2, some .boolean, some 8, 8, 1, 4228, 1008, 4226, 4227),
  (yX9_init, cX9_init, 2, none, some 9, 9, 0, 1092, 1004, 1091, 0),
  (yX9_stepAt, cX9_stepAt, 2, some (.object "RoomTrees$Step"), some 9, 9, 1, 3075, 1004, 3073, 3074),
  (yX9_clear, cX9_clear, 1, none, some 9, 9, 0, 2148, 1004, 2146, 2147),
  (yX9_perform, cX9_perform, 4, none, some 9, 9, 2, 3071, 1004, 3069, 3070),
  (yX9_back, cX9_back, 3, some .boolean, some 9, 9, 1, 3137, 1004, 3135, 3136),
  (yX9_again, cX9_again, 3, some .boolean, some 9, 9, 1, 3145, 1004, 3143, 3144),
  (yX9_signs, cX9_signs, 4, some .int, some 9, 9, 0, 3158, 1004, 3156, 3157),
  (yX10_init, cX10_init, 1, none, some 10, 10, 0, 1113, 1005, 1112, 0),
  (yX10_over, cX10_over, 4, none, some 10, 10, 2, 3170, 1005, 3168, 3169),
  (yX10_from, cX10_from, 3, none, some 10, 10, 2, 2187, 1005, 2185, 2186),
  (yX10_spread, cX10_spread, 9, none, some 10, 10, 3, 2192, 1005, 2191, 2),
  (yX10_enter, cX10_enter, 4, none, some 10, 10, 3, 2196, 1005, 2195, 3),
  (yX10_placeAt, cX10_placeAt, 2, some .int, some 10, 10, 1, 3057, 1005, 3055, 3056),
  (yX10_holderOf, cX10_holderOf, 2, some .int, some 10, 10, 1, 3186, 1005, 3184, 3185),
  (yX10_depthAt, cX10_depthAt, 2, some .int, some 10, 10, 1, 2207, 1005, 2205, 2206),
  (yX10_farthest, cX10_farthest, 1, some .int, some 10, 10, 0, 3053, 1005, 3051, 3052),
  (yX10_path, cX10_path, 7, some .int, some 10, 10, 3, 3217, 1005, 3215, 3216),
  (yJ6_bitCount_0f7a4, cJ6_bitCount_0f7a4, 1, some .int, none, 14, 1, 2141, 1013, 2140, 0),
  (yJ9_floorMod_f86c9, cJ9_floorMod_f86c9, 6, some .long, none, 15, 2, 3181, 1015, 3180, 0),
  (yJ9_max_7cf53, cJ9_max_7cf53, 2, some .int, none, 15, 2, 4025, 1015, 4024, 0),
  (yJ9_min_7cf53, cJ9_min_7cf53, 2, some .int, none, 15, 2, 4178, 1015, 4177, 0),
  (yJ7_fill_53178, cJ7_fill_53178, 4, none, none, 16, 2, 4104, 1016, 4103, 0)]
def jx_mi : List jxMi := jx_mi_0 ++ (jx_mi_1 ++ (jx_mi_2 ++ (jx_mi_3 ++ (jx_mi_4 ++ (jx_mi_5)))))
def jx_cn : List String := ["RoomTrees$Crew", "RoomTrees$Forest", "RoomTrees$Reckoner", "RoomTrees$Search", "RoomTrees$Sheet", "RoomTrees$Speller", "RoomTrees$Step", "RoomTrees$Tape", "RoomTrees$Text", "RoomTrees$Trail", "RoomTrees$Walk", "RoomTrees", "RoomTreesModel", "RoomTreesLaw", "java/lang/Integer", "java/lang/Math", "java/util/Arrays"]
def jx_c (i : Nat) : String := jx_cn.getD i ""
-- fields: own class, entry, class, field, place
def jx_fl : List (Nat × Nat × Nat × Nat × Nat) := [(1, 9, 1, 0, 1032), (1, 15, 1, 1, 1033), (1, 24, 1, 2, 1034), (6, 22, 6, 0, 1054), (6, 26, 6, 1, 1058), (6, 29, 6, 2, 1061), (6, 32, 6, 3, 1064), (6, 35, 6, 4, 1067), (6, 12, 6, 6, 1071), (9, 11, 9, 0, 1097), (9, 18, 9, 1, 1098), (9, 22, 9, 2, 1100), (10, 9, 10, 0, 1115), (10, 15, 10, 1, 1116), (10, 18, 10, 2, 1117), (10, 21, 10, 3, 1118), (10, 25, 10, 4, 1119), (2, 12, 2, 0, 1141), (2, 18, 2, 1, 1142), (2, 22, 2, 2, 1143), (2, 25, 2, 3, 1144), (2, 86, 2, 4, 1145), (2, 90, 2, 5, 1147), (2, 100, 2, 6, 1149), (2, 103, 2, 7, 1150), (2, 106, 2, 8, 1152), (2, 109, 2, 9, 1154), (2, 136, 2, 10, 1156), (2, 118, 2, 11, 1158), (8, 11, 8, 0, 1201), (8, 15, 8, 1, 1202), (5, 12, 5, 0, 1211), (5, 20, 5, 1, 1212), (5, 24, 5, 2, 1213), (3, 11, 3, 0, 1238), (3, 20, 3, 1, 1239), (3, 27, 3, 2, 2000), (3, 34, 3, 3, 2001), (3, 38, 3, 4, 2002), (3, 88, 3, 5, 2003), (3, 94, 3, 6, 2004), (3, 57, 3, 7, 2005), (3, 61, 3, 8, 2007), (3, 64, 3, 9, 2009), (7, 9, 7, 0, 2038), (7, 15, 7, 1, 2039), (7, 18, 7, 2, 2040), (0, 11, 0, 0, 2057), (0, 15, 0, 1, 2058), (0, 18, 0, 2, 2059), (0, 27, 0, 3, 2060), (11, 9, 11, 0, 2071), (11, 16, 11, 1, 2072), (11, 20, 11, 2, 2073), (11, 26, 11, 3, 2074), (11, 33, 11, 4, 2075), (11, 40, 11, 5, 2076), (11, 47, 11, 6, 2077), (11, 54, 11, 7, 2078), (11, 61, 11, 8, 2079), (11, 68, 11, 9, 2080), (11, 75, 11, 10, 2081), (11, 79, 11, 11, 2082), (11, 85, 11, 12, 2083), (11, 92, 11, 13, 2084), (11, 96, 11, 14, 2085), (11, 99, 11, 15, 2086), (11, 414, 11, 16, 2087), (4, 9, 4, 0, 5134), (4, 24, 4, 1, 5136), (12, 7, 12, 0, 5228), (12, 13, 12, 1, 5229), (12, 18, 12, 2, 5230), (12, 21, 12, 3, 5231), (12, 181, 12, 4, 5232), (12, 185, 12, 5, 5233), (12, 24, 12, 6, 5234), (12, 28, 12, 7, 5235), (12, 31, 12, 8, 5236), (12, 34, 12, 9, 5237), (12, 37, 12, 10, 5238), (12, 330, 12, 11, 5239), (12, 335, 12, 12, 6000), (12, 351, 12, 13, 6001), (12, 40, 12, 14, 6002), (12, 43, 12, 15, 6003), (12, 46, 12, 16, 6004), (12, 49, 12, 17, 6005), (12, 52, 12, 18, 6006), (12, 55, 12, 19, 6007), (12, 58, 12, 20, 6008), (12, 378, 12, 21, 6009), (12, 61, 12, 22, 6010), (12, 64, 12, 23, 6011), (12, 68, 12, 24, 6012), (12, 388, 12, 25, 6013), (12, 71, 12, 26, 6014), (12, 398, 12, 27, 6015), (12, 74, 12, 28, 6016), (12, 424, 12, 29, 6017), (12, 427, 12, 30, 6018), (12, 430, 12, 31, 6019), (12, 77, 12, 32, 6020), (12, 80, 12, 33, 6021), (12, 83, 12, 34, 6022), (12, 86, 12, 35, 6023), (12, 89, 12, 36, 6024), (12, 92, 12, 37, 6025), (12, 452, 12, 38, 6026), (12, 455, 12, 39, 6027)]
-- fields of a nest mate
def jx_fln : List (Nat × Nat × Nat × Nat × Nat) := [(10, 42, 1, 2, 1035), (2, 66, 1, 2, 1036), (11, 215, 1, 2, 1037), (9, 29, 6, 0, 1055), (3, 79, 6, 0, 1056), (11, 163, 6, 0, 1057), (9, 32, 6, 1, 1059), (11, 200, 6, 1, 1060), (9, 35, 6, 2, 1062), (11, 203, 6, 2, 1063), (9, 38, 6, 3, 1065), (11, 206, 6, 3, 1066), (9, 41, 6, 4, 1068), (11, 209, 6, 4, 1069), (9, 52, 6, 5, 1070), (9, 55, 6, 6, 1072), (11, 178, 9, 1, 1099), (11, 421, 9, 2, 1101), (5, 32, 10, 4, 1120), (11, 435, 10, 4, 1121), (11, 233, 2, 4, 1146), (11, 237, 2, 5, 1148), (11, 243, 2, 7, 1151), (11, 246, 2, 8, 1153), (11, 249, 2, 9, 1155), (11, 259, 2, 10, 1157), (11, 262, 2, 11, 1159), (5, 54, 8, 1, 1203), (11, 309, 8, 1, 1204), (11, 367, 3, 7, 2006), (11, 370, 3, 8, 2008), (11, 373, 3, 9, 2010), (11, 290, 7, 2, 2041), (11, 424, 0, 3, 2061), (11, 390, 4, 0, 5135), (11, 396, 4, 1, 5137)]
-- statics: own class, entry, table, place
def jx_sl : List (Nat × Nat × Nat × Nat) := [(6, 18, 1, 3021), (6, 60, 2, 3039), (0, 48, 3, 5044)]
-- methods: own class, entry, method, place
def jx_ml : List (Nat × Nat × Nat × Nat) := [(13, 9, 0, 1020), (11, 15, 223, 1028), (11, 25, 280, 1048), (6, 11, 223, 1053), (11, 32, 311, 1090), (9, 17, 280, 1096), (11, 39, 318, 1111), (11, 46, 248, 1135), (2, 11, 318, 1140), (11, 53, 276, 1188), (5, 11, 318, 1193), (5, 27, 304, 1197), (11, 60, 304, 1222), (11, 67, 262, 1225), (3, 19, 280, 1232), (3, 26, 276, 1234), (3, 33, 304, 1236), (3, 41, 223, 1237), (11, 74, 295, 2034), (11, 91, 210, 2053), (13, 13, 1, 2123), (11, 102, 61, 2127), (11, 106, 53, 2130), (11, 110, 227, 2135), (1, 34, 328, 2139), (11, 114, 313, 2145), (11, 117, 240, 2149), (13, 18, 2, 2159), (11, 120, 226, 2163), (11, 123, 228, 2167), (11, 126, 237, 2171), (1, 54, 226, 2175), (13, 23, 3, 2176), (11, 130, 56, 2180), (11, 167, 320, 2184), (10, 36, 226, 2188), (10, 32, 321, 2189), (10, 45, 322, 2193), (10, 49, 229, 2197), (10, 53, 325, 2204), (11, 133, 60, 2208), (11, 137, 241, 2209), (11, 140, 233, 2213), (1, 40, 227, 2217), (1, 44, 232, 2218), (13, 27, 4, 2222), (11, 143, 231, 2226), (11, 146, 243, 2230), (13, 31, 5, 2234), (11, 149, 245, 2238), (13, 35, 6, 3002), (11, 153, 230, 3006), (11, 156, 229, 3010), (11, 159, 283, 3011), (6, 42, 228, 3015), (6, 46, 230, 3016), (6, 38, 281, 3017), (6, 49, 285, 3023), (6, 53, 286, 3027), (6, 70, 226, 3031), (6, 77, 229, 3033), (6, 57, 287, 3034), (6, 80, 231, 3038), (6, 63, 227, 3041), (6, 67, 288, 3042), (11, 171, 326, 3050), (10, 56, 323, 3054), (13, 39, 7, 3058), (13, 43, 8, 3062), (11, 174, 281, 3066), (11, 181, 285, 3067), (11, 185, 314, 3068), (9, 25, 312, 3072), (9, 44, 281, 3076), (9, 48, 289, 3077), (9, 59, 225, 3081), (9, 65, 290, 3088), (6, 90, 291, 3092), (6, 114, 245, 3096), (6, 98, 238, 3097), (6, 105, 241, 3101), (6, 94, 243, 3102), (6, 101, 292, 3103), (6, 108, 240, 3107), (6, 111, 293, 3108), (6, 124, 242, 3112), (1, 64, 241, 3116), (6, 118, 239, 3117), (6, 121, 294, 3121), (6, 127, 244, 3125), (1, 68, 243, 3129), (13, 48, 9, 3130), (11, 189, 315, 3134), (13, 53, 10, 3138), (11, 193, 316, 3142), (13, 57, 11, 3146), (11, 196, 312, 3150), (13, 61, 12, 3151), (11, 212, 317, 3155), (13, 65, 13, 3159), (11, 218, 249, 3163), (2, 29, 319, 3167), (2, 33, 250, 3171), (2, 51, 228, 3175), (2, 56, 252, 3176), (2, 60, 329, 3179), (2, 36, 323, 3182), (2, 40, 324, 3183), (2, 47, 251, 3188), (11, 222, 54, 3192), (13, 69, 14, 3198), (13, 73, 15, 3202), (11, 226, 62, 3206), (11, 229, 253, 3209), (2, 70, 249, 3213), (2, 74, 327, 3214), (10, 59, 320, 3218), (10, 66, 324, 3220), (2, 78, 328, 3221), (13, 78, 16, 3225), (11, 240, 256, 3229), (2, 112, 257, 3233), (13, 82, 17, 3238), (11, 252, 63, 4002), (13, 86, 18, 4005), (11, 255, 258, 4009), (2, 115, 229, 4013), (2, 121, 259, 4014), (2, 125, 260, 4018), (2, 129, 227, 4022), (2, 133, 330, 4023), (2, 139, 261, 4026), (13, 90, 19, 4031), (11, 265, 236, 4035), (13, 94, 20, 4040), (11, 268, 254, 4044), (13, 98, 21, 4048), (11, 271, 235, 4052), (1, 51, 230, 4056), (11, 274, 255, 4057), (2, 97, 230, 4061), (13, 102, 22, 4062), (13, 106, 23, 4066), (11, 279, 66, 4070), (11, 282, 69, 4073), (11, 286, 70, 4074), (13, 110, 24, 4077), (13, 116, 25, 4081), (11, 295, 296, 4086), (13, 121, 26, 4090), (11, 298, 297, 4094), (7, 22, 224, 4098), (1, 18, 332, 4102), (7, 27, 301, 4105), (7, 31, 299, 4109), (7, 34, 302, 4113), (7, 63, 300, 4117), (7, 37, 303, 4121), (7, 41, 237, 4126), (7, 45, 227, 4127), (7, 49, 298, 4128), (7, 57, 240, 4132), (7, 60, 241, 4133), (11, 302, 55, 4135), (11, 313, 225, 4139), (13, 125, 27, 4140), (11, 305, 277, 4144), (5, 28, 320, 4148), (5, 44, 323, 4151), (5, 47, 278, 4152), (5, 65, 324, 4156), (5, 68, 229, 4157), (5, 73, 305, 4158), (5, 77, 228, 4162), (5, 80, 306, 4163), (8, 19, 305, 4167), (5, 61, 279, 4168), (5, 50, 309, 4172), (8, 23, 331, 4176), (5, 57, 307, 4179), (8, 29, 330, 4183), (11, 310, 308, 4185), (13, 129, 28, 4189), (13, 133, 29, 4193), (13, 137, 30, 4197), (13, 141, 31, 4201), (11, 316, 268, 4205), (3, 53, 227, 4209), (3, 91, 246, 4210), (1, 71, 247, 4214), (1, 75, 231, 4218), (3, 97, 277, 4220), (11, 319, 269, 4221), (3, 101, 310, 4225), (8, 38, 309, 4229), (13, 145, 32, 4230), (11, 322, 64, 4234), (11, 325, 65, 4237), (11, 328, 213, 5000), (13, 149, 33, 5004), (11, 332, 212, 5008), (11, 333, 216, 5012), (0, 31, 212, 5016), (11, 336, 217, 5017), (11, 339, 218, 5021), (11, 342, 221, 5025), (13, 153, 34, 5028), (11, 345, 214, 5032), (13, 157, 35, 5036), (11, 348, 220, 5040), (13, 161, 36, 5046), (11, 351, 222, 5050), (0, 51, 284, 5053), (13, 165, 37, 5057), (11, 355, 215, 5061), (0, 35, 331, 5065), (13, 169, 38, 5066), (11, 358, 57, 5070), (11, 408, 290, 5074), (11, 361, 234, 5075), (13, 173, 39, 5079), (13, 177, 40, 5083), (11, 364, 265, 5087), (3, 50, 264, 5091), (3, 42, 263, 5095), (3, 46, 225, 5099), (3, 67, 266, 5100), (3, 71, 226, 5104), (3, 75, 283, 5105), (3, 82, 267, 5106), (3, 85, 290, 5110), (13, 181, 41, 5111), (11, 376, 264, 5115), (3, 105, 269, 5120), (3, 109, 270, 5121), (3, 113, 239, 5122), (13, 185, 42, 5123), (11, 382, 271, 5128), (4, 15, 331, 5132), (4, 21, 330, 5133), (13, 189, 43, 5143), (11, 384, 272, 5147), (11, 385, 275, 5151), (4, 28, 272, 5155), (13, 193, 44, 5156), (11, 388, 274, 5160), (13, 197, 45, 5164), (11, 393, 273, 5168), (13, 201, 46, 5173), (13, 205, 47, 5177), (13, 209, 48, 5181), (11, 405, 282, 5185), (13, 213, 49, 5189), (11, 411, 211, 5193), (13, 217, 50, 5198), (13, 221, 51, 5202), (11, 418, 232, 5206), (11, 426, 58, 5207), (11, 429, 219, 5211), (0, 41, 218, 5215), (13, 225, 52, 5216), (13, 12, 71, 5222), (13, 47, 102, 6110), (12, 200, 93, 6114), (12, 139, 89, 6117), (12, 102, 72, 6121), (12, 106, 78, 6124), (12, 96, 75, 6128), (12, 126, 80, 6132), (12, 143, 90, 6137), (12, 130, 76, 6140), (12, 147, 91, 6143), (12, 150, 92, 6146), (12, 133, 87, 6149), (12, 114, 77, 6152), (12, 136, 88, 6155), (12, 204, 73, 6158), (12, 207, 101, 6163), (12, 188, 74, 6167), (12, 192, 94, 6170), (12, 196, 99, 6173), (12, 168, 95, 6176), (12, 154, 84, 6179), (12, 158, 82, 6182), (12, 171, 96, 6185), (12, 162, 83, 6188), (12, 165, 81, 6191), (12, 175, 97, 6194), (12, 178, 98, 6197), (13, 52, 103, 6200), (13, 56, 104, 6204), (13, 60, 105, 6208), (13, 64, 106, 6213), (13, 17, 107, 6217), (12, 213, 100, 6221), (13, 22, 108, 6225), (12, 216, 79, 6229), (13, 26, 109, 6233), (12, 118, 85, 6237), (12, 219, 86, 7000), (13, 30, 110, 7003), (13, 34, 111, 7007), (13, 38, 114, 7011), (12, 225, 112, 7016), (12, 228, 113, 7020), (13, 42, 116, 7024), (12, 231, 115, 7028), (13, 68, 120, 7032), (12, 244, 118, 7037), (12, 235, 117, 7041), (12, 248, 119, 7045), (13, 72, 121, 7051), (13, 77, 126, 7055), (12, 255, 122, 7059), (12, 252, 123, 7063), (12, 259, 124, 7066), (12, 262, 125, 7069), (13, 81, 131, 7072), (12, 278, 130, 7077), (12, 269, 128, 7081), (12, 266, 127, 7085), (12, 273, 129, 7089), (13, 85, 136, 7093), (12, 291, 135, 7097), (12, 284, 134, 7101), (12, 281, 133, 7105), (12, 288, 132, 7108), (13, 89, 140, 7111), (12, 297, 139, 7115), (12, 294, 137, 7119), (12, 300, 138, 7123), (13, 93, 141, 7127), (13, 97, 143, 7131), (12, 303, 142, 7135), (13, 101, 148, 7139), (12, 306, 144, 7143), (12, 309, 145, 7147), (12, 312, 147, 7151), (12, 316, 146, 7154), (13, 105, 149, 7158), (13, 109, 152, 7162), (12, 321, 150, 7166), (12, 324, 151, 7170), (13, 113, 153, 7173), (13, 120, 154, 7177), (13, 124, 161, 7183), (12, 361, 160, 7187), (12, 342, 155, 7191), (12, 358, 159, 7195), (12, 355, 158, 7199), (12, 345, 156, 7203), (12, 348, 157, 7207), (13, 128, 167, 7212), (12, 381, 166, 7216), (12, 375, 165, 7220), (12, 364, 164, 7224), (12, 367, 163, 7228), (12, 371, 162, 7231), (13, 132, 169, 7234), (12, 385, 168, 7238), (13, 136, 170, 8001), (13, 140, 171, 8005), (13, 144, 174, 8009), (12, 391, 172, 8013), (12, 394, 173, 8017), (13, 148, 176, 8021), (13, 152, 178, 8026), (12, 403, 175, 8030), (12, 406, 177, 8034), (13, 156, 179, 8037), (13, 160, 180, 8041), (13, 164, 183, 8045), (12, 413, 182, 8049), (12, 409, 181, 8052), (13, 168, 184, 8055), (13, 172, 187, 8060), (12, 418, 185, 8064), (12, 421, 186, 8068), (13, 176, 188, 8071), (13, 180, 190, 8075), (12, 433, 189, 8079), (13, 184, 192, 8083), (12, 437, 191, 8087), (13, 188, 193, 8091), (13, 192, 196, 8095), (12, 441, 194, 8099), (12, 444, 195, 8103), (13, 196, 197, 8107), (13, 200, 198, 8111), (13, 204, 200, 8115), (12, 447, 199, 8119), (13, 208, 201, 8123), (13, 212, 202, 8127), (13, 216, 203, 8132), (13, 220, 204, 8136), (13, 224, 208, 8140), (12, 458, 205, 8144), (12, 461, 206, 8148), (12, 464, 207, 8152), (13, 228, 209, 8156)]
-- methods of a nest mate
def jx_mln : List (Nat × Nat × Nat × Nat) := [(1, 58, 67, 2153), (1, 61, 59, 2156), (10, 28, 60, 2201), (6, 74, 61, 3032), (6, 84, 67, 3046), (6, 87, 68, 3047), (2, 43, 59, 3187), (10, 63, 59, 3219), (2, 83, 69, 3222), (2, 93, 60, 3237), (2, 143, 67, 4030), (1, 47, 60, 4039), (7, 66, 61, 4125), (7, 53, 59, 4134), (5, 36, 67, 4149), (5, 40, 59, 4150), (5, 83, 60, 4171), (0, 45, 64, 5043), (11, 379, 270, 5116)]
-- Object(): own class, entry, place
def jx_ol : List (Nat × Nat × Nat) := [(11, 1, 1023), (1, 3, 1031), (6, 3, 1051), (9, 3, 1093), (10, 3, 1114), (2, 3, 1138), (5, 3, 1191), (8, 3, 1200), (3, 3, 1228), (7, 3, 2037), (0, 3, 2056), (4, 3, 5131), (12, 1, 5225)]
-- System.arraycopy
def jx_al : List (Nat × Nat × Nat) := [(1, 28, 3085), (8, 32, 4184), (11, 399, 5172), (0, 21, 5197)]
-- classes: own class, entry, class, places: link, instantiable, initialized
def jx_cl : List (Nat × Nat × Nat × Nat × Nat × Nat) := [(13, 7, 11, 1018, 1019, 1001), (11, 13, 1, 1026, 1027, 1002), (11, 23, 6, 1046, 1047, 1003), (6, 9, 1, 1052, 1027, 1002), (11, 30, 9, 1088, 1089, 1004), (9, 9, 6, 1094, 1047, 1003), (11, 37, 10, 1109, 1110, 1005), (11, 44, 2, 1133, 1134, 1006), (2, 9, 10, 1139, 1110, 1005), (11, 51, 5, 1186, 1187, 1007), (5, 9, 10, 1192, 1110, 1005), (5, 18, 8, 1194, 1196, 1008), (11, 58, 8, 1221, 1196, 1008), (11, 65, 3, 1223, 1224, 1009), (3, 9, 1, 1229, 1027, 1002), (3, 17, 6, 1231, 1047, 1003), (3, 24, 5, 1233, 1187, 1007), (3, 31, 8, 1235, 1196, 1008), (11, 72, 7, 2032, 2033, 1010), (11, 83, 4, 2049, 5127, 1017), (11, 89, 0, 2051, 2052, 1011), (13, 10, 12, 5220, 5221, 1012)]
-- int[][]: own class, entry, place
def jx_dl : List (Nat × Nat × Nat) := [(12, 16, 5226)]
-- constants
def jx_kl : List (Nat × Nat × Int32 × Nat) := [(11, 432, -1100000000, 2134), (14, 265, 1431655765, 2142), (14, 266, 858993459, 2143), (14, 267, 252645135, 2144), (1, 74, 77777, 4219), (12, 95, -1100000000, 6162)]
-- long constants
def jx_kll : List (Nat × Nat × Int64 × Nat) := [(11, 433, -1073741824, 3196), (11, 277, 1073741823, 3197), (11, 293, 255, 4085), (12, 122, 7, 6120), (12, 100, 11, 6127), (12, 124, 3, 6131), (12, 110, -30, 6135), (12, 112, 30, 6136), (12, 211, 4, 6212), (12, 223, 5, 7015), (12, 242, 4095, 7036), (12, 238, -1073741824, 7049), (12, 240, 1073741823, 7050), (12, 276, 2, 7076), (12, 319, 999, 7169), (12, 328, 8, 7181), (12, 333, 255, 7182), (12, 338, 48, 7210), (12, 340, 57, 7211), (12, 401, 9, 8025), (12, 416, 12, 8059), (12, 450, 599, 8131), (13, 114, 4294967295, 8160)]
def jx_arrPos : List (FieldType × Nat) := [(.int, 1045), (.long, 1185), (.byte, 1210), (.boolean, 6109)]
def jx_natPos : Nat := 3087
def jx_sysPos : Nat × Nat × Nat := (3086, 1014, 3087)
def jx_objPos : Nat × Nat := (1024, 1025)
-- layouts: class, field, place
def jx_lay : List (Nat × Nat × Nat) := [(0, 0, 2062), (0, 1, 2064), (0, 2, 2066), (0, 3, 2068), (1, 0, 1038), (1, 1, 1040), (1, 2, 1042), (2, 0, 1160), (2, 1, 1162), (2, 2, 1164), (2, 3, 1166), (2, 4, 1168), (2, 5, 1170), (2, 6, 1172), (2, 7, 1174), (2, 8, 1176), (2, 9, 1178), (2, 10, 1180), (2, 11, 1182), (3, 0, 2011), (3, 1, 2013), (3, 2, 2015), (3, 3, 2017), (3, 4, 2019), (3, 5, 2021), (3, 6, 2023), (3, 7, 2025), (3, 8, 2027), (3, 9, 2029), (4, 0, 5138), (4, 1, 5140), (5, 0, 1214), (5, 1, 1216), (5, 2, 1218), (6, 0, 1073), (6, 1, 1075), (6, 2, 1077), (6, 3, 1079), (6, 4, 1081), (6, 5, 1083), (6, 6, 1085), (7, 0, 2042), (7, 1, 2044), (7, 2, 2046), (8, 0, 1205), (8, 1, 1207), (9, 0, 1102), (9, 1, 1104), (9, 2, 1106), (10, 0, 1122), (10, 1, 1124), (10, 2, 1126), (10, 3, 1128), (10, 4, 1130), (11, 0, 2088), (11, 1, 2090), (11, 2, 2092), (11, 3, 2094), (11, 4, 2096), (11, 5, 2098), (11, 6, 2100), (11, 7, 2102), (11, 8, 2104), (11, 9, 2106), (11, 10, 2108), (11, 11, 2110), (11, 12, 2112), (11, 13, 2114), (11, 14, 2116), (11, 15, 2118), (11, 16, 2120), (12, 0, 6028), (12, 1, 6030), (12, 2, 6032), (12, 3, 6034), (12, 4, 6036), (12, 5, 6038), (12, 6, 6040), (12, 7, 6042), (12, 8, 6044), (12, 9, 6046), (12, 10, 6048), (12, 11, 6050), (12, 12, 6052), (12, 13, 6054), (12, 14, 6056), (12, 15, 6058), (12, 16, 6060), (12, 17, 6062), (12, 18, 6064), (12, 19, 6066), (12, 20, 6068), (12, 21, 6070), (12, 22, 6072), (12, 23, 6074), (12, 24, 6076), (12, 25, 6078), (12, 26, 6080), (12, 27, 6082), (12, 28, 6084), (12, 29, 6086), (12, 30, 6088), (12, 31, 6090), (12, 32, 6092), (12, 33, 6094), (12, 34, 6096), (12, 35, 6098), (12, 36, 6100), (12, 37, 6102), (12, 38, 6104), (12, 39, 6106)]
def jx_fty (i : Nat) : Nat → FieldType := match i with
  | 0 => tyX0
  | 1 => tyX1
  | 2 => tyX2
  | 3 => tyX3
  | 4 => tyX4
  | 5 => tyX5
  | 6 => tyX6
  | 7 => tyX7
  | 8 => tyX8
  | 9 => tyX9
  | 10 => tyX10
  | 11 => tyX11
  | _ => tyX12
/-- the fields of a new object, by its class's number -/
def jx_dflt : Nat → List Value
  | 0 => [.null, .null, .null, .int 0]
  | 1 => [.null, .null, .int 0]
  | 2 => [.null, .null, .null, .null, .long 0, .long 0, .int 0, .int 0, .int 0, .int 0, .int 0, .int 0]
  | 3 => [.null, .null, .null, .null, .null, .int 0, .int 0, .int 0, .int 0, .int 0]
  | 4 => [.int 0, .null]
  | 5 => [.null, .null, .null]
  | 6 => [.int 0, .int 0, .int 0, .int 0, .int 0, .int 0, .null]
  | 7 => [.null, .null, .int 0]
  | 8 => [.null, .int 0]
  | 9 => [.null, .int 0, .int 0]
  | 10 => [.null, .null, .null, .int 0, .int 0]
  | 11 => [.null, .null, .null, .null, .null, .null, .null, .null, .null, .null, .null, .null, .null, .null, .null, .null, .int 0]
  | 12 => [.null, .null, .null, .null, .int 0, .int 0, .null, .null, .null, .null, .null, .int 0, .int 0, .int 0, .null, .null, .null, .null, .null, .null, .null, .int 0, .null, .null, .null, .int 0, .null, .int 0, .null, .int 0, .int 0, .int 0, .null, .null, .null, .null, .null, .null, .int 0, .int 0]
  | _ => []
end
section
/-! The words, by their places; what a method's rows must be -/
def jx_big : List Cond := lw_tbl.filter goodWord
def jx_isNest : Cond → Bool
  | .fieldLinkNest .. => true
  | .methodLinkNest .. => true
  | _ => false
def jx_nest : List Cond := lw_tbl.filter jx_isNest
/-- the words' lists, by number; a place is 1000 times the list's number, and the place in it -/
def jx_tb : Nat → List Cond
  | 0 => k2_sels lw_privs
  | 1 => tables_1_1
  | 2 => tables_1_2
  | 3 => tables_1_3
  | 4 => tables_1_4
  | 5 => tables_1_5
  | 6 => tables_1_6
  | 7 => tables_1_7
  | _ => tables_1_8
theorem jx_tb_in {j : Nat} {w : Cond} (h : w ∈ jx_tb j) : w ∈ lw_tbl := by
  unfold lw_tbl tables_1
  simp only [List.mem_append]
  unfold jx_tb at h
  split at h <;> simp [h]
def jx_okw (p : Nat) (w : Cond) : Bool := decide ((jx_tb (p / 1000))[p % 1000]? = some w) && goodWord w
def jx_okn (p : Nat) (w : Cond) : Bool := decide ((jx_tb (p / 1000))[p % 1000]? = some w) && jx_isNest w
theorem jx_okw_in {p : Nat} {w : Cond} (h : jx_okw p w = true) : w ∈ jx_big := by
  unfold jx_okw at h
  rw [Bool.and_eq_true, decide_eq_true_eq] at h
  exact List.mem_filter.mpr ⟨jx_tb_in (List.mem_of_getElem? h.1), h.2⟩
theorem jx_okn_in {p : Nat} {w : Cond} (h : jx_okn p w = true) : w ∈ jx_nest := by
  unfold jx_okn at h
  rw [Bool.and_eq_true, decide_eq_true_eq] at h
  exact List.mem_filter.mpr ⟨jx_tb_in (List.mem_of_getElem? h.1), h.2⟩
def jx_flF (own ix ci k : Nat) (p : Nat) : Bool := match vwCl[ci]? with
  | some r => decide (k < r.2.2) && jx_okw p (.fieldLink (jx_c own) ix (r.2.1 k).1 (r.2.1 k).2.1 (r.2.1 k).2.2.1)
  | none => false
def jx_flN (own ix ci k : Nat) (p : Nat) : Bool := match vwCl[ci]? with
  | some r => decide (k < r.2.2) && jx_okn p (.fieldLinkNest (jx_c own) ix (r.2.1 k).1 (r.2.1 k).2.1 (r.2.1 k).2.2.1 "RoomTrees")
  | none => false
def jx_st : Nat → String × String
  | 1 => ("RoomTrees$Step", "HAS")
  | 2 => ("RoomTrees$Step", "NEW")
  | _ => ("RoomTrees$Crew", "UNDER")
def jx_miy (q : jxMi) : MethodName := q.1
def jx_mib (q : jxMi) : ByteArray := q.2.1
def jx_mil (q : jxMi) : Nat := q.2.2.1
def jx_mir (q : jxMi) : Option FieldType := q.2.2.2.1
def jx_mio (q : jxMi) : Option Nat := q.2.2.2.2.1
def jx_miw (q : jxMi) : Nat := q.2.2.2.2.2.1
def jx_min (q : jxMi) : Nat := q.2.2.2.2.2.2.1
def jx_mip (q : jxMi) : Nat × Nat × Nat × Nat := q.2.2.2.2.2.2.2
def jx_mic (q : jxMi) : Bool :=
  jx_okw (jx_mip q).2.1 (.initialized (jx_miy q).cls) &&
  (match jx_mio q with
    | none => jx_okw (jx_mip q).2.2.1 (.static (jx_miy q))
    | some ci => jx_okw (jx_mip q).2.2.1 (.instanceMethod (jx_miy q)) && decide ((vwCl[ci]?.map (fun r => r.1)) = some (jx_miy q).cls) && (decide ((jx_miy q).name = "<init>" ∧ jx_mir q = none) || (decide ((jx_miy q).name ≠ "<init>") && jx_okw (jx_mip q).2.2.2 (.selects (jx_miy q).cls (jx_miy q) (jx_miy q))))) &&
  decide ((jx_miy q).cls ≠ "java/lang/invoke/MethodHandle" ∧ (jx_miy q).cls ≠ "java/lang/invoke/VarHandle" ∧ (parseMethodDescriptor (jx_miy q).desc).map (fun d => d.parameters.length) = some (jx_min q)) &&
  plainFor (jx_miy q) && decide (jx_mil q ≤ 41) && decide (jx_c (jx_miw q) = (jx_miy q).cls)
set_option maxRecDepth 100000 in
theorem jx_mi_ok0 : jx_mi_0.all jx_mic = true := by decide +kernel
set_option maxRecDepth 100000 in
theorem jx_mi_ok1 : jx_mi_1.all jx_mic = true := by decide +kernel
set_option maxRecDepth 100000 in
theorem jx_mi_ok2 : jx_mi_2.all jx_mic = true := by decide +kernel
set_option maxRecDepth 100000 in
theorem jx_mi_ok3 : jx_mi_3.all jx_mic = true := by decide +kernel
set_option maxRecDepth 100000 in
theorem jx_mi_ok4 : jx_mi_4.all jx_mic = true := by decide +kernel
set_option maxRecDepth 100000 in
theorem jx_mi_ok5 : jx_mi_5.all jx_mic = true := by decide +kernel
theorem jx_mi_ok : jx_mi.all jx_mic = true := by
  unfold jx_mi
  simp only [List.all_append, jx_mi_ok0, jx_mi_ok1, jx_mi_ok2, jx_mi_ok3, jx_mi_ok4, jx_mi_ok5, Bool.and_self]
def jx_cok (l : List jxMi) : Prop := l.map (fun q => (jx_tb ((jx_mip q).1 / 1000))[(jx_mip q).1 % 1000]?) = l.map (fun q => some (.code (jx_miy q) (jx_mib q) (jx_mil q) (jx_mir q)))
set_option maxRecDepth 100000 in
theorem jx_co_ok0 : jx_cok jx_mi_0 := by rfl
set_option maxRecDepth 100000 in
theorem jx_co_ok1 : jx_cok jx_mi_1 := by rfl
set_option maxRecDepth 100000 in
theorem jx_co_ok2 : jx_cok jx_mi_2 := by rfl
set_option maxRecDepth 100000 in
theorem jx_co_ok3 : jx_cok jx_mi_3 := by rfl
set_option maxRecDepth 100000 in
theorem jx_co_ok4 : jx_cok jx_mi_4 := by rfl
set_option maxRecDepth 100000 in
theorem jx_co_ok5 : jx_cok jx_mi_5 := by rfl
theorem jx_cok_app {a b : List jxMi} (ha : jx_cok a) (hb : jx_cok b) : jx_cok (a ++ b) := by
  unfold jx_cok at *
  rw [List.map_append, List.map_append, ha, hb]
theorem jx_co_ok : jx_cok jx_mi := jx_cok_app jx_co_ok0 (jx_cok_app jx_co_ok1 (jx_cok_app jx_co_ok2 (jx_cok_app jx_co_ok3 (jx_cok_app jx_co_ok4 jx_co_ok5))))
theorem jx_code_good (y : MethodName) (b : ByteArray) (n : Nat) (r : Option FieldType) : goodWord (.code y b n r) = true := rfl
theorem jx_code_in {q : jxMi} (h : q ∈ jx_mi) : Cond.code (jx_miy q) (jx_mib q) (jx_mil q) (jx_mir q) ∈ jx_big := by
  obtain ⟨k, hk⟩ := List.getElem?_of_mem h
  have h1 := congrArg (fun l : List (Option Cond) => l[k]?) jx_co_ok
  simp only [List.getElem?_map, hk, Option.map_some, Option.some.injEq] at h1
  exact List.mem_filter.mpr ⟨jx_tb_in (List.mem_of_getElem? h1), jx_code_good _ _ _ _⟩
set_option maxRecDepth 100000 in
theorem jx_fl_ok : jx_fl.all (fun q => jx_flF q.1 q.2.1 q.2.2.1 q.2.2.2.1 q.2.2.2.2) = true := by decide +kernel
set_option maxRecDepth 100000 in
theorem jx_fln_ok : jx_fln.all (fun q => jx_flN q.1 q.2.1 q.2.2.1 q.2.2.2.1 q.2.2.2.2) = true := by decide +kernel
set_option maxRecDepth 100000 in
theorem jx_sl_ok : jx_sl.all (fun q => jx_okw q.2.2.2 (.fieldLink (jx_c q.1) q.2.1 (jx_st q.2.2.1).1 (jx_st q.2.2.1).2 "[I")) = true := by decide +kernel
set_option maxRecDepth 100000 in
theorem jx_ml_ok : jx_ml.all (fun q => match jx_mi[q.2.2.1]? with
  | some m => jx_okw q.2.2.2 (.methodLink (jx_c q.1) q.2.1 (jx_miy m))
  | none => false) = true := by decide +kernel
set_option maxRecDepth 100000 in
theorem jx_mln_ok : jx_mln.all (fun q => match jx_mi[q.2.2.1]? with
  | some m => jx_okn q.2.2.2 (.methodLinkNest (jx_c q.1) q.2.1 (jx_miy m) "RoomTrees")
  | none => false) = true := by decide +kernel
set_option maxRecDepth 100000 in
theorem jx_ol_ok : jx_ol.all (fun q => jx_okw q.2.2 (.methodLink (jx_c q.1) q.2.1 objectInit)) = true := by decide +kernel
set_option maxRecDepth 100000 in
theorem jx_al_ok : jx_al.all (fun q => jx_okw q.2.2 (.methodLink (jx_c q.1) q.2.1 arraycopyName)) = true := by decide +kernel
set_option maxRecDepth 100000 in
theorem jx_cl_ok : jx_cl.all (fun q => match vwCl[q.2.2.1]? with
  | some r => jx_okw q.2.2.2.1 (.classLink (jx_c q.1) q.2.1 r.1) && jx_okw q.2.2.2.2.1 (.instantiable r.1 r.2.2) && jx_okw q.2.2.2.2.2 (.initialized r.1)
  | none => false) = true := by decide +kernel
set_option maxRecDepth 100000 in
theorem jx_dl_ok : jx_dl.all (fun q => jx_okw q.2.2 (.classLink (jx_c q.1) q.2.1 ("[" ++ (FieldType.array .int).toString))) = true := by decide +kernel
set_option maxRecDepth 100000 in
theorem jx_kl_ok : jx_kl.all (fun q => jx_okw q.2.2.2 (.constant (jx_c q.1) q.2.1 q.2.2.1)) = true := by decide +kernel
set_option maxRecDepth 100000 in
theorem jx_kll_ok : jx_kll.all (fun q => jx_okw q.2.2.2 (.constantLong (jx_c q.1) q.2.1 q.2.2.1)) = true := by decide +kernel
set_option maxRecDepth 100000 in
theorem jx_lay_ok : jx_lay.all (fun q => match vwCl[q.1]? with
  | some r => jx_okw q.2.2 (u_lay r.1 r.2.1 q.2.1)
  | none => false) = true := by decide +kernel
set_option maxRecDepth 100000 in
theorem jx_obj_ok : (jx_okw jx_objPos.1 (.instanceMethod objectInit) && jx_okw jx_objPos.2 (.code objectInit ⟨#[0xb1]⟩ 1 none)) = true := by decide +kernel
set_option maxRecDepth 100000 in
theorem jx_sys_ok : (jx_okw jx_sysPos.1 (.static arraycopyName) && jx_okw jx_sysPos.2.1 (.initialized "java/lang/System") && jx_okw jx_sysPos.2.2 (.native arraycopyName)) = true := by decide +kernel
set_option maxRecDepth 100000 in
theorem jx_arr_ok : jx_arrPos.all (fun q => jx_okw q.2 (.arrayClass q.1)) = true := by decide +kernel
end
section
/-! What a method's rows must be, and what that gives -/
def jx_seq (look : Nat → Option jxRow) (i : Nat) (r : jxRow) (L : Nat) : Bool := decide (r.len = L) && (match look (i + 1) with
  | some r' => decide (r'.pc = r.pc + L)
  | none => false)
def jx_to (look : Nat → Option jxRow) (r : jxRow) (off : Int) (t : Nat) : Bool := match look t with
  | some r' => decide ((r.pc : Int) + off = (r'.pc : Int))
  | none => false
def jx_hf (own ix ci k : Nat) : Bool := jx_fl.any (fun q => decide (q.1 = own ∧ q.2.1 = ix ∧ q.2.2.1 = ci ∧ q.2.2.2.1 = k)) || jx_fln.any (fun q => decide (q.1 = own ∧ q.2.1 = ix ∧ q.2.2.1 = ci ∧ q.2.2.2.1 = k))
def jx_hm (own ix k : Nat) : Bool := jx_ml.any (fun q => decide (q.1 = own ∧ q.2.1 = ix ∧ q.2.2.1 = k)) || jx_mln.any (fun q => decide (q.1 = own ∧ q.2.1 = ix ∧ q.2.2.1 = k))
def jx_hc (own ix ci : Nat) : Bool := jx_cl.any (fun q => decide (q.1 = own ∧ q.2.1 = ix ∧ q.2.2.1 = ci))
def jx_mth (k : Nat) (f : jxMi → Bool) : Bool := match jx_mi[k]? with
  | some q => f q
  | none => false
def jx_isRef : FieldType → Bool
  | .object _ => true
  | .array _ => true
  | _ => false
def jx_zty (z : Nat) (ty : FieldType) : Bool := match z with
  | 0 => decide (ty = .int)
  | 1 => decide (ty = .long)
  | 2 => jx_isRef ty
  | _ => decide (ty = .boolean)
def jx_hfl (own ix ci k : Nat) : Bool := jx_fl.any (fun q => decide (q.1 = own ∧ q.2.1 = ix ∧ q.2.2.1 = ci ∧ q.2.2.2.1 = k))
def jx_fin (ini : Bool) (own ix ci k : Nat) : Bool := match vwCl[ci]? with
  | some r => decide ((r.2.1 k).2.2.2 = false) || (ini && (jx_hfl own ix ci k && decide ((r.2.1 k).2.2.2 = true ∧ (r.2.1 k).1 = jx_c own)))
  | none => false
def jx_isObj : Option FieldType → Bool
  | some (.object _) => true
  | _ => false
def jx_at4 (a : ArrayType) (x : Nat) : Bool := match a with
  | .int => decide (x = 0)
  | .long => decide (x = 1)
  | .byte => decide (x = 2)
  | .boolean => decide (x = 3)
  | _ => false
/-- own: the class's number; nL: locals; ini: is it a constructor; rk: what it answers -/
def jx_wf (own nL : Nat) (ini : Bool) (rk : Option FieldType) (look : Nat → Option jxRow) (i : Nat) (r : jxRow) : Bool :=
  match r.ins with
  | .iconst n => jx_seq look i r 1 && decide (Int32.ofInt n = r.v)
  | .bipush n => jx_seq look i r 2 && decide ((Int8.ofInt n).toInt32 = r.v)
  | .sipush n => jx_seq look i r 3 && decide ((Int16.ofInt n).toInt32 = r.v)
  | .ldc ix => jx_seq look i r 2 && jx_kl.any (fun q => decide (q.1 = own ∧ q.2.1 = ix ∧ q.2.2.1 = r.v))
  | .ldc_w ix => jx_seq look i r 3 && jx_kl.any (fun q => decide (q.1 = own ∧ q.2.1 = ix ∧ q.2.2.1 = r.v))
  | .lconst n => jx_seq look i r 1 && decide (Int64.ofNat (n : Nat) = r.w)
  | .ldc2_w ix => jx_seq look i r 3 && jx_kll.any (fun q => decide (q.1 = own ∧ q.2.1 = ix ∧ q.2.2.1 = r.w))
  | .aconst_null => jx_seq look i r 1
  | .iload k => jx_seq look i r 2 && decide (k = r.x)
  | .lload k => jx_seq look i r 2 && decide (k = r.x)
  | .aload k => jx_seq look i r 2 && decide (k = r.x)
  | .iload_n k => jx_seq look i r 1 && decide ((k : Nat) = r.x)
  | .lload_n k => jx_seq look i r 1 && decide ((k : Nat) = r.x)
  | .aload_n k => jx_seq look i r 1 && decide ((k : Nat) = r.x)
  | .istore k => jx_seq look i r 2 && decide (k = r.x ∧ k < nL)
  | .astore k => jx_seq look i r 2 && decide (k = r.x ∧ k < nL)
  | .istore_n k => jx_seq look i r 1 && decide ((k : Nat) = r.x ∧ (k : Nat) < nL)
  | .astore_n k => jx_seq look i r 1 && decide ((k : Nat) = r.x ∧ (k : Nat) < nL)
  | .lstore k => jx_seq look i r 2 && decide (k = r.x ∧ k + 1 < nL)
  | .lstore_n k => jx_seq look i r 1 && decide ((k : Nat) = r.x ∧ (k : Nat) + 1 < nL)
  | .iinc k n => jx_seq look i r 3 && decide (k = r.x ∧ k < nL ∧ Int32.ofInt n = r.v)
  | .iadd => jx_seq look i r 1
  | .isub => jx_seq look i r 1
  | .imul => jx_seq look i r 1
  | .iand => jx_seq look i r 1
  | .ior => jx_seq look i r 1
  | .ixor => jx_seq look i r 1
  | .idiv => jx_seq look i r 1
  | .irem => jx_seq look i r 1
  | .ishl => jx_seq look i r 1
  | .ishr => jx_seq look i r 1
  | .iushr => jx_seq look i r 1
  | .ineg => jx_seq look i r 1
  | .ladd => jx_seq look i r 1
  | .lsub => jx_seq look i r 1
  | .lmul => jx_seq look i r 1
  | .land => jx_seq look i r 1
  | .lor => jx_seq look i r 1
  | .lxor => jx_seq look i r 1
  | .ldiv => jx_seq look i r 1
  | .lrem => jx_seq look i r 1
  | .lneg => jx_seq look i r 1
  | .lshl => jx_seq look i r 1
  | .lshr => jx_seq look i r 1
  | .lcmp => jx_seq look i r 1
  | .i2l => jx_seq look i r 1
  | .l2i => jx_seq look i r 1
  | .i2b => jx_seq look i r 1
  | .i2s => jx_seq look i r 1
  | .dup => jx_seq look i r 1
  | .dup2 => jx_seq look i r 1
  | .pop => jx_seq look i r 1
  | .ifCond _ off => jx_seq look i r 3 && jx_to look r off r.x
  | .if_icmp _ off => jx_seq look i r 3 && jx_to look r off r.x
  | .ifnull off => jx_seq look i r 3 && jx_to look r off r.x
  | .ifnonnull off => jx_seq look i r 3 && jx_to look r off r.x
  | .goto off => decide (r.len = 3) && jx_to look r off r.x
  | .tableswitch d lo hi offs => jx_to look r d r.x && (decide (0 ≤ lo ∧ hi < 1000 ∧ hi - lo + 1 = (r.ts.length : Int) ∧ r.v = Int32.ofInt lo) && (decide (offs.size = r.ts.length) && (offs.toList.zip r.ts).all (fun q => jx_to look r q.1 q.2)))
  | .getfield ix => jx_seq look i r 3 && jx_hf own ix r.x r.y
  | .putfield ix => jx_seq look i r 3 && (jx_hf own ix r.x r.y && (jx_zty r.z (jx_fty r.x r.y) && jx_fin ini own ix r.x r.y))
  | .getstatic ix => jx_seq look i r 3 && (jx_sl.any (fun q => decide (q.1 = own ∧ q.2.1 = ix ∧ q.2.2.1 = r.x)) && decide (1 ≤ r.x ∧ r.x ≤ 3))
  | .iaload => jx_seq look i r 1
  | .baload => jx_seq look i r 1
  | .laload => jx_seq look i r 1
  | .iastore => jx_seq look i r 1
  | .bastore => jx_seq look i r 1
  | .lastore => jx_seq look i r 1
  | .arraylength => jx_seq look i r 1
  | .aaload => jx_seq look i r 1 && decide (4 ≤ r.z ∧ r.z ≤ 8)
  | .aastore => jx_seq look i r 1 && decide ((r.z = 4 ∧ r.x = 1) ∨ (r.z = 5 ∧ r.x = 4) ∨ (r.z = 6 ∧ r.x = 6) ∨ (r.z = 7 ∧ r.x = 8))
  | .new ix => jx_seq look i r 3 && (jx_hc own ix r.x && decide ((vwCl[r.x]?.map (fun q => q.2.2)) = some r.y))
  | .newarray a => jx_seq look i r 2 && jx_at4 a r.x
  | .anewarray ix => jx_seq look i r 3 && ((decide (r.x = 4) && jx_hc own ix 1) || ((decide (r.x = 6) && jx_hc own ix 6) || (decide (r.x = 7) && jx_hc own ix 8)) || (decide (r.x = 5) && jx_hc own ix 4))
  | .multianewarray ix d => jx_seq look i r 4 && (decide (d = 2) && jx_dl.any (fun q => decide (q.1 = own ∧ q.2.1 = ix)))
  | .invokespecial ix => jx_seq look i r 3 && (if r.z = 9 then jx_ol.any (fun q => decide (q.1 = own ∧ q.2.1 = ix)) else jx_hm own ix r.x && jx_mth r.x (fun q => decide ((jx_miy q).name = "<init>" ∧ r.y = jx_min q ∧ jx_mio q ≠ none)))
  | .invokestatic ix => jx_seq look i r 3 && (if r.z = 9 then jx_al.any (fun q => decide (q.1 = own ∧ q.2.1 = ix)) && decide (r.x = 0 ∨ r.x = 2) else jx_hm own ix r.x && jx_mth r.x (fun q => decide (r.y = jx_min q ∧ jx_mio q = none)))
  | .invokevirtual ix => jx_seq look i r 3 && (jx_hm own ix r.x && jx_mth r.x (fun q => decide ((jx_miy q).name ≠ "<init>" ∧ r.y = jx_min q ∧ jx_mio q ≠ none)))
  | .ireturn => decide (r.len = 1) && (decide (r.z = 0 ∧ rk = some .int) || decide (r.z ≠ 0 ∧ rk = some .boolean))
  | .lreturn => decide (r.len = 1 ∧ rk = some .long)
  | .areturn => decide (r.len = 1) && jx_isObj rk
  | .return_ => decide (r.len = 1 ∧ rk = none)
  | _ => false
def jx_dk (cc : ByteArray) (r : jxRow) : Bool := match decode cc r.pc with
  | .ok (i, n) => decide (i = r.ins ∧ n = r.len)
  | .error _ => false
theorem jx_dk_spec {cc : ByteArray} {r : jxRow} (h : jx_dk cc r = true) : decode cc r.pc = .ok (r.ins, r.len) := by
  unfold jx_dk at h
  split at h
  · rename_i e
    rw [e]
    rw [decide_eq_true_eq] at h
    rw [h.1, h.2]
  · cases h
def jx_good (cc : ByteArray) (own nL : Nat) (ini : Bool) (rk : Option FieldType) (code : List jxRow) : Bool := decide (code[0]?.map (fun r => r.pc) = some 0) && code.zipIdx.all (fun q => jx_dk cc q.1 && jx_wf own nL ini rk (fun j => code[j]?) q.2 q.1)
theorem jx_good_spec {cc : ByteArray} {own nL : Nat} {ini : Bool} {rk : Option FieldType} {code : List jxRow} (h : jx_good cc own nL ini rk code = true) {i : Nat} {r : jxRow} (hr : code[i]? = some r) : decode cc r.pc = .ok (r.ins, r.len) ∧ jx_wf own nL ini rk (fun j => code[j]?) i r = true := by
  unfold jx_good at h
  rw [Bool.and_eq_true] at h
  have h1 := List.all_eq_true.mp h.2 (r, i) (by
    rw [List.mem_iff_getElem?]
    exact ⟨i, by rw [List.getElem?_zipIdx, hr]; simp⟩)
  rw [Bool.and_eq_true] at h1
  exact ⟨jx_dk_spec h1.1, h1.2⟩
/-- rows in lists of a hundred -/
def jx_lk : List (List jxRow) → Nat → Option jxRow
  | [], _ => none
  | c :: t, i => if i < 100 then c[i]? else jx_lk t (i - 100)
theorem jx_lk_last {c : List jxRow} (hc : c.length ≤ 100) (j : Nat) : jx_lk [c] j = c[j]? := by
  unfold jx_lk
  split
  · rfl
  · rw [List.getElem?_eq_none (by omega)]
    rfl
theorem jx_lk_cons {c : List jxRow} {t : List (List jxRow)} {T : List jxRow} (hc : c.length = 100) (ht : ∀ j, jx_lk t j = T[j]?) (j : Nat) : jx_lk (c :: t) j = (c ++ T)[j]? := by
  unfold jx_lk
  rw [List.getElem?_append, hc]
  split
  · rfl
  · exact ht _
theorem jx_all_app {P : jxRow × Nat → Bool} {a b : List jxRow} {n : Nat} (ha : a.length = 100) (h1 : (a.zipIdx n).all P = true) (h2 : (b.zipIdx (n + 100)).all P = true) : ((a ++ b).zipIdx n).all P = true := by
  rw [List.zipIdx_append, List.all_append, h1, ha, h2]
  rfl
theorem jx_good_lk {cc : ByteArray} {own nL : Nat} {ini : Bool} {rk : Option FieldType} {code : List jxRow} {look : Nat → Option jxRow} (hl : ∀ j, look j = code[j]?) (h0 : decide (code[0]?.map (fun r => r.pc) = some 0) = true) (h : (code.zipIdx 0).all (fun q => jx_dk cc q.1 && jx_wf own nL ini rk look q.2 q.1) = true) : jx_good cc own nL ini rk code = true := by
  have e : look = fun j => code[j]? := funext hl
  subst e
  unfold jx_good
  rw [Bool.and_eq_true]
  exact ⟨h0, h⟩
theorem jx_good_0 {cc : ByteArray} {own nL : Nat} {ini : Bool} {rk : Option FieldType} {code : List jxRow} (h : jx_good cc own nL ini rk code = true) : ∃ r, code[0]? = some r ∧ r.pc = 0 := by
  unfold jx_good at h
  rw [Bool.and_eq_true, decide_eq_true_eq] at h
  cases hr : code[0]? with
  | none => rw [hr] at h; exact absurd h.1 (by simp)
  | some r => rw [hr] at h; exact ⟨r, rfl, Option.some.inj h.1⟩
theorem jx_seq_spec {code : List jxRow} {i : Nat} {r : jxRow} {L : Nat} (h : jx_seq (fun j => code[j]?) i r L = true) : r.len = L ∧ ∃ r', code[i + 1]? = some r' ∧ r'.pc = r.pc + L := by
  unfold jx_seq at h
  rw [Bool.and_eq_true, decide_eq_true_eq] at h
  obtain ⟨h1, h2⟩ := h
  split at h2
  · rename_i r' e
    exact ⟨h1, r', e, of_decide_eq_true h2⟩
  · cases h2
theorem jx_to_spec {code : List jxRow} {r : jxRow} {off : Int} {t : Nat} (h : jx_to (fun j => code[j]?) r off t = true) : ∃ r', code[t]? = some r' ∧ (r.pc : Int) + off = (r'.pc : Int) := by
  unfold jx_to at h
  split at h
  · rename_i r' e
    exact ⟨r', e, of_decide_eq_true h⟩
  · cases h
/-- a field's link: the class's row, the place, the word -/
theorem jx_hf_spec {own ix ci k : Nat} (h : jx_hf own ix ci k = true) : ∃ r : vw_C, vwCl[ci]? = some r ∧ k < r.2.2 ∧ (Cond.fieldLink (jx_c own) ix (r.2.1 k).1 (r.2.1 k).2.1 (r.2.1 k).2.2.1 ∈ jx_big ∨ Cond.fieldLinkNest (jx_c own) ix (r.2.1 k).1 (r.2.1 k).2.1 (r.2.1 k).2.2.1 "RoomTrees" ∈ jx_nest) := by
  unfold jx_hf at h
  rw [Bool.or_eq_true] at h
  rcases h with h | h
  · obtain ⟨q, hq, hd⟩ := List.any_eq_true.mp h
    obtain ⟨e1, e2, e3, e4⟩ := of_decide_eq_true hd
    have h1 := List.all_eq_true.mp jx_fl_ok q hq
    rw [e1, e2, e3, e4] at h1
    unfold jx_flF at h1
    split at h1
    · rename_i r e
      rw [Bool.and_eq_true, decide_eq_true_eq] at h1
      exact ⟨r, e, h1.1, Or.inl (jx_okw_in h1.2)⟩
    · cases h1
  · obtain ⟨q, hq, hd⟩ := List.any_eq_true.mp h
    obtain ⟨e1, e2, e3, e4⟩ := of_decide_eq_true hd
    have h1 := List.all_eq_true.mp jx_fln_ok q hq
    rw [e1, e2, e3, e4] at h1
    unfold jx_flN at h1
    split at h1
    · rename_i r e
      rw [Bool.and_eq_true, decide_eq_true_eq] at h1
      exact ⟨r, e, h1.1, Or.inr (jx_okn_in h1.2)⟩
    · cases h1
theorem jx_hfl_spec {own ix ci k : Nat} (h : jx_hfl own ix ci k = true) : ∃ r : vw_C, vwCl[ci]? = some r ∧ k < r.2.2 ∧ Cond.fieldLink (jx_c own) ix (r.2.1 k).1 (r.2.1 k).2.1 (r.2.1 k).2.2.1 ∈ jx_big := by
  unfold jx_hfl at h
  obtain ⟨q, hq, hd⟩ := List.any_eq_true.mp h
  obtain ⟨e1, e2, e3, e4⟩ := of_decide_eq_true hd
  have h1 := List.all_eq_true.mp jx_fl_ok q hq
  rw [e1, e2, e3, e4] at h1
  unfold jx_flF at h1
  split at h1
  · rename_i r e
    rw [Bool.and_eq_true, decide_eq_true_eq] at h1
    exact ⟨r, e, h1.1, jx_okw_in h1.2⟩
  · cases h1
theorem jx_hm_spec {own ix k : Nat} {q : jxMi} (h : jx_hm own ix k = true) (hq : jx_mi[k]? = some q) : Cond.methodLink (jx_c own) ix (jx_miy q) ∈ jx_big ∨ Cond.methodLinkNest (jx_c own) ix (jx_miy q) "RoomTrees" ∈ jx_nest := by
  unfold jx_hm at h
  rw [Bool.or_eq_true] at h
  rcases h with h | h
  · obtain ⟨q', hq', hd⟩ := List.any_eq_true.mp h
    obtain ⟨e1, e2, e3⟩ := of_decide_eq_true hd
    have h1 := List.all_eq_true.mp jx_ml_ok q' hq'
    rw [e1, e2, e3, hq] at h1
    exact Or.inl (jx_okw_in h1)
  · obtain ⟨q', hq', hd⟩ := List.any_eq_true.mp h
    obtain ⟨e1, e2, e3⟩ := of_decide_eq_true hd
    have h1 := List.all_eq_true.mp jx_mln_ok q' hq'
    rw [e1, e2, e3, hq] at h1
    exact Or.inr (jx_okn_in h1)
theorem jx_hc_spec {own ix ci : Nat} (h : jx_hc own ix ci = true) : ∃ r : vw_C, vwCl[ci]? = some r ∧ Cond.classLink (jx_c own) ix r.1 ∈ jx_big ∧ Cond.instantiable r.1 r.2.2 ∈ jx_big ∧ Cond.initialized r.1 ∈ jx_big := by
  unfold jx_hc at h
  obtain ⟨q, hq, hd⟩ := List.any_eq_true.mp h
  obtain ⟨e1, e2, e3⟩ := of_decide_eq_true hd
  have h1 := List.all_eq_true.mp jx_cl_ok q hq
  rw [e1, e2, e3] at h1
  split at h1
  · rename_i r e
    rw [Bool.and_eq_true, Bool.and_eq_true] at h1
    exact ⟨r, e, jx_okw_in h1.1.1, jx_okw_in h1.1.2, jx_okw_in h1.2⟩
  · cases h1
theorem jx_kl_spec {own ix : Nat} {v : Int32} (h : jx_kl.any (fun q => decide (q.1 = own ∧ q.2.1 = ix ∧ q.2.2.1 = v)) = true) : Cond.constant (jx_c own) ix v ∈ jx_big := by
  obtain ⟨q, hq, hd⟩ := List.any_eq_true.mp h
  obtain ⟨e1, e2, e3⟩ := of_decide_eq_true hd
  have h1 := List.all_eq_true.mp jx_kl_ok q hq
  rw [e1, e2, e3] at h1
  exact jx_okw_in h1
theorem jx_kll_spec {own ix : Nat} {v : Int64} (h : jx_kll.any (fun q => decide (q.1 = own ∧ q.2.1 = ix ∧ q.2.2.1 = v)) = true) : Cond.constantLong (jx_c own) ix v ∈ jx_big := by
  obtain ⟨q, hq, hd⟩ := List.any_eq_true.mp h
  obtain ⟨e1, e2, e3⟩ := of_decide_eq_true hd
  have h1 := List.all_eq_true.mp jx_kll_ok q hq
  rw [e1, e2, e3] at h1
  exact jx_okw_in h1
theorem jx_sl_spec {own ix x : Nat} (h : jx_sl.any (fun q => decide (q.1 = own ∧ q.2.1 = ix ∧ q.2.2.1 = x)) = true) : Cond.fieldLink (jx_c own) ix (jx_st x).1 (jx_st x).2 "[I" ∈ jx_big := by
  obtain ⟨q, hq, hd⟩ := List.any_eq_true.mp h
  obtain ⟨e1, e2, e3⟩ := of_decide_eq_true hd
  have h1 := List.all_eq_true.mp jx_sl_ok q hq
  rw [e1, e2, e3] at h1
  exact jx_okw_in h1
theorem jx_ol_spec {own ix : Nat} (h : jx_ol.any (fun q => decide (q.1 = own ∧ q.2.1 = ix)) = true) : Cond.methodLink (jx_c own) ix objectInit ∈ jx_big := by
  obtain ⟨q, hq, hd⟩ := List.any_eq_true.mp h
  obtain ⟨e1, e2⟩ := of_decide_eq_true hd
  have h1 := List.all_eq_true.mp jx_ol_ok q hq
  rw [e1, e2] at h1
  exact jx_okw_in h1
theorem jx_al_spec {own ix : Nat} (h : jx_al.any (fun q => decide (q.1 = own ∧ q.2.1 = ix)) = true) : Cond.methodLink (jx_c own) ix arraycopyName ∈ jx_big := by
  obtain ⟨q, hq, hd⟩ := List.any_eq_true.mp h
  obtain ⟨e1, e2⟩ := of_decide_eq_true hd
  have h1 := List.all_eq_true.mp jx_al_ok q hq
  rw [e1, e2] at h1
  exact jx_okw_in h1
/-- a method's words -/
def jx_wsm (q : jxMi) : List Cond := Cond.code (jx_miy q) (jx_mib q) (jx_mil q) (jx_mir q) :: jx_big
theorem jx_big_good {w : Cond} (h : w ∈ jx_big) : (w.onTables && w.keeps) = true ∨ ∃ ty, w = .arrayClass ty := good_of_word (List.mem_filter.mp h).2
theorem jx_wsm_good {q : jxMi} (hq : q ∈ jx_mi) : GoodIn jx_big (jx_wsm q) := fun w hw => by
  rcases List.mem_cons.mp hw with h | h
  · rw [h]
    exact ⟨jx_code_in hq, jx_big_good (jx_code_in hq)⟩
  · exact ⟨h, jx_big_good h⟩
theorem jx_mi_spec {q : jxMi} (hq : q ∈ jx_mi) : Cond.initialized (jx_miy q).cls ∈ jx_big ∧
    ((jx_mio q = none → Cond.static (jx_miy q) ∈ jx_big) ∧
      ∀ ci, jx_mio q = some ci → Cond.instanceMethod (jx_miy q) ∈ jx_big ∧ (∃ r : vw_C, vwCl[ci]? = some r ∧ r.1 = (jx_miy q).cls) ∧ ((jx_miy q).name = "<init>" ∧ jx_mir q = none ∨ Cond.selects (jx_miy q).cls (jx_miy q) (jx_miy q) ∈ jx_big ∧ (jx_miy q).name ≠ "<init>")) ∧
    ((jx_miy q).cls ≠ "java/lang/invoke/MethodHandle" ∧ (jx_miy q).cls ≠ "java/lang/invoke/VarHandle" ∧ (parseMethodDescriptor (jx_miy q).desc).map (fun d => d.parameters.length) = some (jx_min q)) ∧
    plainFor (jx_miy q) = true ∧ jx_mil q ≤ 41 ∧ jx_c (jx_miw q) = (jx_miy q).cls := by
  have h := List.all_eq_true.mp jx_mi_ok q hq
  unfold jx_mic at h
  simp only [Bool.and_eq_true, decide_eq_true_eq] at h
  obtain ⟨⟨⟨⟨⟨h1, h2⟩, h3⟩, h4⟩, h5⟩, h6⟩ := h
  refine ⟨jx_okw_in h1, ⟨fun e => ?_, fun ci e => ?_⟩, h3, h4, h5, h6⟩
  · rw [e] at h2
    exact jx_okw_in h2
  · rw [e] at h2
    simp only [Bool.and_eq_true, Bool.or_eq_true, decide_eq_true_eq] at h2
    obtain ⟨⟨g1, g2⟩, g3⟩ := h2
    refine ⟨jx_okw_in g1, ?_, ?_⟩
    · cases hv : vwCl[ci]? with
      | none => rw [hv] at g2; cases g2
      | some r => rw [hv] at g2; exact ⟨r, rfl, Option.some.inj g2⟩
    · rcases g3 with g3 | g3
      · exact Or.inl g3
      · exact Or.inr ⟨jx_okw_in g3.2, g3.1⟩
def jx_layPos (ci k : Nat) : Nat := match jx_lay.find? (fun q => decide (q.1 = ci ∧ q.2.1 = k)) with
  | some q => q.2.2
  | none => 0
set_option maxRecDepth 100000 in
theorem jx_lay_all : (vwCl.zipIdx.all (fun q => (List.range q.1.2.2).all (fun k => jx_okw (jx_layPos q.2 k) (u_lay q.1.1 q.1.2.1 k)))) = true := by decide +kernel
theorem jx_lay_in {ci : Nat} {r : vw_C} (h : vwCl[ci]? = some r) : ∀ w ∈ u_ws r.1 r.2.1 r.2.2, w ∈ jx_big := by
  intro w hw
  obtain ⟨k, hk, rfl⟩ := List.mem_map.mp hw
  have h1 := List.all_eq_true.mp jx_lay_all (r, ci) (by
    rw [List.mem_iff_getElem?]
    exact ⟨ci, by rw [List.getElem?_zipIdx, h]; simp⟩)
  exact jx_okw_in (List.all_eq_true.mp h1 k hk)
theorem jx_cls_ok {ci : Nat} {r : vw_C} (h : vwCl[ci]? = some r) : (∀ k, k < r.2.2 → parseFieldDescriptor (r.2.1 k).2.2.1 = some (jx_fty ci k)) ∧ (∀ a, a < r.2.2 → ∀ b, b < r.2.2 → a ≠ b → (r.2.1 a).2.1 ≠ (r.2.1 b).2.1) := by
  match ci, h with
  | 0, h => cases h; exact ⟨tyX0_ok, nmX0⟩
  | 1, h => cases h; exact ⟨tyX1_ok, nmX1⟩
  | 2, h => cases h; exact ⟨tyX2_ok, nmX2⟩
  | 3, h => cases h; exact ⟨tyX3_ok, nmX3⟩
  | 4, h => cases h; exact ⟨tyX4_ok, nmX4⟩
  | 5, h => cases h; exact ⟨tyX5_ok, nmX5⟩
  | 6, h => cases h; exact ⟨tyX6_ok, nmX6⟩
  | 7, h => cases h; exact ⟨tyX7_ok, nmX7⟩
  | 8, h => cases h; exact ⟨tyX8_ok, nmX8⟩
  | 9, h => cases h; exact ⟨tyX9_ok, nmX9⟩
  | 10, h => cases h; exact ⟨tyX10_ok, nmX10⟩
  | 11, h => cases h; exact ⟨tyX11_ok, nmX11⟩
  | 12, h => cases h; exact ⟨tyX12_ok, nmX12⟩
  | n + 13, h => exact absurd h (by simp [vwCl])
/-- what new objects hold -/
theorem jx_dflt_ok {ci : Nat} {r : vw_C} (h : vwCl[ci]? = some r) : (jx_dflt ci).length = r.2.2 ∧ ∀ j, j < r.2.2 → defaultValue (jx_fty ci j) = vp_V (jx_dflt ci) j := by
  have key : ∀ (N : Nat) (f : Nat → FieldType) (l : List Value), (decide (l.length = N) && (List.range N).all (fun j => decide (defaultValue (f j) = vp_V l j))) = true → l.length = N ∧ ∀ j, j < N → defaultValue (f j) = vp_V l j := by
    intro N f l hh
    rw [Bool.and_eq_true, decide_eq_true_eq] at hh
    exact ⟨hh.1, fun j hj => of_decide_eq_true (List.all_eq_true.mp hh.2 j (List.mem_range.mpr hj))⟩
  match ci, h with
  | 0, h => cases h; exact key _ _ _ (by decide +kernel)
  | 1, h => cases h; exact key _ _ _ (by decide +kernel)
  | 2, h => cases h; exact key _ _ _ (by decide +kernel)
  | 3, h => cases h; exact key _ _ _ (by decide +kernel)
  | 4, h => cases h; exact key _ _ _ (by decide +kernel)
  | 5, h => cases h; exact key _ _ _ (by decide +kernel)
  | 6, h => cases h; exact key _ _ _ (by decide +kernel)
  | 7, h => cases h; exact key _ _ _ (by decide +kernel)
  | 8, h => cases h; exact key _ _ _ (by decide +kernel)
  | 9, h => cases h; exact key _ _ _ (by decide +kernel)
  | 10, h => cases h; exact key _ _ _ (by decide +kernel)
  | 11, h => cases h; exact key _ _ _ (by decide +kernel)
  | 12, h => cases h; exact key _ _ _ (by decide +kernel)
  | n + 13, h => exact absurd h (by simp [vwCl])
end
section
/-! The cells of ours in the machine's heap: cell i at the address bs + i; table k at rom k -/
def jx_ty : Nat → FieldType
  | 0 => .int
  | 1 => .long
  | 2 => .byte
  | 3 => .boolean
  | 4 => .object "RoomTrees$Forest"
  | 5 => .object "RoomTrees$Sheet"
  | 6 => .object "RoomTrees$Step"
  | 7 => .object "RoomTrees$Text"
  | _ => .array .int
abbrev jx_tys (tc : Nat → ClassId) : List (ClassId × FieldType) := [(tc 0, .int), (tc 1, .long), (tc 2, .byte), (tc 3, .boolean), (tc 4, .object "RoomTrees$Forest"), (tc 5, .object "RoomTrees$Sheet"), (tc 6, .object "RoomTrees$Step"), (tc 7, .object "RoomTrees$Text"), (tc 8, .array .int)]
def jx_cv (bs : Nat) (rom : Nat → Nat) : Value → Value
  | .ref a => .ref (bs + a)
  | .retAddr k => .ref (rom k)
  | v => v
abbrev jxD := (Nat → Int32) ⊕ (Nat → Int64) ⊕ (Nat → UInt32) ⊕ (Nat → UInt64) ⊕ (Nat → Option Nat)
def jx_cvD (bs t : Nat) (d : jxD) : jxD := match d with
  | .inl g => .inl (if t = 2 then fun j => (g j).toInt8.toInt32 else g)
  | .inr (.inr (.inr (.inr g))) => .inr (.inr (.inr (.inr (fun j => (g j).map (fun a => bs + a)))))
  | d => d
def jx_cvE (bs : Nat) (rom : Nat → Nat) (tc : Nat → ClassId) (e : jxE) : va_E := match e with
  | .inl (c, fs) => .inr (c, fs.map (jx_cv bs rom))
  | .inr (.inl (t, n, d)) => .inl (tc t, n, jx_cvD bs t d)
  | .inr (.inr _) => .inr (0, [])
def jx_ws (bs : Nat) (rom : Nat → Nat) (tc : Nat → ClassId) (h : jxH) : va_W := (List.range h.1).map (fun i => (bs + i, jx_cvE bs rom tc (h.2.2 i)))
def jx_A (bs : Nat) : Nat → Prop := fun q => bs ≤ q
def jx_Rel (bs : Nat) (rom : Nat → Nat) (D : va_G) (tc : Nat → ClassId) (h : jxH) (H : Heap) : Prop := va_P D vwCl (jx_ws bs rom tc h) H ∧ H.size = bs + h.1 ∧ ∀ i, h.1 ≤ i → h.2.2 i = .inr (.inr ())
def jx_AA (U : State) : Prop := (Cond.arrayOver (.array .int)).before #[] U = true
theorem jx_AA.moved {u U : State} (hvm : u.vm.Alike U.vm) (h : jx_AA u) : jx_AA U := by
  obtain ⟨comp, c, k, h1, h2, h3, h4, h5⟩ := arrayOverA_spec h
  obtain ⟨k', hk', he⟩ := hvm.2.2 _ _ h3
  have hi : (U.vm.classes.findIdx? fun (x : Class) => match x.kind with | .array component _ => component == comp | _ => false) = some c := by
    have e : U.vm.bare = u.vm.bare := by first | exact hvm.bare_eq | exact hvm.bare_eq.symm
    refine (va_idx_bare U.vm comp).symm.trans ?_
    rw [e]
    exact (va_idx_bare u.vm comp).trans h2
  have hkind : k'.kind = .array comp (.array .int) := by rw [he]; exact h4
  have f1 : U.vm.findClass (FieldType.array .int).toString = some comp := by rw [hvm.findClass]; exact h1
  have f2 : U.vm.findClass ("[" ++ (FieldType.array .int).toString) = some c := by rw [hvm.findClass]; exact h5
  unfold jx_AA Cond.before Cond.holds
  simp only [Cond.value]
  rw [f1, Option.bind_some]
  refine (congrArg (fun o : Option Nat => (o.bind (fun c => (U.vm.classes[c]?).map fun (k : Class) => match k.kind with | .array _ ty => decide (ty = FieldType.array .int) && decide (U.vm.findClass ("[" ++ (FieldType.array .int).toString) = some c) | _ => false) == some true)) hi).trans ?_
  simp [hk', hkind, f2]
/-- what stays the same in a whole run -/
def jx_Wd (bs : Nat) (rom : Nat → Nat) (rc : Nat → Nat × (Nat → Int32)) (D : va_G) (tc : Nat → ClassId) (U : State) : Prop :=
  va_K D vwCl (jx_tys tc) U ∧ (∀ w ∈ jx_nest, va_Nw w U) ∧ (va_AO "RoomTrees$Forest" U ∧ va_AO "RoomTrees$Sheet" U ∧ va_AO "RoomTrees$Step" U ∧ va_AO "RoomTrees$Text" U ∧ jx_AA U) ∧ bs ≤ U.heap.size ∧
  (∀ k, rom k < bs ∧ va_T .int (rom k) (rc k).1 (fun j => .int ((rc k).2 j)) (jx_A bs) U U.heap) ∧
  (∀ k, 1 ≤ k → k ≤ 3 → va_Z (jx_st k).1 (jx_st k).2 "[I" (.ref (rom k)) (jx_A bs) U U.heap)
section WLD
variable {bs : Nat} {rom : Nat → Nat} {rc : Nat → Nat × (Nat → Int32)} {D : va_G} {tc : Nat → ClassId} {h : jxH} {H : Heap}
theorem jx_ws_get {i : Nat} (hi : i < h.1) : (jx_ws bs rom tc h)[i]? = some (bs + i, jx_cvE bs rom tc (h.2.2 i)) := by
  unfold jx_ws
  rw [List.getElem?_map, List.getElem?_range hi]
  rfl
theorem jx_ws_len : (jx_ws bs rom tc h).length = h.1 := by simp [jx_ws]
theorem jx_ws_D : va_D (jx_A bs) (jx_ws bs rom tc h) := by
  have key : ∀ (k : Nat) (q : Nat × va_E), (jx_ws bs rom tc h)[k]? = some q → q.1 = bs + k := by
    intro k q hk
    have hl := (List.getElem?_eq_some_iff.mp hk).1
    rw [jx_ws_len] at hl
    rw [jx_ws_get hl] at hk
    cases hk
    rfl
  refine ⟨fun i j p q hi hj e => ?_, fun k q hk => ?_⟩
  · have h1 := key i p hi
    have h2 := key j q hj
    omega
  · rw [key k q hk]
    exact Nat.le_add_right _ _
theorem jx_ws_set {a : Nat} {e : jxE} (ha : a < h.1) : jx_ws bs rom tc (jx_set h a e) = (jx_ws bs rom tc h).set a (bs + a, jx_cvE bs rom tc e) := by
  apply List.ext_getElem?
  intro i
  by_cases hi : i < h.1
  · rw [jx_ws_get (h := jx_set h a e) hi]
    by_cases hia : i = a
    · subst hia
      rw [List.getElem?_set_self (by rw [jx_ws_len]; exact hi)]
      simp [jx_set, va_up]
    · rw [List.getElem?_set_ne (Ne.symm hia), jx_ws_get hi]
      simp [jx_set, va_up, hia]
  · rw [List.getElem?_eq_none (by rw [jx_ws_len]; exact Nat.le_of_not_lt hi), List.getElem?_eq_none (by rw [List.length_set, jx_ws_len]; exact Nat.le_of_not_lt hi)]
theorem jx_ws_new {n : Nat} {e : jxE} : jx_ws bs rom tc (jx_new h n e) = jx_ws bs rom tc h ++ [(bs + h.1, jx_cvE bs rom tc e)] := by
  unfold jx_ws jx_new
  dsimp only
  rw [List.range_succ, List.map_append]
  congr 1
  · apply List.map_congr_left
    intro i hi
    have := List.mem_range.mp hi
    rw [va_up, if_neg (by omega)]
  · simp [va_up]
theorem jx_Rel.lt (hR : jx_Rel bs rom D tc h H) {a : Nat} (ha : jx_at h a ≠ .inr (.inr ())) : a < h.1 := by
  rcases Nat.lt_or_ge a h.1 with q | q
  · exact q
  · exact absurd (hR.2.2 a q) ha
theorem jx_Rel.at (hR : jx_Rel bs rom D tc h H) {a : Nat} {e : jxE} (he : jx_at h a = e) (hn : e ≠ .inr (.inr ())) : (jx_ws bs rom tc h)[a]? = some (bs + a, jx_cvE bs rom tc e) := by
  subst he
  exact jx_ws_get (hR.lt hn)
theorem jx_Rel.set (hR : jx_Rel bs rom D tc h H) {a : Nat} {e : jxE} {H1 : Heap} (ha : a < h.1) (hs : H1.size = H.size) (hP : va_P D vwCl ((jx_ws bs rom tc h).set a (bs + a, jx_cvE bs rom tc e)) H1) : jx_Rel bs rom D tc (jx_set h a e) H1 := by
  refine ⟨by rw [jx_ws_set ha]; exact hP, by rw [hs]; exact hR.2.1, fun i hi => ?_⟩
  show va_up h.2.2 a e i = _
  rw [va_up, if_neg (fun q => by rw [q] at hi; exact absurd ha (Nat.not_lt.mpr hi))]
  exact hR.2.2 i hi
theorem jx_Rel.new (hR : jx_Rel bs rom D tc h H) {n : Nat} {e : jxE} {H1 : Heap} (hs : H1.size = H.size + 1) (hP : va_P D vwCl (jx_ws bs rom tc h ++ [(bs + h.1, jx_cvE bs rom tc e)]) H1) : jx_Rel bs rom D tc (jx_new h n e) H1 := by
  refine ⟨by rw [jx_ws_new]; exact hP, by rw [hs, hR.2.1]; rfl, fun i hi => ?_⟩
  have hi : h.1 + 1 ≤ i := hi
  show va_up h.2.2 h.1 e i = _
  rw [va_up, if_neg (by omega)]
  exact hR.2.2 i (by omega)
theorem jx_out_in {i : Int32} {n : Nat} (h : jx_out i n = false) : vp_in i n := by
  unfold jx_out at h
  rw [Bool.or_eq_false_iff, decide_eq_false_iff_not, decide_eq_false_iff_not] at h
  exact fun q => q.elim h.1 h.2
theorem jx_nest_moved {w : Cond} (hw : w ∈ jx_nest) {s U : State} (hW : s.WarmedH U.vm) (h : va_Nw w s) : va_Nw w U := by
  have hn := (List.mem_filter.mp hw).2
  cases w <;> first | (cases hn; done) | exact va_Nw.warmF hW h | exact va_Nw.warmM hW h
theorem jx_nest_tab {w : Cond} (hw : w ∈ jx_nest) : w.onTables = true := by
  have hn := (List.mem_filter.mp hw).2
  cases w <;> first | (cases hn; done) | rfl
theorem jx_Wd.warm {s U : State} (hW : s.WarmedH U.vm) (hs : s.heap.size ≤ U.heap.size) (hk : ∀ q, q < s.heap.size → ¬ jx_A bs q → U.heap[q]? = s.heap[q]?) (h : jx_Wd bs rom rc D tc s) : jx_Wd bs rom rc D tc U := by
  obtain ⟨h1, h2, ⟨h3, h4, h5, h6, h6a⟩, h7, h8, h9⟩ := h
  refine ⟨h1.moved hW.alike, fun w hw => jx_nest_moved hw hW (h2 w hw), ⟨h3.moved hW.alike, h4.moved hW.alike, h5.moved hW.alike, h6.moved hW.alike, h6a.moved hW.alike⟩, Nat.le_trans h7 hs, fun k => ?_, fun k k1 k3 => ?_⟩
  · obtain ⟨g1, g2⟩ := h8 k
    exact ⟨g1, (g2.moved hW.alike).kept hk⟩
  · exact ((h9 k k1 k3).moved hW.alike).kept hk
theorem jx_Wd.calling {u : State} {g : JFrame} {mk : MethodId} {a : Array Value} (h : jx_Wd bs rom rc D tc u) : jx_Wd bs rom rc D tc (u.calling g mk a) := by
  obtain ⟨h1, h2, ⟨h3, h4, h5, h6, h6a⟩, h7, h8, h9⟩ := h
  have hv : u.vm.Alike (u.calling g mk a).vm := Vm.Alike.refl u.vm
  refine ⟨va_K.moved (u := u) (U := u.calling g mk a) hv h1, fun w hw => va_Nw.same (u := u) (U := u.calling g mk a) (jx_nest_tab hw) rfl (h2 w hw), ⟨va_AO.moved (u := u) (U := u.calling g mk a) hv h3, va_AO.moved (u := u) (U := u.calling g mk a) hv h4, va_AO.moved (u := u) (U := u.calling g mk a) hv h5, va_AO.moved (u := u) (U := u.calling g mk a) hv h6, jx_AA.moved (u := u) (U := u.calling g mk a) hv h6a⟩, h7, fun k => ⟨(h8 k).1, va_T.moved (u := u) (U := u.calling g mk a) hv (h8 k).2⟩, fun k k1 k3 => va_Z.moved (u := u) (U := u.calling g mk a) hv (h9 k k1 k3)⟩
theorem jx_ld_in : ∀ {l : List (Nat × Value)} {i : Nat} {v : Value}, jx_ld l i = some v → (i, v) ∈ l
  | [], _, _, h => by cases h
  | q :: t, i, v, h => by
    unfold jx_ld at h
    by_cases e : q.1 = i
    · rw [if_pos e] at h
      cases h
      subst e
      exact List.mem_cons_self
    · rw [if_neg e] at h
      exact List.mem_cons_of_mem _ (jx_ld_in h)
theorem jx_pick_in {l : List (Nat × Value)} : ∀ {L : List Nat} {q : Nat × Value}, q ∈ jx_pick l L → q ∈ l
  | [], _, h => by cases h
  | i :: t, q, h => by
    unfold jx_pick at h
    split at h
    · rename_i v hv
      rcases List.mem_cons.mp h with h | h
      · rw [h]; exact jx_ld_in hv
      · exact jx_pick_in h
    · exact jx_pick_in h
abbrev jx_cvL (bs : Nat) (rom : Nat → Nat) (l : List (Nat × Value)) : List (Nat × Value) := l.map (fun q => (q.1, jx_cv bs rom q.2))
theorem jx_cv_cat (v : Value) : (jx_cv bs rom v).category = v.category := by cases v <;> rfl
theorem jx_has_ld {ls : Array Slot} {nL : Nat} {l : List (Nat × Value)} (hl : lv_has ls nL (jx_cvL bs rom l)) {i : Nat} {v : Value} (h : jx_ld l i = some v) : ls[i]? = some (.val (jx_cv bs rom v)) :=
  hl.2.2 (i, jx_cv bs rom v) (List.mem_map.mpr ⟨(i, v), jx_ld_in h, rfl⟩)
theorem jx_has_pick {ls : Array Slot} {nL : Nat} {l : List (Nat × Value)} (hl : lv_has ls nL (jx_cvL bs rom l)) (L : List Nat) : lv_has ls nL (jx_cvL bs rom (jx_pick l L)) :=
  ⟨hl.1, hl.2.1, fun q hq => by
    obtain ⟨q0, h0, rfl⟩ := List.mem_map.mp hq
    exact hl.2.2 _ (List.mem_map.mpr ⟨q0, jx_pick_in h0, rfl⟩)⟩
theorem jx_cv_st1 (l : List (Nat × Value)) (i : Nat) (v : Value) : (i, jx_cv bs rom v) :: (jx_cvL bs rom l).filter (fun q => !(q.1 == i) && !(q.1 + 1 == i && q.2.category == 2)) = jx_cvL bs rom (jx_st1 l i v) := by
  unfold jx_st1 jx_cvL
  rw [List.map_cons, List.filter_map]
  congr 2
  apply List.filter_congr
  intro q _
  simp [jx_cv_cat]
theorem jx_cv_st2 (l : List (Nat × Value)) (i : Nat) (v : Value) : (i, jx_cv bs rom v) :: (jx_cvL bs rom l).filter (fun q => !(q.1 == i) && (!(q.1 == i + 1) && !(q.1 + 1 == i && q.2.category == 2))) = jx_cvL bs rom (jx_st2 l i v) := by
  unfold jx_st2 jx_cvL
  rw [List.map_cons, List.filter_map]
  congr 2
  apply List.filter_congr
  intro q _
  simp [jx_cv_cat]
end WLD
end
section
/-! What the small machine computes, the machine does -/
def jx_M (bs : Nat) (rom : Nat → Nat) (D : va_G) (tc : Nat → ClassId) (s : State) (n0 sl0 : Nat) (h : jxH) (H : Heap) (locs : List Loc) (cells slots : Nat) : Prop :=
  jx_Rel bs rom D tc h H ∧ va_S (jx_A bs) s.heap H locs ∧ h.1 = n0 + cells ∧ h.2.1 = sl0 + slots ∧ s.heap.size = bs + n0
def jx_Pc (bs : Nat) (rom : Nat → Nat) (rc : Nat → Nat × (Nat → Int32)) (D : va_G) (tc : Nat → ClassId) (as : List Value) (h : jxH) : Array Value → State → Prop :=
  va_Pc (as.map (jx_cv bs rom)) (fun U => U.heap.size = bs + h.1 ∧ jx_Rel bs rom D tc h U.heap ∧ jx_Wd bs rom rc D tc U)
def jx_Qc (bs : Nat) (rom : Nat → Nat) (D : va_G) (tc : Nat → ClassId) (v : Option Value) (h' : jxH) : Array Value → State → Outcome → State → Prop :=
  fun _ st o t => o = .returned (v.map (jx_cv bs rom)) ∧ jx_Rel bs rom D tc h' t.heap ∧ va_F (jx_A bs) st t
def jx_rm (d mc ms : Nat) : Room := { frames := d, cells := mc, slots := ms, locals := 60 * d }
def jx_Mets (l : Launch) (bs : Nat) (rom : Nat → Nat) (rc : Nat → Nat × (Nat → Int32)) (D : va_G) (tc : Nat → ClassId) (c0 : Nat → List Value → jxH → jxR) (d : Nat) : Prop :=
  ∀ k as h v h', c0 k as h = some (v, h') → ∃ q, jx_mi[k]? = some q ∧ (∀ ci, jx_mio q = some ci → ∃ b t, as = .ref b :: t ∧ jx_is (jx_at h b) ci = true) ∧
    Met l (jx_miy q) (jx_wsm q) (jx_rm d (h'.1 - h.1) (h'.2.1 - h.2.1)) (jx_Pc bs rom rc D tc as h) (jx_Qc bs rom D tc v h') (h'.1 - h.1) (h'.2.1 - h.2.1) (jx_A bs)
section SIM
variable {p : Program} {l : Launch} {e : Env} {R : Room} {s : State} {m : MethodId} {args : Array Value} {below : List Frame} {meth : Method} {c : Code} {Q : State → Prop}
variable {bs : Nat} {rom : Nat → Nat} {rc : Nat → Nat × (Nat → Int32)} {D : va_G} {tc : Nat → ClassId} {n0 sl0 : Nat} {h : jxH} {H : Heap} {locs : List Loc} {cells slots : Nat}
theorem jx_Wsize {g : JFrame} (hz : H.size ≤ s.heap.size + cells → W p l e R s m args below meth c H locs cells slots Q g) : W p l e R s m args below meth c H locs cells slots Q g :=
  fun T hT X => hz (by rw [← hT]; exact X.heapSize) T hT X
theorem jx_S0 (hM : jx_M bs rom D tc s n0 sl0 h H locs cells slots) : va_S (jx_A bs) H H locs := ⟨Nat.le_refl _, fun _ _ _ => rfl, hM.2.1.2.2⟩
theorem jx_A0 (hM : jx_M bs rom D tc s n0 sl0 h H locs cells slots) : ∀ q, H.size ≤ q → jx_A bs q := fun q hq => by
  have := hM.1.2.1
  show bs ≤ q
  omega
theorem jx_fin_set {a : Nat} {en : jxE} {g : JFrame} (hM : jx_M bs rom D tc s n0 sl0 h H locs cells slots) (ha : a < h.1)
    (kk : ∀ (H1 : Heap) (locs1 : List Loc), jx_M bs rom D tc s n0 sl0 (jx_set h a en) H1 locs1 cells slots → W p l e R s m args below meth c H1 locs1 cells slots Q g) :
    ∀ (H1 : Heap) (locs1 : List Loc), va_P D vwCl ((jx_ws bs rom tc h).set a (bs + a, jx_cvE bs rom tc en)) H1 → va_D (jx_A bs) ((jx_ws bs rom tc h).set a (bs + a, jx_cvE bs rom tc en)) → va_S (jx_A bs) H H1 locs1 → W p l e R s m args below meth c H1 locs1 cells slots Q g := by
  intro H1 locs1 hP hD hS1
  refine jx_Wsize fun hz => ?_
  obtain ⟨hR, hS, h1, h2, h3⟩ := hM
  have e1 : H1.size = H.size := by
    have := hS1.1
    have := hR.2.1
    omega
  exact kk H1 locs1 ⟨hR.set ha e1 hP, ⟨by rw [e1]; exact hS.1, fun q q1 q2 => (hS1.2.1 q (Nat.lt_of_lt_of_le q1 hS.1) q2).trans (hS.2.1 q q1 q2), hS1.2.2⟩, h1, h2, h3⟩
theorem jx_fin_new {n : Nat} {en : jxE} {g : Nat → JFrame} (hM : jx_M bs rom D tc s n0 sl0 h H locs cells slots)
    (kk : ∀ H1 : Heap, jx_M bs rom D tc s n0 sl0 (jx_new h n en) H1 locs (cells + 1) (slots + n) → W p l e R s m args below meth c H1 locs (cells + 1) (slots + n) Q (g (bs + h.1))) :
    ∀ (q : Nat) (H1 : Heap), va_P D vwCl (jx_ws bs rom tc h ++ [(q, jx_cvE bs rom tc en)]) H1 → va_D (jx_A bs) (jx_ws bs rom tc h ++ [(q, jx_cvE bs rom tc en)]) → va_S (jx_A bs) H H1 locs → W p l e R s m args below meth c H1 locs (cells + 1) (slots + n) Q (g q) := by
  intro q H1 hP hD hS1
  refine jx_Wsize fun hz => ?_
  obtain ⟨hR, hS, h1, h2, h3⟩ := hM
  have hs := hR.2.1
  have hl : (jx_ws bs rom tc h ++ [(q, jx_cvE bs rom tc en)])[h.1]? = some (q, jx_cvE bs rom tc en) := by
    rw [List.getElem?_append_right (by rw [jx_ws_len]; exact Nat.le_refl _), jx_ws_len]
    simp
  have hlt : q < H1.size := (hP _ _ hl).lt
  have hge : bs ≤ q := hD.2 _ _ hl
  have hne : ∀ i, i < h.1 → q ≠ bs + i := by
    intro i hi hq
    have hg : (jx_ws bs rom tc h ++ [(q, jx_cvE bs rom tc en)])[i]? = some (bs + i, jx_cvE bs rom tc (h.2.2 i)) := by
      rw [List.getElem?_append_left (by rw [jx_ws_len]; exact hi)]
      exact jx_ws_get hi
    have := hD.1 i h.1 _ _ hg hl hq.symm
    omega
  have hq : q = bs + h.1 := by
    rcases Nat.lt_or_ge q (bs + h.1) with z | z
    · exact absurd (by omega : q = bs + (q - bs)) (hne (q - bs) (by omega))
    · omega
  subst hq
  have e1 : H1.size = H.size + 1 := by omega
  exact kk H1 ⟨hR.new e1 hP, ⟨by have := hS.1; omega, fun q q1 q2 => (hS1.2.1 q (Nat.lt_of_lt_of_le q1 hS.1) q2).trans (hS.2.1 q q1 q2), hS1.2.2⟩, by show h.1 + 1 = _; omega, by show h.2.1 + n = _; omega, h3⟩
theorem jx_blind {as : List Value} : FrameBlind (jx_Pc bs rom rc D tc as h) := fun _ _ _ _ hq => ⟨hq.1, hq.2.1, hq.2.2.1, hq.2.2.2.calling⟩
theorem jx_pre (hM : jx_M bs rom D tc s n0 sl0 h H locs cells slots) (hWd : jx_Wd bs rom rc D tc s) (as : List Value) : ∀ U : State, U.heap = H → s.WarmedH U.vm → jx_Pc bs rom rc D tc as h (as.map (jx_cv bs rom)).toArray U := by
  intro U hU hW
  obtain ⟨hR, hS, h1, h2, h3⟩ := hM
  exact ⟨rfl, by rw [hU]; exact hR.2.1, by rw [hU]; exact hR, hWd.warm hW (by rw [hU]; exact hS.1) (fun q q1 q2 => by rw [hU]; exact hS.2.1 q q1 q2)⟩
theorem jx_cont {v : Option Value} {h' : jxH} {pc : Nat} {ls : Array Slot} {st0 rest : List Value} {a : Array Value} (hM : jx_M bs rom D tc s n0 sl0 h H locs cells slots) (hle : jx_le h h')
    (hr : va_Run p l e R s m args below meth c H locs cells slots (h'.1 - h.1) (h'.2.1 - h.2.1) (F0 m pc ls st0) (rest.map (jx_cv bs rom)) (jx_Qc bs rom D tc v h' a) (jx_A bs))
    (kk : ∀ (H1 : Heap) (locs1 : List Loc) (cells1 slots1 : Nat), jx_M bs rom D tc s n0 sl0 h' H1 locs1 cells1 slots1 → W p l e R s m args below meth c H1 locs1 cells1 slots1 Q (F0 m (pc + 3) ls ((v.toList ++ rest).map (jx_cv bs rom)))) :
    W p l e R s m args below meth c H locs cells slots Q (F0 m pc ls st0) := by
  intro T hT X
  obtain ⟨v', st₀, t, T', L, g0, X', hL, e1, e2, ⟨hv, hRt, hz, hk⟩, st⟩ := hr T hT X
  obtain ⟨hR, hS, h1, h2, h3⟩ := hM
  cases hv
  rw [g0] at hz hk
  have hst : (v.map (jx_cv bs rom)).toList ++ rest.map (jx_cv bs rom) = (v.toList ++ rest).map (jx_cv bs rom) := by cases v <;> rfl
  rw [hst] at st
  have b1 := hle.1
  have b2 := hle.2
  obtain ⟨t2, a1, b3⟩ := kk T'.heap (locs ++ L) (cells + (h'.1 - h.1)) (slots + (h'.2.1 - h.2.1)) ⟨by rw [e1]; exact hRt, ⟨by rw [e1]; exact Nat.le_trans hS.1 hz, fun q q1 q2 => by rw [e1, hk q (Nat.lt_of_lt_of_le q1 hS.1) q2]; exact hS.2.1 q q1 q2, fun q hq => by
      rcases List.mem_append.mp hq with z | z
      · exact hS.2.2 q z
      · exact hL q z⟩, by omega, by omega, h3⟩ T' rfl X'
  exact ⟨t2, st t2 a1, b3⟩
theorem jx_short_sum {rest : List Value} (hs : jx_short rest = true) : ((rest.map (jx_cv bs rom)).map fun v => v.category).sum ≤ 8 := by
  have hc : ∀ v : Value, (jx_cv bs rom v).category ≤ 2 := fun v => by rw [jx_cv_cat]; rcases lv_cat v with z | z <;> omega
  rcases rest with _ | ⟨a, _ | ⟨b, _ | ⟨d, _ | ⟨f, _ | ⟨g, t⟩⟩⟩⟩⟩
  · simp
  · have := hc a; simp; omega
  · have := hc a; have := hc b; simp; omega
  · have := hc a; have := hc b; have := hc d; simp; omega
  · have := hc a; have := hc b; have := hc d; have := hc f; simp; omega
  · cases hs
variable {cc : ByteArray} {nL own : Nat} {c0 : Nat → List Value → jxH → jxR} {d : Nat}
/-- a call of one of our methods -/
theorem jx_do_call (hx : p.tables.exec = Jvm.exec) (hb : c.code = cc) (hml : c.maxLocals = nL) (hown : s.vm.findClass (jx_c own) = some m.cls) (hts : ∀ w ∈ jx_big, w.before args s = true) (hWd : jx_Wd bs rom rc D tc s)
    (hd : d + 1 ≤ R.frames) (hdl : 60 * (d + 1) ≤ R.locals) (hMet : jx_Mets l bs rom rc D tc c0 d) (hM : jx_M bs rom D tc s n0 sl0 h H locs cells slots)
    {k ix y pc : Nat} {as rest : List Value} {v : Option Value} {h' : jxH} {ls : Array Slot} {ins : Instr} (hls : ls.size = nL) (hcall : c0 k as h = some (v, h')) (hle : jx_le h h') (hroom : h'.1 ≤ n0 + R.cells ∧ h'.2.1 ≤ sl0 + R.slots) (hlink : jx_hm own ix k = true)
    (hsh : jx_short rest = true) (hdg : decode cc pc = .ok (ins, 3)) (has : as.length = y)
    (hmode : (ins = .invokestatic ix ∧ ∀ q, jx_mi[k]? = some q → y = jx_min q ∧ jx_mio q = none) ∨ (ins = .invokevirtual ix ∧ ∀ q, jx_mi[k]? = some q → y = jx_min q + 1 ∧ jx_mio q ≠ none ∧ (jx_miy q).name ≠ "<init>") ∨ (ins = .invokespecial ix ∧ ∀ q, jx_mi[k]? = some q → y = jx_min q + 1 ∧ jx_mio q ≠ none ∧ (jx_miy q).name = "<init>"))
    (kk : ∀ (H1 : Heap) (locs1 : List Loc) (cells1 slots1 : Nat), jx_M bs rom D tc s n0 sl0 h' H1 locs1 cells1 slots1 → W p l e R s m args below meth c H1 locs1 cells1 slots1 Q (F0 m (pc + 3) ls ((v.toList ++ rest).map (jx_cv bs rom)))) :
    W p l e R s m args below meth c H locs cells slots Q (F0 m pc ls ((as.reverse ++ rest).map (jx_cv bs rom))) := by
  obtain ⟨q, hq, hobj, hMt⟩ := hMet k as h v h' hcall
  have hqi : q ∈ jx_mi := List.mem_of_getElem? hq
  obtain ⟨hini, ⟨hst, hin⟩, hdd, hpl, h41, hcw⟩ := jx_mi_spec hqi
  obtain ⟨hR, hS, e1, e2, e3⟩ := id hM
  have b1 := hle.1
  have b2 := hle.2
  have hf : cells + (h'.1 - h.1) ≤ R.cells ∧ slots + (h'.2.1 - h.2.1) ≤ R.slots := by omega
  have hRm : (jx_rm d (h'.1 - h.1) (h'.2.1 - h.2.1)).frames + 1 ≤ R.frames ∧ 8 + (jx_mil q + 11) + (jx_rm d (h'.1 - h.1) (h'.2.1 - h.2.1)).locals ≤ R.locals := by
    refine ⟨hd, ?_⟩
    show 8 + (jx_mil q + 11) + 60 * d ≤ R.locals
    omega
  have hfix : CallFix p m c cc nL s args jx_big (jx_c own) := ⟨hx, hb, hml, hown, hts⟩
  refine jx_cont (a := (as.map (jx_cv bs rom)).toArray) hM hle ?_ kk
  rcases hmode with ⟨rfl, hm⟩ | ⟨rfl, hm⟩ | ⟨rfl, hm⟩
  · obtain ⟨m1, m2⟩ := hm q hq
    have hlen : (as.map (jx_cv bs rom)).length = jx_min q := by rw [List.length_map, has, m1]
    rcases jx_hm_spec hlink hq with hl | hl
    · exact va_runS (As := as.map (jx_cv bs rom)) hfix hMt ⟨callB_of (jx_min q) hts (jx_wsm_good hqi) rfl rfl rfl (hts _ hini) (hts _ hl) hdd hRm, hts _ (hst m2)⟩ ⟨jx_blind, jx_pre hM hWd as⟩ rfl hlen hls (by simp) (lv_room (jx_short_sum hsh)) hdg hf
    · exact va_runSN (As := as.map (jx_cv bs rom)) hfix hMt ⟨va_cnB (jx_min q) hts (jx_wsm_good hqi) rfl rfl rfl (hWd.2.1 _ hl) (hts _ hini) hdd hRm, hts _ (hst m2), trivial⟩ ⟨jx_blind, jx_pre hM hWd as⟩ rfl hlen hls (by simp) (lv_room (jx_short_sum hsh)) hdg hf
  · obtain ⟨m1, m2, m3⟩ := hm q hq
    obtain ⟨ci, hci⟩ : ∃ ci, jx_mio q = some ci := by
      cases z : jx_mio q with
      | none => exact absurd z m2
      | some ci => exact ⟨ci, rfl⟩
    obtain ⟨b, as', rfl, hbi⟩ := hobj ci hci
    obtain ⟨g1, ⟨r, hr1, hr2⟩, g3⟩ := hin ci hci
    have g3 := g3.resolve_left (fun z => m3 z.1)
    have hlen : (as'.map (jx_cv bs rom)).length = jx_min q := by
      rw [List.length_map]
      simp only [List.length_cons] at has
      omega
    have hrecv : ∃ cellB : Cell, H[bs + b]? = some cellB ∧ cellB.vm.isStatics = false ∧ s.vm.findClass (jx_miy q).cls = some cellB.cls := by
      unfold jx_is at hbi
      split at hbi
      · rename_i c' fs hat
        have hc' : c' = ci := by simpa using hbi
        subst hc'
        have := va_recv hWd.1 hR.1 (ci := c') (q0 := b) hr1 (hR.at hat (by simp))
        rw [hr2] at this
        exact this
      · cases hbi
    have hstk : (((Value.ref b :: as').reverse ++ rest).map (jx_cv bs rom)) = (as'.map (jx_cv bs rom)).reverse ++ Value.ref (bs + b) :: rest.map (jx_cv bs rom) := by
      simp [jx_cv]
    rcases jx_hm_spec hlink hq with hl | hl
    · exact va_runV (As := as'.map (jx_cv bs rom)) (C := (jx_miy q).cls) (b := bs + b) hfix hMt ⟨callB_of (jx_min q) hts (jx_wsm_good hqi) rfl rfl rfl (hts _ hini) (hts _ hl) hdd hRm, hts _ g1, hts _ g3.1⟩ ⟨jx_blind, hrecv, jx_pre hM hWd (.ref b :: as')⟩ rfl hlen hls hstk (lv_room (jx_short_sum hsh)) hdg hf
    · exact va_runVN (As := as'.map (jx_cv bs rom)) (C := (jx_miy q).cls) (b := bs + b) hfix hMt ⟨va_cnB (jx_min q) hts (jx_wsm_good hqi) rfl rfl rfl (hWd.2.1 _ hl) (hts _ hini) hdd hRm, hts _ g1, hts _ g3.1⟩ ⟨jx_blind, hrecv, jx_pre hM hWd (.ref b :: as')⟩ rfl hlen hls hstk (lv_room (jx_short_sum hsh)) hdg hf
  · obtain ⟨m1, m2, m3⟩ := hm q hq
    obtain ⟨ci, hci⟩ : ∃ ci, jx_mio q = some ci := by
      cases z : jx_mio q with
      | none => exact absurd z m2
      | some ci => exact ⟨ci, rfl⟩
    obtain ⟨b, as', rfl, hbi⟩ := hobj ci hci
    obtain ⟨g1, -, g3⟩ := hin ci hci
    have hret : jx_mir q = none := by
      rcases g3 with z | z
      · exact z.2
      · exact absurd m3 z.2
    have hlen : (as'.map (jx_cv bs rom)).length = jx_min q := by
      rw [List.length_map]
      simp only [List.length_cons] at has
      omega
    have hstk : (((Value.ref b :: as').reverse ++ rest).map (jx_cv bs rom)) = (as'.map (jx_cv bs rom)).reverse ++ Value.ref (bs + b) :: rest.map (jx_cv bs rom) := by
      simp [jx_cv]
    have hG := jx_wsm_good hqi
    have hw : jx_wsm q = Cond.code (jx_miy q) (jx_mib q) (jx_mil q) none :: jx_big := by
      unfold jx_wsm
      rw [hret]
    rcases jx_hm_spec hlink hq with hl | hl
    · exact va_runI (As := as'.map (jx_cv bs rom)) (b := bs + b) hfix hMt ⟨callB_of (jx_min q) hts hG hw rfl rfl (hts _ hini) (hts _ hl) hdd hRm, m3, hts _ g1⟩ ⟨jx_blind, jx_pre hM hWd (.ref b :: as')⟩ rfl hlen hls hstk (lv_room (jx_short_sum hsh)) hdg hf
    · exact va_runIN (As := as'.map (jx_cv bs rom)) (b := bs + b) hfix hMt ⟨va_cnB (jx_min q) hts hG hw rfl rfl (hWd.2.1 _ hl) (hts _ hini) hdd hRm, m3, hts _ g1⟩ ⟨jx_blind, jx_pre hM hWd (.ref b :: as')⟩ rfl hlen hls hstk (lv_room (jx_short_sum hsh)) hdg hf
end SIM
end
section
/-! new int[n][k]: the outer array, then its rows, one behind the other -/
theorem jx_outer (c : ClassId) (N h0 : Nat) : ∀ i : Nat, Jvm.Free.Multi.outerC c N h0 i = arrV c N (fun j => va_rf (if j < i then some (h0 + 1 + j) else none))
  | 0 => by
    show ({ cls := c, slots := Array.replicate N .null, vm := .none } : Cell) = _
    rw [arrV_new]
    refine congrArg (arrV c N) (funext fun j => ?_)
    rw [if_neg (Nat.not_lt_zero j)]
    rfl
  | i + 1 => by
    show (Jvm.Free.Multi.outerC c N h0 i).setSlot i (.ref (h0 + 1 + i)) = _
    rw [jx_outer c N h0 i, arrV_store]
    refine congrArg (arrV c N) (funext fun j => ?_)
    unfold updV
    by_cases e : j = i
    · subst e
      rw [if_pos rfl, if_pos (Nat.lt_succ_self j)]
      rfl
    · rw [if_neg e]
      show va_rf (if j < i then some (h0 + 1 + j) else none) = _
      by_cases h : j < i
      · rw [if_pos h, if_pos (Nat.lt_succ_of_lt h)]
      · rw [if_neg h, if_neg (by omega)]
section MNA
variable {p : Program} {l : Launch} {e : Env} {R : Room} {s : State} {m : MethodId} {args : Array Value} {below : List Frame} {meth : Method} {c : Code} {Q : State → Prop}
variable {bs : Nat} {rom : Nat → Nat} {rc : Nat → Nat × (Nat → Int32)} {D : va_G} {tc : Nat → ClassId} {n0 sl0 : Nat} {h : jxH} {H : Heap} {locs : List Loc} {cells slots : Nat}
theorem jx_mna {cc : ByteArray} {own ix pc n k : Nat} {ls : Array Slot} {rest : List Value} (hx : p.tables.exec = Jvm.exec) (hb : c.code = cc) (hown : s.vm.findClass (jx_c own) = some m.cls) (hcl : (Cond.classLink (jx_c own) ix ("[" ++ (FieldType.array .int).toString)).before args s = true) (harr : (Cond.arrayClass .int).before args s = true)
    (hWd : jx_Wd bs rom rc D tc s) (hM : jx_M bs rom D tc s n0 sl0 h H locs cells slots) (hn : n ≤ 5000) (hk : k ≤ 5000) (hc : cells + (1 + n) ≤ R.cells) (hs : slots + (n + n * k) ≤ R.slots) (hdg : decode cc pc = .ok (.multianewarray ix 2, 4))
    (kk : ∀ H1 : Heap, jx_M bs rom D tc s n0 sl0 (jx_inner h n k) H1 locs (cells + 1 + n) (slots + n + n * k) → W p l e R s m args below meth c H1 locs (cells + 1 + n) (slots + n + n * k) Q (F0 m (pc + 4) ls (.ref (bs + h.1) :: rest))) :
    W p l e R s m args below meth c H locs cells slots Q (F0 m pc ls (.int (nI k) :: .int (nI n) :: rest)) := by
  intro T hT Xs
  have en : (nI n).toNatClampNeg = n := nI_clamp (by omega)
  have ek : (nI k).toNatClampNeg = k := nI_clamp (by omega)
  have n1 : ¬ nI n < 0 := nI_pos (by omega)
  have k1 : ¬ nI k < 0 := nI_pos (by omega)
  obtain ⟨vm₁, cA, comp, -, fA, fC, -, -, X', step⟩ := Xs.multianewarray2F hx hown hcl (ty := .int) hWd.2.2.1.2.2.2.2 harr (g := F0 m pc ls (.int (nI k) :: .int (nI n) :: rest)) rfl (by rw [hb]; exact hdg) rfl n1 k1 (by rw [en]; omega) (by rw [ek]; show k * 4 ≤ _; omega) (by rw [ek]; omega) rfl rfl (by rw [en]; exact hc) (by rw [en, ek]; exact hs)
  rw [en, ek] at X' step
  have eA : s.vm.findClass ("[" ++ (FieldType.array .int).toString) = some (tc 8) := (hWd.1.2 8 _ rfl).2
  have eC : s.vm.findClass ("[" ++ FieldType.int.toString) = some (tc 0) := (hWd.1.2 0 _ rfl).2
  have eC : s.vm.findClass (FieldType.array .int).toString = some (tc 0) := eC
  have q1 : cA = tc 8 := Option.some.inj (fA.symm.trans eA)
  have q2 : comp = tc 0 := Option.some.inj (fC.symm.trans eC)
  subst q1
  subst q2
  obtain ⟨hR, hS, h1, h2, h3⟩ := hM
  have hTh : (T.setVm vm₁).heap = H := hT
  have hsz : H.size = bs + h.1 := hR.2.1
  obtain ⟨f1, f2, -, -⟩ := Jvm.Free.Multi.fill_facts (T.setVm vm₁) (tc 8) (tc 0) n k (defaultValue .int) n
  have hold : ∀ x : Nat, x < H.size → (Jvm.Free.Multi.fill (T.setVm vm₁) (tc 8) (tc 0) n k (defaultValue .int) n).heap[x]? = H[x]? := fun x hx => by
    have := Jvm.Free.Multi.fill_old (T.setVm vm₁) (tc 8) (tc 0) n k (defaultValue .int) (a := x) (by rw [hTh]; exact hx) n
    rw [hTh] at this
    exact this
  have hrow : ∀ j : Nat, j < n → (Jvm.Free.Multi.fill (T.setVm vm₁) (tc 8) (tc 0) n k (defaultValue .int) n).heap[H.size + 1 + j]? = some (Jvm.Free.Multi.innerC (tc 0) k (defaultValue .int)) := fun j hj => by
    have := Jvm.Free.Multi.fill_inner (T.setVm vm₁) (tc 8) (tc 0) n k (defaultValue .int) n j hj
    rw [hTh] at this
    exact this
  rw [hTh] at f1 f2
  generalize Jvm.Free.Multi.fill (T.setVm vm₁) (tc 8) (tc 0) n k (defaultValue .int) n = F at X' step f1 f2 hold hrow
  have hM1 : jx_M bs rom D tc s n0 sl0 (jx_inner h n k) F.heap locs (cells + 1 + n) (slots + n + n * k) := by
    refine ⟨⟨fun i q hq => ?_, by rw [f1, hsz]; show _ = bs + (h.1 + 1 + n); omega, fun i hi => ?_⟩, ⟨by rw [f1]; have := hS.1; omega, fun x x1 x2 => (hold x (Nat.lt_of_lt_of_le x1 hS.1)).trans (hS.2.1 x x1 x2), hS.2.2⟩, by show h.1 + 1 + n = _; omega, by show h.2.1 + n + n * k = _; omega, h3⟩
    · have hi : i < h.1 + 1 + n := by
        have := (List.getElem?_eq_some_iff.mp hq).1
        rw [jx_ws_len] at this
        exact this
      rw [jx_ws_get (h := jx_inner h n k) hi] at hq
      cases hq
      by_cases c1 : i < h.1
      · have he : (jx_inner h n k).2.2 i = h.2.2 i := by
          show (if i = h.1 then _ else if h.1 < i ∧ i ≤ h.1 + n then _ else h.2.2 i) = _
          rw [if_neg (by omega), if_neg (by omega)]
        rw [he]
        have h0 := hR.1 i _ (jx_ws_get c1)
        exact h0.kept (hold _ (by show bs + i < _; omega))
      · by_cases c2 : i = h.1
        · subst c2
          have he : (jx_inner h n k).2.2 h.1 = jxQ 8 n (fun i => if i < n then some (h.1 + 1 + i) else none) := if_pos rfl
          rw [he]
          show F.heap[bs + h.1]? = some (vp_cell (tc 8) (n, .inr (.inr (.inr (.inr (fun j => (if j < n then some (h.1 + 1 + j) else none).map (fun a => bs + a)))))))
          rw [← hsz, f2, jx_outer, vp_cell_q]
          refine congrArg (fun g => some (arrV (tc 8) n g)) (funext fun j => ?_)
          by_cases hj : j < n
          · rw [if_pos hj, if_pos hj]
            show va_rf (some (H.size + 1 + j)) = va_rf (some (bs + (h.1 + 1 + j)))
            rw [hsz]
            congr 2
            omega
          · rw [if_neg hj, if_neg hj]
            rfl
        · have he : (jx_inner h n k).2.2 i = jxI 0 k (fun _ => 0) := by
            show (if i = h.1 then _ else if h.1 < i ∧ i ≤ h.1 + n then _ else h.2.2 i) = _
            rw [if_neg c2, if_pos (by omega)]
          rw [he]
          show F.heap[bs + i]? = some (vp_cell (tc 0) (k, .inl (fun _ => 0)))
          have := hrow (i - h.1 - 1) (by omega)
          rw [show H.size + 1 + (i - h.1 - 1) = bs + i by omega] at this
          rw [this, vp_cell_i]
          exact congrArg some (arrV_new (tc 0) k (.int 0))
    · have hi : h.1 + 1 + n ≤ i := hi
      show (if i = h.1 then _ else if h.1 < i ∧ i ≤ h.1 + n then _ else h.2.2 i) = _
      rw [if_neg (by omega), if_neg (by omega)]
      exact hR.2.2 i (by omega)
  obtain ⟨t, a1, b1⟩ := kk F.heap hM1 F rfl X'
  refine ⟨t, step t ?_, b1⟩
  have e1 : T.heap.size = bs + h.1 := by rw [← hsz, hT]
  rw [e1]
  exact a1
end MNA
end
section
/-! One instruction after the other: from the small machine's state to the machine's -/
section SIM2
variable {p : Program} {l : Launch} {e : Env} {R : Room} {s : State} {m : MethodId} {args : Array Value} {below : List Frame} {meth : Method} {c : Code} {Q : State → Prop}
variable {bs : Nat} {rom : Nat → Nat} {rc : Nat → Nat × (Nat → Int32)} {D : va_G} {tc : Nat → ClassId} {n0 sl0 : Nat}
variable {cc : ByteArray} {nL own : Nat} {ini : Bool} {rk : Option FieldType} {code : List jxRow} {c0 : Nat → List Value → jxH → jxR} {d : Nat} {res : Option Value × jxH}
/-- what the machine does from a frame on, where the small one stands at s' -/
def jx_On (p : Program) (l : Launch) (e : Env) (R : Room) (s : State) (m : MethodId) (args : Array Value) (below : List Frame) (meth : Method) (c : Code) (Q : State → Prop) (bs : Nat) (rom : Nat → Nat) (D : va_G) (tc : Nat → ClassId) (n0 sl0 nL : Nat) (code : List jxRow) (s' : jxS) : Prop :=
  ∀ (pc' : Nat), (∃ r', code[s'.1]? = some r' ∧ r'.pc = pc') → ∀ (H : Heap) (locs : List Loc) (cells slots : Nat) (ls' : Array Slot), jx_M bs rom D tc s n0 sl0 s'.2.2.2 H locs cells slots → lv_has ls' nL (jx_cvL bs rom s'.2.1) →
    W p l e R s m args below meth c H locs cells slots Q (F0 m pc' ls' (s'.2.2.1.map (jx_cv bs rom)))
/-- how a method's end is: which instruction, what answer -/
def jx_end (cc : ByteArray) (rk : Option FieldType) (pc : Nat) (v : Option Value) : Prop :=
  (∃ x, v = some (.int x) ∧ decode cc pc = .ok (.ireturn, 1) ∧ (rk = some .int ∨ (rk = some .boolean ∧ jx_bool x = true))) ∨ (∃ x, v = some (.long x) ∧ decode cc pc = .ok (.lreturn, 1) ∧ rk = some .long) ∨
  (∃ x : Option Nat, v = some (va_rf x) ∧ decode cc pc = .ok (.areturn, 1) ∧ ∃ n, rk = some (.object n)) ∨ (v = none ∧ decode cc pc = .ok (.return_, 1) ∧ rk = none)
theorem jx_sw_find {x : Int32} {d : Nat} {K : Nat → jxR} {res} : ∀ (ts : List Nat) (lo : Int32), jx_sw x lo d K ts = some res → (∃ j t, ts[j]? = some t ∧ x = lo + nI j ∧ K t = some res) ∨ ((∀ j, j < ts.length → x ≠ lo + nI j) ∧ K d = some res)
  | [], _, h => Or.inr ⟨fun j hj => absurd hj (Nat.not_lt_zero _), h⟩
  | t :: ts, lo, h => by
    unfold jx_sw at h
    rcases jx_if_some h with ⟨hc, h⟩ | ⟨hc, h⟩
    · exact Or.inl ⟨0, t, rfl, by rw [hc, nI_0]; simp, h⟩
    · have e : ∀ j, lo + 1 + nI j = lo + nI (j + 1) := fun j => by rw [← nI_1 j, Int32.add_assoc, Int32.add_comm 1 (nI j)]
      rcases jx_sw_find ts (lo + 1) h with ⟨j, t', h1, h2, h3⟩ | ⟨h1, h2⟩
      · exact Or.inl ⟨j + 1, t', by simpa using h1, by rw [h2, e], h3⟩
      · refine Or.inr ⟨fun j hj => ?_, h2⟩
        cases j with
        | zero => rw [nI_0]; simpa using hc
        | succ j => rw [← e]; exact h1 j (by simpa using hj)
theorem jx_hasCell {h : jxH} {H : Heap} (hR : jx_Rel bs rom D tc h H) {a t n : Nat} {g : jxD} (he : jx_at h a = .inr (.inl (t, n, g))) : a < h.1 ∧ (jx_ws bs rom tc h)[a]? = some (bs + a, .inl (tc t, n, jx_cvD bs t g)) :=
  ⟨hR.lt (by rw [he]; simp), hR.at he (by simp)⟩
theorem jx_aI_inv {en : jxE} {t : Nat} {k x : Int32} (h : jx_aI en t k = some x) : ∃ n g, en = .inr (.inl (t, n, .inl g)) ∧ vp_in k n ∧ x = g k.toNatClampNeg := by
  unfold jx_aI at h
  split at h
  · split at h
    · rename_i hc
      obtain ⟨rfl, hc⟩ := hc
      exact ⟨_, _, rfl, jx_out_in hc, (Option.some.inj h).symm⟩
    · cases h
  · cases h
theorem jx_aL_inv {en : jxE} {k : Int32} {x : Int64} (h : jx_aL en k = some x) : ∃ n g, en = .inr (.inl (1, n, .inr (.inl g))) ∧ vp_in k n ∧ x = g k.toNatClampNeg := by
  unfold jx_aL at h
  split at h
  · split at h
    · rename_i hc
      obtain ⟨rfl, hc⟩ := hc
      exact ⟨_, _, rfl, jx_out_in hc, (Option.some.inj h).symm⟩
    · cases h
  · cases h
theorem jx_aQ_inv {en : jxE} {t : Nat} {k : Int32} {x : Option Nat} (h : jx_aQ en t k = some x) : ∃ n g, en = .inr (.inl (t, n, .inr (.inr (.inr (.inr g))))) ∧ vp_in k n ∧ x = g k.toNatClampNeg := by
  unfold jx_aQ at h
  split at h
  · split at h
    · rename_i hc
      obtain ⟨rfl, hc⟩ := hc
      exact ⟨_, _, rfl, jx_out_in hc, (Option.some.inj h).symm⟩
    · cases h
  · cases h
theorem jx_sI_inv {en e2 : jxE} {t : Nat} {k x : Int32} (h : jx_sI en t k x = some e2) : ∃ n g, en = .inr (.inl (t, n, .inl g)) ∧ vp_in k n ∧ e2 = .inr (.inl (t, n, .inl (upd g k.toNatClampNeg x))) := by
  unfold jx_sI at h
  split at h
  · split at h
    · rename_i hc
      obtain ⟨rfl, hc⟩ := hc
      exact ⟨_, _, rfl, jx_out_in hc, (Option.some.inj h).symm⟩
    · cases h
  · cases h
theorem jx_sL_inv {en e2 : jxE} {k : Int32} {x : Int64} (h : jx_sL en k x = some e2) : ∃ n g, en = .inr (.inl (1, n, .inr (.inl g))) ∧ vp_in k n ∧ e2 = .inr (.inl (1, n, .inr (.inl (vp_updL g k.toNatClampNeg x)))) := by
  unfold jx_sL at h
  split at h
  · split at h
    · rename_i hc
      obtain ⟨rfl, hc⟩ := hc
      exact ⟨_, _, rfl, jx_out_in hc, (Option.some.inj h).symm⟩
    · cases h
  · cases h
theorem jx_sQ_inv {en e2 : jxE} {t : Nat} {k : Int32} {x : Option Nat} (h : jx_sQ en t k x = some e2) : ∃ n g, en = .inr (.inl (t, n, .inr (.inr (.inr (.inr g))))) ∧ vp_in k n ∧ e2 = .inr (.inl (t, n, .inr (.inr (.inr (.inr (va_up g k.toNatClampNeg x)))))) := by
  unfold jx_sQ at h
  split at h
  · split at h
    · rename_i hc
      obtain ⟨rfl, hc⟩ := hc
      exact ⟨_, _, rfl, jx_out_in hc, (Option.some.inj h).symm⟩
    · cases h
  · cases h
theorem jx_cp_inv {e1 e2 e3 : jxE} {t : Nat} {sp dp n : Int32} (h : jx_cp e1 e2 t sp dp n = some e3) : ∃ n1 n2 f g, e1 = .inr (.inl (t, n1, .inl f)) ∧ e2 = .inr (.inl (t, n2, .inl g)) ∧ ¬ sp < 0 ∧ ¬ dp < 0 ∧ ¬ n < 0 ∧ sp.toNatClampNeg + n.toNatClampNeg ≤ n1 ∧ dp.toNatClampNeg + n.toNatClampNeg ≤ n2 ∧ e3 = .inr (.inl (t, n2, .inl (va_cpy f g sp.toNatClampNeg dp.toNatClampNeg n.toNatClampNeg))) := by
  unfold jx_cp at h
  split at h
  · split at h
    · rename_i hc
      obtain ⟨rfl, rfl, hc⟩ := hc
      exact ⟨_, _, _, _, rfl, rfl, hc.1, hc.2.1, hc.2.2.1, hc.2.2.2.1, hc.2.2.2.2, (Option.some.inj h).symm⟩
    · cases h
  · cases h
theorem jx_gI_inv {en : jxE} {ci k : Nat} {x : Int32} (h : jx_gI en ci k = some x) : ∃ fs, en = .inl (ci, fs) ∧ fs[k]? = some (.int x) := by
  unfold jx_gI at h
  split at h
  · split at h
    · rename_i hc
      subst hc
      split at h
      · rename_i e
        cases h
        exact ⟨_, rfl, e⟩
      · cases h
    · cases h
  · cases h
theorem jx_gL_inv {en : jxE} {ci k : Nat} {x : Int64} (h : jx_gL en ci k = some x) : ∃ fs, en = .inl (ci, fs) ∧ fs[k]? = some (.long x) := by
  unfold jx_gL at h
  split at h
  · split at h
    · rename_i hc
      subst hc
      split at h
      · rename_i e
        cases h
        exact ⟨_, rfl, e⟩
      · cases h
    · cases h
  · cases h
theorem jx_gR_inv {en : jxE} {ci k : Nat} {x : Nat} (h : jx_gR en ci k = some x) : ∃ fs, en = .inl (ci, fs) ∧ fs[k]? = some (.ref x) := by
  unfold jx_gR at h
  split at h
  · split at h
    · rename_i hc
      subst hc
      split at h
      · rename_i e
        cases h
        exact ⟨_, rfl, e⟩
      · cases h
    · cases h
  · cases h
theorem jx_pF_inv {en e2 : jxE} {ci k : Nat} {v : Value} (h : jx_pF en ci k v = some e2) : ∃ fs, en = .inl (ci, fs) ∧ k < fs.length ∧ e2 = .inl (ci, fs.set k v) := by
  unfold jx_pF at h
  split at h
  · split at h
    · rename_i hc
      obtain ⟨rfl, hc⟩ := hc
      exact ⟨_, rfl, hc, (Option.some.inj h).symm⟩
    · cases h
  · cases h
theorem jx_mth_spec {k : Nat} {f : jxMi → Bool} (h : jx_mth k f = true) {q : jxMi} (hq : jx_mi[k]? = some q) : f q = true := by
  unfold jx_mth at h
  rw [hq] at h
  exact h
theorem jx_cpcv {n2 : Nat} {f g : Nat → Int32} {a b k : Nat} : jx_cvE bs rom tc (.inr (.inl (2, n2, .inl (va_cpy f g a b k)))) = .inl (tc 2, n2, .inl (va_cpy (fun j => (f j).toInt8.toInt32) (fun j => (g j).toInt8.toInt32) a b k)) := by
  show Sum.inl (tc 2, n2, Sum.inl (fun j => (va_cpy f g a b k j).toInt8.toInt32)) = _
  congr 4
  funext j
  unfold va_cpy
  split <;> rfl
theorem jx_cv_rf (r : Option Nat) : jx_cv bs rom (va_rf r) = va_rf (r.map (fun a => bs + a)) := by cases r <;> rfl
theorem jx_is_inv {en : jxE} {ci : Nat} (h : jx_is en ci = true) : ∃ fs, en = .inl (ci, fs) := by
  unfold jx_is at h
  split at h
  · rename_i c' fs
    exact ⟨fs, by rw [show c' = ci from by simpa using h]⟩
  · cases h
theorem jx_len_inv {en : jxE} {n : Nat} (h : jx_len en = some n) : ∃ t g, en = .inr (.inl (t, n, g)) ∧ t < 9 := by
  unfold jx_len at h
  split at h
  · split at h
    · rename_i hc
      cases h
      exact ⟨_, _, rfl, hc⟩
    · cases h
  · cases h
theorem jx_tys_at {t : Nat} (h : t < 9) : (jx_tys tc)[t]? = some (tc t, jx_ty t) := by
  rcases (show t = 0 ∨ t = 1 ∨ t = 2 ∨ t = 3 ∨ t = 4 ∨ t = 5 ∨ t = 6 ∨ t = 7 ∨ t = 8 by omega) with rfl | rfl | rfl | rfl | rfl | rfl | rfl | rfl | rfl <;> rfl
theorem jx_cvE_upQ {t n k v : Nat} {g : Nat → Option Nat} : jx_cvE bs rom tc (.inr (.inl (t, n, .inr (.inr (.inr (.inr (va_up g k (some v)))))))) = .inl (tc t, n, .inr (.inr (.inr (.inr (va_up (fun j => (g j).map (fun a => bs + a)) k (some (bs + v))))))) := by
  show Sum.inl (tc t, n, Sum.inr (Sum.inr (Sum.inr (Sum.inr _)))) = _
  congr 7
  funext j
  unfold va_up
  by_cases e : j = k
  · simp [e]
  · simp [e]
theorem jx_cvE_upN {t n k : Nat} {g : Nat → Option Nat} : jx_cvE bs rom tc (.inr (.inl (t, n, .inr (.inr (.inr (.inr (va_up g k none))))))) = .inl (tc t, n, .inr (.inr (.inr (.inr (va_up (fun j => (g j).map (fun a => bs + a)) k none))))) := by
  show Sum.inl (tc t, n, Sum.inr (Sum.inr (Sum.inr (Sum.inr _)))) = _
  congr 7
  funext j
  unfold va_up
  by_cases e : j = k
  · simp [e]
  · simp [e]
theorem jx_dflt_cv (ci : Nat) : (jx_dflt ci).map (jx_cv bs rom) = jx_dflt ci := by
  unfold jx_dflt
  split <;> rfl
theorem jx_arr_in {ty : FieldType} (i : Nat) (h : (jx_arrPos.map (fun q => q.1))[i]? = some ty) : Cond.arrayClass ty ∈ jx_big := by
  rw [List.getElem?_map] at h
  cases hq : jx_arrPos[i]? with
  | none => rw [hq] at h; cases h
  | some q =>
    rw [hq] at h
    cases h
    exact jx_okw_in (List.all_eq_true.mp jx_arr_ok q (List.mem_of_getElem? hq))
theorem jx_arr_same {t : Nat} {cA : ClassId} (ht : t < 9) (h1 : va_K D vwCl (jx_tys tc) s) (h2 : va_K D vwCl (jx_tys tc ++ [(cA, jx_ty t)]) s) : cA = tc t := by
  have g1 := (h1.2 t _ (jx_tys_at ht)).2
  have g2 := (h2.2 9 (cA, jx_ty t) (by rw [List.getElem?_append_right (by simp)]; rfl)).2
  have key : ∀ c', va_RA s c' (jx_ty t) → s.vm.findClass ("[" ++ (jx_ty t).toString) = some c' := by
    intro c' hc
    unfold va_RA at hc
    split at hc
    · rename_i C hC
      obtain ⟨_, _, _, _, _, h4⟩ := hc
      rw [hC]
      exact h4
    · exact hc
  exact Option.some.inj ((key _ g2).symm.trans (key _ g1))
theorem jx_aald {H : Heap} {locs : List Loc} {cells slots : Nat} {pc : Nat} {ls : Array Slot} {rest : List Value} {cl : List vw_C} {a : Nat} {tys : List (ClassId × FieldType)} {ws : va_W} (hexec : p.tables.exec = Jvm.exec) (hb : c.code = cc) (hK : va_K D cl tys s) (hP : va_P D cl ws H) (q0 t0 : Nat) {cA : ClassId} {ty : FieldType} {n : Nat} {f : Nat → Option Nat} (ha : ws[q0]? = some (a, .inl (cA, n, .inr (.inr (.inr (.inr f)))))) (ht : tys[t0]? = some (cA, ty)) (hty : ty.isReference = true) {i : Int32} (hin : vp_in i n) (hdg : decode cc pc = .ok (.aaload, 1))
    (kk : W p l e R s m args below meth c H locs cells slots Q (F0 m (pc + 1) ls (va_rf (f i.toNatClampNeg) :: rest))) : W p l e R s m args below meth c H locs cells slots Q (F0 m pc ls (.int i :: .ref a :: rest)) := by
  have hlt : i.toNatClampNeg < n := Nat.not_le.mp fun q => hin (Or.inr q)
  exact W.aald (v := va_rf (f i.toNatClampNeg)) (ty := ty) hexec hb (hP q0 _ ha) ((hK.2 t0 _ ht).1 n (fun j => va_rf (f j))) hty (fun q => by cases q) (by show ¬ (i < 0 ∨ (arrV _ _ _).slots.size ≤ _); rw [arrV_size]; exact hin) (by show (arrV _ _ _).slots[_]? = _; rw [arrV_read _ _ hlt]) rfl rfl hdg kk
theorem jx_updcv {g : Nat → Int32} {k : Nat} {x : Int32} : (fun j => (upd g k x.toInt8.toInt32 j).toInt8.toInt32) = upd (fun j => (g j).toInt8.toInt32) k (vp_nar .byte x) := by
  funext j
  rw [vp_nar_byte]
  unfold upd
  by_cases e : j = k
  · simp [e]
  · simp [e]
theorem jx_getf (hx : p.tables.exec = Jvm.exec) (hb : c.code = cc) (hown : s.vm.findClass (jx_c own) = some m.cls) (hts : ∀ w ∈ jx_big, w.before args s = true) (hWd : jx_Wd bs rom rc D tc s) {h : jxH} {H : Heap} {locs : List Loc} {cells slots : Nat} (hR : jx_Rel bs rom D tc h H) {a ix ci k pc : Nat} {fs : List Value} {v : Value} {ls : Array Slot} {rest : List Value}
    (he : jx_at h a = .inl (ci, fs)) (hv : fs[k]? = some v) (hlk : jx_hf own ix ci k = true) (hdg : decode cc pc = .ok (.getfield ix, 3))
    (kk : W p l e R s m args below meth c H locs cells slots Q (F0 m (pc + 3) ls (jx_cv bs rom v :: rest))) : W p l e R s m args below meth c H locs cells slots Q (F0 m pc ls (.ref (bs + a) :: rest)) := by
  obtain ⟨r, hr, hk, hl⟩ := jx_hf_spec hlk
  have hat := hR.at he (by simp)
  have hv2 : (fs.map (jx_cv bs rom))[k]? = some (jx_cv bs rom v) := by rw [List.getElem?_map, hv]; rfl
  rcases hl with hl | hl
  · exact va_get hx hb hts (jx_lay_in hr) hown hWd.1 hR.1 a hat hr k hk (hts _ hl) (fun _ z => z) hv2 hdg kk
  · exact va_getN hx hb hts (jx_lay_in hr) hown hWd.1 hR.1 a hat hr k hk (va_Nw.use rfl (hWd.2.1 _ hl)) (fun _ z => z) hv2 hdg kk
theorem jx_putf (hx : p.tables.exec = Jvm.exec) (hb : c.code = cc) (hown : s.vm.findClass (jx_c own) = some m.cls) (hts : ∀ w ∈ jx_big, w.before args s = true) (hWd : jx_Wd bs rom rc D tc s) (hini : ini = true → meth.name = "<init>") {h : jxH} {H : Heap} {locs : List Loc} {cells slots : Nat} (hM : jx_M bs rom D tc s n0 sl0 h H locs cells slots) {a ix ci k pc : Nat} {fs : List Value} {v : Value} {ls : Array Slot} {rest : List Value}
    (he : jx_at h a = .inl (ci, fs)) (hkl : k < fs.length) (hlk : jx_hf own ix ci k = true) (hfin : jx_fin ini own ix ci k = true) (hn : narrow (jx_fty ci k) (jx_cv bs rom v) = jx_cv bs rom v) (hfit : fits (jx_fty ci k) (jx_cv bs rom v) = true) (hdg : decode cc pc = .ok (.putfield ix, 3))
    (kk : ∀ (H1 : Heap) (locs1 : List Loc), jx_M bs rom D tc s n0 sl0 (jx_set h a (.inl (ci, fs.set k v))) H1 locs1 cells slots → W p l e R s m args below meth c H1 locs1 cells slots Q (F0 m (pc + 3) ls rest)) : W p l e R s m args below meth c H locs cells slots Q (F0 m pc ls (jx_cv bs rom v :: .ref (bs + a) :: rest)) := by
  obtain ⟨r, hr, hk, hl⟩ := jx_hf_spec hlk
  have hat := hM.1.at he (by simp)
  obtain ⟨hty, hnm⟩ := jx_cls_ok hr
  have hlt : a < h.1 := hM.1.lt (by rw [he]; simp)
  have hset : jx_cvE bs rom tc (.inl (ci, fs.set k v)) = .inr (ci, (fs.map (jx_cv bs rom)).set k (jx_cv bs rom v)) := by
    show Sum.inr (ci, (fs.set k v).map (jx_cv bs rom)) = _
    rw [List.map_set]
  have hkk := jx_fin_set (p := p) (l := l) (e := e) (R := R) (args := args) (below := below) (meth := meth) (c := c) (Q := Q) (m := m) (g := F0 m (pc + 3) ls rest) hM hlt kk
  rw [hset] at hkk
  have hl2 : k < (fs.map (jx_cv bs rom)).length := by rw [List.length_map]; exact hkl
  unfold jx_fin at hfin
  rw [hr] at hfin
  dsimp only at hfin
  rw [Bool.or_eq_true] at hfin
  rcases hfin with hfin | hfin
  · rcases hl with hl | hl
    · exact va_put hx hb hts (jx_lay_in hr) (jx_fty ci) hty hnm hown hWd.1 hM.1.1 jx_ws_D (jx_S0 hM) a hat hr k hk (hts _ hl) (fun _ z => z) (of_decide_eq_true hfin) (hty k hk) hn hfit hl2 hdg hkk
    · exact va_putN hx hb hts (jx_lay_in hr) (jx_fty ci) hty hnm hown hWd.1 hM.1.1 jx_ws_D (jx_S0 hM) a hat hr k hk (va_Nw.use rfl (hWd.2.1 _ hl)) (fun _ z => z) (of_decide_eq_true hfin) (hty k hk) hn hfit hl2 hdg hkk
  · obtain ⟨f1, f2⟩ := Bool.and_eq_true_iff.mp hfin
    obtain ⟨f5, f2⟩ := Bool.and_eq_true_iff.mp f2
    obtain ⟨f3, f4⟩ := of_decide_eq_true f2
    obtain ⟨r', hr', -, hl'⟩ := jx_hfl_spec f5
    cases hr.symm.trans hr'
    exact va_putF hx hb hts (jx_lay_in hr) (jx_fty ci) hty hnm hown hWd.1 hM.1.1 jx_ws_D (jx_S0 hM) a hat hr k hk (hts _ hl') (fun _ z => z) f3 (hini f1) f4 (hty k hk) hn hfit hl2 hdg hkk
set_option maxHeartbeats 8000000 in
theorem jx_sim1 (hx : p.tables.exec = Jvm.exec) (hb : c.code = cc) (hml : c.maxLocals = nL) (hown : s.vm.findClass (jx_c own) = some m.cls) (hts : ∀ w ∈ jx_big, w.before args s = true) (hWd : jx_Wd bs rom rc D tc s) (hini : ini = true → meth.name = "<init>")
    (hd : d + 1 ≤ R.frames) (hdl : 60 * (d + 1) ≤ R.locals) (hMet : jx_Mets l bs rom rc D tc c0 d) (hcg : jx_grows c0) (hres : res.2.1 ≤ n0 + R.cells ∧ res.2.2.1 ≤ sl0 + R.slots)
    (hret : ∀ (pc : Nat) (H : Heap) (locs : List Loc) (cells slots : Nat) (ls' : Array Slot), jx_end cc rk pc res.1 → jx_M bs rom D tc s n0 sl0 res.2 H locs cells slots → W p l e R s m args below meth c H locs cells slots Q (F0 m pc ls' (res.1.toList.map (jx_cv bs rom))))
    (K : jxS → jxR) (hK : ∀ s', K s' = some res → jx_On p l e R s m args below meth c Q bs rom D tc n0 sl0 nL code s') (hKg : ∀ s', K s' = some res → jx_le s'.2.2.2 res.2)
    (i : Nat) (ls : List (Nat × Value)) (st : List Value) (h : jxH)
    (r : jxRow) (hr : code[i]? = some r) (hdec : decode cc r.pc = .ok (r.ins, r.len)) (hw : jx_wf own nL ini rk (fun j => code[j]?) i r = true)
    (hh : jx_step rc jx_dflt c0 K r i ls st h = some res) : jx_On p l e R s m args below meth c Q bs rom D tc n0 sl0 nL code (i, ls, st, h) := by
  rintro pc' ⟨r0, hr0, hpc⟩ H locs cells slots ls' hM hl
  change code[i]? = some r0 at hr0
  cases hr.symm.trans hr0
  clear hr0
  change jx_M bs rom D tc s n0 sl0 h H locs cells slots at hM
  change lv_has ls' nL (jx_cvL bs rom ls) at hl
  show W p l e R s m args below meth c H locs cells slots Q (F0 m pc' ls' (st.map (jx_cv bs rom)))
  obtain ⟨pc, ins, len, ⟨x, y, z⟩, v, w, ts, lv⟩ := r
  change pc = pc' at hpc
  subst hpc
  change decode cc pc = .ok (ins, len) at hdec
  cases ins
  case iconst n =>
    obtain ⟨hw1, hw2⟩ := Bool.and_eq_true_iff.mp hw
    obtain ⟨q1, hn⟩ := jx_seq_spec hw1
    have q1 : len = 1 := q1
    subst q1
    exact lv_iconst hx hb hdec (of_decide_eq_true hw2) (hK _ hh _ hn H locs cells slots ls' hM hl)
  case bipush n =>
    obtain ⟨hw1, hw2⟩ := Bool.and_eq_true_iff.mp hw
    obtain ⟨q1, hn⟩ := jx_seq_spec hw1
    have q1 : len = 2 := q1
    subst q1
    exact lv_bipush hx hb hdec (of_decide_eq_true hw2) (hK _ hh _ hn H locs cells slots ls' hM hl)
  case sipush n =>
    obtain ⟨hw1, hw2⟩ := Bool.and_eq_true_iff.mp hw
    obtain ⟨q1, hn⟩ := jx_seq_spec hw1
    have q1 : len = 3 := q1
    subst q1
    exact lv_sipush hx hb hdec (of_decide_eq_true hw2) (hK _ hh _ hn H locs cells slots ls' hM hl)
  case lconst n =>
    obtain ⟨hw1, hw2⟩ := Bool.and_eq_true_iff.mp hw
    obtain ⟨q1, hn⟩ := jx_seq_spec hw1
    have q1 : len = 1 := q1
    subst q1
    exact lv_lconst hx hb hdec (of_decide_eq_true hw2) (hK _ hh _ hn H locs cells slots ls' hM hl)
  case ldc ix =>
    obtain ⟨hw1, hw2⟩ := Bool.and_eq_true_iff.mp hw
    obtain ⟨q1, hn⟩ := jx_seq_spec hw1
    have q1 : len = 2 := q1
    subst q1
    exact W.ldc hx hb hown (hts _ (jx_kl_spec hw2)) rfl hdec (hK _ hh _ hn H locs cells slots ls' hM hl)
  case ldc_w ix =>
    obtain ⟨hw1, hw2⟩ := Bool.and_eq_true_iff.mp hw
    obtain ⟨q1, hn⟩ := jx_seq_spec hw1
    have q1 : len = 3 := q1
    subst q1
    exact lv_ldcw hx hb hown (hts _ (jx_kl_spec hw2)) hdec (hK _ hh _ hn H locs cells slots ls' hM hl)
  case ldc2_w ix =>
    obtain ⟨hw1, hw2⟩ := Bool.and_eq_true_iff.mp hw
    obtain ⟨q1, hn⟩ := jx_seq_spec hw1
    have q1 : len = 3 := q1
    subst q1
    exact lv_ldc2 hx hb hown (hts _ (jx_kll_spec hw2)) hdec (hK _ hh _ hn H locs cells slots ls' hM hl)
  case aconst_null =>
    obtain ⟨q1, hn⟩ := jx_seq_spec hw
    have q1 : len = 1 := q1
    subst q1
    exact lv_null hx hb hdec (hK _ hh _ hn H locs cells slots ls' hM hl)
  case iload k =>
    obtain ⟨hw1, hw2⟩ := Bool.and_eq_true_iff.mp hw
    obtain ⟨q1, hn⟩ := jx_seq_spec hw1
    have q1 : len = 2 := q1
    subst q1
    have hk : k = x := of_decide_eq_true hw2
    subst hk
    obtain ⟨a, ha, hh⟩ := jx_lI_some hh
    exact lv_iload hx hb hdec (jx_has_ld hl ha) (hK _ hh _ hn H locs cells slots ls' hM hl)
  case iload_n k =>
    obtain ⟨hw1, hw2⟩ := Bool.and_eq_true_iff.mp hw
    obtain ⟨q1, hn⟩ := jx_seq_spec hw1
    have q1 : len = 1 := q1
    subst q1
    have hk : (k : Nat) = x := of_decide_eq_true hw2
    obtain ⟨a, ha, hh⟩ := jx_lI_some hh
    exact lv_iload_n hx hb hdec hk (jx_has_ld hl ha) (hK _ hh _ hn H locs cells slots ls' hM hl)
  case lload k =>
    obtain ⟨hw1, hw2⟩ := Bool.and_eq_true_iff.mp hw
    obtain ⟨q1, hn⟩ := jx_seq_spec hw1
    have q1 : len = 2 := q1
    subst q1
    have hk : k = x := of_decide_eq_true hw2
    subst hk
    obtain ⟨a, ha, hh⟩ := jx_lL_some hh
    exact lv_lload hx hb hdec (jx_has_ld hl ha) (hK _ hh _ hn H locs cells slots ls' hM hl)
  case lload_n k =>
    obtain ⟨hw1, hw2⟩ := Bool.and_eq_true_iff.mp hw
    obtain ⟨q1, hn⟩ := jx_seq_spec hw1
    have q1 : len = 1 := q1
    subst q1
    have hk : (k : Nat) = x := of_decide_eq_true hw2
    obtain ⟨a, ha, hh⟩ := jx_lL_some hh
    exact lv_lload_n hx hb hdec hk (jx_has_ld hl ha) (hK _ hh _ hn H locs cells slots ls' hM hl)
  case aload k =>
    obtain ⟨hw1, hw2⟩ := Bool.and_eq_true_iff.mp hw
    obtain ⟨q1, hn⟩ := jx_seq_spec hw1
    have q1 : len = 2 := q1
    subst q1
    have hk : k = x := of_decide_eq_true hw2
    subst hk
    have hq : jx_lA ls k (fun a => K (i + 1, ls, a :: st, h)) = some res := hh
    obtain ⟨a, ha, hv, hh⟩ := jx_lA_some hq
    rcases hv with ⟨j, rfl⟩ | ⟨j, rfl⟩ | rfl
    · exact lv_aload hx hb hdec (jx_has_ld hl ha) (hK _ hh _ hn H locs cells slots ls' hM hl)
    · exact lv_aload hx hb hdec (jx_has_ld hl ha) (hK _ hh _ hn H locs cells slots ls' hM hl)
    · exact lv_aloadN hx hb hdec (jx_has_ld hl ha) (hK _ hh _ hn H locs cells slots ls' hM hl)
  case aload_n k =>
    obtain ⟨hw1, hw2⟩ := Bool.and_eq_true_iff.mp hw
    obtain ⟨q1, hn⟩ := jx_seq_spec hw1
    have q1 : len = 1 := q1
    subst q1
    have hk : (k : Nat) = x := of_decide_eq_true hw2
    have hq : jx_lA ls x (fun a => K (i + 1, ls, a :: st, h)) = some res := hh
    obtain ⟨a, ha, hv, hh⟩ := jx_lA_some hq
    rcases hv with ⟨j, rfl⟩ | ⟨j, rfl⟩ | rfl
    · exact lv_aload_n hx hb hdec hk (jx_has_ld hl ha) (hK _ hh _ hn H locs cells slots ls' hM hl)
    · exact lv_aload_n hx hb hdec hk (jx_has_ld hl ha) (hK _ hh _ hn H locs cells slots ls' hM hl)
    · exact lv_aload_nN hx hb hdec hk (jx_has_ld hl ha) (hK _ hh _ hn H locs cells slots ls' hM hl)
  case istore k =>
    obtain ⟨hw1, hw2⟩ := Bool.and_eq_true_iff.mp hw
    obtain ⟨q1, hn⟩ := jx_seq_spec hw1
    have q1 : len = 2 := q1
    subst q1
    obtain ⟨hk, hkn⟩ := of_decide_eq_true hw2
    have hk : k = x := hk
    subst hk
    obtain ⟨a, t, rfl, hh⟩ := jx_1_some hh
    exact lv_istore hx hb hdec hl hkn (jx_cv_st1 ls k (.int a)) (fun ls2 hl2 => hK _ hh _ hn H locs cells slots ls2 hM hl2)
  case istore_n k =>
    obtain ⟨hw1, hw2⟩ := Bool.and_eq_true_iff.mp hw
    obtain ⟨q1, hn⟩ := jx_seq_spec hw1
    have q1 : len = 1 := q1
    subst q1
    obtain ⟨hk, hkn⟩ := of_decide_eq_true hw2
    have hk : (k : Nat) = x := hk
    obtain ⟨a, t, rfl, hh⟩ := jx_1_some hh
    exact lv_istore_n hx hb hdec hk hl (by omega) (jx_cv_st1 ls x (.int a)) (fun ls2 hl2 => hK _ hh _ hn H locs cells slots ls2 hM hl2)
  case lstore k =>
    obtain ⟨hw1, hw2⟩ := Bool.and_eq_true_iff.mp hw
    obtain ⟨q1, hn⟩ := jx_seq_spec hw1
    have q1 : len = 2 := q1
    subst q1
    obtain ⟨hk, hkn⟩ := of_decide_eq_true hw2
    have hk : k = x := hk
    subst hk
    obtain ⟨a, t, rfl, hh⟩ := jx_1L_some hh
    exact lv_lstore hx hb hdec hl hkn (jx_cv_st2 ls k (.long a)) (fun ls2 hl2 => hK _ hh _ hn H locs cells slots ls2 hM hl2)
  case lstore_n k =>
    obtain ⟨hw1, hw2⟩ := Bool.and_eq_true_iff.mp hw
    obtain ⟨q1, hn⟩ := jx_seq_spec hw1
    have q1 : len = 1 := q1
    subst q1
    obtain ⟨hk, hkn⟩ := of_decide_eq_true hw2
    have hk : (k : Nat) = x := hk
    obtain ⟨a, t, rfl, hh⟩ := jx_1L_some hh
    exact lv_lstore_n hx hb hdec hk hl (by omega) (jx_cv_st2 ls x (.long a)) (fun ls2 hl2 => hK _ hh _ hn H locs cells slots ls2 hM hl2)
  case astore k =>
    obtain ⟨hw1, hw2⟩ := Bool.and_eq_true_iff.mp hw
    obtain ⟨q1, hn⟩ := jx_seq_spec hw1
    have q1 : len = 2 := q1
    subst q1
    obtain ⟨hk, hkn⟩ := of_decide_eq_true hw2
    have hk : k = x := hk
    subst hk
    have hq : jx_pA st (fun a t => K (i + 1, jx_st1 ls k a, t, h)) = some res := hh
    obtain ⟨a, t, rfl, hv, hh⟩ := jx_pA_some hq
    rcases hv with ⟨j, rfl⟩ | rfl
    · exact lv_astore hx hb hdec hl hkn (jx_cv_st1 ls k (.ref j)) (fun ls2 hl2 => hK _ hh _ hn H locs cells slots ls2 hM hl2)
    · exact lv_astoreN hx hb hdec hl hkn (jx_cv_st1 ls k .null) (fun ls2 hl2 => hK _ hh _ hn H locs cells slots ls2 hM hl2)
  case astore_n k =>
    obtain ⟨hw1, hw2⟩ := Bool.and_eq_true_iff.mp hw
    obtain ⟨q1, hn⟩ := jx_seq_spec hw1
    have q1 : len = 1 := q1
    subst q1
    obtain ⟨hk, hkn⟩ := of_decide_eq_true hw2
    have hk : (k : Nat) = x := hk
    have hq : jx_pA st (fun a t => K (i + 1, jx_st1 ls x a, t, h)) = some res := hh
    obtain ⟨a, t, rfl, hv, hh⟩ := jx_pA_some hq
    rcases hv with ⟨j, rfl⟩ | rfl
    · exact lv_astore_n hx hb hdec hk hl (by omega) (jx_cv_st1 ls x (.ref j)) (fun ls2 hl2 => hK _ hh _ hn H locs cells slots ls2 hM hl2)
    · exact lv_astore_nN hx hb hdec hk hl (by omega) (jx_cv_st1 ls x .null) (fun ls2 hl2 => hK _ hh _ hn H locs cells slots ls2 hM hl2)
  case iinc k n =>
    obtain ⟨hw1, hw2⟩ := Bool.and_eq_true_iff.mp hw
    obtain ⟨q1, hn⟩ := jx_seq_spec hw1
    have q1 : len = 3 := q1
    subst q1
    obtain ⟨hk, hkn, hv⟩ := of_decide_eq_true hw2
    have hk : k = x := hk
    have hv : Int32.ofInt n = v := hv
    subst hk; subst hv
    obtain ⟨a, ha, hh⟩ := jx_lI_some hh
    obtain ⟨j, hj⟩ := List.getElem?_of_mem (List.mem_map.mpr ⟨(k, Value.int a), jx_ld_in ha, rfl⟩ : (k, Value.int a) ∈ jx_cvL bs rom ls)
    exact lv_iinc (v := a + Int32.ofInt n) hx hb hdec hl hj rfl hkn (jx_cv_st1 ls k (.int (a + Int32.ofInt n))) (fun ls2 hl2 => hK _ hh _ hn H locs cells slots ls2 hM hl2)
  case iadd =>
    obtain ⟨q1, hn⟩ := jx_seq_spec hw
    have q1 : len = 1 := q1
    subst q1
    obtain ⟨a, b, t, rfl, hh⟩ := jx_2_some hh
    exact lv_iadd hx hb hdec (hK _ hh _ hn H locs cells slots ls' hM hl)
  case isub =>
    obtain ⟨q1, hn⟩ := jx_seq_spec hw
    have q1 : len = 1 := q1
    subst q1
    obtain ⟨a, b, t, rfl, hh⟩ := jx_2_some hh
    exact lv_isub hx hb hdec (hK _ hh _ hn H locs cells slots ls' hM hl)
  case imul =>
    obtain ⟨q1, hn⟩ := jx_seq_spec hw
    have q1 : len = 1 := q1
    subst q1
    obtain ⟨a, b, t, rfl, hh⟩ := jx_2_some hh
    exact lv_imul hx hb hdec (hK _ hh _ hn H locs cells slots ls' hM hl)
  case iand =>
    obtain ⟨q1, hn⟩ := jx_seq_spec hw
    have q1 : len = 1 := q1
    subst q1
    obtain ⟨a, b, t, rfl, hh⟩ := jx_2_some hh
    exact lv_iand hx hb hdec (hK _ hh _ hn H locs cells slots ls' hM hl)
  case ior =>
    obtain ⟨q1, hn⟩ := jx_seq_spec hw
    have q1 : len = 1 := q1
    subst q1
    obtain ⟨a, b, t, rfl, hh⟩ := jx_2_some hh
    exact lv_ior hx hb hdec (hK _ hh _ hn H locs cells slots ls' hM hl)
  case ixor =>
    obtain ⟨q1, hn⟩ := jx_seq_spec hw
    have q1 : len = 1 := q1
    subst q1
    obtain ⟨a, b, t, rfl, hh⟩ := jx_2_some hh
    exact lv_ixor hx hb hdec (hK _ hh _ hn H locs cells slots ls' hM hl)
  case ishl =>
    obtain ⟨q1, hn⟩ := jx_seq_spec hw
    have q1 : len = 1 := q1
    subst q1
    obtain ⟨a, b, t, rfl, hh⟩ := jx_2_some hh
    exact lv_ishl hx hb hdec (hK _ hh _ hn H locs cells slots ls' hM hl)
  case ishr =>
    obtain ⟨q1, hn⟩ := jx_seq_spec hw
    have q1 : len = 1 := q1
    subst q1
    obtain ⟨a, b, t, rfl, hh⟩ := jx_2_some hh
    exact lv_ishr hx hb hdec (hK _ hh _ hn H locs cells slots ls' hM hl)
  case iushr =>
    obtain ⟨q1, hn⟩ := jx_seq_spec hw
    have q1 : len = 1 := q1
    subst q1
    obtain ⟨a, b, t, rfl, hh⟩ := jx_2_some hh
    exact lv_iushr hx hb hdec rfl (hK _ hh _ hn H locs cells slots ls' hM hl)
  case idiv =>
    obtain ⟨q1, hn⟩ := jx_seq_spec hw
    have q1 : len = 1 := q1
    subst q1
    obtain ⟨a, b, t, rfl, hh⟩ := jx_2_some hh
    rcases jx_if_some hh with ⟨hq, hh⟩ | ⟨hq, hh⟩
    · cases hh
    · exact lv_idiv hx hb hdec hq (hK _ hh _ hn H locs cells slots ls' hM hl)
  case irem =>
    obtain ⟨q1, hn⟩ := jx_seq_spec hw
    have q1 : len = 1 := q1
    subst q1
    obtain ⟨a, b, t, rfl, hh⟩ := jx_2_some hh
    rcases jx_if_some hh with ⟨hq, hh⟩ | ⟨hq, hh⟩
    · cases hh
    · exact lv_irem hx hb hdec hq (hK _ hh _ hn H locs cells slots ls' hM hl)
  case ladd =>
    obtain ⟨q1, hn⟩ := jx_seq_spec hw
    have q1 : len = 1 := q1
    subst q1
    obtain ⟨a, b, t, rfl, hh⟩ := jx_2L_some hh
    exact lv_ladd hx hb hdec (hK _ hh _ hn H locs cells slots ls' hM hl)
  case lsub =>
    obtain ⟨q1, hn⟩ := jx_seq_spec hw
    have q1 : len = 1 := q1
    subst q1
    obtain ⟨a, b, t, rfl, hh⟩ := jx_2L_some hh
    exact lv_lsub hx hb hdec (hK _ hh _ hn H locs cells slots ls' hM hl)
  case lmul =>
    obtain ⟨q1, hn⟩ := jx_seq_spec hw
    have q1 : len = 1 := q1
    subst q1
    obtain ⟨a, b, t, rfl, hh⟩ := jx_2L_some hh
    exact lv_lmul hx hb hdec (hK _ hh _ hn H locs cells slots ls' hM hl)
  case land =>
    obtain ⟨q1, hn⟩ := jx_seq_spec hw
    have q1 : len = 1 := q1
    subst q1
    obtain ⟨a, b, t, rfl, hh⟩ := jx_2L_some hh
    exact lv_land hx hb hdec (hK _ hh _ hn H locs cells slots ls' hM hl)
  case lor =>
    obtain ⟨q1, hn⟩ := jx_seq_spec hw
    have q1 : len = 1 := q1
    subst q1
    obtain ⟨a, b, t, rfl, hh⟩ := jx_2L_some hh
    exact lv_lor hx hb hdec (hK _ hh _ hn H locs cells slots ls' hM hl)
  case lxor =>
    obtain ⟨q1, hn⟩ := jx_seq_spec hw
    have q1 : len = 1 := q1
    subst q1
    obtain ⟨a, b, t, rfl, hh⟩ := jx_2L_some hh
    exact lv_lxor hx hb hdec (hK _ hh _ hn H locs cells slots ls' hM hl)
  case ldiv =>
    obtain ⟨q1, hn⟩ := jx_seq_spec hw
    have q1 : len = 1 := q1
    subst q1
    obtain ⟨a, b, t, rfl, hh⟩ := jx_2L_some hh
    rcases jx_if_some hh with ⟨hq, hh⟩ | ⟨hq, hh⟩
    · cases hh
    · exact lv_ldiv hx hb hdec hq (hK _ hh _ hn H locs cells slots ls' hM hl)
  case lrem =>
    obtain ⟨q1, hn⟩ := jx_seq_spec hw
    have q1 : len = 1 := q1
    subst q1
    obtain ⟨a, b, t, rfl, hh⟩ := jx_2L_some hh
    rcases jx_if_some hh with ⟨hq, hh⟩ | ⟨hq, hh⟩
    · cases hh
    · exact lv_lrem hx hb hdec hq (hK _ hh _ hn H locs cells slots ls' hM hl)
  case lcmp =>
    obtain ⟨q1, hn⟩ := jx_seq_spec hw
    have q1 : len = 1 := q1
    subst q1
    obtain ⟨a, b, t, rfl, hh⟩ := jx_2L_some hh
    exact W.lcmp hx hb hdec (hK _ hh _ hn H locs cells slots ls' hM hl)
  case ineg =>
    obtain ⟨q1, hn⟩ := jx_seq_spec hw
    have q1 : len = 1 := q1
    subst q1
    obtain ⟨a, t, rfl, hh⟩ := jx_1_some hh
    exact lv_ineg hx hb hdec (hK _ hh _ hn H locs cells slots ls' hM hl)
  case lneg =>
    obtain ⟨q1, hn⟩ := jx_seq_spec hw
    have q1 : len = 1 := q1
    subst q1
    obtain ⟨a, t, rfl, hh⟩ := jx_1L_some hh
    exact lv_lneg hx hb hdec (hK _ hh _ hn H locs cells slots ls' hM hl)
  case lshl =>
    obtain ⟨q1, hn⟩ := jx_seq_spec hw
    have q1 : len = 1 := q1
    subst q1
    obtain ⟨a, b, t, rfl, hh⟩ := jx_LI_some hh
    exact lv_lshl hx hb hdec rfl (hK _ hh _ hn H locs cells slots ls' hM hl)
  case lshr =>
    obtain ⟨q1, hn⟩ := jx_seq_spec hw
    have q1 : len = 1 := q1
    subst q1
    obtain ⟨a, b, t, rfl, hh⟩ := jx_LI_some hh
    exact lv_lshr hx hb hdec rfl (hK _ hh _ hn H locs cells slots ls' hM hl)
  case i2l =>
    obtain ⟨q1, hn⟩ := jx_seq_spec hw
    have q1 : len = 1 := q1
    subst q1
    obtain ⟨a, t, rfl, hh⟩ := jx_1_some hh
    exact lv_i2l hx hb hdec rfl (hK _ hh _ hn H locs cells slots ls' hM hl)
  case i2b =>
    obtain ⟨q1, hn⟩ := jx_seq_spec hw
    have q1 : len = 1 := q1
    subst q1
    obtain ⟨a, t, rfl, hh⟩ := jx_1_some hh
    exact lv_i2b hx hb hdec rfl (hK _ hh _ hn H locs cells slots ls' hM hl)
  case i2s =>
    obtain ⟨q1, hn⟩ := jx_seq_spec hw
    have q1 : len = 1 := q1
    subst q1
    obtain ⟨a, t, rfl, hh⟩ := jx_1_some hh
    exact lv_i2s hx hb hdec rfl (hK _ hh _ hn H locs cells slots ls' hM hl)
  case l2i =>
    obtain ⟨q1, hn⟩ := jx_seq_spec hw
    have q1 : len = 1 := q1
    subst q1
    obtain ⟨a, t, rfl, hh⟩ := jx_1L_some hh
    exact lv_l2i hx hb hdec rfl (hK _ hh _ hn H locs cells slots ls' hM hl)
  case dup =>
    obtain ⟨q1, hn⟩ := jx_seq_spec hw
    have q1 : len = 1 := q1
    subst q1
    have hq : jx_dup st (fun a t => K (i + 1, ls, a :: a :: t, h)) = some res := hh
    obtain ⟨a, t, rfl, hv, hh⟩ := jx_dup_some hq
    rcases hv with ⟨j, rfl⟩ | ⟨j, rfl⟩
    · exact lv_dup hx hb hdec rfl (hK _ hh _ hn H locs cells slots ls' hM hl)
    · exact lv_dup hx hb hdec rfl (hK _ hh _ hn H locs cells slots ls' hM hl)
  case dup2 =>
    obtain ⟨q1, hn⟩ := jx_seq_spec hw
    have q1 : len = 1 := q1
    subst q1
    have hq : jx_dup2 st (fun p t => K (i + 1, ls, p ++ (p ++ t), h)) = some res := hh
    obtain ⟨a, t, rfl, hv, hh⟩ := jx_dup2_some hq
    rcases hv with ⟨j, j2, rfl⟩ | ⟨j, j2, rfl⟩ | ⟨j, rfl⟩
    · exact lv_dup2_11 hx hb hdec rfl rfl (hK _ hh _ hn H locs cells slots ls' hM hl)
    · exact lv_dup2_11 hx hb hdec rfl rfl (hK _ hh _ hn H locs cells slots ls' hM hl)
    · exact lv_dup2_2 hx hb hdec rfl (hK _ hh _ hn H locs cells slots ls' hM hl)
  case pop =>
    obtain ⟨q1, hn⟩ := jx_seq_spec hw
    have q1 : len = 1 := q1
    subst q1
    obtain ⟨a, t, rfl, hh⟩ := jx_1_some hh
    exact lv_pop hx hb hdec rfl (hK _ hh _ hn H locs cells slots ls' hM hl)
  case ifCond cnd off =>
    obtain ⟨hw1, hw2⟩ := Bool.and_eq_true_iff.mp hw
    obtain ⟨q1, hn⟩ := jx_seq_spec hw1
    have q1 : len = 3 := q1
    subst q1
    obtain ⟨r2, hr2, ht⟩ := jx_to_spec hw2
    have hr2 : code[x]? = some r2 := hr2
    have ht : (pc : Int) + off = (r2.pc : Int) := ht
    cases cnd
    · obtain ⟨a, t, rfl, hh⟩ := jx_1_some hh
      refine lv_if_eq hx hb hdec ht (fun hq => ?_) (fun hq => ?_)
      · rcases jx_if_some hh with ⟨hc, hh⟩ | ⟨hc, hh⟩
        · exact hK _ hh _ ⟨r2, hr2, rfl⟩ H locs cells slots ls' hM hl
        · exact absurd hq hc
      · rcases jx_if_some hh with ⟨hc, hh⟩ | ⟨hc, hh⟩
        · exact absurd hc hq
        · exact hK _ hh _ hn H locs cells slots ls' hM hl
    · obtain ⟨a, t, rfl, hh⟩ := jx_1_some hh
      refine lv_if_ne hx hb hdec ht (fun hq => ?_) (fun hq => ?_)
      · rcases jx_if_some hh with ⟨hc, hh⟩ | ⟨hc, hh⟩
        · exact absurd hc hq
        · exact hK _ hh _ ⟨r2, hr2, rfl⟩ H locs cells slots ls' hM hl
      · rcases jx_if_some hh with ⟨hc, hh⟩ | ⟨hc, hh⟩
        · exact hK _ hh _ hn H locs cells slots ls' hM hl
        · exact absurd hq hc
    · obtain ⟨a, t, rfl, hh⟩ := jx_1_some hh
      refine lv_if_lt hx hb hdec ht (fun hq => ?_) (fun hq => ?_)
      · rcases jx_if_some hh with ⟨hc, hh⟩ | ⟨hc, hh⟩
        · exact hK _ hh _ ⟨r2, hr2, rfl⟩ H locs cells slots ls' hM hl
        · exact absurd hq hc
      · rcases jx_if_some hh with ⟨hc, hh⟩ | ⟨hc, hh⟩
        · exact absurd hc hq
        · exact hK _ hh _ hn H locs cells slots ls' hM hl
    · obtain ⟨a, t, rfl, hh⟩ := jx_1_some hh
      refine lv_if_ge hx hb hdec ht (fun hq => ?_) (fun hq => ?_)
      · rcases jx_if_some hh with ⟨hc, hh⟩ | ⟨hc, hh⟩
        · exact hK _ hh _ ⟨r2, hr2, rfl⟩ H locs cells slots ls' hM hl
        · exact absurd hq hc
      · rcases jx_if_some hh with ⟨hc, hh⟩ | ⟨hc, hh⟩
        · exact absurd hc hq
        · exact hK _ hh _ hn H locs cells slots ls' hM hl
    · obtain ⟨a, t, rfl, hh⟩ := jx_1_some hh
      refine lv_if_gt hx hb hdec ht (fun hq => ?_) (fun hq => ?_)
      · rcases jx_if_some hh with ⟨hc, hh⟩ | ⟨hc, hh⟩
        · exact hK _ hh _ ⟨r2, hr2, rfl⟩ H locs cells slots ls' hM hl
        · exact absurd hq hc
      · rcases jx_if_some hh with ⟨hc, hh⟩ | ⟨hc, hh⟩
        · exact absurd hc hq
        · exact hK _ hh _ hn H locs cells slots ls' hM hl
    · obtain ⟨a, t, rfl, hh⟩ := jx_1_some hh
      refine lv_if_le hx hb hdec ht (fun hq => ?_) (fun hq => ?_)
      · rcases jx_if_some hh with ⟨hc, hh⟩ | ⟨hc, hh⟩
        · exact hK _ hh _ ⟨r2, hr2, rfl⟩ H locs cells slots ls' hM hl
        · exact absurd hq hc
      · rcases jx_if_some hh with ⟨hc, hh⟩ | ⟨hc, hh⟩
        · exact absurd hc hq
        · exact hK _ hh _ hn H locs cells slots ls' hM hl
  case if_icmp cnd off =>
    obtain ⟨hw1, hw2⟩ := Bool.and_eq_true_iff.mp hw
    obtain ⟨q1, hn⟩ := jx_seq_spec hw1
    have q1 : len = 3 := q1
    subst q1
    obtain ⟨r2, hr2, ht⟩ := jx_to_spec hw2
    have hr2 : code[x]? = some r2 := hr2
    have ht : (pc : Int) + off = (r2.pc : Int) := ht
    cases cnd
    · obtain ⟨a, b, t, rfl, hh⟩ := jx_2_some hh
      refine lv_icmp_eq hx hb hdec ht (fun hq => ?_) (fun hq => ?_)
      · rcases jx_if_some hh with ⟨hc, hh⟩ | ⟨hc, hh⟩
        · exact hK _ hh _ ⟨r2, hr2, rfl⟩ H locs cells slots ls' hM hl
        · exact absurd hq hc
      · rcases jx_if_some hh with ⟨hc, hh⟩ | ⟨hc, hh⟩
        · exact absurd hc hq
        · exact hK _ hh _ hn H locs cells slots ls' hM hl
    · obtain ⟨a, b, t, rfl, hh⟩ := jx_2_some hh
      refine lv_icmp_ne hx hb hdec ht (fun hq => ?_) (fun hq => ?_)
      · rcases jx_if_some hh with ⟨hc, hh⟩ | ⟨hc, hh⟩
        · exact absurd hc hq
        · exact hK _ hh _ ⟨r2, hr2, rfl⟩ H locs cells slots ls' hM hl
      · rcases jx_if_some hh with ⟨hc, hh⟩ | ⟨hc, hh⟩
        · exact hK _ hh _ hn H locs cells slots ls' hM hl
        · exact absurd hq hc
    · obtain ⟨a, b, t, rfl, hh⟩ := jx_2_some hh
      refine lv_icmp_lt hx hb hdec ht (fun hq => ?_) (fun hq => ?_)
      · rcases jx_if_some hh with ⟨hc, hh⟩ | ⟨hc, hh⟩
        · exact hK _ hh _ ⟨r2, hr2, rfl⟩ H locs cells slots ls' hM hl
        · exact absurd hq hc
      · rcases jx_if_some hh with ⟨hc, hh⟩ | ⟨hc, hh⟩
        · exact absurd hc hq
        · exact hK _ hh _ hn H locs cells slots ls' hM hl
    · obtain ⟨a, b, t, rfl, hh⟩ := jx_2_some hh
      refine lv_icmp_ge hx hb hdec ht (fun hq => ?_) (fun hq => ?_)
      · rcases jx_if_some hh with ⟨hc, hh⟩ | ⟨hc, hh⟩
        · exact hK _ hh _ ⟨r2, hr2, rfl⟩ H locs cells slots ls' hM hl
        · exact absurd hq hc
      · rcases jx_if_some hh with ⟨hc, hh⟩ | ⟨hc, hh⟩
        · exact absurd hc hq
        · exact hK _ hh _ hn H locs cells slots ls' hM hl
    · obtain ⟨a, b, t, rfl, hh⟩ := jx_2_some hh
      refine lv_icmp_gt hx hb hdec ht (fun hq => ?_) (fun hq => ?_)
      · rcases jx_if_some hh with ⟨hc, hh⟩ | ⟨hc, hh⟩
        · exact hK _ hh _ ⟨r2, hr2, rfl⟩ H locs cells slots ls' hM hl
        · exact absurd hq hc
      · rcases jx_if_some hh with ⟨hc, hh⟩ | ⟨hc, hh⟩
        · exact absurd hc hq
        · exact hK _ hh _ hn H locs cells slots ls' hM hl
    · obtain ⟨a, b, t, rfl, hh⟩ := jx_2_some hh
      refine lv_icmp_le hx hb hdec ht (fun hq => ?_) (fun hq => ?_)
      · rcases jx_if_some hh with ⟨hc, hh⟩ | ⟨hc, hh⟩
        · exact hK _ hh _ ⟨r2, hr2, rfl⟩ H locs cells slots ls' hM hl
        · exact absurd hq hc
      · rcases jx_if_some hh with ⟨hc, hh⟩ | ⟨hc, hh⟩
        · exact absurd hc hq
        · exact hK _ hh _ hn H locs cells slots ls' hM hl
  case ifnull off =>
    obtain ⟨hw1, hw2⟩ := Bool.and_eq_true_iff.mp hw
    obtain ⟨q1, hn⟩ := jx_seq_spec hw1
    have q1 : len = 3 := q1
    subst q1
    obtain ⟨r2, hr2, ht⟩ := jx_to_spec hw2
    have hr2 : code[x]? = some r2 := hr2
    have ht : (pc : Int) + off = (r2.pc : Int) := ht
    rcases jx_nl_some hh with ⟨a, t, rfl, hh⟩ | ⟨t, rfl, hh⟩
    · exact lv_ifnull hx hb hdec (hK _ hh _ hn H locs cells slots ls' hM hl)
    · exact lv_ifnullN hx hb hdec ht (hK _ hh _ ⟨r2, hr2, rfl⟩ H locs cells slots ls' hM hl)
  case ifnonnull off =>
    obtain ⟨hw1, hw2⟩ := Bool.and_eq_true_iff.mp hw
    obtain ⟨q1, hn⟩ := jx_seq_spec hw1
    have q1 : len = 3 := q1
    subst q1
    obtain ⟨r2, hr2, ht⟩ := jx_to_spec hw2
    have hr2 : code[x]? = some r2 := hr2
    have ht : (pc : Int) + off = (r2.pc : Int) := ht
    rcases jx_nl_some hh with ⟨a, t, rfl, hh⟩ | ⟨t, rfl, hh⟩
    · exact lv_ifnonnull hx hb hdec ht (hK _ hh _ ⟨r2, hr2, rfl⟩ H locs cells slots ls' hM hl)
    · exact lv_ifnonnullN hx hb hdec (hK _ hh _ hn H locs cells slots ls' hM hl)
  case goto off =>
    obtain ⟨hw1, hw2⟩ := Bool.and_eq_true_iff.mp hw
    have q1 : len = 3 := of_decide_eq_true hw1
    subst q1
    obtain ⟨r2, hr2, ht⟩ := jx_to_spec hw2
    exact lv_goto hx hb hdec ht (hK _ hh _ ⟨r2, hr2, rfl⟩ H locs cells slots ls' hM hl)
  case tableswitch dd lo hi offs =>
    obtain ⟨hw1, hw2⟩ := Bool.and_eq_true_iff.mp hw
    obtain ⟨hw2, hw3⟩ := Bool.and_eq_true_iff.mp hw2
    obtain ⟨hw3, hw4⟩ := Bool.and_eq_true_iff.mp hw3
    obtain ⟨b1, b2, b3, b4⟩ := of_decide_eq_true hw2
    have b3 : hi - lo + 1 = (ts.length : Int) := b3
    have b4 : v = Int32.ofInt lo := b4
    have b5 : offs.size = ts.length := of_decide_eq_true hw3
    obtain ⟨a, t, rfl, hh⟩ := jx_1_some hh
    obtain ⟨lo', rfl⟩ : ∃ n : Nat, lo = (n : Int) := ⟨lo.toNat, by omega⟩
    have b4 : v = nI lo' := b4
    have hT : ∀ j, j < ts.length → (nI lo' + nI j).toInt = (lo' : Int) + j := fun j hj => by
      rw [nI_add, nI_toInt (by omega)]
      omega
    rcases jx_sw_find _ _ hh with ⟨j, tg, g1, g2, g3⟩ | ⟨g1, g2⟩
    · have hj : j < ts.length := (List.getElem?_eq_some_iff.mp g1).1
      have g2 : a = v + nI j := g2
      have hj2 : j < offs.toList.length := by rw [Array.length_toList, b5]; exact hj
      have hz : (offs.toList.zip ts)[j]? = some (offs.toList[j], tg) := by
        rw [List.getElem?_zip_eq_some]
        exact ⟨List.getElem?_eq_getElem hj2, g1⟩
      obtain ⟨r2, hr2, ht⟩ := jx_to_spec (List.all_eq_true.mp hw4 _ (List.mem_of_getElem? hz))
      have hai : a.toInt = (lo' : Int) + j := by rw [g2, b4]; exact hT j hj
      refine lv_tableIn (off := offs.toList[j]) (tgt := r2.pc) hx hb hdec (by omega) (by omega) ?_ ht (hK _ g3 _ ⟨r2, hr2, rfl⟩ H locs cells slots ls' hM hl)
      have e2 : (a.toInt - (lo' : Int)).toNat = j := by omega
      rw [e2, ← Array.getElem?_toList]
      exact List.getElem?_eq_getElem hj2
    · obtain ⟨r2, hr2, ht⟩ := jx_to_spec hw1
      refine lv_tableOut (tgt := r2.pc) hx hb hdec ?_ ht (hK _ g2 _ ⟨r2, hr2, rfl⟩ H locs cells slots ls' hM hl)
      rcases Int.lt_or_le a.toInt (lo' : Int) with q | q
      · exact Or.inl q
      · rcases Int.lt_or_le hi a.toInt with q2 | q2
        · exact Or.inr q2
        · exfalso
          have hj : (a.toInt - lo').toNat < ts.length := by omega
          refine g1 _ hj (Int32.toInt_inj.mp ?_)
          show a.toInt = (v + nI _).toInt
          rw [b4, hT _ hj]
          omega
  case getfield ix =>
    obtain ⟨hw1, hw2⟩ := Bool.and_eq_true_iff.mp hw
    obtain ⟨q1, hn⟩ := jx_seq_spec hw1
    have q1 : len = 3 := q1
    subst q1
    have hw2 : jx_hf own ix x y = true := hw2
    obtain ⟨a, t, rfl, hh⟩ := jx_r_some hh
    rcases z with _ | _ | z
    · obtain ⟨q, hq, hh⟩ := jx_bind_some hh
      obtain ⟨fs, f1, f2⟩ := jx_gI_inv hq
      exact jx_getf hx hb hown hts hWd hM.1 f1 f2 hw2 hdec (hK _ hh _ hn H locs cells slots ls' hM hl)
    · obtain ⟨q, hq, hh⟩ := jx_bind_some hh
      obtain ⟨fs, f1, f2⟩ := jx_gL_inv hq
      exact jx_getf hx hb hown hts hWd hM.1 f1 f2 hw2 hdec (hK _ hh _ hn H locs cells slots ls' hM hl)
    · obtain ⟨q, hq, hh⟩ := jx_bind_some hh
      obtain ⟨fs, f1, f2⟩ := jx_gR_inv hq
      exact jx_getf hx hb hown hts hWd hM.1 f1 f2 hw2 hdec (hK _ hh _ hn H locs cells slots ls' hM hl)
  case putfield ix =>
    obtain ⟨hw1, hw2⟩ := Bool.and_eq_true_iff.mp hw
    obtain ⟨q1, hn⟩ := jx_seq_spec hw1
    have q1 : len = 3 := q1
    subst q1
    obtain ⟨hw2, hw3⟩ := Bool.and_eq_true_iff.mp hw2
    obtain ⟨hw3, hw4⟩ := Bool.and_eq_true_iff.mp hw3
    have hw2 : jx_hf own ix x y = true := hw2
    have hw3 : jx_zty z (jx_fty x y) = true := hw3
    have hw4 : jx_fin ini own ix x y = true := hw4
    have hh0 : jx_pv z st (fun v a t => (jx_pF (jx_at h a) x y v).bind fun e => K (i + 1, ls, t, jx_set h a e)) = some res := hh
    clear hh
    obtain ⟨q, a, t, rfl, hz, hh⟩ := jx_pv_some hh0
    clear hh0
    obtain ⟨en, he, hh⟩ := jx_bind_some hh
    obtain ⟨fs, f1, f2, rfl⟩ := jx_pF_inv he
    have hnf : narrow (jx_fty x y) (jx_cv bs rom q) = jx_cv bs rom q ∧ fits (jx_fty x y) (jx_cv bs rom q) = true := by
      rcases hz with ⟨h0, k, rfl⟩ | ⟨h0, k, rfl⟩ | ⟨h0, k, rfl⟩ | ⟨h0, k, hk, rfl⟩
      · subst h0
        rw [of_decide_eq_true hw3]
        exact ⟨rfl, rfl⟩
      · subst h0
        rw [of_decide_eq_true hw3]
        exact ⟨rfl, rfl⟩
      · subst h0
        have hw3 : jx_isRef (jx_fty x y) = true := hw3
        cases hty : jx_fty x y <;> rw [hty] at hw3 <;> first | (cases hw3; done) | exact ⟨rfl, rfl⟩
      · obtain ⟨z', rfl⟩ : ∃ z', z = z' + 3 := ⟨z - 3, by omega⟩
        rw [of_decide_eq_true hw3]
        unfold jx_bool at hk
        rw [Bool.or_eq_true, beq_iff_eq, beq_iff_eq] at hk
        rcases hk with rfl | rfl
        · exact ⟨(by decide : narrow FieldType.boolean (Value.int 0) = Value.int 0), (by decide : fits FieldType.boolean (Value.int 0) = true)⟩
        · exact ⟨(by decide : narrow FieldType.boolean (Value.int 1) = Value.int 1), (by decide : fits FieldType.boolean (Value.int 1) = true)⟩
    exact jx_putf hx hb hown hts hWd hini hM f1 f2 hw2 hw4 hnf.1 hnf.2 hdec (fun H1 locs1 hM1 => hK _ hh _ hn H1 locs1 cells slots ls' hM1 hl)
  case getstatic ix =>
    obtain ⟨hw1, hw2⟩ := Bool.and_eq_true_iff.mp hw
    obtain ⟨q1, hn⟩ := jx_seq_spec hw1
    have q1 : len = 3 := q1
    subst q1
    obtain ⟨hw2, hw3⟩ := Bool.and_eq_true_iff.mp hw2
    obtain ⟨k1, k3⟩ := of_decide_eq_true hw3
    exact va_gets hx hb (hWd.2.2.2.2.2 x k1 k3) hM.2.1 hown (hts _ (jx_sl_spec hw2)) (fun _ q => q) hdec (hK _ hh _ hn H locs cells slots ls' hM hl)
  case iaload =>
    obtain ⟨q1, hn⟩ := jx_seq_spec hw
    have q1 : len = 1 := q1
    subst q1
    rcases jx_ir_some hh with ⟨k, a, t, rfl, hh⟩ | ⟨k, a, t, rfl, hh⟩
    · obtain ⟨q, hq, hh⟩ := jx_bind_some hh
      obtain ⟨n, g, f1, f2, rfl⟩ := jx_aI_inv hq
      exact va_iald hx hb hWd.1 hM.1.1 a 0 (f := g) (jx_hasCell hM.1 f1).2 rfl f2 hdec (hK _ hh _ hn H locs cells slots ls' hM hl)
    · rcases jx_if_some hh with ⟨hq, hh⟩ | ⟨hq, hh⟩
      · cases hh
      · have hq : jx_out k (rc a).1 = false := by simpa using hq
        obtain ⟨x1, x2⟩ := hWd.2.2.2.2.1 a
        exact va_ti hx hb x2 hM.2.1 (jx_out_in hq) rfl hdec (hK _ hh _ hn H locs cells slots ls' hM hl)
  case baload =>
    obtain ⟨q1, hn⟩ := jx_seq_spec hw
    have q1 : len = 1 := q1
    subst q1
    obtain ⟨k, a, t, rfl, hh⟩ := jx_ia_some hh
    by_cases h2 : z = 2
    · subst h2
      obtain ⟨q, hq, hh⟩ := jx_bind_some hh
      obtain ⟨n, g, f1, f2, rfl⟩ := jx_aI_inv hq
      exact va_bald hx hb hWd.1 hM.1.1 a 2 (f := fun j => (g j).toInt8.toInt32) (jx_hasCell hM.1 f1).2 rfl f2 hdec (hK _ hh _ hn H locs cells slots ls' hM hl)
    · have hh : (jx_aI (jx_at h a) 3 k).bind (fun v => K (i + 1, ls, .int v :: t, h)) = some res := by
        rw [← hh]
        rcases z with _ | _ | _ | z <;> first | rfl | exact absurd rfl h2
      obtain ⟨q, hq, hh⟩ := jx_bind_some hh
      obtain ⟨n, g, f1, f2, rfl⟩ := jx_aI_inv hq
      exact va_zald hx hb hWd.1 hM.1.1 a 3 (f := g) (jx_hasCell hM.1 f1).2 rfl f2 hdec (hK _ hh _ hn H locs cells slots ls' hM hl)
  case laload =>
    obtain ⟨q1, hn⟩ := jx_seq_spec hw
    have q1 : len = 1 := q1
    subst q1
    obtain ⟨k, a, t, rfl, hh⟩ := jx_ia_some hh
    obtain ⟨q, hq, hh⟩ := jx_bind_some hh
    obtain ⟨n, g, f1, f2, rfl⟩ := jx_aL_inv hq
    exact va_lald hx hb hWd.1 hM.1.1 a 1 (f := g) (jx_hasCell hM.1 f1).2 rfl f2 hdec (hK _ hh _ hn H locs cells slots ls' hM hl)
  case aaload =>
    obtain ⟨hw1, hw2⟩ := Bool.and_eq_true_iff.mp hw
    obtain ⟨q1, hn⟩ := jx_seq_spec hw1
    have q1 : len = 1 := q1
    subst q1
    obtain ⟨z4, z8⟩ := of_decide_eq_true hw2
    obtain ⟨k, a, t, rfl, hh⟩ := jx_ia_some hh
    obtain ⟨q, hq, hh⟩ := jx_bind_some hh
    obtain ⟨n, g, f1, f2, rfl⟩ := jx_aQ_inv hq
    have hh1 := jx_ov_some hh
    have hkk0 := hK _ hh1 _ hn H locs cells slots ls' hM hl
    have hkk : W p l e R s m args below meth c H locs cells slots Q (F0 m (pc + 1) ls' (jx_cv bs rom (va_rf (g k.toNatClampNeg)) :: t.map (jx_cv bs rom))) := hkk0
    clear hkk0
    rw [jx_cv_rf] at hkk
    have hc := (jx_hasCell hM.1 f1).2
    rcases (show z = 4 ∨ z = 5 ∨ z = 6 ∨ z = 7 ∨ z = 8 from by have : 4 ≤ z := z4; have : z ≤ 8 := z8; omega) with rfl | rfl | rfl | rfl | rfl
    · exact jx_aald hx hb hWd.1 hM.1.1 a 4 (f := fun j => (g j).map (fun a => bs + a)) hc rfl rfl f2 hdec hkk
    · exact jx_aald hx hb hWd.1 hM.1.1 a 5 (f := fun j => (g j).map (fun a => bs + a)) hc rfl rfl f2 hdec hkk
    · exact jx_aald hx hb hWd.1 hM.1.1 a 6 (f := fun j => (g j).map (fun a => bs + a)) hc rfl rfl f2 hdec hkk
    · exact jx_aald hx hb hWd.1 hM.1.1 a 7 (f := fun j => (g j).map (fun a => bs + a)) hc rfl rfl f2 hdec hkk
    · exact jx_aald hx hb hWd.1 hM.1.1 a 8 (f := fun j => (g j).map (fun a => bs + a)) hc rfl rfl f2 hdec hkk
  case aastore =>
    obtain ⟨hw1, hw2⟩ := Bool.and_eq_true_iff.mp hw
    obtain ⟨q1, hn⟩ := jx_seq_spec hw1
    have q1 : len = 1 := q1
    subst q1
    have hz : (z = 4 ∧ x = 1) ∨ (z = 5 ∧ x = 4) ∨ (z = 6 ∧ x = 6) ∨ (z = 7 ∧ x = 8) := of_decide_eq_true hw2
    rcases jx_vsQ_some hh with ⟨q, k, a, t, rfl, hh⟩ | ⟨k, a, t, rfl, hh⟩
    · rcases jx_if_some hh with ⟨hq, hh⟩ | ⟨hq, hh⟩
      · obtain ⟨en, he, hh⟩ := jx_bind_some hh
        obtain ⟨n, g, f1, f2, rfl⟩ := jx_sQ_inv he
        obtain ⟨g1, g2⟩ := jx_hasCell hM.1 f1
        obtain ⟨fs, hv⟩ := jx_is_inv hq
        have hv2 := hM.1.at hv (by simp)
        have hkk := jx_fin_set (p := p) (l := l) (e := e) (R := R) (args := args) (below := below) (meth := meth) (c := c) (Q := Q) (m := m) (g := F0 m (pc + 1) ls' (t.map (jx_cv bs rom))) hM g1 (fun H1 locs1 hM1 => hK _ hh _ hn H1 locs1 cells slots ls' hM1 hl)
        rw [jx_cvE_upQ] at hkk
        rcases hz with ⟨rfl, rfl⟩ | ⟨rfl, rfl⟩ | ⟨rfl, rfl⟩ | ⟨rfl, rfl⟩
        · exact va_astq hx hb hWd.1 hM.1.1 jx_ws_D (jx_S0 hM) a 4 q 1 (r := (RX1, TX1, 3)) g2 rfl hv2 rfl f2 hdec hkk
        · exact va_astq hx hb hWd.1 hM.1.1 jx_ws_D (jx_S0 hM) a 5 q 4 (r := (RX4, TX4, 2)) g2 rfl hv2 rfl f2 hdec hkk
        · exact va_astq hx hb hWd.1 hM.1.1 jx_ws_D (jx_S0 hM) a 6 q 6 (r := (RX6, TX6, 7)) g2 rfl hv2 rfl f2 hdec hkk
        · exact va_astq hx hb hWd.1 hM.1.1 jx_ws_D (jx_S0 hM) a 7 q 8 (r := (RX8, TX8, 2)) g2 rfl hv2 rfl f2 hdec hkk
      · cases hh
    · obtain ⟨en, he, hh⟩ := jx_bind_some hh
      obtain ⟨n, g, f1, f2, rfl⟩ := jx_sQ_inv he
      obtain ⟨g1, g2⟩ := jx_hasCell hM.1 f1
      have hkk := jx_fin_set (p := p) (l := l) (e := e) (R := R) (args := args) (below := below) (meth := meth) (c := c) (Q := Q) (m := m) (g := F0 m (pc + 1) ls' (t.map (jx_cv bs rom))) hM g1 (fun H1 locs1 hM1 => hK _ hh _ hn H1 locs1 cells slots ls' hM1 hl)
      rw [jx_cvE_upN] at hkk
      rcases hz with ⟨rfl, rfl⟩ | ⟨rfl, rfl⟩ | ⟨rfl, rfl⟩ | ⟨rfl, rfl⟩
      · exact va_astqN hx hb hWd.1 hM.1.1 jx_ws_D (jx_S0 hM) a 4 g2 rfl f2 hdec hkk
      · exact va_astqN hx hb hWd.1 hM.1.1 jx_ws_D (jx_S0 hM) a 5 g2 rfl f2 hdec hkk
      · exact va_astqN hx hb hWd.1 hM.1.1 jx_ws_D (jx_S0 hM) a 6 g2 rfl f2 hdec hkk
      · exact va_astqN hx hb hWd.1 hM.1.1 jx_ws_D (jx_S0 hM) a 7 g2 rfl f2 hdec hkk
  case arraylength =>
    obtain ⟨q1, hn⟩ := jx_seq_spec hw
    have q1 : len = 1 := q1
    subst q1
    rcases jx_rr_some hh with ⟨a, t, rfl, hh⟩ | ⟨a, t, rfl, hh⟩
    · obtain ⟨n, hq, hh⟩ := jx_bind_some hh
      obtain ⟨tg, g, f1, f2⟩ := jx_len_inv hq
      have hty : (jx_tys tc)[tg]? = some (tc tg, jx_ty tg) := jx_tys_at f2
      exact va_alen hx hb hWd.1 hM.1.1 a tg (jx_hasCell hM.1 f1).2 hty rfl hdec (hK _ hh _ hn H locs cells slots ls' hM hl)
    · obtain ⟨x1, x2⟩ := hWd.2.2.2.2.1 a
      exact va_tlen hx hb x2 hM.2.1 rfl hdec (hK _ hh _ hn H locs cells slots ls' hM hl)
  case new ix =>
    obtain ⟨hw1, hw2⟩ := Bool.and_eq_true_iff.mp hw
    obtain ⟨q1, hn⟩ := jx_seq_spec hw1
    have q1 : len = 3 := q1
    subst q1
    obtain ⟨hw2, hw3⟩ := Bool.and_eq_true_iff.mp hw2
    obtain ⟨r, hr1, c1, c2, c3⟩ := jx_hc_spec hw2
    have hr1 : vwCl[x]? = some r := hr1
    have hw3 : (vwCl[x]?.map (fun q => q.2.2)) = some y := of_decide_eq_true hw3
    rw [hr1] at hw3
    have hy : r.2.2 = y := Option.some.inj hw3
    subst hy
    have hle : jx_le (jx_new h r.2.2 (.inl (x, jx_dflt x))) res.2 := hKg _ hh
    have l1 : h.1 + 1 ≤ res.2.1 := hle.1
    have l2 : h.2.1 + r.2.2 ≤ res.2.2.1 := hle.2
    obtain ⟨m1, m2, m3, m4, m5⟩ := id hM
    have hkk := jx_fin_new (p := p) (l := l) (e := e) (R := R) (args := args) (below := below) (meth := meth) (c := c) (Q := Q) (m := m) (n := r.2.2) (en := .inl (x, jx_dflt x)) (g := fun q => F0 m (pc + 3) ls' (.ref q :: st.map (jx_cv bs rom))) hM (fun H1 hM1 => hK _ hh _ hn H1 locs (cells + 1) _ ls' hM1 hl)
    rw [show jx_cvE bs rom tc (.inl (x, jx_dflt x)) = .inr (x, jx_dflt x) from by show Sum.inr (x, (jx_dflt x).map (jx_cv bs rom)) = _; rw [jx_dflt_cv]] at hkk
    exact va_new hx hb hts (jx_lay_in hr1) (jx_fty x) (jx_cls_ok hr1).1 hown (hts _ c1) (hts _ c2) (hts _ c3) hWd.1 hM.1.1 jx_ws_D (jx_S0 hM) (jx_A0 hM) hr1 (jx_dflt_ok hr1).2 (by omega) (by omega) hdec hkk
  case newarray a =>
    obtain ⟨hw1, hw2⟩ := Bool.and_eq_true_iff.mp hw
    obtain ⟨q1, hn⟩ := jx_seq_spec hw1
    have q1 : len = 2 := q1
    subst q1
    have hw2 : jx_at4 a x = true := hw2
    obtain ⟨n, t, rfl, hh⟩ := jx_1_some hh
    rcases jx_if_some hh with ⟨hq, hh⟩ | ⟨hq, hh⟩
    · cases hh
    · obtain ⟨n1, n2⟩ := not_or.mp hq
      obtain ⟨j, hj, rfl⟩ := nI_of2 (M := 5000) (n := 5000) (by decide) n1 (by simpa using n2)
      rw [nI_clamp (by omega)] at hh
      have hle := hKg _ hh
      have l1 : h.1 + 1 ≤ res.2.1 := hle.1
      have l2 : h.2.1 + j ≤ res.2.2.1 := hle.2
      obtain ⟨m1, m2, m3, m4, m5⟩ := id hM
      cases a <;> first | (cases hw2; done) | skip
      case boolean =>
        cases (of_decide_eq_true hw2 : x = 3)
        exact va_newa (atype := .boolean) (ty := .boolean) (a0 := (j, .inl (fun _ => 0))) hx hb (hts _ (jx_arr_in 3 rfl)) rfl hWd.1 hM.1.1 jx_ws_D (jx_S0 hM) (jx_A0 hM) (fun _ => rfl) (by simpa using n1) (nI_clamp (by omega)) (by show j * 1 ≤ _; omega) (by omega) (by omega) hdec (fun q cA H1 hK1 hP1 hD1 hS1 => by
          cases jx_arr_same (t := 3) (by omega) hWd.1 hK1
          exact jx_fin_new (n := j) (en := jxI 3 j (fun _ => 0)) (g := fun q => F0 m (pc + 2) ls' (.ref q :: t.map (jx_cv bs rom))) hM (fun H1 hM1 => hK _ hh _ hn H1 locs (cells + 1) _ ls' hM1 hl) q H1 hP1 hD1 hS1)
      case byte =>
        cases (of_decide_eq_true hw2 : x = 2)
        exact va_newa (atype := .byte) (ty := .byte) (a0 := (j, .inl (fun _ => 0))) hx hb (hts _ (jx_arr_in 2 rfl)) rfl hWd.1 hM.1.1 jx_ws_D (jx_S0 hM) (jx_A0 hM) (fun _ => rfl) (by simpa using n1) (nI_clamp (by omega)) (by show j * 1 ≤ _; omega) (by omega) (by omega) hdec (fun q cA H1 hK1 hP1 hD1 hS1 => by
          cases jx_arr_same (t := 2) (by omega) hWd.1 hK1
          exact jx_fin_new (n := j) (en := jxI 2 j (fun _ => 0)) (g := fun q => F0 m (pc + 2) ls' (.ref q :: t.map (jx_cv bs rom))) hM (fun H1 hM1 => hK _ hh _ hn H1 locs (cells + 1) _ ls' hM1 hl) q H1 hP1 hD1 hS1)
      case int =>
        cases (of_decide_eq_true hw2 : x = 0)
        exact va_newa (atype := .int) (ty := .int) (a0 := (j, .inl (fun _ => 0))) hx hb (hts _ (jx_arr_in 0 rfl)) rfl hWd.1 hM.1.1 jx_ws_D (jx_S0 hM) (jx_A0 hM) (fun _ => rfl) (by simpa using n1) (nI_clamp (by omega)) (by show j * 4 ≤ _; omega) (by omega) (by omega) hdec (fun q cA H1 hK1 hP1 hD1 hS1 => by
          cases jx_arr_same (t := 0) (by omega) hWd.1 hK1
          exact jx_fin_new (n := j) (en := jxI 0 j (fun _ => 0)) (g := fun q => F0 m (pc + 2) ls' (.ref q :: t.map (jx_cv bs rom))) hM (fun H1 hM1 => hK _ hh _ hn H1 locs (cells + 1) _ ls' hM1 hl) q H1 hP1 hD1 hS1)
      case long =>
        cases (of_decide_eq_true hw2 : x = 1)
        exact va_newa (atype := .long) (ty := .long) (a0 := (j, .inr (.inl (fun _ => 0)))) hx hb (hts _ (jx_arr_in 1 rfl)) rfl hWd.1 hM.1.1 jx_ws_D (jx_S0 hM) (jx_A0 hM) (fun _ => rfl) (by simpa using n1) (nI_clamp (by omega)) (by show j * 8 ≤ _; omega) (by omega) (by omega) hdec (fun q cA H1 hK1 hP1 hD1 hS1 => by
          cases jx_arr_same (t := 1) (by omega) hWd.1 hK1
          exact jx_fin_new (n := j) (en := jxL j (fun _ => 0)) (g := fun q => F0 m (pc + 2) ls' (.ref q :: t.map (jx_cv bs rom))) hM (fun H1 hM1 => hK _ hh _ hn H1 locs (cells + 1) _ ls' hM1 hl) q H1 hP1 hD1 hS1)
  case anewarray ix =>
    obtain ⟨hw1, hw2⟩ := Bool.and_eq_true_iff.mp hw
    obtain ⟨q1, hn⟩ := jx_seq_spec hw1
    have q1 : len = 3 := q1
    subst q1
    obtain ⟨n, t, rfl, hh⟩ := jx_1_some hh
    rcases jx_if_some hh with ⟨hq, hh⟩ | ⟨hq, hh⟩
    · cases hh
    · obtain ⟨n1, n2⟩ := not_or.mp hq
      obtain ⟨j, hj, rfl⟩ := nI_of2 (M := 5000) (n := 5000) (by decide) n1 (by simpa using n2)
      rw [nI_clamp (by omega)] at hh
      have hle := hKg _ hh
      have l1 : h.1 + 1 ≤ res.2.1 := hle.1
      have l2 : h.2.1 + j ≤ res.2.2.1 := hle.2
      obtain ⟨m1, m2, m3, m4, m5⟩ := id hM
      simp only [Bool.or_eq_true, Bool.and_eq_true, decide_eq_true_eq] at hw2
      rcases hw2 with (⟨e1, h1⟩ | ⟨e1, h1⟩ | ⟨e1, h1⟩) | ⟨e1, h1⟩
      · have e1 : x = 4 := e1
        subst e1
        obtain ⟨r, hr1, c1, -, -⟩ := jx_hc_spec h1
        cases hr1
        exact va_newq (C := "RoomTrees$Forest") hx hb hown (hts _ c1) hWd.2.2.1.1 hWd.1 hM.1.1 jx_ws_D (jx_S0 hM) (jx_A0 hM) (by simpa using n1) (nI_clamp (by omega)) (by omega) (by omega) (by omega) hdec (fun q cA H1 hK1 hP1 hD1 hS1 => by
          cases jx_arr_same (t := 4) (by omega) hWd.1 hK1
          exact jx_fin_new (n := j) (en := jxQ 4 j (fun _ => none)) (g := fun q => F0 m (pc + 3) ls' (.ref q :: t.map (jx_cv bs rom))) hM (fun H1 hM1 => hK _ hh _ hn H1 locs (cells + 1) _ ls' hM1 hl) q H1 hP1 hD1 hS1)
      · have e1 : x = 6 := e1
        subst e1
        obtain ⟨r, hr1, c1, -, -⟩ := jx_hc_spec h1
        cases hr1
        exact va_newq (C := "RoomTrees$Step") hx hb hown (hts _ c1) hWd.2.2.1.2.2.1 hWd.1 hM.1.1 jx_ws_D (jx_S0 hM) (jx_A0 hM) (by simpa using n1) (nI_clamp (by omega)) (by omega) (by omega) (by omega) hdec (fun q cA H1 hK1 hP1 hD1 hS1 => by
          cases jx_arr_same (t := 6) (by omega) hWd.1 hK1
          exact jx_fin_new (n := j) (en := jxQ 6 j (fun _ => none)) (g := fun q => F0 m (pc + 3) ls' (.ref q :: t.map (jx_cv bs rom))) hM (fun H1 hM1 => hK _ hh _ hn H1 locs (cells + 1) _ ls' hM1 hl) q H1 hP1 hD1 hS1)
      · have e1 : x = 7 := e1
        subst e1
        obtain ⟨r, hr1, c1, -, -⟩ := jx_hc_spec h1
        cases hr1
        exact va_newq (C := "RoomTrees$Text") hx hb hown (hts _ c1) hWd.2.2.1.2.2.2.1 hWd.1 hM.1.1 jx_ws_D (jx_S0 hM) (jx_A0 hM) (by simpa using n1) (nI_clamp (by omega)) (by omega) (by omega) (by omega) hdec (fun q cA H1 hK1 hP1 hD1 hS1 => by
          cases jx_arr_same (t := 7) (by omega) hWd.1 hK1
          exact jx_fin_new (n := j) (en := jxQ 7 j (fun _ => none)) (g := fun q => F0 m (pc + 3) ls' (.ref q :: t.map (jx_cv bs rom))) hM (fun H1 hM1 => hK _ hh _ hn H1 locs (cells + 1) _ ls' hM1 hl) q H1 hP1 hD1 hS1)
      · have e1 : x = 5 := e1
        subst e1
        obtain ⟨r, hr1, c1, -, -⟩ := jx_hc_spec h1
        cases hr1
        exact va_newq (C := "RoomTrees$Sheet") hx hb hown (hts _ c1) hWd.2.2.1.2.1 hWd.1 hM.1.1 jx_ws_D (jx_S0 hM) (jx_A0 hM) (by simpa using n1) (nI_clamp (by omega)) (by omega) (by omega) (by omega) hdec (fun q cA H1 hK1 hP1 hD1 hS1 => by
          cases jx_arr_same (t := 5) (by omega) hWd.1 hK1
          exact jx_fin_new (n := j) (en := jxQ 5 j (fun _ => none)) (g := fun q => F0 m (pc + 3) ls' (.ref q :: t.map (jx_cv bs rom))) hM (fun H1 hM1 => hK _ hh _ hn H1 locs (cells + 1) _ ls' hM1 hl) q H1 hP1 hD1 hS1)
  case iastore =>
    obtain ⟨q1, hn⟩ := jx_seq_spec hw
    have q1 : len = 1 := q1
    subst q1
    obtain ⟨q, k, a, t, rfl, hh⟩ := jx_vs_some hh
    obtain ⟨en, he, hh⟩ := jx_bind_some hh
    obtain ⟨n, g, f1, f2, rfl⟩ := jx_sI_inv he
    obtain ⟨g1, g2⟩ := jx_hasCell hM.1 f1
    exact va_iast hx hb hWd.1 hM.1.1 jx_ws_D (jx_S0 hM) a 0 (f := g) g2 rfl f2 hdec (jx_fin_set hM g1 (fun H1 locs1 hM1 => hK _ hh _ hn H1 locs1 cells slots ls' hM1 hl))
  case bastore =>
    obtain ⟨q1, hn⟩ := jx_seq_spec hw
    have q1 : len = 1 := q1
    subst q1
    obtain ⟨q, k, a, t, rfl, hh⟩ := jx_vs_some hh
    by_cases h2 : z = 2
    · subst h2
      obtain ⟨en, he, hh⟩ := jx_bind_some hh
      obtain ⟨n, g, f1, f2, rfl⟩ := jx_sI_inv he
      obtain ⟨g1, g2⟩ := jx_hasCell hM.1 f1
      have hkk := jx_fin_set (p := p) (l := l) (e := e) (R := R) (args := args) (below := below) (meth := meth) (c := c) (Q := Q) (m := m) (g := F0 m (pc + 1) ls' (t.map (jx_cv bs rom))) hM g1 (fun H1 locs1 hM1 => hK _ hh _ hn H1 locs1 cells slots ls' hM1 hl)
      have e1 : jx_cvE bs rom tc (.inr (.inl (2, n, .inl (upd g k.toNatClampNeg q.toInt8.toInt32)))) = .inl (tc 2, n, .inl (upd (fun j => (g j).toInt8.toInt32) k.toNatClampNeg (vp_nar .byte q))) := by
        rw [← jx_updcv]
        rfl
      rw [e1] at hkk
      exact va_bast hx hb hWd.1 hM.1.1 jx_ws_D (jx_S0 hM) a 2 (f := fun j => (g j).toInt8.toInt32) g2 rfl f2 hdec hkk
    · have hh : (if jx_bool q = true then (jx_sI (jx_at h a) 3 k q).bind (fun e => K (i + 1, ls, t, jx_set h a e)) else none) = some res := by
        rw [← hh]
        rcases z with _ | _ | _ | z <;> first | rfl | exact absurd rfl h2
      rcases jx_if_some hh with ⟨hq, hh⟩ | ⟨hq, hh⟩
      · obtain ⟨en, he, hh⟩ := jx_bind_some hh
        obtain ⟨n, g, f1, f2, rfl⟩ := jx_sI_inv he
        obtain ⟨g1, g2⟩ := jx_hasCell hM.1 f1
        have hkk := jx_fin_set (p := p) (l := l) (e := e) (R := R) (args := args) (below := below) (meth := meth) (c := c) (Q := Q) (m := m) (g := F0 m (pc + 1) ls' (t.map (jx_cv bs rom))) hM g1 (fun H1 locs1 hM1 => hK _ hh _ hn H1 locs1 cells slots ls' hM1 hl)
        have e2 : vp_nar .boolean q = q := by
          unfold jx_bool at hq
          rw [Bool.or_eq_true, beq_iff_eq, beq_iff_eq] at hq
          rcases hq with rfl | rfl <;> decide
        have e1 : jx_cvE bs rom tc (.inr (.inl (3, n, .inl (upd g k.toNatClampNeg q)))) = .inl (tc 3, n, .inl (upd g k.toNatClampNeg (vp_nar .boolean q))) := by
          rw [e2]
          rfl
        rw [e1] at hkk
        exact va_zast hx hb hWd.1 hM.1.1 jx_ws_D (jx_S0 hM) a 3 (f := g) g2 rfl f2 hdec hkk
      · cases hh
  case lastore =>
    obtain ⟨q1, hn⟩ := jx_seq_spec hw
    have q1 : len = 1 := q1
    subst q1
    obtain ⟨q, k, a, t, rfl, hh⟩ := jx_vsL_some hh
    obtain ⟨en, he, hh⟩ := jx_bind_some hh
    obtain ⟨n, g, f1, f2, rfl⟩ := jx_sL_inv he
    obtain ⟨g1, g2⟩ := jx_hasCell hM.1 f1
    exact va_last hx hb hWd.1 hM.1.1 jx_ws_D (jx_S0 hM) a 1 (f := g) g2 rfl f2 hdec (jx_fin_set hM g1 (fun H1 locs1 hM1 => hK _ hh _ hn H1 locs1 cells slots ls' hM1 hl))
  case multianewarray ix dd =>
    obtain ⟨hw1, hw2⟩ := Bool.and_eq_true_iff.mp hw
    obtain ⟨q1, hn⟩ := jx_seq_spec hw1
    have q1 : len = 4 := q1
    subst q1
    obtain ⟨hd, hl1⟩ := Bool.and_eq_true_iff.mp hw2
    cases (of_decide_eq_true hd : dd = 2)
    obtain ⟨q0, hq0, hd0⟩ := List.any_eq_true.mp hl1
    obtain ⟨d1, d2⟩ := of_decide_eq_true hd0
    have hcl := jx_okw_in (List.all_eq_true.mp jx_dl_ok q0 hq0)
    rw [d1, d2] at hcl
    obtain ⟨n, k, t, rfl, hh⟩ := jx_2_some hh
    rcases jx_if_some hh with ⟨hq, hh⟩ | ⟨hq, hh⟩
    · cases hh
    · obtain ⟨n1, hq⟩ := not_or.mp hq
      obtain ⟨n2, hq⟩ := not_or.mp hq
      obtain ⟨k1, k2⟩ := not_or.mp hq
      obtain ⟨j, hj, rfl⟩ := nI_of2 (M := 5000) (n := 5000) (by decide) n1 (by simpa using n2)
      obtain ⟨j2, hj2, rfl⟩ := nI_of2 (M := 5000) (n := 5000) (by decide) k1 (by simpa using k2)
      rw [nI_clamp (by omega), nI_clamp (by omega)] at hh
      have hle := hKg _ hh
      have l1 : h.1 + 1 + j ≤ res.2.1 := hle.1
      have l2 : h.2.1 + j + j * j2 ≤ res.2.2.1 := hle.2
      obtain ⟨m1, m2, m3, m4, m5⟩ := id hM
      exact jx_mna hx hb hown (hts _ hcl) (hts _ (jx_arr_in 0 rfl)) hWd hM (by omega) (by omega) (by omega) (by omega) hdec (fun H1 hM1 => hK _ hh _ hn H1 locs (cells + 1 + j) (slots + j + j * j2) ls' hM1 hl)
  case invokevirtual ix =>
    obtain ⟨hw1, hw2⟩ := Bool.and_eq_true_iff.mp hw
    obtain ⟨q1, hn⟩ := jx_seq_spec hw1
    have q1 : len = 3 := q1
    subst q1
    obtain ⟨hw2, hw3⟩ := Bool.and_eq_true_iff.mp hw2
    have hh0 : jx_call (y + 1) z st (fun as => c0 x as h) (fun st' h' => K (i + 1, ls, st', h')) = some res := hh
    clear hh
    have hh := hh0
    clear hh0
    obtain ⟨as, rest, v', h', a1, rfl, a3, hcall, hh, -, -⟩ := jx_call_some hh
    have hle : jx_le h' res.2 := hKg _ hh
    have l1 := hle.1
    have l2 := hle.2
    exact jx_do_call (ix := ix) hx hb hml hown hts hWd hd hdl hMet hM hl.1 hcall (hcg _ _ _ _ _ hcall) ⟨by omega, by omega⟩ hw2 a3 hdec a1 (Or.inr (Or.inl ⟨rfl, fun q hq => by have h3 := jx_mth_spec hw3 hq; obtain ⟨m1, m2, m3⟩ := of_decide_eq_true h3; exact ⟨congrArg (· + 1) m2, m3, m1⟩⟩)) (fun H1 locs1 cells1 slots1 hM1 => hK _ hh _ hn H1 locs1 cells1 slots1 ls' hM1 hl)
  case invokespecial ix =>
    obtain ⟨hw1, hw2⟩ := Bool.and_eq_true_iff.mp hw
    obtain ⟨q1, hn⟩ := jx_seq_spec hw1
    have q1 : len = 3 := q1
    subst q1
    by_cases h9 : z = 9
    · subst h9
      obtain ⟨a, t, rfl, hh⟩ := jx_r_some hh
      rcases jx_if_some hh with ⟨hq, hh⟩ | ⟨hq, hh⟩
      · have hs := jx_short_sum (bs := bs) (rom := rom) hq
        obtain ⟨o1, o2⟩ := Bool.and_eq_true_iff.mp jx_obj_ok
        exact W.objInit (g := F0 m pc ls' (.ref (bs + a) :: t.map (jx_cv bs rom))) (rest := t.map (jx_cv bs rom)) hx hb hown (hts _ (jx_ol_spec hw2)) (hts _ (jx_okw_in o1)) (hts _ (jx_okw_in o2)) rfl (by rw [hml]; exact hl.1) rfl hdec (by omega) (by show 2 * 0 + _ + 12 ≤ R.locals; omega) (hK _ hh _ hn H locs cells slots ls' hM hl)
      · cases hh
    · have e9 : jx_step rc jx_dflt c0 K (pc, .invokespecial ix, 3, (x, y, z), v, w, ts, lv) i ls st h = jx_call (y + 1) 0 st (fun as => c0 x as h) fun st' h' => K (i + 1, ls, st', h') := by
        unfold jx_step
        dsimp only
        split
        · rename_i q; exact absurd q h9
        · rfl
      rw [e9] at hh
      have hw2 : (jx_hm own ix x && jx_mth x (fun q => decide ((jx_miy q).name = "<init>" ∧ y = jx_min q ∧ jx_mio q ≠ none))) = true := by
        rw [← hw2]
        show _ = if z = 9 then _ else _
        rw [if_neg h9]
      obtain ⟨hw2, hw3⟩ := Bool.and_eq_true_iff.mp hw2
      obtain ⟨as, rest, v', h', a1, rfl, a3, hcall, hh, -, -⟩ := jx_call_some hh
      have hle : jx_le h' res.2 := hKg _ hh
      have l1 := hle.1
      have l2 := hle.2
      exact jx_do_call (ix := ix) hx hb hml hown hts hWd hd hdl hMet hM hl.1 hcall (hcg _ _ _ _ _ hcall) ⟨by omega, by omega⟩ hw2 a3 hdec a1 (Or.inr (Or.inr ⟨rfl, fun q hq => by have h3 := jx_mth_spec hw3 hq; obtain ⟨m1, m2, m3⟩ := of_decide_eq_true h3; exact ⟨congrArg (· + 1) m2, m3, m1⟩⟩)) (fun H1 locs1 cells1 slots1 hM1 => hK _ hh _ hn H1 locs1 cells1 slots1 ls' hM1 hl)
  case invokestatic ix =>
    obtain ⟨hw1, hw2⟩ := Bool.and_eq_true_iff.mp hw
    obtain ⟨q1, hn⟩ := jx_seq_spec hw1
    have q1 : len = 3 := q1
    subst q1
    by_cases h9 : z = 9
    · subst h9
      obtain ⟨a, sp, b, dp, n, t, rfl, hh⟩ := jx_cps_some hh
      rcases jx_if_some hh with ⟨hq, hh⟩ | ⟨hq, hh⟩
      · obtain ⟨en, he, hh⟩ := jx_bind_some hh
        obtain ⟨hw3, hw4⟩ := Bool.and_eq_true_iff.mp hw2
        have hw4 : x = 0 ∨ x = 2 := of_decide_eq_true hw4
        have hs := jx_short_sum (bs := bs) (rom := rom) hq
        obtain ⟨n1, n2, f, g, f1, f2, b1, b2, b3, b4, b5, rfl⟩ := jx_cp_inv he
        obtain ⟨g1, g2⟩ := jx_hasCell hM.1 f1
        obtain ⟨g3, g4⟩ := jx_hasCell hM.1 f2
        obtain ⟨o1, o3⟩ := Bool.and_eq_true_iff.mp jx_sys_ok
        obtain ⟨o1, o2⟩ := Bool.and_eq_true_iff.mp o1
        have hkk := jx_fin_set (p := p) (l := l) (e := e) (R := R) (args := args) (below := below) (meth := meth) (c := c) (Q := Q) (m := m) (g := F0 m (pc + 3) ls' (t.map (jx_cv bs rom))) hM g3 (fun H1 locs1 hM1 => hK _ hh _ hn H1 locs1 cells slots ls' hM1 hl)
        have hlw : ((t.map (jx_cv bs rom)).map fun v => v.category).sum + (nativeFrameWords "java/lang/System" "arraycopy" 5 + 11) ≤ R.locals := by
          rw [show nativeFrameWords "java/lang/System" "arraycopy" 5 = 7 from by decide]
          omega
        rcases hw4 with rfl | rfl
        · exact va_copyi hx hb (hml.trans hl.1.symm) hown (hts _ (jx_al_spec hw3)) (hts _ (jx_okw_in o3)) (hts _ (jx_okw_in o1)) (hts _ (jx_okw_in o2)) hWd.1 hM.1.1 jx_ws_D (jx_S0 hM) a b 0 0 (f := f) (g := g) g2 g4 rfl rfl rfl b1 b2 b3 b4 b5 (fun _ _ => rfl) (by omega) hlw hdec hkk
        · rw [jx_cpcv] at hkk
          exact va_copyi hx hb (hml.trans hl.1.symm) hown (hts _ (jx_al_spec hw3)) (hts _ (jx_okw_in o3)) (hts _ (jx_okw_in o1)) (hts _ (jx_okw_in o2)) hWd.1 hM.1.1 jx_ws_D (jx_S0 hM) a b 2 2 (f := fun j => (f j).toInt8.toInt32) (g := fun j => (g j).toInt8.toInt32) g2 g4 rfl rfl rfl b1 b2 b3 b4 b5 (fun _ _ => pk_fb _) (by omega) hlw hdec hkk
      · cases hh
    · have e9 : jx_step rc jx_dflt c0 K (pc, .invokestatic ix, 3, (x, y, z), v, w, ts, lv) i ls st h = jx_call y z st (fun as => c0 x as h) fun st' h' => K (i + 1, ls, st', h') := by
        unfold jx_step
        dsimp only
        split
        · rename_i q; exact absurd q h9
        · rfl
      rw [e9] at hh
      have hw2 : (jx_hm own ix x && jx_mth x (fun q => decide (y = jx_min q ∧ jx_mio q = none))) = true := by
        rw [← hw2]
        show _ = if z = 9 then _ else _
        rw [if_neg h9]
      obtain ⟨hw2, hw3⟩ := Bool.and_eq_true_iff.mp hw2
      obtain ⟨as, rest, v', h', a1, rfl, a3, hcall, hh, -, -⟩ := jx_call_some hh
      have hle : jx_le h' res.2 := hKg _ hh
      have l1 := hle.1
      have l2 := hle.2
      exact jx_do_call (ix := ix) hx hb hml hown hts hWd hd hdl hMet hM hl.1 hcall (hcg _ _ _ _ _ hcall) ⟨by omega, by omega⟩ hw2 a3 hdec a1 (Or.inl ⟨rfl, fun q hq => by have h3 := jx_mth_spec hw3 hq; exact of_decide_eq_true h3⟩) (fun H1 locs1 cells1 slots1 hM1 => hK _ hh _ hn H1 locs1 cells1 slots1 ls' hM1 hl)
  case ireturn =>
    obtain ⟨hw1, hw2⟩ := Bool.and_eq_true_iff.mp hw
    have q1 : len = 1 := of_decide_eq_true hw1
    subst q1
    have hw2 : (decide (z = 0 ∧ rk = some .int) || decide (z ≠ 0 ∧ rk = some .boolean)) = true := hw2
    rw [Bool.or_eq_true, decide_eq_true_eq, decide_eq_true_eq] at hw2
    have hh : jx_ri z st h = some res := hh
    have key : ∃ a, st = [.int a] ∧ res = (some (.int a), h) ∧ (z = 0 ∨ jx_bool a = true) := by
      unfold jx_ri at hh
      split at hh
      · split at hh
        · cases hh; exact ⟨_, rfl, rfl, Or.inl rfl⟩
        · rcases jx_if_some hh with ⟨hq, hh⟩ | ⟨hq, hh⟩
          · cases hh; exact ⟨_, rfl, rfl, Or.inr hq⟩
          · cases hh
      · cases hh
    obtain ⟨a, rfl, rfl, hz⟩ := key
    refine hret pc H locs cells slots ls' (Or.inl ⟨a, rfl, hdec, ?_⟩) hM
    rcases hw2 with ⟨_, hq⟩ | ⟨hq2, hq⟩
    · exact Or.inl hq
    · exact Or.inr ⟨hq, hz.resolve_left hq2⟩
  case lreturn =>
    obtain ⟨q1, q2⟩ := of_decide_eq_true hw
    have q1 : len = 1 := q1
    subst q1
    have hh : jx_rl st h = some res := hh
    unfold jx_rl at hh
    split at hh
    · cases hh
      exact hret pc H locs cells slots ls' (Or.inr (Or.inl ⟨_, rfl, hdec, q2⟩)) hM
    · cases hh
  case areturn =>
    obtain ⟨hw1, hw2⟩ := Bool.and_eq_true_iff.mp hw
    have q1 : len = 1 := of_decide_eq_true hw1
    subst q1
    have hw2 : ∃ n, rk = some (.object n) := by
      unfold jx_isObj at hw2
      split at hw2
      · exact ⟨_, rfl⟩
      · cases hw2
    have hh : jx_ra st h = some res := hh
    unfold jx_ra at hh
    split at hh
    · cases hh
      exact hret pc H locs cells slots ls' (Or.inr (Or.inr (Or.inl ⟨some _, rfl, hdec, hw2⟩))) hM
    · cases hh
      exact hret pc H locs cells slots ls' (Or.inr (Or.inr (Or.inl ⟨none, rfl, hdec, hw2⟩))) hM
    · cases hh
  case return_ =>
    obtain ⟨q1, q2⟩ := of_decide_eq_true hw
    have q1 : len = 1 := q1
    subst q1
    have hh : jx_rv st h = some res := hh
    unfold jx_rv at hh
    split at hh
    · cases hh
      exact hret pc H locs cells slots ls' (Or.inr (Or.inr (Or.inr ⟨rfl, hdec, q2⟩))) hM
    · cases hh
  all_goals (cases (show false = true from hw))
end SIM2
end
section
/-! Contracts of all methods, out of the small machine's answers -/
section MET
variable {p : Program} {l : Launch} {e : Env} {R : Room} {s : State} {m : MethodId} {args : Array Value} {below : List Frame} {meth : Method} {c : Code} {Q : State → Prop}
variable {bs : Nat} {rom : Nat → Nat} {rc : Nat → Nat × (Nat → Int32)} {D : va_G} {tc : Nat → ClassId} {n0 sl0 : Nat}
variable {cc : ByteArray} {nL own : Nat} {ini : Bool} {rk : Option FieldType} {code : List jxRow} {c0 : Nat → List Value → jxH → jxR} {d : Nat} {res : Option Value × jxH}
theorem jx_On.norm {s' : jxS} (h : jx_On p l e R s m args below meth c Q bs rom D tc n0 sl0 nL code (jx_norm code s')) : jx_On p l e R s m args below meth c Q bs rom D tc n0 sl0 nL code s' := by
  intro pc' hpc H locs cells slots ls' hM hl
  unfold jx_norm at h
  split at h
  · exact h pc' hpc H locs cells slots ls' hM (jx_has_pick hl _)
  · exact h pc' hpc H locs cells slots ls' hM hl
theorem jx_simN (hg : jx_good cc own nL ini rk code = true) (hx : p.tables.exec = Jvm.exec) (hb : c.code = cc) (hml : c.maxLocals = nL) (hown : s.vm.findClass (jx_c own) = some m.cls) (hts : ∀ w ∈ jx_big, w.before args s = true) (hWd : jx_Wd bs rom rc D tc s) (hini : ini = true → meth.name = "<init>")
    (hd : d + 1 ≤ R.frames) (hdl : 60 * (d + 1) ≤ R.locals) (hMet : jx_Mets l bs rom rc D tc c0 d) (hcg : jx_grows c0) (hres : res.2.1 ≤ n0 + R.cells ∧ res.2.2.1 ≤ sl0 + R.slots)
    (hret : ∀ (pc : Nat) (H : Heap) (locs : List Loc) (cells slots : Nat) (ls' : Array Slot), jx_end cc rk pc res.1 → jx_M bs rom D tc s n0 sl0 res.2 H locs cells slots → W p l e R s m args below meth c H locs cells slots Q (F0 m pc ls' (res.1.toList.map (jx_cv bs rom)))) :
    ∀ (n : Nat) (s' : jxS), jx_loop rc jx_dflt c0 code n s' = some res → jx_On p l e R s m args below meth c Q bs rom D tc n0 sl0 nL code s'
  | 0, _, hh => by cases hh
  | n + 1, s', hh => by
    obtain ⟨i, ls, st, h⟩ := s'
    have hh : jx_one rc jx_dflt c0 code (fun s' => jx_loop rc jx_dflt c0 code n (jx_norm code s')) (i, ls, st, h) = some res := hh
    unfold jx_one at hh
    split at hh
    · rename_i r hr
      obtain ⟨hdec, hw⟩ := jx_good_spec hg hr
      exact jx_sim1 hx hb hml hown hts hWd hini hd hdl hMet hcg hres hret (fun s' => jx_loop rc jx_dflt c0 code n (jx_norm code s')) (fun s' hs' => (jx_simN hg hx hb hml hown hts hWd hini hd hdl hMet hcg hres hret n _ hs').norm)
        (fun s' hs' => by have := jx_loop_grow hcg n _ _ hs'; rw [jx_norm_h] at this; exact this) i ls st h r hr hdec hw hh
    · cases hh
theorem jx_wl_sl (vs : List Value) : (lg_sl vs).length = jx_wl vs := by
  induction vs with
  | nil => rfl
  | cons v t ih =>
    have e : lg_sl (v :: t) = (if v.category = 2 then [Slot.val v, .second] else [.val v]) ++ lg_sl t := rfl
    rw [e, List.length_append, ih]
    show _ = v.category + jx_wl t
    rcases lv_cat v with h | h <;> simp [h]
theorem jx_wl_cv (vs : List Value) : jx_wl (vs.map (jx_cv bs rom)) = jx_wl vs := by
  induction vs with
  | nil => rfl
  | cons v t ih =>
    show (jx_cv bs rom v).category + jx_wl (t.map (jx_cv bs rom)) = v.category + jx_wl t
    rw [ih, jx_cv_cat]
theorem jx_args_cv (vs : List Value) : ∀ i, lv_args i (vs.map (jx_cv bs rom)) = jx_cvL bs rom (lv_args i vs) := by
  induction vs with
  | nil => intro i; rfl
  | cons v t ih =>
    intro i
    show (i, jx_cv bs rom v) :: lv_args _ _ = (i, jx_cv bs rom v) :: jx_cvL bs rom (lv_args _ _)
    rw [ih, jx_cv_cat]
theorem jx_Met_of {y : MethodName} {ws ws' : List Cond} {rm : Room} {Pc : Array Value → State → Prop} {Qc : Array Value → State → Outcome → State → Prop} {mc ms : Nat} {free : Addr → Prop} {cc : ByteArray} {maxL : Nat} {ret : Option FieldType}
    (hy : plainFor y = true) (hw : ws = Cond.code y cc maxL ret :: ws')
    (body : ∀ p e s m args below meth c s₁, BodyLoose p l y (headSpec ws rm) cc maxL ret e s m args below meth c s₁ → c.maxLocals = maxL → Pc args s →
      W p l e (headSpec ws rm).room s m args below meth c s.heap [] 0 0 (MQ below Qc args s mc ms free) (entryFrame m args maxL)) : Met l y ws rm Pc Qc mc ms free := by
  refine MetFree.of_bodySF (code := cc) (maxLocals := maxL) (ret := ret) hy (fun args s m h hn => ?_) (fun p e s m args below meth c s₁ B hml hP _ => ?_)
  · obtain ⟨meth, c, h1, h2, h3, h4, h5, h6, -, -⟩ := Cond.code_spec hn (atoms_spec (ws := ws) h _ (by rw [hw]; exact List.mem_cons_self))
    exact ⟨meth, c, h1, h2, h3, h4, h5, h6⟩
  · obtain ⟨t, a1, o, b1, b2, b3⟩ := body p e s m args below meth c s₁ B hml hP s₁ (by rw [B.state]; rfl) (Stand.of_body B)
    exact ⟨t, o, a1, b1, b2, b3.1, b3.2⟩
def jx_ini (q : jxMi) : Bool := decide ((jx_miy q).name = "<init>")
/-- the table of methods is that of the names -/
def jx_mtok (mt : Nat → Option (Option Nat × Nat × List jxRow)) : Prop := ∀ k oc nL code, mt k = some (oc, nL, code) → ∃ q, jx_mi[k]? = some q ∧ jx_mio q = oc ∧ jx_mil q = nL ∧ jx_good (jx_mib q) (jx_miw q) nL (jx_ini q) (jx_mir q) code = true
theorem jx_all_met {mt : Nat → Option (Option Nat × Nat × List jxRow)} (hmt : jx_mtok mt) : ∀ d, jx_Mets l bs rom rc D tc (jx_X rc jx_dflt mt d) d
  | 0 => fun _ _ _ _ _ h => by cases h
  | d + 1 => by
    have ih := jx_all_met hmt d
    have hcg := jx_X_grows rc jx_dflt mt d
    intro k as h v h' hh
    obtain ⟨oc, nL, code, e1, e2, e3, hh⟩ := jx_X_inv hh
    obtain ⟨q, hq, q1, q2, hg⟩ := hmt k oc nL code e1
    have hqi : q ∈ jx_mi := List.mem_of_getElem? hq
    obtain ⟨-, -, -, hpl, -, hcw⟩ := jx_mi_spec hqi
    refine ⟨q, hq, fun ci hci => e3 ci (by rw [← q1]; exact hci), ?_⟩
    obtain ⟨n, hn⟩ := (jx_G_iff hcg _ _).mp hh
    have hle : jx_le h h' := by
      have := jx_loop_grow hcg n _ _ hn
      rw [jx_norm_h] at this
      exact this
    have l1 := hle.1
    have l2 := hle.2
    refine jx_Met_of (cc := jx_mib q) (maxL := jx_mil q) (ret := jx_mir q) (ws' := jx_big) hpl rfl ?_
    intro p e s m args below meth c s₁ B hml hv
    obtain ⟨rfl, hsz, hR, hWd⟩ := hv
    have hx := B.exec
    have hb := B.bytes
    have hr := B.returns
    have hts0 := atoms_spec (ws := jx_wsm q) B.pre
    have hts : ∀ w ∈ jx_big, w.before (as.map (jx_cv bs rom)).toArray s = true := fun w hw => hts0 w (List.mem_cons_of_mem _ hw)
    have hown : s.vm.findClass (jx_c (jx_miw q)) = some m.cls := by rw [hcw]; exact findClass_of_methodNamed B.named
    have hlocks := B.notSynchronized
    have hini : jx_ini q = true → meth.name = "<init>" := fun hi => (name_of_methodNamed B.named B.method).1.trans (of_decide_eq_true hi)
    have hl := lv_entry (as.map (jx_cv bs rom)) (n := jx_mil q) (by rw [jx_wl_sl, jx_wl_cv, q2]; exact e2)
    rw [lg_entry_eq]
    generalize (lg_sl (as.map (jx_cv bs rom)) ++ List.replicate (jx_mil q - (lg_sl (as.map (jx_cv bs rom))).length) Slot.unset).toArray = ls at hl ⊢
    have hl : lv_has ls (jx_mil q) (jx_cvL bs rom (lv_args 0 as)) := by rw [← jx_args_cv]; exact hl
    subst q2
    have hM : jx_M bs rom D tc s h.1 h.2.1 h s.heap [] 0 0 := ⟨hR, va_S.rf, rfl, rfl, hsz⟩
    have key := jx_simN (res := (v, h')) (Q := MQ below (jx_Qc bs rom D tc v h') (as.map (jx_cv bs rom)).toArray s (h'.1 - h.1) (h'.2.1 - h.2.1) (jx_A bs)) (R := jx_rm (d + 1) (h'.1 - h.1) (h'.2.1 - h.2.1)) (e := e) (below := below) (n0 := h.1) (sl0 := h.2.1) hg hx hb hml hown hts hWd hini (Nat.le_refl _) (Nat.le_refl _) ih hcg
      (show h'.1 ≤ h.1 + (h'.1 - h.1) ∧ h'.2.1 ≤ h.2.1 + (h'.2.1 - h.2.1) from ⟨by omega, by omega⟩) ?_ n _ hn
    · exact key.norm 0 (jx_good_0 hg) s.heap [] 0 0 ls hM hl
    · intro pc H locs cells slots ls' hend hM'
      obtain ⟨m1, m2, m3, m4, m5⟩ := hM'
      have c1 : cells = h'.1 - h.1 := by have m3 : h'.1 = h.1 + cells := m3; omega
      have c2 : slots = h'.2.1 - h.2.1 := by have m4 : h'.2.1 = h.2.1 + slots := m4; omega
      subst c1; subst c2
      rcases hend with ⟨x, hv, hdg, hk⟩ | ⟨x, hv, hdg, hk⟩ | ⟨x, hv, hdg, hk⟩ | ⟨hv, hdg, hk⟩
      · have hv : v = some (.int x) := hv
        subst hv
        rcases hk with hk | ⟨hk, hx2⟩
        · exact W.iret (v := x) hx hb (hr.trans hk) (fun t ht hW => ⟨rfl, by rw [ht]; exact m1, m2.F ht⟩) m2.2.2 hdg hlocks
        · refine W.zret (v := x) hx hb (hr.trans hk) ?_ (fun t ht hW => ⟨rfl, by rw [ht]; exact m1, m2.F ht⟩) m2.2.2 hdg hlocks
          unfold jx_bool at hx2
          rw [Bool.or_eq_true, beq_iff_eq, beq_iff_eq] at hx2
          rcases hx2 with rfl | rfl <;> decide
      · have hv : v = some (.long x) := hv
        subst hv
        exact W.lret (v := x) hx hb (hr.trans hk) (fun t ht hW => ⟨rfl, by rw [ht]; exact m1, m2.F ht⟩) m2.2.2 hdg hlocks
      · have hv : v = some (va_rf x) := hv
        subst hv
        obtain ⟨nm, hk⟩ := hk
        exact W.aret (v := jx_cv bs rom (va_rf x)) hx hb (hr.trans hk) (Or.inl ⟨nm, rfl⟩) (by cases x <;> first | exact Or.inl rfl | exact Or.inr ⟨_, rfl⟩) (fun t ht hW => ⟨rfl, by rw [ht]; exact m1, m2.F ht⟩) m2.2.2 hdg hlocks
      · have hv : v = none := hv
        subst hv
        exact W.vret hx hb (hr.trans hk) (fun t ht hW => ⟨rfl, by rw [ht]; exact m1, m2.F ht⟩) m2.2.2 hdg hlocks
end MET
end
section
/-! Minors of a forest's table by matchings: mx_p of a list of vertices -/
def mx_s (f : Nat → Int) : List Nat → Int
  | [] => 0
  | a :: l => f a + mx_s f l
theorem mx_s_congr {f g : Nat → Int} : ∀ {l : List Nat}, (∀ a, a ∈ l → f a = g a) → mx_s f l = mx_s g l
  | [], _ => rfl
  | a :: l, h => by
    show f a + mx_s f l = g a + mx_s g l
    rw [h a List.mem_cons_self, mx_s_congr (fun b hb => h b (List.mem_cons_of_mem _ hb))]
theorem mx_s_perm {f : Nat → Int} {l l' : List Nat} (h : l.Perm l') : mx_s f l = mx_s f l' := by
  induction h with
  | nil => rfl
  | cons x _ ih =>
    show f x + _ = f x + _
    rw [ih]
  | swap x y l =>
    show f y + (f x + mx_s f l) = f x + (f y + mx_s f l)
    omega
  | trans _ _ ih1 ih2 => exact ih1.trans ih2
theorem mx_s_zero : ∀ (l : List Nat), mx_s (fun _ => 0) l = 0
  | [] => rfl
  | a :: l => by
    show (0 : Int) + mx_s (fun _ => 0) l = 0
    rw [mx_s_zero l]
    rfl
theorem mx_s_add (f g : Nat → Int) : ∀ (l : List Nat), mx_s (fun a => f a + g a) l = mx_s f l + mx_s g l
  | [] => rfl
  | a :: l => by
    show f a + g a + mx_s (fun a => f a + g a) l = f a + mx_s f l + (g a + mx_s g l)
    rw [mx_s_add f g l]
    omega
theorem mx_s_sub (f g : Nat → Int) : ∀ (l : List Nat), mx_s (fun a => f a - g a) l = mx_s f l - mx_s g l
  | [] => rfl
  | a :: l => by
    show f a - g a + mx_s (fun a => f a - g a) l = f a + mx_s f l - (g a + mx_s g l)
    rw [mx_s_sub f g l]
    omega
theorem mx_s_mul (c : Int) (f : Nat → Int) : ∀ (l : List Nat), mx_s (fun a => c * f a) l = c * mx_s f l
  | [] => (Int.mul_zero c).symm
  | a :: l => by
    show c * f a + mx_s (fun a => c * f a) l = c * (f a + mx_s f l)
    rw [mx_s_mul c f l, Int.mul_add]
theorem mx_s_app (f : Nat → Int) : ∀ (l l' : List Nat), mx_s f (l ++ l') = mx_s f l + mx_s f l'
  | [], l' => (Int.zero_add _).symm
  | a :: l, l' => by
    show f a + mx_s f (l ++ l') = f a + mx_s f l + mx_s f l'
    rw [mx_s_app f l l']
    omega
theorem mx_s_swap (F : Nat → Nat → Int) (l' : List Nat) : ∀ (l : List Nat), mx_s (fun a => mx_s (fun b => F a b) l') l = mx_s (fun b => mx_s (fun a => F a b) l) l'
  | [] => (mx_s_zero l').symm
  | a :: l => by
    show mx_s (fun b => F a b) l' + mx_s (fun a => mx_s (fun b => F a b) l') l = mx_s (fun b => F a b + mx_s (fun a => F a b) l) l'
    rw [mx_s_add, mx_s_swap F l' l]
theorem mx_s_erase (f : Nat → Int) {r : Nat} : ∀ {l : List Nat}, l.Nodup → r ∈ l → mx_s f (l.erase r) = mx_s (fun s => if s = r then 0 else f s) l
  | [], _, h => by cases h
  | a :: l, hn, h => by
    rw [List.nodup_cons] at hn
    show mx_s f ((a :: l).erase r) = (if a = r then 0 else f a) + mx_s (fun s => if s = r then 0 else f s) l
    by_cases e : a = r
    · subst e
      rw [List.erase_cons_head, if_pos rfl, Int.zero_add]
      exact mx_s_congr (fun b hb => (if_neg (c := b = a) (fun q => hn.1 (q ▸ hb))).symm)
    · have hr : r ∈ l := by
        rcases List.mem_cons.mp h with q | q
        · exact absurd q.symm e
        · exact q
      rw [List.erase_cons_tail (by simpa using e), if_neg e, ← mx_s_erase f hn.2 hr]
      rfl
section MP
variable (w : Nat → Int) (e : Nat → Nat → Int)
def mx_f : Nat → List Nat → Int
  | 0, _ => 1
  | _ + 1, [] => 1
  | n + 1, p :: l => w p * mx_f n l - mx_s (fun q => e p q * mx_f n (l.erase q)) l
def mx_p (l : List Nat) : Int := mx_f w e l.length l
theorem mx_f_fuel : ∀ (n m : Nat) (l : List Nat), l.length ≤ n → l.length ≤ m → mx_f w e n l = mx_f w e m l
  | 0, 0, _, _, _ => rfl
  | 0, m + 1, l, h, _ => by
    cases l with
    | nil => rfl
    | cons a t => exact absurd h (by simp)
  | n + 1, 0, l, _, h => by
    cases l with
    | nil => rfl
    | cons a t => exact absurd h (by simp)
  | n + 1, m + 1, [], _, _ => rfl
  | n + 1, m + 1, p :: l, h1, h2 => by
    have h1 : l.length ≤ n := Nat.le_of_succ_le_succ h1
    have h2 : l.length ≤ m := Nat.le_of_succ_le_succ h2
    show w p * mx_f w e n l - mx_s (fun q => e p q * mx_f w e n (l.erase q)) l = w p * mx_f w e m l - mx_s (fun q => e p q * mx_f w e m (l.erase q)) l
    rw [mx_f_fuel n m l h1 h2, mx_s_congr (f := fun q => e p q * mx_f w e n (l.erase q)) (g := fun q => e p q * mx_f w e m (l.erase q)) (fun q _ => by
      rw [mx_f_fuel n m (l.erase q) (Nat.le_trans List.length_erase_le h1) (Nat.le_trans List.length_erase_le h2)])]
theorem mx_p_nil : mx_p w e [] = 1 := rfl
theorem mx_p_cons (p : Nat) (l : List Nat) : mx_p w e (p :: l) = w p * mx_p w e l - mx_s (fun q => e p q * mx_p w e (l.erase q)) l := by
  show w p * mx_f w e l.length l - mx_s (fun q => e p q * mx_f w e l.length (l.erase q)) l = _
  rw [mx_s_congr (f := fun q => e p q * mx_f w e l.length (l.erase q)) (g := fun q => e p q * mx_p w e (l.erase q)) (fun q _ => by
    rw [mx_f_fuel w e l.length (l.erase q).length (l.erase q) List.length_erase_le (Nat.le_refl _)]; rfl)]
  rfl
/-- both of two vertices are matched, apart -/
def mx_d (x y : Nat) (l : List Nat) : Int := mx_s (fun r => mx_s (fun s => if s = r then 0 else e x r * (e y s * mx_p w e ((l.erase r).erase s))) l) l
theorem mx_d_comm (x y : Nat) (l : List Nat) : mx_d w e x y l = mx_d w e y x l := by
  unfold mx_d
  rw [mx_s_swap]
  refine mx_s_congr (fun s _ => mx_s_congr (fun r _ => ?_))
  by_cases h : s = r
  · rw [if_pos h, if_pos h.symm]
  · rw [if_neg h, if_neg (fun q => h q.symm), List.erase_comm, ← Int.mul_assoc, ← Int.mul_assoc, Int.mul_comm (e x r)]
theorem mx_p_two {x y : Nat} {l : List Nat} (hn : l.Nodup) (hx : x ∉ l) : mx_p w e (y :: x :: l) = w y * w x * mx_p w e l - w y * mx_s (fun s => e x s * mx_p w e (l.erase s)) l - e y x * mx_p w e l - w x * mx_s (fun s => e y s * mx_p w e (l.erase s)) l + mx_d w e y x l := by
  rw [mx_p_cons, mx_p_cons]
  show _ - (e y x * mx_p w e ((x :: l).erase x) + mx_s (fun q => e y q * mx_p w e ((x :: l).erase q)) l) = _
  rw [List.erase_cons_head]
  have h1 : mx_s (fun q => e y q * mx_p w e ((x :: l).erase q)) l = mx_s (fun q => w x * (e y q * mx_p w e (l.erase q)) - mx_s (fun s => if s = q then 0 else e y q * (e x s * mx_p w e ((l.erase q).erase s))) l) l := by
    refine mx_s_congr (fun q hq => ?_)
    have hxq : ¬ x = q := fun h => hx (h ▸ hq)
    rw [List.erase_cons_tail (by simpa using hxq), mx_p_cons, mx_s_erase _ hn hq, Int.mul_sub, ← mx_s_mul]
    congr 1
    · rw [← Int.mul_assoc, ← Int.mul_assoc, Int.mul_comm (e y q)]
    · refine mx_s_congr (fun s _ => ?_)
      by_cases h : s = q
      · rw [if_pos h, if_pos h, Int.mul_zero]
      · rw [if_neg h, if_neg h]
  rw [h1, mx_s_sub, mx_s_mul, Int.mul_sub, ← Int.mul_assoc]
  show _ - (_ + (_ - mx_d w e y x l)) = _
  omega
theorem mx_p_perm (hs : ∀ a b, e a b = e b a) : ∀ (n : Nat) (l l' : List Nat), l.length ≤ n → l.Nodup → l.Perm l' → mx_p w e l = mx_p w e l'
  | 0, l, l', hl, _, hp => by
    cases l with
    | nil => rw [hp.symm.eq_nil]
    | cons a t => exact absurd hl (by simp)
  | n + 1, l, l', hl, hn, hp => by
    induction hp with
    | nil => rfl
    | @cons x l1 l2 h12 _ =>
      have hl : l1.length ≤ n := Nat.le_of_succ_le_succ hl
      have hn := (List.nodup_cons.mp hn).2
      rw [mx_p_cons, mx_p_cons, mx_p_perm hs n l1 l2 hl hn h12, mx_s_perm (f := fun q => e x q * mx_p w e (l2.erase q)) h12.symm]
      congr 1
      refine mx_s_congr (fun q _ => ?_)
      rw [mx_p_perm hs n (l1.erase q) (l2.erase q) (Nat.le_trans List.length_erase_le hl) (hn.erase q) (h12.erase q)]
    | swap x y l =>
      have h1 := List.nodup_cons.mp hn
      have h2 := List.nodup_cons.mp h1.2
      have hy : y ∉ l := fun h => h1.1 (List.mem_cons_of_mem _ h)
      rw [mx_p_two w e h2.2 h2.1, mx_p_two w e h2.2 hy, mx_d_comm w e y x, hs y x, Int.mul_comm (w y) (w x)]
      omega
    | trans p1 p2 ih1 ih2 => exact (ih1 hl hn).trans (ih2 (by rw [← p1.length_eq]; exact hl) (p1.nodup_iff.mp hn))
/-- the recursion at any vertex -/
theorem mx_p_at (hs : ∀ a b, e a b = e b a) {l : List Nat} {p : Nat} (hn : l.Nodup) (hp : p ∈ l) : mx_p w e l = w p * mx_p w e (l.erase p) - mx_s (fun q => e p q * mx_p w e ((l.erase p).erase q)) (l.erase p) := by
  rw [mx_p_perm w e hs l.length l (p :: l.erase p) (Nat.le_refl _) hn (List.perm_cons_erase hp), mx_p_cons]
/-- no edge between: the product -/
theorem mx_p_app : ∀ (n : Nat) (l l' : List Nat), l.length ≤ n → (∀ a, a ∈ l → ∀ b, b ∈ l' → e a b = 0) → mx_p w e (l ++ l') = mx_p w e l * mx_p w e l'
  | _, [], l', _, _ => by rw [mx_p_nil, Int.one_mul]; rfl
  | 0, a :: l, _, h, _ => absurd h (by simp)
  | n + 1, a :: l, l', h, he => by
    have h : l.length ≤ n := Nat.le_of_succ_le_succ h
    have he' : ∀ x, x ∈ l → ∀ b, b ∈ l' → e x b = 0 := fun x hx b hb => he x (List.mem_cons_of_mem _ hx) b hb
    show mx_p w e (a :: (l ++ l')) = _
    rw [mx_p_cons, mx_p_cons, mx_s_app, mx_p_app n l l' h he', Int.sub_mul, Int.mul_assoc]
    have h1 : mx_s (fun q => e a q * mx_p w e ((l ++ l').erase q)) l' = 0 := by
      rw [mx_s_congr (g := fun _ => 0) (fun q hq => by rw [he a List.mem_cons_self q hq]; exact Int.zero_mul _), mx_s_zero]
    have h2 : mx_s (fun q => e a q * mx_p w e ((l ++ l').erase q)) l = mx_s (fun q => e a q * mx_p w e (l.erase q)) l * mx_p w e l' := by
      rw [Int.mul_comm, ← mx_s_mul]
      refine mx_s_congr (fun q hq => ?_)
      rw [List.erase_append_left _ hq, mx_p_app n (l.erase q) l' (Nat.le_trans List.length_erase_le h) (fun x hx b hb => he' x (List.mem_of_mem_erase hx) b hb), ← Int.mul_assoc, Int.mul_comm]
    rw [h1, h2, Int.add_zero]
end MP
end
section
/-! Sums of all minors of a size, by their own recursion -/
def mx_h (f : Nat → Int) : Nat → Int
  | 0 => 0
  | k + 1 => f k
theorem mx_h_congr {f g : Nat → Int} (h : ∀ k, f k = g k) (k : Nat) : mx_h f k = mx_h g k := by
  cases k with
  | zero => rfl
  | succ k => exact h k
theorem mx_h_add (f g : Nat → Int) (k : Nat) : mx_h (fun k => f k + g k) k = mx_h f k + mx_h g k := by
  cases k <;> rfl
theorem mx_h_sub (f g : Nat → Int) (k : Nat) : mx_h (fun k => f k - g k) k = mx_h f k - mx_h g k := by
  cases k <;> rfl
theorem mx_h_mul (c : Int) (f : Nat → Int) (k : Nat) : mx_h (fun k => c * f k) k = c * mx_h f k := by
  cases k with
  | zero => exact (Int.mul_zero c).symm
  | succ k => rfl
theorem mx_h_sum (F : Nat → Nat → Int) (l : List Nat) (k : Nat) : mx_h (fun k => mx_s (fun q => F q k) l) k = mx_s (fun q => mx_h (F q) k) l := by
  cases k with
  | zero => exact (mx_s_zero l).symm
  | succ k => rfl
section ES
variable (w : Nat → Int) (e : Nat → Nat → Int)
def mx_g : Nat → List Nat → Nat → Int
  | 0, _, k => if k = 0 then 1 else 0
  | _ + 1, [], k => if k = 0 then 1 else 0
  | n + 1, p :: l, k => mx_g n l k + w p * mx_h (mx_g n l) k - mx_s (fun q => e p q * mx_h (mx_h (mx_g n (l.erase q))) k) l
def mx_e (l : List Nat) (k : Nat) : Int := mx_g w e l.length l k
theorem mx_g_fuel : ∀ (n m : Nat) (l : List Nat), l.length ≤ n → l.length ≤ m → ∀ k, mx_g w e n l k = mx_g w e m l k
  | 0, 0, _, _, _, _ => rfl
  | 0, m + 1, l, h, _, _ => by
    cases l with
    | nil => rfl
    | cons a t => exact absurd h (by simp)
  | n + 1, 0, l, _, h, _ => by
    cases l with
    | nil => rfl
    | cons a t => exact absurd h (by simp)
  | n + 1, m + 1, [], _, _, _ => rfl
  | n + 1, m + 1, p :: l, h1, h2, k => by
    have h1 : l.length ≤ n := Nat.le_of_succ_le_succ h1
    have h2 : l.length ≤ m := Nat.le_of_succ_le_succ h2
    show mx_g w e n l k + w p * mx_h (mx_g w e n l) k - mx_s (fun q => e p q * mx_h (mx_h (mx_g w e n (l.erase q))) k) l = mx_g w e m l k + w p * mx_h (mx_g w e m l) k - mx_s (fun q => e p q * mx_h (mx_h (mx_g w e m (l.erase q))) k) l
    rw [mx_g_fuel n m l h1 h2 k, mx_h_congr (mx_g_fuel n m l h1 h2) k, mx_s_congr (f := fun q => e p q * mx_h (mx_h (mx_g w e n (l.erase q))) k) (g := fun q => e p q * mx_h (mx_h (mx_g w e m (l.erase q))) k) (fun q _ => by
      rw [mx_h_congr (mx_h_congr (mx_g_fuel n m (l.erase q) (Nat.le_trans List.length_erase_le h1) (Nat.le_trans List.length_erase_le h2))) k])]
theorem mx_e_nil (k : Nat) : mx_e w e [] k = if k = 0 then 1 else 0 := rfl
theorem mx_e_cons (p : Nat) (l : List Nat) (k : Nat) : mx_e w e (p :: l) k = mx_e w e l k + w p * mx_h (mx_e w e l) k - mx_s (fun q => e p q * mx_h (mx_h (mx_e w e (l.erase q))) k) l := by
  show mx_g w e l.length l k + w p * mx_h (mx_g w e l.length l) k - mx_s (fun q => e p q * mx_h (mx_h (mx_g w e l.length (l.erase q))) k) l = _
  rw [mx_s_congr (f := fun q => e p q * mx_h (mx_h (mx_g w e l.length (l.erase q))) k) (g := fun q => e p q * mx_h (mx_h (mx_e w e (l.erase q))) k) (fun q _ => by
    rw [mx_h_congr (mx_h_congr (mx_g_fuel w e l.length (l.erase q).length (l.erase q) List.length_erase_le (Nat.le_refl _))) k]; rfl)]
  rfl
def mx_ed (x y : Nat) (l : List Nat) (k : Nat) : Int := mx_s (fun r => mx_s (fun s => if s = r then 0 else e x r * (e y s * mx_h (mx_h (mx_h (mx_h (mx_e w e ((l.erase r).erase s))))) k)) l) l
theorem mx_ed_comm (x y : Nat) (l : List Nat) (k : Nat) : mx_ed w e x y l k = mx_ed w e y x l k := by
  unfold mx_ed
  rw [mx_s_swap]
  refine mx_s_congr (fun s _ => mx_s_congr (fun r _ => ?_))
  by_cases h : s = r
  · rw [if_pos h, if_pos h.symm]
  · rw [if_neg h, if_neg (fun q => h q.symm), List.erase_comm, ← Int.mul_assoc, ← Int.mul_assoc, Int.mul_comm (e x r)]
def mx_e1 (x : Nat) (l : List Nat) (k : Nat) : Int := mx_s (fun q => e x q * mx_h (mx_h (mx_e w e (l.erase q))) k) l
theorem mx_e_two {x y : Nat} {l : List Nat} (hn : l.Nodup) (hx : x ∉ l) (k : Nat) : mx_e w e (y :: x :: l) k = mx_e w e l k + w x * mx_h (mx_e w e l) k - mx_e1 w e x l k + w y * mx_h (mx_e w e l) k + w y * w x * mx_h (mx_h (mx_e w e l)) k - w y * mx_h (mx_e1 w e x l) k - e y x * mx_h (mx_h (mx_e w e l)) k - mx_e1 w e y l k - w x * mx_h (mx_e1 w e y l) k + mx_ed w e y x l k := by
  have hc : ∀ k, mx_e w e (x :: l) k = mx_e w e l k + w x * mx_h (mx_e w e l) k - mx_e1 w e x l k := mx_e_cons w e x l
  rw [mx_e_cons, hc k]
  show _ - (e y x * mx_h (mx_h (mx_e w e ((x :: l).erase x))) k + mx_s (fun q => e y q * mx_h (mx_h (mx_e w e ((x :: l).erase q))) k) l) = _
  rw [List.erase_cons_head, mx_h_congr hc k, mx_h_sub, mx_h_add, mx_h_mul]
  have h1 : mx_s (fun q => e y q * mx_h (mx_h (mx_e w e ((x :: l).erase q))) k) l = mx_s (fun q => (e y q * mx_h (mx_h (mx_e w e (l.erase q))) k + w x * (e y q * mx_h (mx_h (mx_h (mx_e w e (l.erase q)))) k)) - mx_s (fun s => if s = q then 0 else e y q * (e x s * mx_h (mx_h (mx_h (mx_h (mx_e w e ((l.erase q).erase s))))) k)) l) l := by
    refine mx_s_congr (fun q hq => ?_)
    have hxq : ¬ x = q := fun h => hx (h ▸ hq)
    rw [List.erase_cons_tail (by simpa using hxq)]
    have hc2 : ∀ k, mx_e w e (x :: l.erase q) k = mx_e w e (l.erase q) k + w x * mx_h (mx_e w e (l.erase q)) k - mx_s (fun s => e x s * mx_h (mx_h (mx_e w e ((l.erase q).erase s))) k) (l.erase q) := mx_e_cons w e x (l.erase q)
    have hc3 : ∀ k, mx_h (mx_e w e (x :: l.erase q)) k = mx_h (mx_e w e (l.erase q)) k + w x * mx_h (mx_h (mx_e w e (l.erase q))) k - mx_s (fun s => e x s * mx_h (mx_h (mx_h (mx_e w e ((l.erase q).erase s)))) k) (l.erase q) := fun k => by
      rw [mx_h_congr hc2 k, mx_h_sub, mx_h_add, mx_h_mul, mx_h_sum]
      congr 1
      exact mx_s_congr (fun s _ => mx_h_mul _ _ k)
    rw [mx_h_congr hc3 k, mx_h_sub, mx_h_add, mx_h_mul, mx_h_sum, mx_s_erase _ hn hq, Int.mul_sub, Int.mul_add, ← mx_s_mul]
    congr 1
    · congr 1
      rw [← Int.mul_assoc, ← Int.mul_assoc, Int.mul_comm (e y q)]
    · refine mx_s_congr (fun s _ => ?_)
      by_cases h : s = q
      · rw [if_pos h, if_pos h, Int.mul_zero]
      · rw [if_neg h, if_neg h, mx_h_mul]
  have h2 : mx_s (fun q => e y q * mx_h (mx_h (mx_h (mx_e w e (l.erase q)))) k) l = mx_h (mx_e1 w e y l) k := by
    unfold mx_e1
    rw [mx_h_sum]
    exact mx_s_congr (fun q _ => (mx_h_mul _ _ k).symm)
  rw [h1, mx_s_sub, mx_s_add, mx_s_mul, h2, Int.mul_sub, Int.mul_add, ← Int.mul_assoc]
  show _ - (_ + (mx_e1 w e y l k + _ - mx_ed w e y x l k)) = _
  omega
theorem mx_e_perm (hs : ∀ a b, e a b = e b a) : ∀ (n : Nat) (l l' : List Nat), l.length ≤ n → l.Nodup → l.Perm l' → ∀ k, mx_e w e l k = mx_e w e l' k
  | 0, l, l', hl, _, hp, _ => by
    cases l with
    | nil => rw [hp.symm.eq_nil]
    | cons a t => exact absurd hl (by simp)
  | n + 1, l, l', hl, hn, hp, k => by
    induction hp with
    | nil => rfl
    | @cons x l1 l2 h12 _ =>
      have hl : l1.length ≤ n := Nat.le_of_succ_le_succ hl
      have hn := (List.nodup_cons.mp hn).2
      rw [mx_e_cons, mx_e_cons, mx_e_perm hs n l1 l2 hl hn h12 k, mx_h_congr (mx_e_perm hs n l1 l2 hl hn h12) k, mx_s_perm (f := fun q => e x q * mx_h (mx_h (mx_e w e (l2.erase q))) k) h12.symm]
      congr 1
      refine mx_s_congr (fun q _ => ?_)
      rw [mx_h_congr (mx_h_congr (mx_e_perm hs n (l1.erase q) (l2.erase q) (Nat.le_trans List.length_erase_le hl) (hn.erase q) (h12.erase q))) k]
    | swap x y l =>
      have h1 := List.nodup_cons.mp hn
      have h2 := List.nodup_cons.mp h1.2
      have hy : y ∉ l := fun h => h1.1 (List.mem_cons_of_mem _ h)
      rw [mx_e_two w e h2.2 h2.1, mx_e_two w e h2.2 hy, mx_ed_comm w e y x, hs y x, Int.mul_comm (w y) (w x)]
      omega
    | trans p1 p2 ih1 ih2 => exact (ih1 hl hn).trans (ih2 (by rw [← p1.length_eq]; exact hl) (p1.nodup_iff.mp hn))
theorem mx_e_at (hs : ∀ a b, e a b = e b a) {l : List Nat} {p : Nat} (hn : l.Nodup) (hp : p ∈ l) (k : Nat) : mx_e w e l k = mx_e w e (l.erase p) k + w p * mx_h (mx_e w e (l.erase p)) k - mx_s (fun q => e p q * mx_h (mx_h (mx_e w e ((l.erase p).erase q))) k) (l.erase p) := by
  rw [mx_e_perm w e hs l.length l (p :: l.erase p) (Nat.le_refl _) hn (List.perm_cons_erase hp), mx_e_cons]
end ES
end
section
/-! All roots are real, without reals: Newton's and the interlacing differences are never below 0 -/
theorem mx_s_nn {f : Nat → Int} : ∀ {l : List Nat}, (∀ a, a ∈ l → 0 ≤ f a) → 0 ≤ mx_s f l
  | [], _ => Int.le_refl 0
  | a :: l, h => Int.add_nonneg (h a List.mem_cons_self) (mx_s_nn (fun b hb => h b (List.mem_cons_of_mem _ hb)))
section RL
variable (w : Nat → Int) (e : Nat → Nat → Int)
theorem mx_e_big : ∀ (n : Nat) (l : List Nat), l.length ≤ n → ∀ k, l.length < k → mx_e w e l k = 0
  | n, [], _, k, hk => by
    have hk : 0 < k := hk
    rw [mx_e_nil, if_neg (Nat.ne_of_gt hk)]
  | 0, p :: l, h, _, _ => absurd h (by simp)
  | n + 1, p :: l, h, k, hk => by
    have h : l.length ≤ n := Nat.le_of_succ_le_succ h
    have hk : l.length + 1 < k := hk
    have hh : ∀ (f : Nat → Int) (c j : Nat), (∀ i, c < i → f i = 0) → c + 1 < j → mx_h f j = 0 := fun f c j hf hj => by
      cases j with
      | zero => rfl
      | succ j => exact hf j (Nat.lt_of_succ_lt_succ hj)
    rw [mx_e_cons, mx_e_big n l h k (by omega), hh _ l.length k (mx_e_big n l h) hk, Int.mul_zero, mx_s_congr (g := fun _ => 0) (fun q hq => ?_), mx_s_zero]
    · rfl
    · have hl : (l.erase q).length = l.length - 1 := List.length_erase_of_mem hq
      have h1 : 0 < l.length := List.length_pos_of_mem hq
      rw [hh _ l.length k (fun i hi => hh _ (l.length - 1) i (fun j hj => mx_e_big n (l.erase q) (Nat.le_trans List.length_erase_le h) j (by rw [hl]; exact hj)) (by omega)) hk, Int.mul_zero]
/-- one left out, over all -/
theorem mx_e_sum : ∀ (n : Nat) (l : List Nat), l.length = n → l.Nodup → ∀ k, mx_s (fun p => mx_e w e (l.erase p) k) l = ((n : Int) - (k : Int)) * mx_e w e l k
  | _, [], h, _, k => by
    cases h
    rw [mx_e_nil]
    show (0 : Int) = _
    by_cases hk : k = 0
    · subst hk
      rfl
    · rw [if_neg hk, Int.mul_zero]
  | 0, p :: l, h, _, _ => absurd h (by simp)
  | n + 1, x :: t, h, hn, k => by
    have h : t.length = n := Nat.succ.inj h
    have hn2 := List.nodup_cons.mp hn
    have ih := mx_e_sum n t h hn2.2
    have ihs : ∀ k, mx_s (fun p => mx_h (mx_e w e (t.erase p)) k) t = ((n : Int) - (k : Int) + 1) * mx_h (mx_e w e t) k := fun k => by
      cases k with
      | zero => exact (mx_s_zero t).trans (Int.mul_zero _).symm
      | succ k =>
        refine (ih k).trans ?_
        show ((n : Int) - (k : Int)) * mx_e w e t k = ((n : Int) - ((k + 1 : Nat) : Int) + 1) * mx_e w e t k
        congr 1
        omega
    have ihq : ∀ q, q ∈ t → ∀ k, mx_s (fun p => mx_h (mx_h (mx_e w e ((t.erase q).erase p))) k) (t.erase q) = ((n : Int) - (k : Int) + 1) * mx_h (mx_h (mx_e w e (t.erase q))) k := fun q hq k => by
      have hl : (t.erase q).length = n - 1 := by rw [List.length_erase_of_mem hq, h]
      have h1 : 0 < n := by rw [← h]; exact List.length_pos_of_mem hq
      obtain ⟨m, rfl⟩ : ∃ m, n = m + 1 := ⟨n - 1, by omega⟩
      have ih := mx_e_sum m (t.erase q) hl (hn2.2.erase q)
      match k with
      | 0 => exact (mx_s_zero _).trans (Int.mul_zero _).symm
      | 1 => exact (mx_s_zero _).trans (Int.mul_zero _).symm
      | k + 2 =>
        refine (ih k).trans ?_
        show ((m : Int) - (k : Int)) * mx_e w e (t.erase q) k = (((m + 1 : Nat) : Int) - ((k + 2 : Nat) : Int) + 1) * mx_e w e (t.erase q) k
        congr 1
        omega
    show mx_e w e ((x :: t).erase x) k + mx_s (fun p => mx_e w e ((x :: t).erase p) k) t = _
    rw [List.erase_cons_head, mx_e_cons]
    have h1 : mx_s (fun p => mx_e w e ((x :: t).erase p) k) t = mx_s (fun p => (mx_e w e (t.erase p) k + w x * mx_h (mx_e w e (t.erase p)) k) - mx_s (fun q => if q = p then 0 else e x q * mx_h (mx_h (mx_e w e ((t.erase p).erase q))) k) t) t := by
      refine mx_s_congr (fun p hp => ?_)
      have hxp : ¬ x = p := fun q => hn2.1 (q ▸ hp)
      rw [List.erase_cons_tail (by simpa using hxp), mx_e_cons, mx_s_erase _ hn2.2 hp]
    have h2 : mx_s (fun p => mx_s (fun q => if q = p then 0 else e x q * mx_h (mx_h (mx_e w e ((t.erase p).erase q))) k) t) t = ((n : Int) - (k : Int) + 1) * mx_s (fun q => e x q * mx_h (mx_h (mx_e w e (t.erase q))) k) t := by
      rw [mx_s_swap, ← mx_s_mul]
      refine mx_s_congr (fun q hq => ?_)
      have h3 : mx_s (fun p => if q = p then 0 else e x q * mx_h (mx_h (mx_e w e ((t.erase p).erase q))) k) t = mx_s (fun p => e x q * mx_h (mx_h (mx_e w e ((t.erase q).erase p))) k) (t.erase q) := by
        rw [mx_s_erase _ hn2.2 hq]
        refine mx_s_congr (fun p _ => ?_)
        by_cases hpq : p = q
        · rw [if_pos hpq, if_pos hpq.symm]
        · rw [if_neg hpq, if_neg (fun z => hpq z.symm), List.erase_comm]
      rw [h3, mx_s_mul, ihq q hq k, ← Int.mul_assoc, ← Int.mul_assoc, Int.mul_comm (e x q)]
    rw [h1, mx_s_sub, mx_s_add, mx_s_mul, ih k, ihs k, h2]
    have hc : ((n + 1 : Nat) : Int) = (n : Int) + 1 := by omega
    rw [hc]
    generalize mx_s (fun q => e x q * mx_h (mx_h (mx_e w e (t.erase q))) k) t = S
    generalize mx_h (mx_e w e t) k = A
    generalize mx_e w e t k = B
    generalize (n : Int) = N
    generalize (k : Int) = K
    grind
def mx_N (l : List Nat) (k : Nat) : Int := mx_e w e l k * mx_e w e l k - mx_h (mx_e w e l) k * mx_e w e l (k + 1)
def mx_D (l : List Nat) (p k : Nat) : Int := mx_e w e l k * mx_e w e (l.erase p) k - mx_e w e l (k + 1) * mx_h (mx_e w e (l.erase p)) k
theorem mx_D_eq (hs : ∀ a b, e a b = e b a) {l : List Nat} {p : Nat} (hn : l.Nodup) (hp : p ∈ l) (k : Nat) : mx_D w e l p k = mx_N w e (l.erase p) k + mx_s (fun q => e p q * mx_h (mx_D w e (l.erase p) q) k) (l.erase p) := by
  unfold mx_D
  rw [mx_e_at w e hs hn hp k, mx_e_at w e hs hn hp (k + 1)]
  unfold mx_N
  show (_ + _ - _) * _ - (_ + w p * mx_e w e (l.erase p) k - mx_s (fun q => e p q * mx_h (mx_e w e ((l.erase p).erase q)) k) (l.erase p)) * _ = _
  generalize l.erase p = B
  have h1 : mx_s (fun q => e p q * mx_h (fun k => mx_e w e B k * mx_e w e (B.erase q) k - mx_e w e B (k + 1) * mx_h (mx_e w e (B.erase q)) k) k) B = mx_h (mx_e w e B) k * mx_s (fun q => e p q * mx_h (mx_e w e (B.erase q)) k) B - mx_e w e B k * mx_s (fun q => e p q * mx_h (mx_h (mx_e w e (B.erase q))) k) B := by
    rw [← mx_s_mul, ← mx_s_mul, ← mx_s_sub]
    refine mx_s_congr (fun q _ => ?_)
    cases k with
    | zero =>
      show e p q * 0 = 0 * _ - _ * (e p q * 0)
      rw [Int.mul_zero, Int.zero_mul, Int.mul_zero, Int.sub_zero]
    | succ k =>
      show e p q * (mx_e w e B k * mx_e w e (B.erase q) k - mx_e w e B (k + 1) * mx_h (mx_e w e (B.erase q)) k) = mx_e w e B k * (e p q * mx_e w e (B.erase q) k) - mx_e w e B (k + 1) * (e p q * mx_h (mx_e w e (B.erase q)) k)
      grind
  rw [h1]
  generalize mx_s (fun q => e p q * mx_h (mx_e w e (B.erase q)) k) B = S1
  generalize mx_s (fun q => e p q * mx_h (mx_h (mx_e w e (B.erase q))) k) B = S2
  generalize mx_h (mx_e w e B) k = b0
  generalize mx_e w e B (k + 1) = b2
  generalize mx_e w e B k = b1
  grind
theorem mx_real (hs : ∀ a b, e a b = e b a) (hu : ∀ a b, 0 ≤ e a b) : ∀ (n : Nat) (l : List Nat), l.length = n → l.Nodup → (∀ k, 0 ≤ mx_N w e l k) ∧ ∀ p, p ∈ l → ∀ k, 0 ≤ mx_D w e l p k
  | 0, l, h, _ => by
    cases l with
    | nil =>
      refine ⟨fun k => ?_, fun p hp => by cases hp⟩
      unfold mx_N
      cases k with
      | zero => exact (by decide : (0 : Int) ≤ 1 * 1 - 0 * 0)
      | succ k =>
        show (0 : Int) ≤ 0 * 0 - mx_e w e [] k * 0
        rw [Int.mul_zero, Int.mul_zero]
        decide
    | cons a t => exact absurd h (by simp)
  | n + 1, l, h, hn => by
    have hD : ∀ p, p ∈ l → ∀ k, 0 ≤ mx_D w e l p k := fun p hp k => by
      have hl : (l.erase p).length = n := by rw [List.length_erase_of_mem hp, h]; rfl
      obtain ⟨i1, i2⟩ := mx_real hs hu n (l.erase p) hl (hn.erase p)
      rw [mx_D_eq w e hs hn hp k]
      refine Int.add_nonneg (i1 k) (mx_s_nn (fun q hq => Int.mul_nonneg (hu p q) ?_))
      cases k with
      | zero => exact Int.le_refl 0
      | succ k => exact i2 q hq k
    refine ⟨fun k => ?_, hD⟩
    have hS : 0 ≤ mx_s (fun p => mx_D w e l p k) l := mx_s_nn (fun p hp => hD p hp k)
    have e1 : mx_s (fun p => mx_D w e l p k) l = mx_e w e l k * (((n + 1 : Nat) : Int) - (k : Int)) * mx_e w e l k - mx_e w e l (k + 1) * (((n + 1 : Nat) : Int) - (k : Int) + 1) * mx_h (mx_e w e l) k := by
      unfold mx_D
      have e2 : mx_s (fun p => mx_h (mx_e w e (l.erase p)) k) l = (((n + 1 : Nat) : Int) - (k : Int) + 1) * mx_h (mx_e w e l) k := by
        cases k with
        | zero => exact (mx_s_zero l).trans (Int.mul_zero _).symm
        | succ k =>
          refine (mx_e_sum w e (n + 1) l h hn k).trans ?_
          show _ * mx_e w e l k = _ * mx_e w e l k
          congr 1
          omega
      rw [mx_s_sub, mx_s_mul, mx_s_mul, mx_e_sum w e (n + 1) l h hn k, e2, Int.mul_assoc, Int.mul_assoc]
    rw [e1] at hS
    unfold mx_N
    by_cases hk : k < n + 1
    · have hm : (1 : Int) ≤ ((n + 1 : Nat) : Int) - (k : Int) := by omega
      generalize ((n + 1 : Nat) : Int) - (k : Int) = M at hS hm
      generalize mx_h (mx_e w e l) k = C at hS ⊢
      generalize mx_e w e l (k + 1) = B at hS ⊢
      generalize mx_e w e l k = A at hS ⊢
      have hA : 0 ≤ A * A := by
        rcases Int.le_total 0 A with q | q
        · exact Int.mul_nonneg q q
        · exact Int.mul_nonneg_of_nonpos_of_nonpos q q
      rcases Int.le_total (C * B) 0 with q | q
      · omega
      · have e3 : A * M * A - B * (M + 1) * C = M * (A * A - C * B) - C * B := by grind
        rw [e3] at hS
        have h4 : 0 ≤ M * (A * A - C * B) := by omega
        rcases Int.le_total 0 (A * A - C * B) with z | z
        · exact z
        · have h5 : M * (A * A - C * B) ≤ 1 * (A * A - C * B) := Int.mul_le_mul_of_nonpos_right hm z
          omega
    · have hB : mx_e w e l (k + 1) = 0 := mx_e_big w e (n + 1) l (Nat.le_of_eq h) (k + 1) (by omega)
      rw [hB, Int.mul_zero, Int.sub_zero]
      generalize mx_e w e l k = A
      rcases Int.le_total 0 A with q | q
      · exact Int.mul_nonneg q q
      · exact Int.mul_nonneg_of_nonpos_of_nonpos q q
end RL
end
section
/-! How many are above 0: the changes of sign, and one vertex more -/
def mx_v (f : Nat → Int) : Nat → Nat
  | 0 => 0
  | n + 1 => mx_v f n + (if 0 < f n * f (n + 1) then 1 else 0)
theorem mx_pos {x y : Int} (hx : x ≠ 0) (hy : y ≠ 0) : (0 < x * y) ↔ ((0 < x) ↔ (0 < y)) := by
  rcases Int.lt_trichotomy x 0 with h1 | h1 | h1
  · rcases Int.lt_trichotomy y 0 with h2 | h2 | h2
    · have := Int.mul_pos_of_neg_of_neg h1 h2
      exact ⟨fun _ => ⟨fun q => absurd q (by omega), fun q => absurd q (by omega)⟩, fun _ => this⟩
    · exact absurd h2 hy
    · have := Int.mul_neg_of_neg_of_pos h1 h2
      exact ⟨fun q => absurd q (by omega), fun q => absurd (q.mpr h2) (by omega)⟩
  · exact absurd h1 hx
  · rcases Int.lt_trichotomy y 0 with h2 | h2 | h2
    · have := Int.mul_neg_of_pos_of_neg h1 h2
      exact ⟨fun q => absurd q (by omega), fun q => absurd (q.mp h1) (by omega)⟩
    · exact absurd h2 hy
    · exact ⟨fun _ => ⟨fun _ => h2, fun _ => h1⟩, fun _ => Int.mul_pos h1 h2⟩
theorem mx_v_step {a b : Nat → Int} (ha : a 0 = 1) (hb : b 0 = 1) : ∀ (m : Nat), (∀ k, k ≤ m + 1 → a k ≠ 0) → (∀ k, k ≤ m → b k ≠ 0) → (∀ k, k < m → a (k + 2) * b k ≤ a (k + 1) * b (k + 1)) → mx_v a (m + 1) = mx_v b m + (if 0 < a (m + 1) * b m then 1 else 0)
  | 0, _, _, _ => by
    show 0 + (if 0 < a 0 * a 1 then 1 else 0) = 0 + (if 0 < a 1 * b 0 then 1 else 0)
    rw [ha, hb, Int.one_mul, Int.mul_one]
  | m + 1, h1, h2, h3 => by
    have ih := mx_v_step ha hb m (fun k hk => h1 k (by omega)) (fun k hk => h2 k (by omega)) (fun k hk => h3 k (by omega))
    show mx_v a (m + 1) + (if 0 < a (m + 1) * a (m + 2) then 1 else 0) = mx_v b m + (if 0 < b m * b (m + 1) then 1 else 0) + (if 0 < a (m + 2) * b (m + 1) then 1 else 0)
    rw [ih]
    have n1 := h1 (m + 1) (by omega)
    have n2 := h1 (m + 2) (by omega)
    have n3 := h2 m (by omega)
    have n4 := h2 (m + 1) (by omega)
    have hx := h3 m (by omega)
    have hx : 0 < a (m + 2) * b m → 0 < a (m + 1) * b (m + 1) := fun q => Int.lt_of_lt_of_le q hx
    rw [mx_pos n2 n3, mx_pos n1 n4] at hx
    simp only [mx_pos n1 n2, mx_pos n1 n3, mx_pos n3 n4, mx_pos n2 n4]
    by_cases c1 : 0 < a (m + 1) <;> by_cases c2 : 0 < a (m + 2) <;> by_cases c3 : 0 < b m <;> by_cases c4 : 0 < b (m + 1) <;> simp [c1, c2, c3, c4] at hx ⊢
section SG
variable (w : Nat → Int) (e : Nat → Nat → Int)
theorem mx_e_0 : ∀ (l : List Nat), mx_e w e l 0 = 1
  | [] => rfl
  | p :: l => by
    rw [mx_e_cons, mx_e_0 l]
    show 1 + w p * 0 - mx_s (fun q => e p q * 0) l = 1
    rw [mx_s_congr (g := fun _ => 0) (fun q _ => Int.mul_zero _), mx_s_zero, Int.mul_zero]
    rfl
/-- the last of the sums is the minor -/
theorem mx_e_top : ∀ (n : Nat) (l : List Nat), l.length ≤ n → mx_e w e l l.length = mx_p w e l
  | _, [], _ => rfl
  | 0, p :: l, h => absurd h (by simp)
  | n + 1, p :: l, h => by
    have h : l.length ≤ n := Nat.le_of_succ_le_succ h
    rw [mx_e_cons, mx_p_cons]
    show mx_e w e l (l.length + 1) + w p * mx_e w e l l.length - mx_s (fun q => e p q * mx_h (mx_e w e (l.erase q)) l.length) l = _
    rw [mx_e_big w e l.length l (Nat.le_refl _) _ (Nat.lt_succ_self _), Int.zero_add, mx_e_top n l h]
    congr 1
    refine mx_s_congr (fun q hq => ?_)
    congr 1
    have hl : (l.erase q).length = l.length - 1 := List.length_erase_of_mem hq
    have h1 : 0 < l.length := List.length_pos_of_mem hq
    obtain ⟨m, hm⟩ : ∃ m, l.length = m + 1 := ⟨l.length - 1, by omega⟩
    rw [hm]
    show mx_e w e (l.erase q) m = _
    have hm2 : (l.erase q).length = m := by omega
    rw [← mx_e_top n (l.erase q) (Nat.le_trans List.length_erase_le h), hm2]
/-- one vertex more, where no sum is 0 -/
theorem mx_v_at (hs : ∀ a b, e a b = e b a) (hu : ∀ a b, 0 ≤ e a b) {l : List Nat} {p m : Nat} (hn : l.Nodup) (hp : p ∈ l) (hm : l.length = m + 1) (h1 : ∀ k, k ≤ m + 1 → mx_e w e l k ≠ 0) (h2 : ∀ k, k ≤ m → mx_e w e (l.erase p) k ≠ 0) : mx_v (mx_e w e l) (m + 1) = mx_v (mx_e w e (l.erase p)) m + (if 0 < mx_p w e l * mx_p w e (l.erase p) then 1 else 0) := by
  have hl : (l.erase p).length = m := by rw [List.length_erase_of_mem hp, hm]; rfl
  rw [mx_v_step (mx_e_0 w e l) (mx_e_0 w e (l.erase p)) m h1 h2 (fun k _ => ?_)]
  · rw [← mx_e_top w e l.length l (Nat.le_refl _), ← mx_e_top w e (l.erase p).length (l.erase p) (Nat.le_refl _), hm, hl]
  · have := (mx_real w e hs hu (m + 1) l hm hn).2 p hp (k + 1)
    unfold mx_D at this
    have this : 0 ≤ mx_e w e l (k + 1) * mx_e w e (l.erase p) (k + 1) - mx_e w e l (k + 2) * mx_e w e (l.erase p) k := this
    omega
end SG
end
section
/-! Vertex by vertex: the signs of one minor beside the next; and the changes that leave noughts out -/
section CH
variable (w : Nat → Int) (e : Nat → Nat → Int)
def mx_c : List Nat → Nat
  | [] => 0
  | p :: l => mx_c l + (if 0 < mx_p w e (p :: l) * mx_p w e l then 1 else 0)
/-- no sum is 0, of the list or of what stands behind -/
def mx_ok : List Nat → Prop
  | [] => True
  | p :: l => (∀ k, k ≤ l.length + 1 → mx_e w e (p :: l) k ≠ 0) ∧ mx_ok l
theorem mx_ok_self : ∀ {l : List Nat}, mx_ok w e l → ∀ k, k ≤ l.length → mx_e w e l k ≠ 0
  | [], _, k, hk => by
    have hk : k = 0 := Nat.le_zero.mp hk
    subst hk
    exact (by decide : (1 : Int) ≠ 0)
  | _ :: _, h, k, hk => h.1 k hk
theorem mx_chain (hs : ∀ a b, e a b = e b a) (hu : ∀ a b, 0 ≤ e a b) : ∀ (l : List Nat), l.Nodup → mx_ok w e l → mx_v (mx_e w e l) l.length = mx_c w e l
  | [], _, _ => rfl
  | p :: l, hn, h => by
    have hn2 := List.nodup_cons.mp hn
    have he : (p :: l).erase p = l := List.erase_cons_head p l
    have := mx_v_at w e hs hu (l := p :: l) (p := p) (m := l.length) hn List.mem_cons_self rfl h.1 (by rw [he]; exact mx_ok_self w e h.2)
    rw [he] at this
    show mx_v (mx_e w e (p :: l)) (l.length + 1) = mx_c w e l + _
    rw [this, mx_chain hs hu l hn2.2 h.2]
/-- scaled: every weight n times, every edge n * n times -/
theorem mx_e_scale (c : Int) : ∀ (n : Nat) (l : List Nat), l.length ≤ n → ∀ k, mx_e (fun p => c * w p) (fun p q => c * c * e p q) l k = c ^ k * mx_e w e l k
  | _, [], _, k => by
    rw [mx_e_nil, mx_e_nil]
    by_cases h : k = 0
    · subst h
      simp
    · rw [if_neg h, Int.mul_zero]
  | 0, p :: l, h, _ => absurd h (by simp)
  | n + 1, p :: l, h, k => by
    have h : l.length ≤ n := Nat.le_of_succ_le_succ h
    have hp : ∀ (f g : Nat → Int), (∀ k, f k = c ^ k * g k) → ∀ k, c * mx_h f k = c ^ k * mx_h g k := fun f g hf k => by
      cases k with
      | zero => exact (Int.mul_zero c).trans (Int.mul_zero _).symm
      | succ k =>
        show c * f k = c ^ (k + 1) * g k
        rw [hf k, Int.pow_succ, ← Int.mul_assoc, Int.mul_comm c]
    have ih := mx_e_scale c n l h
    rw [mx_e_cons, mx_e_cons, ih k, Int.mul_sub, Int.mul_add, ← mx_s_mul]
    congr 1
    · congr 1
      rw [Int.mul_comm c, Int.mul_assoc, hp _ _ ih k, ← Int.mul_assoc, ← Int.mul_assoc, Int.mul_comm (w p)]
    · refine mx_s_congr (fun q _ => ?_)
      have h1 := mx_e_scale c n (l.erase q) (Nat.le_trans List.length_erase_le h)
      have h2 : c * (c * mx_h (mx_h (mx_e (fun p => c * w p) (fun p q => c * c * e p q) (l.erase q))) k) = c ^ k * mx_h (mx_h (mx_e w e (l.erase q))) k := by
        rw [← mx_h_mul]
        exact hp _ _ (hp _ _ h1) k
      rw [Int.mul_comm (c * c), Int.mul_assoc, Int.mul_assoc, h2, ← Int.mul_assoc, ← Int.mul_assoc, Int.mul_comm (e p q)]
/-- how often the sign turns, noughts left out: the number, and the last sign that was -/
def mx_t (f : Nat → Int) : Nat → Nat × Int
  | 0 => (0, f 0)
  | n + 1 => if f (n + 1) = 0 then mx_t f n else (if (mx_t f n).2 * f (n + 1) < 0 then (mx_t f n).1 + 1 else (mx_t f n).1, f (n + 1))
/-- filled: what is 0 has the sign of the last that isn't -/
theorem mx_t_fill {f g : Nat → Int} (h0 : 0 < f 0 * g 0) : ∀ (n : Nat), (∀ k, k ≤ n → 0 < (mx_t f k).2 * g k) → (mx_t f n).1 = (mx_t g n).1 ∧ (mx_t g n).2 = g n
  | 0, _ => ⟨rfl, rfl⟩
  | n + 1, h => by
    obtain ⟨i1, i2⟩ := mx_t_fill h0 n (fun k hk => h k (by omega))
    have hg : ∀ k, k ≤ n + 1 → g k ≠ 0 := fun k hk q => by
      have := h k hk
      rw [q, Int.mul_zero] at this
      exact absurd this (by decide)
    have a1 := h n (by omega)
    have a2 := h (n + 1) (by omega)
    have e2 : mx_t g (n + 1) = (if (mx_t g n).2 * g (n + 1) < 0 then (mx_t g n).1 + 1 else (mx_t g n).1, g (n + 1)) := if_neg (hg (n + 1) (by omega))
    rw [e2]
    refine ⟨?_, rfl⟩
    show (mx_t f (n + 1)).1 = if (mx_t g n).2 * g (n + 1) < 0 then (mx_t g n).1 + 1 else (mx_t g n).1
    rw [i2, ← i1]
    have n1 : (mx_t f n).2 ≠ 0 := fun q => by rw [q, Int.zero_mul] at a1; exact absurd a1 (by decide)
    have n2 := hg n (by omega)
    have n3 := hg (n + 1) (by omega)
    by_cases hf : f (n + 1) = 0
    · have e1 : mx_t f (n + 1) = mx_t f n := if_pos hf
      rw [e1] at a2 ⊢
      rw [mx_pos n1 n2] at a1
      rw [mx_pos n1 n3] at a2
      have : 0 < g n * g (n + 1) := (mx_pos n2 n3).mpr (a1.symm.trans a2)
      rw [if_neg (by omega)]
    · have e1 : mx_t f (n + 1) = (if (mx_t f n).2 * f (n + 1) < 0 then (mx_t f n).1 + 1 else (mx_t f n).1, f (n + 1)) := if_neg hf
      rw [e1] at a2 ⊢
      have a2 : 0 < f (n + 1) * g (n + 1) := a2
      show (if (mx_t f n).2 * f (n + 1) < 0 then (mx_t f n).1 + 1 else (mx_t f n).1) = _
      rw [mx_pos n1 n2] at a1
      rw [mx_pos hf n3] at a2
      have z1 : (mx_t f n).2 * f (n + 1) ≠ 0 := Int.mul_ne_zero n1 hf
      have z2 : g n * g (n + 1) ≠ 0 := Int.mul_ne_zero n2 n3
      have : (0 < (mx_t f n).2 * f (n + 1)) ↔ (0 < g n * g (n + 1)) := by
        rw [mx_pos n1 hf, mx_pos n2 n3, a1, a2]
      by_cases q : (mx_t f n).2 * f (n + 1) < 0
      · rw [if_pos q, if_pos (by omega)]
      · rw [if_neg q, if_neg (by omega)]
end CH
end
section
/-! Every weight t more: the sums of minors then -/
def mx_x (t : Int) (f : Nat → Int) : Nat → Nat → Int
  | 0, k => f k
  | _ + 1, 0 => f 0
  | r + 1, k + 1 => mx_x t f r (k + 1) + t * mx_x t f (r + 1) k
theorem mx_x_0 (t : Int) (f : Nat → Int) (r : Nat) : mx_x t f r 0 = f 0 := by
  cases r <;> simp [mx_x]
theorem mx_x_z (t : Int) (f : Nat → Int) (k : Nat) : mx_x t f 0 k = f k := by
  simp [mx_x]
theorem mx_x_s (t : Int) (f : Nat → Int) (r k : Nat) : mx_x t f (r + 1) (k + 1) = mx_x t f r (k + 1) + t * mx_x t f (r + 1) k := by
  rw [mx_x]
theorem mx_x_congr (t : Int) {f g : Nat → Int} (h : ∀ k, f k = g k) (r k : Nat) : mx_x t f r k = mx_x t g r k := by
  rw [funext h]
theorem mx_x_add (t : Int) (f g : Nat → Int) : ∀ (r k : Nat), mx_x t (fun k => f k + g k) r k = mx_x t f r k + mx_x t g r k
  | 0, k => by simp [mx_x]
  | r + 1, 0 => by simp [mx_x]
  | r + 1, k + 1 => by
    have h1 := mx_x_add t f g r (k + 1)
    have h2 := mx_x_add t f g (r + 1) k
    simp only [mx_x]
    rw [h1, h2, Int.mul_add]
    omega
theorem mx_x_mul (t c : Int) (f : Nat → Int) : ∀ (r k : Nat), mx_x t (fun k => c * f k) r k = c * mx_x t f r k
  | 0, k => by simp [mx_x]
  | r + 1, 0 => by simp [mx_x]
  | r + 1, k + 1 => by
    have h1 := mx_x_mul t c f r (k + 1)
    have h2 := mx_x_mul t c f (r + 1) k
    simp only [mx_x]
    rw [h1, h2, Int.mul_add, ← Int.mul_assoc, ← Int.mul_assoc, Int.mul_comm t c]
theorem mx_x_sub (t : Int) (f g : Nat → Int) (r k : Nat) : mx_x t (fun k => f k - g k) r k = mx_x t f r k - mx_x t g r k := by
  have h := mx_x_add t f (fun k => -1 * g k) r k
  rw [mx_x_mul] at h
  rw [mx_x_congr t (g := fun k => f k + -1 * g k) (fun k => by omega), h]
  omega
theorem mx_x_sum (t : Int) (F : Nat → Nat → Int) (r k : Nat) : ∀ (l : List Nat), mx_x t (fun k => mx_s (fun q => F q k) l) r k = mx_s (fun q => mx_x t (F q) r k) l
  | [] => by
    have h := mx_x_mul t 0 (fun _ => 0) r k
    rw [Int.zero_mul] at h
    exact (mx_x_congr t (f := fun k => mx_s (fun q => F q k) []) (g := fun _ => 0) (fun _ => rfl) r k).trans (h.trans (Int.zero_mul _))
  | a :: l => by
    show mx_x t (fun k => F a k + mx_s (fun q => F q k) l) r k = mx_x t (F a) r k + mx_s (fun q => mx_x t (F q) r k) l
    rw [mx_x_add, mx_x_sum t F r k l]
theorem mx_x_h (t : Int) (f : Nat → Int) : ∀ (r k : Nat), mx_x t (mx_h f) r (k + 1) = mx_x t f r k
  | 0, k => by
    rw [mx_x_z, mx_x_z]
    rfl
  | r + 1, 0 => by
    rw [mx_x_s, mx_x_h t f r 0, mx_x_0, mx_x_0, mx_x_0]
    show f 0 + t * 0 = f 0
    omega
  | r + 1, k + 1 => by
    have h1 := mx_x_h t f r (k + 1)
    have h2 := mx_x_h t f (r + 1) k
    rw [mx_x_s t (mx_h f) r (k + 1), mx_x_s t f r k, h1, h2]
section SH
variable (w : Nat → Int) (e : Nat → Nat → Int)
theorem mx_e_shift (t : Int) : ∀ (n : Nat) (l : List Nat), l.length ≤ n → ∀ r k, r + k = l.length + 1 → mx_e (fun p => w p + t) e l k = mx_x t (mx_e w e l) r k
  | _, [], _, r, k, hk => by
    have hk : r + k = 1 := hk
    rcases k with _ | _ | k
    · rw [mx_x_0]
      rfl
    · have : r = 0 := by omega
      subst this
      rw [mx_x_z]
      rfl
    · exact absurd hk (by omega)
  | 0, p :: l, h, _, _, _ => absurd h (by simp)
  | n + 1, p :: l, h, r, k, hk => by
    have h : l.length ≤ n := Nat.le_of_succ_le_succ h
    have hk : r + k = l.length + 1 + 1 := hk
    have ih := mx_e_shift t n l h
    cases k with
    | zero => rw [mx_x_0, mx_e_0, mx_e_0]
    | succ k =>
      cases r with
      | zero =>
        rw [mx_x_z, mx_e_big _ _ (n + 1) (p :: l) (Nat.succ_le_succ h) (k + 1) (by show l.length + 1 < _; omega), mx_e_big _ _ (n + 1) (p :: l) (Nat.succ_le_succ h) (k + 1) (by show l.length + 1 < _; omega)]
      | succ r =>
        have hc : ∀ k, mx_e w e (p :: l) k = (mx_e w e l k + w p * mx_h (mx_e w e l) k) - mx_s (fun q => e p q * mx_h (mx_h (mx_e w e (l.erase q))) k) l := mx_e_cons w e p l
        have i1 := ih r (k + 1) (by omega)
        have i2 := ih (r + 1) k (by omega)
        rw [mx_x_congr t hc, mx_x_sub, mx_x_add, mx_x_mul, mx_x_h, mx_x_sum, mx_e_cons, i1]
        show mx_x t (mx_e w e l) r (k + 1) + (w p + t) * mx_e (fun p => w p + t) e l k - _ = _
        rw [i2]
        have i3 : mx_s (fun q => mx_x t (fun k => e p q * mx_h (mx_h (mx_e w e (l.erase q))) k) (r + 1) (k + 1)) l = mx_s (fun q => e p q * mx_h (mx_h (mx_e (fun p => w p + t) e (l.erase q))) (k + 1)) l := by
          refine mx_s_congr (fun q hq => ?_)
          rw [mx_x_mul, mx_x_h]
          congr 1
          show _ = mx_h (mx_e (fun p => w p + t) e (l.erase q)) k
          have hl : (l.erase q).length = l.length - 1 := List.length_erase_of_mem hq
          have h1 : 0 < l.length := List.length_pos_of_mem hq
          cases k with
          | zero => rw [mx_x_0]; rfl
          | succ k =>
            rw [mx_x_h]
            exact (mx_e_shift t n (l.erase q) (Nat.le_trans List.length_erase_le h) (r + 1) k (by omega)).symm
        rw [i3]
        rw [mx_x_s, Int.add_mul]
        omega
end SH
end
section
/-! For a scale that is large: no sum is 0, and each has the sign of the last that is not 0 -/
abbrev mx_F (f : Nat → Int) (N : Int) : Nat → Int := fun j => N ^ j * f j
theorem mx_pw {N : Int} (hN : 1 ≤ N) : ∀ k : Nat, 1 ≤ N ^ k
  | 0 => by rw [Int.pow_zero]; decide
  | k + 1 => by
    have h := mx_pw hN k
    rw [Int.pow_succ]
    have h1 : N ^ k * 1 ≤ N ^ k * N := Int.mul_le_mul_of_nonneg_left hN (by omega)
    omega
theorem mx_pw_le {N : Int} (hN : 1 ≤ N) (k : Nat) : N ^ k ≤ N ^ (k + 1) := by
  have h := mx_pw hN k
  rw [Int.pow_succ]
  have h1 : N ^ k * 1 ≤ N ^ k * N := Int.mul_le_mul_of_nonneg_left hN (by omega)
  omega
theorem mx_abs (x M : Int) (hM : 0 ≤ M) : ∃ K : Int, 0 ≤ K ∧ -(K * M) ≤ M * x ∧ M * x ≤ K * M ∧ K = (if 0 ≤ x then x else -x) := by
  by_cases h : 0 ≤ x
  · refine ⟨x, h, ?_, by rw [Int.mul_comm]; exact Int.le_refl _, (if_pos h).symm⟩
    have := Int.mul_nonneg h hM
    have e := Int.mul_comm x M
    omega
  · refine ⟨-x, by omega, ?_, ?_, (if_neg h).symm⟩
    · have e : -x * M = -(M * x) := by rw [Int.neg_mul, Int.mul_comm]
      omega
    · have e : -x * M = -(M * x) := by rw [Int.neg_mul, Int.mul_comm]
      have := Int.mul_nonneg (show 0 ≤ -x by omega) hM
      omega
theorem mx_x_bd (f : Nat → Int) : ∀ r k : Nat, ∃ K : Int, 0 ≤ K ∧ ∀ N : Int, 1 ≤ N → -(K * N ^ k) ≤ mx_x 1 (mx_F f N) r k ∧ mx_x 1 (mx_F f N) r k ≤ K * N ^ k
  | 0, k => by
    refine ⟨if 0 ≤ f k then f k else -f k, by split <;> omega, fun N hN => ?_⟩
    obtain ⟨K, -, h1, h2, h3⟩ := mx_abs (f k) (N ^ k) (by have := mx_pw hN k; omega)
    rw [mx_x_z, ← h3]
    exact ⟨h1, h2⟩
  | r + 1, 0 => by
    refine ⟨if 0 ≤ f 0 then f 0 else -f 0, by split <;> omega, fun N hN => ?_⟩
    obtain ⟨K, -, h1, h2, h3⟩ := mx_abs (f 0) (N ^ 0) (by have := mx_pw hN 0; omega)
    rw [mx_x_0, ← h3]
    exact ⟨h1, h2⟩
  | r + 1, k + 1 => by
    obtain ⟨K1, p1, h1⟩ := mx_x_bd f r (k + 1)
    obtain ⟨K2, p2, h2⟩ := mx_x_bd f (r + 1) k
    refine ⟨K1 + K2, by omega, fun N hN => ?_⟩
    obtain ⟨a1, a2⟩ := h1 N hN
    obtain ⟨b1, b2⟩ := h2 N hN
    have h3 : K2 * N ^ k ≤ K2 * N ^ (k + 1) := Int.mul_le_mul_of_nonneg_left (mx_pw_le hN k) p2
    rw [mx_x_s, Int.one_mul, Int.add_mul]
    omega
theorem mx_x_top (f : Nat → Int) (k : Nat) : ∀ r : Nat, ∃ K : Int, 0 ≤ K ∧ ∀ N : Int, 1 ≤ N → N ^ (k + 1) * f (k + 1) - K * N ^ k ≤ mx_x 1 (mx_F f N) r (k + 1) ∧ mx_x 1 (mx_F f N) r (k + 1) ≤ N ^ (k + 1) * f (k + 1) + K * N ^ k
  | 0 => ⟨0, Int.le_refl 0, fun N _ => by
      rw [mx_x_z]
      show _ ≤ N ^ (k + 1) * f (k + 1) ∧ N ^ (k + 1) * f (k + 1) ≤ _
      omega⟩
  | r + 1 => by
    obtain ⟨K1, p1, h1⟩ := mx_x_top f k r
    obtain ⟨K2, p2, h2⟩ := mx_x_bd f (r + 1) k
    refine ⟨K1 + K2, by omega, fun N hN => ?_⟩
    obtain ⟨a1, a2⟩ := h1 N hN
    obtain ⟨b1, b2⟩ := h2 N hN
    rw [mx_x_s, Int.one_mul, Int.add_mul]
    omega
theorem mx_x_sign {f : Nat → Int} (h0 : f 0 = 1) : ∀ k r : Nat, ∃ N0 : Int, ∀ N : Int, N0 ≤ N → 0 < (mx_t f k).2 * mx_x 1 (mx_F f N) (r + 1) k
  | 0, r => ⟨0, fun N _ => by
    rw [mx_x_0]
    show 0 < f 0 * (N ^ 0 * f 0)
    rw [h0, Int.pow_zero]
    decide⟩
  | k + 1, r => by
    by_cases hf : f (k + 1) = 0
    · have e : mx_t f (k + 1) = mx_t f k := if_pos hf
      rw [e]
      induction r with
      | zero =>
        obtain ⟨N0, h⟩ := mx_x_sign h0 k 0
        refine ⟨N0, fun N hN => ?_⟩
        have z : mx_F f N (k + 1) = 0 := by
          show N ^ (k + 1) * f (k + 1) = 0
          rw [hf, Int.mul_zero]
        rw [mx_x_s, mx_x_z, z, Int.zero_add, Int.one_mul]
        exact h N hN
      | succ r ih =>
        obtain ⟨N1, h1⟩ := ih
        obtain ⟨N2, h2⟩ := mx_x_sign h0 k (r + 1)
        refine ⟨if N1 ≤ N2 then N2 else N1, fun N hN => ?_⟩
        have a1 := h1 N (by split at hN <;> omega)
        have a2 := h2 N (by split at hN <;> omega)
        rw [mx_x_s, Int.one_mul, Int.mul_add]
        omega
    · have e : (mx_t f (k + 1)).2 = f (k + 1) := by
        show (if f (k + 1) = 0 then mx_t f k else _).2 = _
        rw [if_neg hf]
      rw [e]
      obtain ⟨K, p, h⟩ := mx_x_top f k (r + 1)
      refine ⟨K + 1, fun N hN => ?_⟩
      have hN1 : 1 ≤ N := by omega
      obtain ⟨a1, a2⟩ := h N hN1
      have hp := mx_pw hN1 k
      have e1 : N ^ (k + 1) * f (k + 1) = N ^ k * (N * f (k + 1)) := by rw [Int.pow_succ, Int.mul_assoc]
      have e2 : K * N ^ k = N ^ k * K := Int.mul_comm _ _
      rw [e1, e2] at a1 a2
      rcases Int.lt_trichotomy (f (k + 1)) 0 with q | q | q
      · have h1 : N * f (k + 1) ≤ N * (-1) := Int.mul_le_mul_of_nonneg_left (by omega) (by omega)
        have h2 : N ^ k * (N * f (k + 1) + K) ≤ N ^ k * (-1) := Int.mul_le_mul_of_nonneg_left (by omega) (by omega)
        rw [Int.mul_add] at h2
        exact Int.mul_pos_of_neg_of_neg q (by omega)
      · exact absurd q hf
      · have h1 : N * 1 ≤ N * f (k + 1) := Int.mul_le_mul_of_nonneg_left (by omega) (by omega)
        have h2 : N ^ k * 1 ≤ N ^ k * (N * f (k + 1) - K) := Int.mul_le_mul_of_nonneg_left (by omega) (by omega)
        rw [Int.mul_sub] at h2
        exact Int.mul_pos q (by omega)
end
section
/-! How many are above 0, by the changes of sign with noughts left out, is the changes where no sum is 0 any more -/
theorem mx_all {P : Nat → Int → Prop} : ∀ n : Nat, (∀ k, k ≤ n → ∃ N0 : Int, ∀ N : Int, N0 ≤ N → P k N) → ∃ N0 : Int, ∀ N : Int, N0 ≤ N → ∀ k, k ≤ n → P k N
  | 0, h => by
    obtain ⟨N0, h0⟩ := h 0 (Nat.le_refl 0)
    refine ⟨N0, fun N hN k hk => ?_⟩
    have hk : k = 0 := Nat.le_zero.mp hk
    subst hk
    exact h0 N hN
  | n + 1, h => by
    obtain ⟨N1, h1⟩ := mx_all n (fun k hk => h k (by omega))
    obtain ⟨N2, h2⟩ := h (n + 1) (Nat.le_refl _)
    refine ⟨if N1 ≤ N2 then N2 else N1, fun N hN k hk => ?_⟩
    by_cases hk2 : k ≤ n
    · exact h1 N (by split at hN <;> omega) k hk2
    · have hk3 : k = n + 1 := by omega
      subst hk3
      exact h2 N (by split at hN <;> omega)
def mx_al (f : Nat → Int) (k : Nat) : Int := (-1) ^ k * f k
theorem mx_sq : ∀ k : Nat, ((-1 : Int) ^ k) * ((-1 : Int) ^ k) = 1
  | 0 => by rw [Int.pow_zero]; rfl
  | k + 1 => by
    have h := mx_sq k
    rw [Int.pow_succ]
    generalize ((-1 : Int) ^ k) = c at h ⊢
    grind
theorem mx_x_al (g : Nat → Int) : ∀ r k : Nat, mx_x 1 (mx_al g) r k = (-1) ^ k * mx_x (-1) g r k
  | 0, k => by
    rw [mx_x_z, mx_x_z]
    rfl
  | r + 1, 0 => by
    rw [mx_x_0, mx_x_0]
    rfl
  | r + 1, k + 1 => by
    rw [mx_x_s, mx_x_s, mx_x_al g r (k + 1), mx_x_al g (r + 1) k, Int.pow_succ]
    generalize ((-1 : Int) ^ k) = c
    generalize mx_x (-1) g r (k + 1) = x
    generalize mx_x (-1) g (r + 1) k = y
    grind
theorem mx_t_v {E : Nat → Int} : ∀ n : Nat, (∀ k, k ≤ n → E k ≠ 0) → (mx_t (mx_al E) n).1 = mx_v E n ∧ (mx_t (mx_al E) n).2 = mx_al E n
  | 0, _ => ⟨rfl, rfl⟩
  | n + 1, h => by
    obtain ⟨i1, i2⟩ := mx_t_v n (fun k hk => h k (by omega))
    have hs := mx_sq n
    have h1 : mx_al E (n + 1) ≠ 0 := fun q => by
      have q : (-1) ^ (n + 1) * E (n + 1) = 0 := q
      rcases Int.mul_eq_zero.mp q with z | z
      · have := mx_sq (n + 1)
        rw [z] at this
        exact absurd this (by decide)
      · exact h (n + 1) (Nat.le_refl _) z
    have e1 : mx_t (mx_al E) (n + 1) = (if (mx_t (mx_al E) n).2 * mx_al E (n + 1) < 0 then (mx_t (mx_al E) n).1 + 1 else (mx_t (mx_al E) n).1, mx_al E (n + 1)) := if_neg h1
    rw [e1]
    refine ⟨?_, rfl⟩
    show (if (mx_t (mx_al E) n).2 * mx_al E (n + 1) < 0 then (mx_t (mx_al E) n).1 + 1 else (mx_t (mx_al E) n).1) = mx_v E n + (if 0 < E n * E (n + 1) then 1 else 0)
    rw [i1, i2]
    have e2 : mx_al E n * mx_al E (n + 1) = -(E n * E (n + 1)) := by
      unfold mx_al
      rw [Int.pow_succ]
      generalize ((-1 : Int) ^ n) = c at hs ⊢
      generalize E n = x
      generalize E (n + 1) = y
      grind
    rw [e2]
    by_cases q : 0 < E n * E (n + 1)
    · rw [if_pos (by omega), if_pos q]
    · rw [if_neg (by omega), if_neg q]
      rfl
section AB
variable (w : Nat → Int) (e : Nat → Nat → Int)
/-- weights and edges by a scale, and every weight a little less -/
abbrev mx_wN (N : Int) : Nat → Int := fun p => N * w p + -1
abbrev mx_eN (N : Int) : Nat → Nat → Int := fun p q => N * N * e p q
theorem mx_e_N (N : Int) (l : List Nat) (r k : Nat) (hk : r + k = l.length + 1) : mx_al (mx_e (mx_wN w N) (mx_eN e N) l) k = mx_x 1 (mx_F (mx_al (mx_e w e l)) N) r k := by
  show (-1) ^ k * mx_e (fun p => N * w p + -1) (mx_eN e N) l k = _
  rw [mx_e_shift (fun p => N * w p) (mx_eN e N) (-1) l.length l (Nat.le_refl _) r k hk, mx_x_congr (-1) (mx_e_scale w e N l.length l (Nat.le_refl _)), ← mx_x_al]
  refine mx_x_congr 1 (fun j => ?_) r k
  show (-1) ^ j * (N ^ j * mx_e w e l j) = N ^ j * ((-1) ^ j * mx_e w e l j)
  rw [← Int.mul_assoc, ← Int.mul_assoc, Int.mul_comm (N ^ j)]
/-- for a large scale: no sum is 0, and the changes are those with noughts left out -/
theorem mx_above (l : List Nat) : ∃ N0 : Int, ∀ N : Int, N0 ≤ N → (∀ k, k ≤ l.length → mx_e (mx_wN w N) (mx_eN e N) l k ≠ 0) ∧ mx_v (mx_e (mx_wN w N) (mx_eN e N) l) l.length = (mx_t (mx_al (mx_e w e l)) l.length).1 := by
  have h0 : mx_al (mx_e w e l) 0 = 1 := by
    show (-1) ^ 0 * mx_e w e l 0 = 1
    rw [mx_e_0]
    rfl
  obtain ⟨N0, h⟩ := mx_all (P := fun k N => 0 < (mx_t (mx_al (mx_e w e l)) k).2 * mx_al (mx_e (mx_wN w N) (mx_eN e N) l) k) l.length (fun k hk => by
    obtain ⟨N0, h⟩ := mx_x_sign h0 k (l.length - k)
    refine ⟨N0, fun N hN => ?_⟩
    rw [mx_e_N w e N l (l.length - k + 1) k (by omega)]
    exact h N hN)
  refine ⟨N0, fun N hN => ?_⟩
  have hk := h N hN
  have hz : ∀ k, k ≤ l.length → mx_e (mx_wN w N) (mx_eN e N) l k ≠ 0 := fun k hkl q => by
    have := hk k hkl
    have z : mx_al (mx_e (mx_wN w N) (mx_eN e N) l) k = 0 := by
      show (-1) ^ k * mx_e (mx_wN w N) (mx_eN e N) l k = 0
      rw [q, Int.mul_zero]
    rw [z, Int.mul_zero] at this
    exact absurd this (by decide)
  refine ⟨hz, ?_⟩
  rw [(mx_t_fill (g := mx_al (mx_e (mx_wN w N) (mx_eN e N) l)) (hk 0 (Nat.zero_le _)) l.length hk).1, (mx_t_v l.length hz).1]
end AB
end
section
/-! The changes of sign with noughts left out, counted vertex by vertex in a large scale -/
section CT
variable (w : Nat → Int) (e : Nat → Nat → Int)
theorem mx_ok_large : ∀ l : List Nat, ∃ N0 : Int, ∀ N : Int, N0 ≤ N → mx_ok (mx_wN w N) (mx_eN e N) l
  | [] => ⟨0, fun _ _ => trivial⟩
  | p :: l => by
    obtain ⟨N1, h1⟩ := mx_ok_large l
    obtain ⟨N2, h2⟩ := mx_above w e (p :: l)
    exact ⟨if N1 ≤ N2 then N2 else N1, fun N hN => ⟨fun k hk => (h2 N (by split at hN <;> omega)).1 k hk, h1 N (by split at hN <;> omega)⟩⟩
theorem mx_eN_nn (hu : ∀ a b, 0 ≤ e a b) (N : Int) (a b : Nat) : 0 ≤ mx_eN e N a b := by
  refine Int.mul_nonneg ?_ (hu a b)
  rcases Int.le_total 0 N with q | q
  · exact Int.mul_nonneg q q
  · exact Int.mul_nonneg_of_nonpos_of_nonpos q q
theorem mx_count (hs : ∀ a b, e a b = e b a) (hu : ∀ a b, 0 ≤ e a b) {l : List Nat} (hn : l.Nodup) : ∃ N0 : Int, ∀ N : Int, N0 ≤ N → mx_ok (mx_wN w N) (mx_eN e N) l ∧ (mx_t (mx_al (mx_e w e l)) l.length).1 = mx_c (mx_wN w N) (mx_eN e N) l := by
  obtain ⟨N1, h1⟩ := mx_ok_large w e l
  obtain ⟨N2, h2⟩ := mx_above w e l
  refine ⟨if N1 ≤ N2 then N2 else N1, fun N hN => ?_⟩
  have a1 := h1 N (by split at hN <;> omega)
  have a2 := h2 N (by split at hN <;> omega)
  refine ⟨a1, ?_⟩
  rw [← a2.2]
  exact mx_chain (mx_wN w N) (mx_eN e N) (fun a b => by show N * N * e a b = N * N * e b a; rw [hs]) (mx_eN_nn e hu N) l hn a1
end CT
end
section
/-! Fractions -/
theorem mx_inv_le {a b : Rat} (h : 0 < a) (h2 : a ≤ b) : b⁻¹ ≤ a⁻¹ := by
  have hb : 0 < b := by grind
  have p1 : 0 < b⁻¹ := Rat.inv_pos.mpr hb
  have p2 : 0 < a⁻¹ := Rat.inv_pos.mpr h
  have h3 : a * (a⁻¹ * b⁻¹) ≤ b * (a⁻¹ * b⁻¹) := Rat.mul_le_mul_of_nonneg_right h2 (Rat.mul_nonneg (by grind) (by grind))
  have e1 : a * (a⁻¹ * b⁻¹) = b⁻¹ := by grind
  have e2 : b * (a⁻¹ * b⁻¹) = a⁻¹ := by grind
  rw [e1, e2] at h3
  exact h3
theorem mx_inv_le_neg {a b : Rat} (h : b < 0) (h2 : a ≤ b) : b⁻¹ ≤ a⁻¹ := by
  have h3 := mx_inv_le (a := -b) (b := -a) (by grind) (by grind)
  have e1 : (-a)⁻¹ = -(a⁻¹) := by grind
  have e2 : (-b)⁻¹ = -(b⁻¹) := by grind
  rw [e1, e2] at h3
  grind
/-- one step from the leaves: the fraction of a vertex out of those of its children -/
theorem mx_fold {t r tc rc : Rat} (h1 : r ≠ 0) (h2 : tc ≠ 0) (h3 : rc ≠ 0) (u : Rat) : (t * tc - u * (r * rc)) / (r * tc) = t / r - u * (tc / rc)⁻¹ := by
  grind
end
section
/-! What a vertex's fraction comes to in a large scale: near N times a number, a little below; or above N * N by a constant -/
def mx_A (f : Rat → Rat) (x : Rat) : Prop := ∃ K N0 : Rat, 0 ≤ K ∧ ∀ N : Rat, N0 ≤ N → N * x - K ≤ f N ∧ f N ≤ N * x - 1
def mx_C (f : Rat → Rat) : Prop := ∃ K N0 : Rat, 0 < K ∧ ∀ N : Rat, N0 ≤ N → N * N ≤ K * f N
theorem mx_max (a b : Rat) : ∃ m, a ≤ m ∧ b ≤ m := by
  rcases Rat.le_total (a := a) (b := b) with h | h
  · exact ⟨b, h, Rat.le_refl⟩
  · exact ⟨a, Rat.le_refl, h⟩
theorem mx_C_inv {f : Rat → Rat} (h : mx_C f) : ∃ K N0 : Rat, 0 ≤ K ∧ ∀ N : Rat, N0 ≤ N → 0 < f N ∧ 0 ≤ N * N * (f N)⁻¹ ∧ N * N * (f N)⁻¹ ≤ K := by
  obtain ⟨K, N0, hK, h⟩ := h
  obtain ⟨m, m1, m2⟩ := mx_max N0 1
  refine ⟨K, m, by grind, fun N hN => ?_⟩
  have h1 := h N (by grind)
  have hN1 : 1 ≤ N := by grind
  have h2 : 0 < N * N := Rat.mul_pos (by grind) (by grind)
  have h3 : 0 < f N := by
    rcases Rat.le_total (a := f N) (b := 0) with q | q
    · have : K * f N ≤ K * 0 := Rat.mul_le_mul_of_nonneg_left q (by grind)
      grind
    · rcases Rat.le_iff_lt_or_eq.mp q with z | z
      · exact z
      · rw [← z] at h1
        grind
  have h4 : 0 < (f N)⁻¹ := Rat.inv_pos.mpr h3
  refine ⟨h3, Rat.mul_nonneg (by grind) (by grind), ?_⟩
  have h5 : N * N * (f N)⁻¹ ≤ K * f N * (f N)⁻¹ := Rat.mul_le_mul_of_nonneg_right h1 (by grind)
  have h6 : K * f N * (f N)⁻¹ = K := by grind
  grind
/-- a paired child is nothing -/
theorem mx_A_C {f g : Rat → Rat} {x : Rat} (hf : mx_A f x) (hg : mx_C g) : mx_A (fun N => f N - N * N * (g N)⁻¹) x := by
  obtain ⟨K1, N1, p1, h1⟩ := hf
  obtain ⟨K2, N2, p2, h2⟩ := mx_C_inv hg
  obtain ⟨m, m1, m2⟩ := mx_max N1 N2
  refine ⟨K1 + K2, m, by grind, fun N hN => ?_⟩
  obtain ⟨a1, a2⟩ := h1 N (by grind)
  obtain ⟨b0, b1, b2⟩ := h2 N (by grind)
  exact ⟨by grind, by grind⟩
end
section
/-! The inverse of a fraction that comes to N times a number -/
theorem mx_inv_help {N x f K y z B : Rat} (hxz : x * z = 1) (hfy : f * y = 1) (hyz : 0 ≤ y * z) (hN : 0 ≤ N) (hD1 : 0 ≤ N * x - f) (hD2 : N * x - f ≤ K) (hb : N * (y * z) ≤ B) : N * z ≤ N * N * y ∧ N * N * y ≤ N * z + B * K := by
  have e : N * N * y - N * z = N * (y * z) * (N * x - f) := by grind
  have h0 : 0 ≤ N * (y * z) := Rat.mul_nonneg hN hyz
  have h1 : 0 ≤ N * (y * z) * (N * x - f) := Rat.mul_nonneg h0 hD1
  have h2 : N * (y * z) * (N * x - f) ≤ N * (y * z) * K := Rat.mul_le_mul_of_nonneg_left hD2 h0
  have h3 : N * (y * z) * K ≤ B * K := Rat.mul_le_mul_of_nonneg_right hb (by grind)
  exact ⟨by grind, by grind⟩
theorem mx_A_inv {f : Rat → Rat} {x : Rat} (hx : x ≠ 0) (h : mx_A f x) : ∃ K N0 : Rat, 0 ≤ K ∧ ∀ N : Rat, N0 ≤ N → f N ≠ 0 ∧ (0 < f N ↔ 0 < x) ∧ N * x⁻¹ ≤ N * N * (f N)⁻¹ ∧ N * N * (f N)⁻¹ ≤ N * x⁻¹ + K := by
  obtain ⟨K, N0, hK, h⟩ := h
  obtain ⟨m, m1, m2⟩ := mx_max N0 1
  obtain ⟨m', m3, m4⟩ := mx_max m (2 * K * x⁻¹)
  have hxz : x * x⁻¹ = 1 := by grind
  rcases Rat.le_total (a := x) (b := 0) with q | q
  · have hx0 : x < 0 := by grind
    have hz : x⁻¹ < 0 := by
      have := Rat.inv_pos.mpr (show 0 < -x by grind)
      have e : (-x)⁻¹ = -(x⁻¹) := by grind
      grind
    refine ⟨x⁻¹ * x⁻¹ * K, m, Rat.mul_nonneg (by have := Rat.mul_nonneg (show 0 ≤ -(x⁻¹) by grind) (show 0 ≤ -(x⁻¹) by grind); grind) hK, fun N hN => ?_⟩
    obtain ⟨a1, a2⟩ := h N (by grind)
    have hN1 : 1 ≤ N := by grind
    have h1 : N * x ≤ 0 := by
      have := Rat.mul_nonneg (show 0 ≤ N by grind) (show 0 ≤ -x by grind)
      grind
    have hf : f N < 0 := by grind
    have hy : (f N)⁻¹ < 0 := by
      have := Rat.inv_pos.mpr (show 0 < -(f N) by grind)
      have e : (-(f N))⁻¹ = -((f N)⁻¹) := by grind
      grind
    have hfy : f N * (f N)⁻¹ = 1 := by grind
    have hyz : 0 ≤ (f N)⁻¹ * x⁻¹ := by
      have := Rat.mul_nonneg (show 0 ≤ -((f N)⁻¹) by grind) (show 0 ≤ -(x⁻¹) by grind)
      grind
    have hb : N * ((f N)⁻¹ * x⁻¹) ≤ x⁻¹ * x⁻¹ := by
      have h2 : 0 ≤ -((f N)⁻¹) * (x⁻¹ * x⁻¹) := Rat.mul_nonneg (by grind) (by have := Rat.mul_nonneg (show 0 ≤ -(x⁻¹) by grind) (show 0 ≤ -(x⁻¹) by grind); grind)
      have h3 : -(N * x) * (-((f N)⁻¹) * (x⁻¹ * x⁻¹)) ≤ -(f N) * (-((f N)⁻¹) * (x⁻¹ * x⁻¹)) := Rat.mul_le_mul_of_nonneg_right (by grind) h2
      have e1 : -(N * x) * (-((f N)⁻¹) * (x⁻¹ * x⁻¹)) = N * ((f N)⁻¹ * x⁻¹) := by grind
      have e2 : -(f N) * (-((f N)⁻¹) * (x⁻¹ * x⁻¹)) = x⁻¹ * x⁻¹ := by grind
      rw [e1, e2] at h3
      exact h3
    obtain ⟨r1, r2⟩ := mx_inv_help hxz hfy hyz (show 0 ≤ N by grind) (show 0 ≤ N * x - f N by grind) (show N * x - f N ≤ K by grind) hb
    exact ⟨by grind, ⟨fun z => by grind, fun z => by grind⟩, r1, r2⟩
  · have hx0 : 0 < x := by grind
    have hz : 0 < x⁻¹ := Rat.inv_pos.mpr hx0
    refine ⟨2 * (x⁻¹ * x⁻¹) * K, m', Rat.mul_nonneg (by have := Rat.mul_nonneg (show 0 ≤ x⁻¹ by grind) (show 0 ≤ x⁻¹ by grind); grind) hK, fun N hN => ?_⟩
    obtain ⟨a1, a2⟩ := h N (by grind)
    have hN1 : 1 ≤ N := by grind
    have h1 : 2 * K * x⁻¹ * x ≤ N * x := Rat.mul_le_mul_of_nonneg_right (by grind) (by grind)
    have h2 : 0 < N * x := Rat.mul_pos (by grind) hx0
    have e0 : 2 * K * x⁻¹ * x = 2 * K := by grind
    rw [e0] at h1
    have hf2 : N * x ≤ 2 * f N := by grind
    have hf : 0 < f N := by grind
    have hy : 0 < (f N)⁻¹ := Rat.inv_pos.mpr hf
    have hfy : f N * (f N)⁻¹ = 1 := by grind
    have hyz : 0 ≤ (f N)⁻¹ * x⁻¹ := Rat.mul_nonneg (by grind) (by grind)
    have hb : N * ((f N)⁻¹ * x⁻¹) ≤ 2 * (x⁻¹ * x⁻¹) := by
      have h3 : 0 ≤ (f N)⁻¹ * (x⁻¹ * x⁻¹) := Rat.mul_nonneg (by grind) (Rat.mul_nonneg (by grind) (by grind))
      have h4 : N * x * ((f N)⁻¹ * (x⁻¹ * x⁻¹)) ≤ 2 * f N * ((f N)⁻¹ * (x⁻¹ * x⁻¹)) := Rat.mul_le_mul_of_nonneg_right hf2 h3
      have e1 : N * x * ((f N)⁻¹ * (x⁻¹ * x⁻¹)) = N * ((f N)⁻¹ * x⁻¹) := by grind
      have e2 : 2 * f N * ((f N)⁻¹ * (x⁻¹ * x⁻¹)) = 2 * (x⁻¹ * x⁻¹) := by grind
      rw [e1, e2] at h4
      exact h4
    obtain ⟨r1, r2⟩ := mx_inv_help hxz hfy hyz (show 0 ≤ N by grind) (show 0 ≤ N * x - f N by grind) (show N * x - f N ≤ K by grind) hb
    exact ⟨by grind, ⟨fun _ => hx0, fun _ => hf⟩, r1, r2⟩
/-- a child that is not 0 -/
theorem mx_A_A {f g : Rat → Rat} {x y : Rat} (hf : mx_A f x) (hg : mx_A g y) (hy : y ≠ 0) : mx_A (fun N => f N - N * N * (g N)⁻¹) (x - y⁻¹) := by
  obtain ⟨K1, N1, p1, h1⟩ := hf
  obtain ⟨K2, N2, p2, h2⟩ := mx_A_inv hy hg
  obtain ⟨m, m1, m2⟩ := mx_max N1 N2
  refine ⟨K1 + K2, m, by grind, fun N hN => ?_⟩
  obtain ⟨a1, a2⟩ := h1 N (by grind)
  obtain ⟨-, -, b1, b2⟩ := h2 N (by grind)
  have e : N * (x - y⁻¹) = N * x - N * y⁻¹ := by grind
  exact ⟨by grind, by grind⟩
end
section
/-! A child that is 0 lifts its holder above all; so it stays -/
theorem mx_C_add {h u : Rat → Rat} {L N0 : Rat} (hh : ∀ N : Rat, N0 ≤ N → -(L * N) ≤ h N) (hu : mx_C u) : mx_C (fun N => h N + u N) := by
  obtain ⟨K, N1, hK, h1⟩ := hu
  obtain ⟨m, m1, m2⟩ := mx_max N0 N1
  obtain ⟨m', m3, m4⟩ := mx_max m 1
  obtain ⟨m'', m5, m6⟩ := mx_max m' (2 * K * L)
  refine ⟨2 * K, m'', by grind, fun N hN => ?_⟩
  have a := hh N (by grind)
  have b := h1 N (by grind)
  have c : 2 * K * L * N ≤ N * N := Rat.mul_le_mul_of_nonneg_right (by grind) (by grind)
  have d : 2 * K * (-(L * N)) ≤ 2 * K * h N := Rat.mul_le_mul_of_nonneg_left a (by grind)
  have e : 2 * K * (h N + u N) = 2 * K * h N + 2 * (K * u N) := by grind
  have e2 : 2 * K * (-(L * N)) = -(2 * K * L * N) := by grind
  show N * N ≤ 2 * K * (h N + u N)
  rw [e]
  grind
theorem mx_A_lo {f : Rat → Rat} {x : Rat} (h : mx_A f x) : ∃ L N0 : Rat, ∀ N : Rat, N0 ≤ N → -(L * N) ≤ f N := by
  obtain ⟨K, N0, hK, h⟩ := h
  obtain ⟨m, m1, m2⟩ := mx_max N0 1
  refine ⟨K - x, m, fun N hN => ?_⟩
  obtain ⟨a1, -⟩ := h N (by grind)
  have b : K * 1 ≤ K * N := Rat.mul_le_mul_of_nonneg_left (by grind) hK
  grind
theorem mx_0_C {g : Rat → Rat} (h : mx_A g 0) : mx_C (fun N => -(N * N * (g N)⁻¹)) := by
  obtain ⟨K, N0, hK, h⟩ := h
  obtain ⟨m, m1, m2⟩ := mx_max N0 1
  refine ⟨K + 1, m, by grind, fun N hN => ?_⟩
  obtain ⟨a1, a2⟩ := h N (by grind)
  have hg : 0 < -(g N) := by grind
  have hy : 0 < (-(g N))⁻¹ := Rat.inv_pos.mpr hg
  have e0 : (-(g N))⁻¹ = -((g N)⁻¹) := by grind
  have e1 : -(g N) * (-(g N))⁻¹ = 1 := by grind
  have b : -(g N) * (-(g N))⁻¹ ≤ (K + 1) * (-(g N))⁻¹ := Rat.mul_le_mul_of_nonneg_right (by grind) (by grind)
  rw [e1] at b
  have c : N * N * 1 ≤ N * N * ((K + 1) * (-(g N))⁻¹) := Rat.mul_le_mul_of_nonneg_left b (Rat.mul_nonneg (by grind) (by grind))
  show N * N ≤ (K + 1) * -(N * N * (g N)⁻¹)
  rw [e0] at c
  have e2 : N * N * ((K + 1) * -((g N)⁻¹)) = (K + 1) * -(N * N * (g N)⁻¹) := by grind
  rw [e2] at c
  grind
theorem mx_C_eq {f g : Rat → Rat} (h : ∀ N, f N = g N) (hf : mx_C f) : mx_C g := by
  rw [← funext h]
  exact hf
/-- a child that is 0 -/
theorem mx_A_0 {f g : Rat → Rat} {x : Rat} (hf : mx_A f x) (hg : mx_A g 0) : mx_C (fun N => f N - N * N * (g N)⁻¹) := by
  obtain ⟨L, N0, h⟩ := mx_A_lo hf
  exact mx_C_eq (fun N => by grind) (mx_C_add h (mx_0_C hg))
/-- a paired holder stays above, whatever child comes -/
theorem mx_C_A {f g : Rat → Rat} {y : Rat} (hf : mx_C f) (hg : mx_A g y) : mx_C (fun N => f N - N * N * (g N)⁻¹) := by
  by_cases hy : y = 0
  · subst hy
    obtain ⟨K, N0, hK, h⟩ := mx_0_C hg
    obtain ⟨m, m1, m2⟩ := mx_max N0 1
    refine mx_C_eq (f := fun N => -(N * N * (g N)⁻¹) + f N) (fun N => by grind) (mx_C_add (L := 0) (N0 := m) (fun N hN => ?_) hf)
    have a := h N (by grind)
    have b : 0 ≤ N * N := Rat.mul_nonneg (by grind) (by grind)
    have c : 0 ≤ K * -(N * N * (g N)⁻¹) := by grind
    have z : 0 ≤ K⁻¹ * (K * -(N * N * (g N)⁻¹)) := Rat.mul_nonneg (by have := Rat.inv_pos.mpr hK; grind) c
    have e : K⁻¹ * (K * -(N * N * (g N)⁻¹)) = -(N * N * (g N)⁻¹) := by grind
    rw [e] at z
    grind
  · obtain ⟨K, N0, hK, h⟩ := mx_A_inv hy hg
    obtain ⟨m, m1, m2⟩ := mx_max N0 1
    refine mx_C_eq (f := fun N => -(N * N * (g N)⁻¹) + f N) (fun N => by grind) (mx_C_add (L := y⁻¹ + K) (N0 := m) (fun N hN => ?_) hf)
    obtain ⟨-, -, -, b⟩ := h N (by grind)
    have c : K * 1 ≤ K * N := Rat.mul_le_mul_of_nonneg_left (by grind) hK
    grind
theorem mx_C_C {f g : Rat → Rat} (hf : mx_C f) (hg : mx_C g) : mx_C (fun N => f N - N * N * (g N)⁻¹) := by
  obtain ⟨K, N0, hK, h⟩ := mx_C_inv hg
  obtain ⟨m, m1, m2⟩ := mx_max N0 1
  refine mx_C_eq (f := fun N => -(N * N * (g N)⁻¹) + f N) (fun N => by grind) (mx_C_add (L := K) (N0 := m) (fun N hN => ?_) hf)
  obtain ⟨-, -, b⟩ := h N (by grind)
  have c : K * 1 ≤ K * N := Rat.mul_le_mul_of_nonneg_left (by grind) hK
  grind
end
