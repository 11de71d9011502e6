section
/-! A small machine of ours over the class's bytecode: cells by numbers, rows of decoded instructions. What it computes, the machine does (part 03). -/
-- an entry of the heap: an object (class, fields); an array (tag, length, numbers); nothing
abbrev jxE := (Nat × List Value) ⊕ ((Nat × vp_A) ⊕ Unit)
abbrev jxO (c : Nat) (fs : List Value) : jxE := .inl (c, fs)
abbrev jxI (t n : Nat) (g : Nat → Int32) : jxE := .inr (.inl (t, n, .inl g))
abbrev jxL (n : Nat) (g : Nat → Int64) : jxE := .inr (.inl (1, n, .inr (.inl g)))
abbrev jxQ (t n : Nat) (g : Nat → Option Nat) : jxE := .inr (.inl (t, n, .inr (.inr (.inr (.inr g)))))
-- the heap: how many cells, how many slots, what they are
abbrev jxH := Nat × Nat × (Nat → jxE)
def jx_at (h : jxH) (a : Nat) : jxE := h.2.2 a
def jx_set (h : jxH) (a : Nat) (e : jxE) : jxH := (h.1, h.2.1, va_up h.2.2 a e)
def jx_new (h : jxH) (n : Nat) (e : jxE) : jxH := (h.1 + 1, h.2.1 + n, va_up h.2.2 h.1 e)
-- a method's answer, and the heap behind it
abbrev jxR := Option (Option Value × jxH)
-- instruction's number, locals, stack, heap
abbrev jxS := Nat × List (Nat × Value) × List Value × jxH
-- pc, instruction, length, three numbers, an int, a long, numbers, the locals that live at its head (if it is one)
abbrev jxRow := Nat × Instr × Nat × (Nat × Nat × Nat) × Int32 × Int64 × List Nat × Option (List Nat)
abbrev jxRow.pc (r : jxRow) : Nat := r.1
abbrev jxRow.ins (r : jxRow) : Instr := r.2.1
abbrev jxRow.len (r : jxRow) : Nat := r.2.2.1
abbrev jxRow.x (r : jxRow) : Nat := r.2.2.2.1.1
abbrev jxRow.y (r : jxRow) : Nat := r.2.2.2.1.2.1
abbrev jxRow.z (r : jxRow) : Nat := r.2.2.2.1.2.2
abbrev jxRow.v (r : jxRow) : Int32 := r.2.2.2.2.1
abbrev jxRow.w (r : jxRow) : Int64 := r.2.2.2.2.2.1
abbrev jxRow.ts (r : jxRow) : List Nat := r.2.2.2.2.2.2.1
abbrev jxRow.lv (r : jxRow) : Option (List Nat) := r.2.2.2.2.2.2.2
def jx_ld : List (Nat × Value) → Nat → Option Value
  | [], _ => none
  | q :: t, i => if q.1 = i then some q.2 else jx_ld t i
def jx_st1 (l : List (Nat × Value)) (i : Nat) (v : Value) : List (Nat × Value) := (i, v) :: l.filter (fun q => !(q.1 == i) && !(q.1 + 1 == i && q.2.category == 2))
def jx_st2 (l : List (Nat × Value)) (i : Nat) (v : Value) : List (Nat × Value) := (i, v) :: l.filter (fun q => !(q.1 == i) && (!(q.1 == i + 1) && !(q.1 + 1 == i && q.2.category == 2)))
def jx_pick (l : List (Nat × Value)) : List Nat → List (Nat × Value)
  | [] => []
  | i :: t => match jx_ld l i with
    | some v => (i, v) :: jx_pick l t
    | none => jx_pick l t
-- reads
def jx_out (i : Int32) (n : Nat) : Bool := decide (i < 0) || decide (n ≤ i.toNatClampNeg)
def jx_gI (e : jxE) (c k : Nat) : Option Int32 := match e with
  | .inl (c', fs) => if c' = c then (match fs[k]? with
    | some (.int x) => some x
    | _ => none) else none
  | _ => none
def jx_gL (e : jxE) (c k : Nat) : Option Int64 := match e with
  | .inl (c', fs) => if c' = c then (match fs[k]? with
    | some (.long x) => some x
    | _ => none) else none
  | _ => none
def jx_gR (e : jxE) (c k : Nat) : Option Nat := match e with
  | .inl (c', fs) => if c' = c then (match fs[k]? with
    | some (.ref x) => some x
    | _ => none) else none
  | _ => none
def jx_pF (e : jxE) (c k : Nat) (v : Value) : Option jxE := match e with
  | .inl (c', fs) => if c' = c ∧ k < fs.length then some (.inl (c', fs.set k v)) else none
  | _ => none
def jx_aI (e : jxE) (t : Nat) (i : Int32) : Option Int32 := match e with
  | .inr (.inl (t', n, .inl g)) => if t' = t ∧ jx_out i n = false then some (g i.toNatClampNeg) else none
  | _ => none
def jx_aL (e : jxE) (i : Int32) : Option Int64 := match e with
  | .inr (.inl (t', n, .inr (.inl g))) => if t' = 1 ∧ jx_out i n = false then some (g i.toNatClampNeg) else none
  | _ => none
def jx_aQ (e : jxE) (t : Nat) (i : Int32) : Option (Option Nat) := match e with
  | .inr (.inl (t', n, .inr (.inr (.inr (.inr g))))) => if t' = t ∧ jx_out i n = false then some (g i.toNatClampNeg) else none
  | _ => none
def jx_sI (e : jxE) (t : Nat) (i x : Int32) : Option jxE := match e with
  | .inr (.inl (t', n, .inl g)) => if t' = t ∧ jx_out i n = false then some (.inr (.inl (t', n, .inl (upd g i.toNatClampNeg x)))) else none
  | _ => none
def jx_sL (e : jxE) (i : Int32) (x : Int64) : Option jxE := match e with
  | .inr (.inl (t', n, .inr (.inl g))) => if t' = 1 ∧ jx_out i n = false then some (.inr (.inl (t', n, .inr (.inl (vp_updL g i.toNatClampNeg x))))) else none
  | _ => none
def jx_sQ (e : jxE) (t : Nat) (i : Int32) (x : Option Nat) : Option jxE := match e with
  | .inr (.inl (t', n, .inr (.inr (.inr (.inr g))))) => if t' = t ∧ jx_out i n = false then some (.inr (.inl (t', n, .inr (.inr (.inr (.inr (va_up g i.toNatClampNeg x))))))) else none
  | _ => none
def jx_len (e : jxE) : Option Nat := match e with
  | .inr (.inl (t, n, _)) => if t < 9 then some n else none
  | _ => none
def jx_is (e : jxE) (c : Nat) : Bool := match e with
  | .inl (c', _) => c' == c
  | _ => false
/-- System.arraycopy of int or byte arrays (tag t) -/
def jx_cp (e e' : jxE) (t : Nat) (sp dp n : Int32) : Option jxE := match e, e' with
  | .inr (.inl (t1, n1, .inl f)), .inr (.inl (t2, n2, .inl g)) =>
    if t1 = t ∧ t2 = t ∧ ¬ sp < 0 ∧ ¬ dp < 0 ∧ ¬ n < 0 ∧ sp.toNatClampNeg + n.toNatClampNeg ≤ n1 ∧ dp.toNatClampNeg + n.toNatClampNeg ≤ n2 then some (.inr (.inl (t2, n2, .inl (va_cpy f g sp.toNatClampNeg dp.toNatClampNeg n.toNatClampNeg)))) else none
  | _, _ => none
def jx_bool (x : Int32) : Bool := x == 0 || x == 1
def jx_short : List Value → Bool
  | [] => true
  | [_] => true
  | [_, _] => true
  | [_, _, _] => true
  | [_, _, _, _] => true
  | _ => false
def jx_pop : Nat → List Value → List Value → Option (List Value × List Value)
  | 0, acc, st => some (acc, st)
  | n + 1, acc, v :: st => jx_pop n (v :: acc) st
  | _ + 1, _, [] => none
-- stack shapes
def jx_1 (st : List Value) (f : Int32 → List Value → jxR) : jxR := match st with
  | .int x :: t => f x t
  | _ => none
def jx_2 (st : List Value) (f : Int32 → Int32 → List Value → jxR) : jxR := match st with
  | .int y :: .int x :: t => f x y t
  | _ => none
def jx_1L (st : List Value) (f : Int64 → List Value → jxR) : jxR := match st with
  | .long x :: t => f x t
  | _ => none
def jx_2L (st : List Value) (f : Int64 → Int64 → List Value → jxR) : jxR := match st with
  | .long y :: .long x :: t => f x y t
  | _ => none
def jx_LI (st : List Value) (f : Int64 → Int32 → List Value → jxR) : jxR := match st with
  | .int y :: .long x :: t => f x y t
  | _ => none
def jx_r (st : List Value) (f : Nat → List Value → jxR) : jxR := match st with
  | .ref a :: t => f a t
  | _ => none
-- answers of calls
def jx_cV (r : jxR) (f : jxH → jxR) : jxR := match r with
  | some (none, h) => f h
  | _ => none
def jx_cI (r : jxR) (f : Int32 → jxH → jxR) : jxR := match r with
  | some (some (.int x), h) => f x h
  | _ => none
def jx_cL (r : jxR) (f : Int64 → jxH → jxR) : jxR := match r with
  | some (some (.long x), h) => f x h
  | _ => none
def jx_cR (r : jxR) (f : Option Nat → jxH → jxR) : jxR := match r with
  | some (some (.ref x), h) => f (some x) h
  | some (some .null, h) => f none h
  | _ => none
/-- a switch: targets one behind the other, from lo on -/
def jx_sw (x lo : Int32) (d : Nat) (K : Nat → jxR) : List Nat → jxR
  | [] => K d
  | t :: ts => if x = lo then K t else jx_sw x (lo + 1) d K ts
def jx_inner (h : jxH) (n m : Nat) : jxH := (h.1 + 1 + n, h.2.1 + n + n * m, fun a => if a = h.1 then jxQ 8 n (fun i => if i < n then some (h.1 + 1 + i) else none) else if h.1 < a ∧ a ≤ h.1 + n then jxI 0 m (fun _ => 0) else h.2.2 a)
def jx_lI (ls : List (Nat × Value)) (x : Nat) (f : Int32 → jxR) : jxR := match jx_ld ls x with
  | some (.int a) => f a
  | _ => none
def jx_lL (ls : List (Nat × Value)) (x : Nat) (f : Int64 → jxR) : jxR := match jx_ld ls x with
  | some (.long a) => f a
  | _ => none
def jx_lA (ls : List (Nat × Value)) (x : Nat) (f : Value → jxR) : jxR := match jx_ld ls x with
  | some (.ref a) => f (.ref a)
  | some (.retAddr a) => f (.retAddr a)
  | some .null => f .null
  | _ => none
def jx_pA (st : List Value) (f : Value → List Value → jxR) : jxR := match st with
  | .ref a :: t => f (.ref a) t
  | .null :: t => f .null t
  | _ => none
def jx_dup (st : List Value) (f : Value → List Value → jxR) : jxR := match st with
  | .int a :: t => f (.int a) t
  | .ref a :: t => f (.ref a) t
  | _ => none
def jx_dup2 (st : List Value) (f : List Value → List Value → jxR) : jxR := match st with
  | .int a :: .int b :: t => f [.int a, .int b] t
  | .int a :: .ref b :: t => f [.int a, .ref b] t
  | .long a :: t => f [.long a] t
  | _ => none
def jx_nl (st : List Value) (f g : List Value → jxR) : jxR := match st with
  | .ref _ :: t => f t
  | .null :: t => g t
  | _ => none
def jx_pv (z : Nat) (st : List Value) (f : Value → Nat → List Value → jxR) : jxR := match z with
  | 0 => match st with
    | .int v :: .ref a :: t => f (.int v) a t
    | _ => none
  | 1 => match st with
    | .long v :: .ref a :: t => f (.long v) a t
    | _ => none
  | 2 => match st with
    | .ref v :: .ref a :: t => f (.ref v) a t
    | _ => none
  | _ => match st with
    | .int v :: .ref a :: t => if jx_bool v = true then f (.int v) a t else none
    | _ => none
def jx_ia (st : List Value) (f : Int32 → Nat → List Value → jxR) : jxR := match st with
  | .int k :: .ref a :: t => f k a t
  | _ => none
def jx_ir (st : List Value) (f g : Int32 → Nat → List Value → jxR) : jxR := match st with
  | .int k :: .ref a :: t => f k a t
  | .int k :: .retAddr a :: t => g k a t
  | _ => none
def jx_rr (st : List Value) (f g : Nat → List Value → jxR) : jxR := match st with
  | .ref a :: t => f a t
  | .retAddr a :: t => g a t
  | _ => none
def jx_vs (st : List Value) (f : Int32 → Int32 → Nat → List Value → jxR) : jxR := match st with
  | .int v :: .int k :: .ref a :: t => f v k a t
  | _ => none
def jx_vsL (st : List Value) (f : Int64 → Int32 → Nat → List Value → jxR) : jxR := match st with
  | .long v :: .int k :: .ref a :: t => f v k a t
  | _ => none
def jx_vsQ (st : List Value) (f : Nat → Int32 → Nat → List Value → jxR) (g : Int32 → Nat → List Value → jxR) : jxR := match st with
  | .ref v :: .int k :: .ref a :: t => f v k a t
  | .null :: .int k :: .ref a :: t => g k a t
  | _ => none
def jx_cps (st : List Value) (f : Nat → Int32 → Nat → Int32 → Int32 → List Value → jxR) : jxR := match st with
  | .int n :: .int dp :: .ref b :: .int sp :: .ref a :: t => f a sp b dp n t
  | _ => none
def jx_mo (v : Option Nat) (f : Nat → jxR) (g : jxR) : jxR := match v with
  | some b => f b
  | none => g
def jx_ov (v : Option Nat) (f : Value → jxR) : jxR := jx_mo v (fun b => f (.ref b)) (f .null)
def jx_arr (x n : Nat) : jxE := match x with
  | 1 => jxL n (fun _ => 0)
  | t => jxI t n (fun _ => 0)
def jx_ret (z : Nat) (r : jxR) (f : List Value → jxH → jxR) : jxR := match z with
  | 0 => jx_cV r fun h => f [] h
  | 1 => jx_cI r fun v h => f [.int v] h
  | 2 => jx_cL r fun v h => f [.long v] h
  | _ => jx_cR r fun v h => jx_ov v fun w => f [w] h
def jx_call (y z : Nat) (st : List Value) (c : List Value → jxR) (f : List Value → jxH → jxR) : jxR := (jx_pop y [] st).bind fun q => if jx_short q.2 = true then jx_ret z (c q.1) (fun p h => f (p ++ q.2) h) else none
def jx_ri (z : Nat) (st : List Value) (h : jxH) : jxR := match st with
  | [.int a] => match z with
    | 0 => some (some (.int a), h)
    | _ => if jx_bool a = true then some (some (.int a), h) else none
  | _ => none
def jx_rl (st : List Value) (h : jxH) : jxR := match st with
  | [.long a] => some (some (.long a), h)
  | _ => none
def jx_ra (st : List Value) (h : jxH) : jxR := match st with
  | [.ref a] => some (some (.ref a), h)
  | [.null] => some (some .null, h)
  | _ => none
def jx_rv (st : List Value) (h : jxH) : jxR := match st with
  | [] => some (none, h)
  | _ => none
end
section
/-! One instruction, and what a method answers. rc: the tables that nobody writes (and the law's script): lengths and numbers. c: what a call answers. -/
def jx_step (rc : Nat → Nat × (Nat → Int32)) (df : Nat → List Value) (c : Nat → List Value → jxH → jxR) (K : jxS → jxR) (r : jxRow) (i : Nat) (ls : List (Nat × Value)) (st : List Value) (h : jxH) : jxR :=
  match r.ins with
  | .iconst _ => K (i + 1, ls, .int r.v :: st, h)
  | .bipush _ => K (i + 1, ls, .int r.v :: st, h)
  | .sipush _ => K (i + 1, ls, .int r.v :: st, h)
  | .ldc _ => K (i + 1, ls, .int r.v :: st, h)
  | .ldc_w _ => K (i + 1, ls, .int r.v :: st, h)
  | .lconst _ => K (i + 1, ls, .long r.w :: st, h)
  | .ldc2_w _ => K (i + 1, ls, .long r.w :: st, h)
  | .aconst_null => K (i + 1, ls, .null :: st, h)
  | .iload _ => jx_lI ls r.x fun a => K (i + 1, ls, .int a :: st, h)
  | .iload_n _ => jx_lI ls r.x fun a => K (i + 1, ls, .int a :: st, h)
  | .lload _ => jx_lL ls r.x fun a => K (i + 1, ls, .long a :: st, h)
  | .lload_n _ => jx_lL ls r.x fun a => K (i + 1, ls, .long a :: st, h)
  | .aload _ => jx_lA ls r.x fun a => K (i + 1, ls, a :: st, h)
  | .aload_n _ => jx_lA ls r.x fun a => K (i + 1, ls, a :: st, h)
  | .istore _ => jx_1 st fun a t => K (i + 1, jx_st1 ls r.x (.int a), t, h)
  | .istore_n _ => jx_1 st fun a t => K (i + 1, jx_st1 ls r.x (.int a), t, h)
  | .lstore _ => jx_1L st fun a t => K (i + 1, jx_st2 ls r.x (.long a), t, h)
  | .lstore_n _ => jx_1L st fun a t => K (i + 1, jx_st2 ls r.x (.long a), t, h)
  | .astore _ => jx_pA st fun a t => K (i + 1, jx_st1 ls r.x a, t, h)
  | .astore_n _ => jx_pA st fun a t => K (i + 1, jx_st1 ls r.x a, t, h)
  | .iinc _ _ => jx_lI ls r.x fun a => K (i + 1, jx_st1 ls r.x (.int (a + r.v)), st, h)
  | .iadd => jx_2 st fun a b t => K (i + 1, ls, .int (a + b) :: t, h)
  | .isub => jx_2 st fun a b t => K (i + 1, ls, .int (a - b) :: t, h)
  | .imul => jx_2 st fun a b t => K (i + 1, ls, .int (a * b) :: t, h)
  | .iand => jx_2 st fun a b t => K (i + 1, ls, .int (a &&& b) :: t, h)
  | .ior => jx_2 st fun a b t => K (i + 1, ls, .int (a ||| b) :: t, h)
  | .ixor => jx_2 st fun a b t => K (i + 1, ls, .int (a ^^^ b) :: t, h)
  | .idiv => jx_2 st fun a b t => if b = 0 then none else K (i + 1, ls, .int (a / b) :: t, h)
  | .irem => jx_2 st fun a b t => if b = 0 then none else K (i + 1, ls, .int (a - a / b * b) :: t, h)
  | .ishl => jx_2 st fun a b t => K (i + 1, ls, .int (a <<< (b &&& 31)) :: t, h)
  | .ishr => jx_2 st fun a b t => K (i + 1, ls, .int (a >>> (b &&& 31)) :: t, h)
  | .iushr => jx_2 st fun a b t => K (i + 1, ls, .int ((a.toUInt32 >>> (b.toUInt32 &&& Int32.toUInt32 31)).toInt32) :: t, h)
  | .ineg => jx_1 st fun a t => K (i + 1, ls, .int (-a) :: t, h)
  | .ladd => jx_2L st fun a b t => K (i + 1, ls, .long (a + b) :: t, h)
  | .lsub => jx_2L st fun a b t => K (i + 1, ls, .long (a - b) :: t, h)
  | .lmul => jx_2L st fun a b t => K (i + 1, ls, .long (a * b) :: t, h)
  | .land => jx_2L st fun a b t => K (i + 1, ls, .long (a &&& b) :: t, h)
  | .lor => jx_2L st fun a b t => K (i + 1, ls, .long (a ||| b) :: t, h)
  | .lxor => jx_2L st fun a b t => K (i + 1, ls, .long (a ^^^ b) :: t, h)
  | .ldiv => jx_2L st fun a b t => if b = 0 then none else K (i + 1, ls, .long (a / b) :: t, h)
  | .lrem => jx_2L st fun a b t => if b = 0 then none else K (i + 1, ls, .long (a - a / b * b) :: t, h)
  | .lneg => jx_1L st fun a t => K (i + 1, ls, .long (-a) :: t, h)
  | .lshl => jx_LI st fun a b t => K (i + 1, ls, .long (a <<< (b.toInt64 &&& 63)) :: t, h)
  | .lshr => jx_LI st fun a b t => K (i + 1, ls, .long (a >>> (b.toInt64 &&& 63)) :: t, h)
  | .lcmp => jx_2L st fun a b t => K (i + 1, ls, .int (lg_cmp a b) :: t, h)
  | .i2l => jx_1 st fun a t => K (i + 1, ls, .long a.toInt64 :: t, h)
  | .l2i => jx_1L st fun a t => K (i + 1, ls, .int a.toInt32 :: t, h)
  | .i2b => jx_1 st fun a t => K (i + 1, ls, .int a.toInt8.toInt32 :: t, h)
  | .i2s => jx_1 st fun a t => K (i + 1, ls, .int a.toInt16.toInt32 :: t, h)
  | .dup => jx_dup st fun a t => K (i + 1, ls, a :: a :: t, h)
  | .dup2 => jx_dup2 st fun p t => K (i + 1, ls, p ++ (p ++ t), h)
  | .pop => jx_1 st fun _ t => K (i + 1, ls, t, h)
  | .ifCond .eq _ => jx_1 st fun a t => if a = 0 then K (r.x, ls, t, h) else K (i + 1, ls, t, h)
  | .ifCond .ne _ => jx_1 st fun a t => if a = 0 then K (i + 1, ls, t, h) else K (r.x, ls, t, h)
  | .ifCond .lt _ => jx_1 st fun a t => if a < 0 then K (r.x, ls, t, h) else K (i + 1, ls, t, h)
  | .ifCond .ge _ => jx_1 st fun a t => if 0 ≤ a then K (r.x, ls, t, h) else K (i + 1, ls, t, h)
  | .ifCond .gt _ => jx_1 st fun a t => if 0 < a then K (r.x, ls, t, h) else K (i + 1, ls, t, h)
  | .ifCond .le _ => jx_1 st fun a t => if a ≤ 0 then K (r.x, ls, t, h) else K (i + 1, ls, t, h)
  | .if_icmp .eq _ => jx_2 st fun a b t => if a = b then K (r.x, ls, t, h) else K (i + 1, ls, t, h)
  | .if_icmp .ne _ => jx_2 st fun a b t => if a = b then K (i + 1, ls, t, h) else K (r.x, ls, t, h)
  | .if_icmp .lt _ => jx_2 st fun a b t => if a < b then K (r.x, ls, t, h) else K (i + 1, ls, t, h)
  | .if_icmp .ge _ => jx_2 st fun a b t => if b ≤ a then K (r.x, ls, t, h) else K (i + 1, ls, t, h)
  | .if_icmp .gt _ => jx_2 st fun a b t => if b < a then K (r.x, ls, t, h) else K (i + 1, ls, t, h)
  | .if_icmp .le _ => jx_2 st fun a b t => if a ≤ b then K (r.x, ls, t, h) else K (i + 1, ls, t, h)
  | .ifnull _ => jx_nl st (fun t => K (i + 1, ls, t, h)) (fun t => K (r.x, ls, t, h))
  | .ifnonnull _ => jx_nl st (fun t => K (r.x, ls, t, h)) (fun t => K (i + 1, ls, t, h))
  | .goto _ => K (r.x, ls, st, h)
  | .tableswitch _ _ _ _ => jx_1 st fun a t => jx_sw a r.v r.x (fun k => K (k, ls, t, h)) r.ts
  | .getfield _ => jx_r st fun a t => match r.z with
    | 0 => (jx_gI (jx_at h a) r.x r.y).bind fun v => K (i + 1, ls, .int v :: t, h)
    | 1 => (jx_gL (jx_at h a) r.x r.y).bind fun v => K (i + 1, ls, .long v :: t, h)
    | _ => (jx_gR (jx_at h a) r.x r.y).bind fun v => K (i + 1, ls, .ref v :: t, h)
  | .putfield _ => jx_pv r.z st fun v a t => (jx_pF (jx_at h a) r.x r.y v).bind fun e => K (i + 1, ls, t, jx_set h a e)
  | .getstatic _ => K (i + 1, ls, .retAddr r.x :: st, h)
  | .iaload => jx_ir st (fun k a t => (jx_aI (jx_at h a) 0 k).bind fun v => K (i + 1, ls, .int v :: t, h)) (fun k a t => if jx_out k (rc a).1 = true then none else K (i + 1, ls, .int ((rc a).2 k.toNatClampNeg) :: t, h))
  | .baload => jx_ia st fun k a t => match r.z with
    | 2 => (jx_aI (jx_at h a) 2 k).bind fun v => K (i + 1, ls, .int v.toInt8.toInt32 :: t, h)
    | _ => (jx_aI (jx_at h a) 3 k).bind fun v => K (i + 1, ls, .int v :: t, h)
  | .laload => jx_ia st fun k a t => (jx_aL (jx_at h a) k).bind fun v => K (i + 1, ls, .long v :: t, h)
  | .aaload => jx_ia st fun k a t => (jx_aQ (jx_at h a) r.z k).bind fun v => jx_ov v fun w => K (i + 1, ls, w :: t, h)
  | .iastore => jx_vs st fun v k a t => (jx_sI (jx_at h a) 0 k v).bind fun e => K (i + 1, ls, t, jx_set h a e)
  | .bastore => jx_vs st fun v k a t => match r.z with
    | 2 => (jx_sI (jx_at h a) 2 k v.toInt8.toInt32).bind fun e => K (i + 1, ls, t, jx_set h a e)
    | _ => if jx_bool v = true then (jx_sI (jx_at h a) 3 k v).bind fun e => K (i + 1, ls, t, jx_set h a e) else none
  | .lastore => jx_vsL st fun v k a t => (jx_sL (jx_at h a) k v).bind fun e => K (i + 1, ls, t, jx_set h a e)
  | .aastore => jx_vsQ st (fun v k a t => if jx_is (jx_at h v) r.x = true then (jx_sQ (jx_at h a) r.z k (some v)).bind fun e => K (i + 1, ls, t, jx_set h a e) else none) (fun k a t => (jx_sQ (jx_at h a) r.z k none).bind fun e => K (i + 1, ls, t, jx_set h a e))
  | .arraylength => jx_rr st (fun a t => (jx_len (jx_at h a)).bind fun n => K (i + 1, ls, .int (Int32.ofNat n) :: t, h)) (fun a t => K (i + 1, ls, .int (Int32.ofNat (rc a).1) :: t, h))
  | .new _ => K (i + 1, ls, .ref h.1 :: st, jx_new h r.y (.inl (r.x, df r.x)))
  | .newarray _ => jx_1 st fun n t => if n < 0 ∨ 5000 < n then none else K (i + 1, ls, .ref h.1 :: t, jx_new h n.toNatClampNeg (jx_arr r.x n.toNatClampNeg))
  | .anewarray _ => jx_1 st fun n t => if n < 0 ∨ 5000 < n then none else K (i + 1, ls, .ref h.1 :: t, jx_new h n.toNatClampNeg (jxQ r.x n.toNatClampNeg (fun _ => none)))
  | .multianewarray _ _ => jx_2 st fun n k t => if n < 0 ∨ 5000 < n ∨ k < 0 ∨ 5000 < k then none else K (i + 1, ls, .ref h.1 :: t, jx_inner h n.toNatClampNeg k.toNatClampNeg)
  | .invokespecial _ => match r.z with
    | 9 => jx_r st fun _ t => if jx_short t = true then K (i + 1, ls, t, h) else none
    | _ => jx_call (r.y + 1) 0 st (fun as => c r.x as h) fun st' h' => K (i + 1, ls, st', h')
  | .invokestatic _ => match r.z with
    | 9 => jx_cps st fun a sp b dp n t => if jx_short t = true then (jx_cp (jx_at h a) (jx_at h b) r.x sp dp n).bind fun e => K (i + 1, ls, t, jx_set h b e) else none
    | _ => jx_call r.y r.z st (fun as => c r.x as h) fun st' h' => K (i + 1, ls, st', h')
  | .invokevirtual _ => jx_call (r.y + 1) r.z st (fun as => c r.x as h) fun st' h' => K (i + 1, ls, st', h')
  | .ireturn => jx_ri r.z st h
  | .lreturn => jx_rl st h
  | .areturn => jx_ra st h
  | .return_ => jx_rv st h
  | _ => none
def jx_one (rc : Nat → Nat × (Nat → Int32)) (df : Nat → List Value) (c : Nat → List Value → jxH → jxR) (code : List jxRow) (K : jxS → jxR) (s : jxS) : jxR := match code[s.1]? with
  | some r => jx_step rc df c K r s.1 s.2.1 s.2.2.1 s.2.2.2
  | none => none
/-- the locals that live at a head, for every way that comes there -/
def jx_hd (code : List jxRow) (i : Nat) : Option (List Nat) := match code[i]? with
  | some r => r.lv
  | none => none
def jx_norm (code : List jxRow) (s : jxS) : jxS := match jx_hd code s.1 with
  | some L => (s.1, jx_pick s.2.1 L, s.2.2)
  | none => s
def jx_loop (rc : Nat → Nat × (Nat → Int32)) (df : Nat → List Value) (c : Nat → List Value → jxH → jxR) (code : List jxRow) : Nat → jxS → jxR
  | 0, _ => none
  | n + 1, s => jx_one rc df c code (fun s' => jx_loop rc df c code n (jx_norm code s')) s
/-- on till the next head -/
def jx_run (rc : Nat → Nat × (Nat → Int32)) (df : Nat → List Value) (c : Nat → List Value → jxH → jxR) (code : List jxRow) (K : jxS → jxR) : Nat → jxS → jxR
  | 0, s => K s
  | n + 1, s => jx_one rc df c code (fun s' => match jx_hd code s'.1 with
    | some L => K (s'.1, jx_pick s'.2.1 L, s'.2.2)
    | none => jx_run rc df c code K n s') s
end
section
noncomputable def jx_C (rc : Nat → Nat × (Nat → Int32)) (d k : Nat) (as : List Value) (h : jxH) : jxR := none
def jx_dflt : Nat → List Value
  | 0 => [.null, .null, .null, .int 0]
  | 1 => [.null, .null, .int 0]
  | 2 => [.null, .null, .null, .null, .long 0, .long 0, .int 0, .int 0, .int 0, .int 0, .int 0, .int 0]
  | 3 => [.null, .null, .null, .null, .null, .int 0, .int 0, .int 0, .int 0, .int 0]
  | 4 => [.int 0, .null]
  | 5 => [.null, .null, .null]
  | 6 => [.int 0, .int 0, .int 0, .int 0, .int 0, .int 0, .null]
  | 7 => [.null, .null, .int 0]
  | 8 => [.null, .int 0]
  | 9 => [.null, .int 0, .int 0]
  | 10 => [.null, .null, .null, .int 0, .int 0]
  | 11 => [.null, .null, .null, .null, .null, .null, .null, .null, .null, .null, .null, .null, .null, .null, .null, .null, .int 0]
  | 12 => [.null, .null, .null, .null, .int 0, .int 0, .null, .null, .null, .null, .null, .int 0, .int 0, .int 0, .null, .null, .null, .null, .null, .null, .null, .int 0, .null, .null, .null, .int 0, .null, .int 0, .null, .int 0, .int 0, .int 0, .null, .null, .null, .null, .null, .null, .int 0, .int 0]
  | _ => []
end
section
theorem je_0 (rc : Nat → Nat × (Nat → Int32)) (d : Nat) (a0 : Nat) (h : jxH) : jx_C rc (d + 1) 0 [.ref a0] h =
  if jx_is (jx_at h a0) 11 = true then
  if (8 : Int32) < 0 ∨ 5000 < (8 : Int32) then none else
  (jx_pF (jx_at (jx_new h ((8 : Int32)).toNatClampNeg (jx_arr 0 ((8 : Int32)).toNatClampNeg)) a0) 11 0 (.ref h.1)).bind fun e1 =>
  jx_cV (jx_C rc d 223 [.ref (jx_set (jx_new h ((8 : Int32)).toNatClampNeg (jx_arr 0 ((8 : Int32)).toNatClampNeg)) a0 e1).1] (jx_new (jx_set (jx_new h ((8 : Int32)).toNatClampNeg (jx_arr 0 ((8 : Int32)).toNatClampNeg)) a0 e1) 3 (.inl (1, jx_dflt 1)))) fun h2 =>
  (jx_pF (jx_at h2 a0) 11 1 (.ref (jx_set (jx_new h ((8 : Int32)).toNatClampNeg (jx_arr 0 ((8 : Int32)).toNatClampNeg)) a0 e1).1)).bind fun e3 =>
  jx_cV (jx_C rc d 223 [.ref (jx_set h2 a0 e3).1] (jx_new (jx_set h2 a0 e3) 3 (.inl (1, jx_dflt 1)))) fun h4 =>
  (jx_pF (jx_at h4 a0) 11 2 (.ref (jx_set h2 a0 e3).1)).bind fun e5 =>
  jx_cV (jx_C rc d 280 [.ref (jx_set h4 a0 e5).1] (jx_new (jx_set h4 a0 e5) 7 (.inl (6, jx_dflt 6)))) fun h6 =>
  (jx_pF (jx_at h6 a0) 11 3 (.ref (jx_set h4 a0 e5).1)).bind fun e7 =>
  jx_cV (jx_C rc d 311 [.ref (jx_set h6 a0 e7).1] (jx_new (jx_set h6 a0 e7) 3 (.inl (9, jx_dflt 9)))) fun h8 =>
  (jx_pF (jx_at h8 a0) 11 4 (.ref (jx_set h6 a0 e7).1)).bind fun e9 =>
  jx_cV (jx_C rc d 318 [.ref (jx_set h8 a0 e9).1] (jx_new (jx_set h8 a0 e9) 5 (.inl (10, jx_dflt 10)))) fun h10 =>
  (jx_pF (jx_at h10 a0) 11 5 (.ref (jx_set h8 a0 e9).1)).bind fun e11 =>
  jx_cV (jx_C rc d 248 [.ref (jx_set h10 a0 e11).1] (jx_new (jx_set h10 a0 e11) 12 (.inl (2, jx_dflt 2)))) fun h12 =>
  (jx_pF (jx_at h12 a0) 11 6 (.ref (jx_set h10 a0 e11).1)).bind fun e13 =>
  jx_cV (jx_C rc d 276 [.ref (jx_set h12 a0 e13).1] (jx_new (jx_set h12 a0 e13) 3 (.inl (5, jx_dflt 5)))) fun h14 =>
  (jx_pF (jx_at h14 a0) 11 7 (.ref (jx_set h12 a0 e13).1)).bind fun e15 =>
  jx_cV (jx_C rc d 304 [.ref (jx_set h14 a0 e15).1] (jx_new (jx_set h14 a0 e15) 2 (.inl (8, jx_dflt 8)))) fun h16 =>
  (jx_pF (jx_at h16 a0) 11 8 (.ref (jx_set h14 a0 e15).1)).bind fun e17 =>
  jx_cV (jx_C rc d 262 [.ref (jx_set h16 a0 e17).1] (jx_new (jx_set h16 a0 e17) 10 (.inl (3, jx_dflt 3)))) fun h18 =>
  (jx_pF (jx_at h18 a0) 11 9 (.ref (jx_set h16 a0 e17).1)).bind fun e19 =>
  jx_cV (jx_C rc d 295 [.ref (jx_set h18 a0 e19).1] (jx_new (jx_set h18 a0 e19) 3 (.inl (7, jx_dflt 7)))) fun h20 =>
  (jx_pF (jx_at h20 a0) 11 10 (.ref (jx_set h18 a0 e19).1)).bind fun e21 =>
  if (4 : Int32) < 0 ∨ 5000 < (4 : Int32) then none else
  (jx_pF (jx_at (jx_new (jx_set h20 a0 e21) ((4 : Int32)).toNatClampNeg (jxQ 4 ((4 : Int32)).toNatClampNeg (fun _ => none))) a0) 11 11 (.ref (jx_set h20 a0 e21).1)).bind fun e22 =>
  if (4 : Int32) < 0 ∨ 5000 < (4 : Int32) then none else
  (jx_pF (jx_at (jx_new (jx_set (jx_new (jx_set h20 a0 e21) ((4 : Int32)).toNatClampNeg (jxQ 4 ((4 : Int32)).toNatClampNeg (fun _ => none))) a0 e22) ((4 : Int32)).toNatClampNeg (jxQ 5 ((4 : Int32)).toNatClampNeg (fun _ => none))) a0) 11 12 (.ref (jx_set (jx_new (jx_set h20 a0 e21) ((4 : Int32)).toNatClampNeg (jxQ 4 ((4 : Int32)).toNatClampNeg (fun _ => none))) a0 e22).1)).bind fun e23 =>
  jx_cV (jx_C rc d 210 [.ref (jx_set (jx_new (jx_set (jx_new (jx_set h20 a0 e21) ((4 : Int32)).toNatClampNeg (jxQ 4 ((4 : Int32)).toNatClampNeg (fun _ => none))) a0 e22) ((4 : Int32)).toNatClampNeg (jxQ 5 ((4 : Int32)).toNatClampNeg (fun _ => none))) a0 e23).1] (jx_new (jx_set (jx_new (jx_set (jx_new (jx_set h20 a0 e21) ((4 : Int32)).toNatClampNeg (jxQ 4 ((4 : Int32)).toNatClampNeg (fun _ => none))) a0 e22) ((4 : Int32)).toNatClampNeg (jxQ 5 ((4 : Int32)).toNatClampNeg (fun _ => none))) a0 e23) 4 (.inl (0, jx_dflt 0)))) fun h24 =>
  (jx_pF (jx_at h24 a0) 11 13 (.ref (jx_set (jx_new (jx_set (jx_new (jx_set h20 a0 e21) ((4 : Int32)).toNatClampNeg (jxQ 4 ((4 : Int32)).toNatClampNeg (fun _ => none))) a0 e22) ((4 : Int32)).toNatClampNeg (jxQ 5 ((4 : Int32)).toNatClampNeg (fun _ => none))) a0 e23).1)).bind fun e25 =>
  jx_cV (jx_C rc d 223 [.ref (jx_set h24 a0 e25).1] (jx_new (jx_set h24 a0 e25) 3 (.inl (1, jx_dflt 1)))) fun h26 =>
  (jx_pF (jx_at h26 a0) 11 14 (.ref (jx_set h24 a0 e25).1)).bind fun e27 =>
  jx_cV (jx_C rc d 210 [.ref (jx_set h26 a0 e27).1] (jx_new (jx_set h26 a0 e27) 4 (.inl (0, jx_dflt 0)))) fun h28 =>
  (jx_pF (jx_at h28 a0) 11 15 (.ref (jx_set h26 a0 e27).1)).bind fun e29 =>
  some (none, (jx_set h28 a0 e29))
  else none :=
  sorry
theorem je_1 (rc : Nat → Nat × (Nat → Int32)) (d : Nat) (a0 : Nat) (x1 : Int32) (h : jxH) : jx_C rc (d + 1) 1 [.ref a0, .int x1] h =
  if jx_is (jx_at h a0) 11 = true then
  jx_cI (jx_C rc d 61 [.int x1] h) fun v2 h1 =>
  if v2 = 0 then
    jx_cI (jx_C rc d 53 [.ref a0, .int (1 : Int32)] h1) fun v4 h3 =>
    some (some (.int v4), h3)
  else
    (jx_gR (jx_at h1 a0) 11 1).bind fun b5 =>
    jx_cI (jx_C rc d 227 [.ref b5] h1) fun v7 h6 =>
    if v7 < (12 : Int32) then
      (jx_gR (jx_at h6 a0) 11 4).bind fun b8 =>
      jx_cV (jx_C rc d 313 [.ref b8] h6) fun h9 =>
      (jx_gR (jx_at h9 a0) 11 1).bind fun b10 =>
      jx_cI (jx_C rc d 240 [.ref b10, .int x1] h9) fun v12 h11 =>
      some (some (.int v12), h11)
    else
      jx_cI (jx_C rc d 53 [.ref a0, .int (4 : Int32)] h6) fun v14 h13 =>
      some (some (.int v14), h13)
  else none :=
  sorry
theorem je_2 (rc : Nat → Nat × (Nat → Int32)) (d : Nat) (a0 : Nat) (x1 : Int32) (x2 : Int32) (h : jxH) : jx_C rc (d + 1) 2 [.ref a0, .int x1, .int x2] h =
  if jx_is (jx_at h a0) 11 = true then
  (jx_gR (jx_at h a0) 11 1).bind fun b1 =>
  jx_cI (jx_C rc d 226 [.ref b1, .int x1] h) fun v3 h2 =>
  if v3 = 0 then
    jx_cI (jx_C rc d 53 [.ref a0, .int (1 : Int32)] h2) fun v5 h4 =>
    some (some (.int v5), h4)
  else
    jx_cI (jx_C rc d 61 [.int x2] h2) fun v7 h6 =>
    if v7 = 0 then
      jx_cI (jx_C rc d 53 [.ref a0, .int (1 : Int32)] h6) fun v9 h8 =>
      some (some (.int v9), h8)
    else
      (jx_gR (jx_at h6 a0) 11 1).bind fun b10 =>
      jx_cI (jx_C rc d 228 [.ref b10, .int x1] h6) fun v12 h11 =>
      (jx_gR (jx_at h11 a0) 11 1).bind fun b13 =>
      jx_cV (jx_C rc d 237 [.ref b13, .int x1, .int x2] h11) fun h14 =>
      (jx_gR (jx_at h14 a0) 11 4).bind fun b15 =>
      jx_cV (jx_C rc d 313 [.ref b15] h14) fun h16 =>
      some (some (.int v12), h16)
  else none :=
  sorry
theorem je_3 (rc : Nat → Nat × (Nat → Int32)) (d : Nat) (a0 : Nat) (x1 : Int32) (x2 : Int32) (h : jxH) : jx_C rc (d + 1) 3 [.ref a0, .int x1, .int x2] h =
  if jx_is (jx_at h a0) 11 = true then
  (jx_gR (jx_at h a0) 11 1).bind fun b1 =>
  jx_cI (jx_C rc d 226 [.ref b1, .int x1] h) fun v3 h2 =>
  if v3 = 0 then
    jx_cI (jx_C rc d 53 [.ref a0, .int (1 : Int32)] h2) fun v5 h4 =>
    some (some (.int v5), h4)
  else
    (jx_gR (jx_at h2 a0) 11 1).bind fun b6 =>
    jx_cI (jx_C rc d 226 [.ref b6, .int x2] h2) fun v8 h7 =>
    if v8 = 0 then
      jx_cI (jx_C rc d 53 [.ref a0, .int (1 : Int32)] h7) fun v10 h9 =>
      some (some (.int v10), h9)
    else
      jx_cI (jx_C rc d 56 [.ref a0, .int x1] h7) fun v12 h11 =>
      jx_cI (jx_C rc d 60 [.int x2, .int v12] h11) fun v14 h13 =>
      if v14 = 0 then
        (jx_gR (jx_at h13 a0) 11 1).bind fun b15 =>
        jx_cV (jx_C rc d 241 [.ref b15, .int x1, .int x2] h13) fun h16 =>
        (jx_gR (jx_at h16 a0) 11 4).bind fun b17 =>
        jx_cV (jx_C rc d 313 [.ref b17] h16) fun h18 =>
        (jx_gR (jx_at h18 a0) 11 1).bind fun b19 =>
        jx_cI (jx_C rc d 233 [.ref b19] h18) fun v21 h20 =>
        some (some (.int v21), h20)
      else
        jx_cI (jx_C rc d 53 [.ref a0, .int (3 : Int32)] h13) fun v23 h22 =>
        some (some (.int v23), h22)
  else none :=
  sorry
theorem je_4 (rc : Nat → Nat × (Nat → Int32)) (d : Nat) (a0 : Nat) (x1 : Int32) (x2 : Int32) (h : jxH) : jx_C rc (d + 1) 4 [.ref a0, .int x1, .int x2] h =
  if jx_is (jx_at h a0) 11 = true then
  (jx_gR (jx_at h a0) 11 1).bind fun b1 =>
  jx_cI (jx_C rc d 226 [.ref b1, .int x1] h) fun v3 h2 =>
  if v3 = 0 then
    jx_cI (jx_C rc d 53 [.ref a0, .int (1 : Int32)] h2) fun v5 h4 =>
    some (some (.int v5), h4)
  else
    (jx_gR (jx_at h2 a0) 11 1).bind fun b6 =>
    jx_cI (jx_C rc d 226 [.ref b6, .int x2] h2) fun v8 h7 =>
    if v8 = 0 then
      jx_cI (jx_C rc d 53 [.ref a0, .int (1 : Int32)] h7) fun v10 h9 =>
      some (some (.int v10), h9)
    else
      (jx_gR (jx_at h7 a0) 11 1).bind fun b11 =>
      jx_cI (jx_C rc d 231 [.ref b11, .int x1, .int x2] h7) fun v13 h12 =>
      if v13 = 0 then
        jx_cI (jx_C rc d 53 [.ref a0, .int (2 : Int32)] h12) fun v15 h14 =>
        some (some (.int v15), h14)
      else
        (jx_gR (jx_at h12 a0) 11 1).bind fun b16 =>
        jx_cV (jx_C rc d 243 [.ref b16, .int x1, .int x2] h12) fun h17 =>
        (jx_gR (jx_at h17 a0) 11 4).bind fun b18 =>
        jx_cV (jx_C rc d 313 [.ref b18] h17) fun h19 =>
        (jx_gR (jx_at h19 a0) 11 1).bind fun b20 =>
        jx_cI (jx_C rc d 233 [.ref b20] h19) fun v22 h21 =>
        some (some (.int v22), h21)
  else none :=
  sorry
theorem je_5 (rc : Nat → Nat × (Nat → Int32)) (d : Nat) (a0 : Nat) (x1 : Int32) (h : jxH) : jx_C rc (d + 1) 5 [.ref a0, .int x1] h =
  if jx_is (jx_at h a0) 11 = true then
  (jx_gR (jx_at h a0) 11 1).bind fun b1 =>
  jx_cI (jx_C rc d 226 [.ref b1, .int x1] h) fun v3 h2 =>
  if v3 = 0 then
    jx_cI (jx_C rc d 53 [.ref a0, .int (1 : Int32)] h2) fun v5 h4 =>
    some (some (.int v5), h4)
  else
    (jx_gR (jx_at h2 a0) 11 1).bind fun b6 =>
    jx_cI (jx_C rc d 228 [.ref b6, .int x1] h2) fun v8 h7 =>
    (jx_gR (jx_at h7 a0) 11 1).bind fun b9 =>
    jx_cV (jx_C rc d 245 [.ref b9, .int x1] h7) fun h10 =>
    (jx_gR (jx_at h10 a0) 11 4).bind fun b11 =>
    jx_cV (jx_C rc d 313 [.ref b11] h10) fun h12 =>
    some (some (.int v8), h12)
  else none :=
  sorry
theorem je_6 (rc : Nat → Nat × (Nat → Int32)) (d : Nat) (a0 : Nat) (x1 : Int32) (x2 : Int32) (h : jxH) : jx_C rc (d + 1) 6 [.ref a0, .int x1, .int x2] h =
  if jx_is (jx_at h a0) 11 = true then
  (jx_gR (jx_at h a0) 11 1).bind fun b1 =>
  jx_cI (jx_C rc d 226 [.ref b1, .int x1] h) fun v3 h2 =>
  if v3 = 0 then
    jx_cI (jx_C rc d 53 [.ref a0, .int (1 : Int32)] h2) fun v5 h4 =>
    some (some (.int v5), h4)
  else
    if x2 = (0 : Int32) then
      (jx_gR (jx_at h2 a0) 11 1).bind fun b6 =>
      jx_cI (jx_C rc d 228 [.ref b6, .int x1] h2) fun v8 h7 =>
      some (some (.int v8), h7)
    else if x2 = ((0 : Int32) + 1) then
      (jx_gR (jx_at h2 a0) 11 1).bind fun b9 =>
      jx_cI (jx_C rc d 230 [.ref b9, .int x1] h2) fun v11 h10 =>
      some (some (.int v11), h10)
    else if x2 = (((0 : Int32) + 1) + 1) then
      (jx_gR (jx_at h2 a0) 11 1).bind fun b12 =>
      jx_cI (jx_C rc d 229 [.ref b12, .int x1] h2) fun v14 h13 =>
      some (some (.int v14), h13)
    else if x2 = ((((0 : Int32) + 1) + 1) + 1) then
      jx_cI (jx_C rc d 56 [.ref a0, .int x1] h2) fun v16 h15 =>
      some (some (.int v16), h15)
    else if x2 = (((((0 : Int32) + 1) + 1) + 1) + 1) then
      (jx_gR (jx_at h2 a0) 11 3).bind fun b17 =>
      (jx_gR (jx_at h2 a0) 11 1).bind fun b18 =>
      jx_cI (jx_C rc d 283 [.ref b17, .ref b18, .int x1] h2) fun v20 h19 =>
      if v20 = 0 then
        some (some (.int (-1 : Int32)), h19)
      else
        (jx_gR (jx_at h19 a0) 11 3).bind fun b21 =>
        (jx_gI (jx_at h19 b21) 6 0).bind fun v22 =>
        some (some (.int v22), h19)
    else if x2 = ((((((0 : Int32) + 1) + 1) + 1) + 1) + 1) then
      (jx_gR (jx_at h2 a0) 11 5).bind fun b23 =>
      (jx_gR (jx_at h2 a0) 11 1).bind fun b24 =>
      jx_cV (jx_C rc d 320 [.ref b23, .ref b24, .int x1] h2) fun h25 =>
      (jx_gR (jx_at h25 a0) 11 5).bind fun b26 =>
      jx_cI (jx_C rc d 326 [.ref b26] h25) fun v28 h27 =>
      some (some (.int v28), h27)
    else 
      jx_cI (jx_C rc d 53 [.ref a0, .int (1 : Int32)] h2) fun v30 h29 =>
      some (some (.int v30), h29)
  else none :=
  sorry
theorem je_7 (rc : Nat → Nat × (Nat → Int32)) (d : Nat) (a0 : Nat) (x1 : Int32) (x2 : Int32) (h : jxH) : jx_C rc (d + 1) 7 [.ref a0, .int x1, .int x2] h =
  if jx_is (jx_at h a0) 11 = true then
  (jx_gR (jx_at h a0) 11 1).bind fun b1 =>
  jx_cI (jx_C rc d 226 [.ref b1, .int x1] h) fun v3 h2 =>
  if v3 = 0 then
    jx_cI (jx_C rc d 53 [.ref a0, .int (1 : Int32)] h2) fun v5 h4 =>
    some (some (.int v5), h4)
  else
    (jx_gR (jx_at h2 a0) 11 1).bind fun b6 =>
    jx_cI (jx_C rc d 226 [.ref b6, .int x2] h2) fun v8 h7 =>
    if v8 = 0 then
      jx_cI (jx_C rc d 53 [.ref a0, .int (1 : Int32)] h7) fun v10 h9 =>
      some (some (.int v10), h9)
    else
      if x1 = x2 then
        (jx_gR (jx_at h7 a0) 11 1).bind fun b11 =>
        jx_cI (jx_C rc d 228 [.ref b11, .int x1] h7) fun v13 h12 =>
        some (some (.int v13), h12)
      else
        (jx_gR (jx_at h7 a0) 11 1).bind fun b14 =>
        jx_cI (jx_C rc d 231 [.ref b14, .int x1, .int x2] h7) fun v16 h15 =>
        if v16 = 0 then
          some (some (.int (0 : Int32)), h15)
        else
          some (some (.int (1 : Int32)), h15)
  else none :=
  sorry
theorem je_8 (rc : Nat → Nat × (Nat → Int32)) (d : Nat) (a0 : Nat) (x1 : Int32) (x2 : Int32) (x3 : Int32) (x4 : Int32) (x5 : Int32) (h : jxH) : jx_C rc (d + 1) 8 [.ref a0, .int x1, .int x2, .int x3, .int x4, .int x5] h =
  if jx_is (jx_at h a0) 11 = true then
  (jx_gR (jx_at h a0) 11 3).bind fun b1 =>
  jx_cV (jx_C rc d 281 [.ref b1, .int x1, .int x2, .int x3, .int x4, .int x5] h) fun h2 =>
  (jx_gR (jx_at h2 a0) 11 3).bind fun b3 =>
  (jx_gR (jx_at h2 a0) 11 1).bind fun b4 =>
  (jx_gR (jx_at h2 a0) 11 4).bind fun b5 =>
  (jx_gI (jx_at h2 b5) 9 1).bind fun v6 =>
  if v6 < (40 : Int32) then
    jx_cI (jx_C rc d 285 [.ref b3, .ref b4, .int (0 : Int32)] h2) fun v8 h7 =>
    if v8 = 0 then
      (jx_gR (jx_at h7 a0) 11 4).bind fun b9 =>
      (jx_gR (jx_at h7 a0) 11 3).bind fun b10 =>
      (jx_gR (jx_at h7 a0) 11 1).bind fun b11 =>
      jx_cV (jx_C rc d 314 [.ref b9, .ref b10, .ref b11] h7) fun h12 =>
      (jx_gR (jx_at h12 a0) 11 1).bind fun b13 =>
      jx_cI (jx_C rc d 227 [.ref b13] h12) fun v15 h14 =>
      some (some (.int v15), h14)
    else
      jx_cI (jx_C rc d 53 [.ref a0, .int v8] h7) fun v17 h16 =>
      some (some (.int v17), h16)
  else
    jx_cI (jx_C rc d 285 [.ref b3, .ref b4, .int (1 : Int32)] h2) fun v19 h18 =>
    if v19 = 0 then
      (jx_gR (jx_at h18 a0) 11 4).bind fun b20 =>
      (jx_gR (jx_at h18 a0) 11 3).bind fun b21 =>
      (jx_gR (jx_at h18 a0) 11 1).bind fun b22 =>
      jx_cV (jx_C rc d 314 [.ref b20, .ref b21, .ref b22] h18) fun h23 =>
      (jx_gR (jx_at h23 a0) 11 1).bind fun b24 =>
      jx_cI (jx_C rc d 227 [.ref b24] h23) fun v26 h25 =>
      some (some (.int v26), h25)
    else
      jx_cI (jx_C rc d 53 [.ref a0, .int v19] h18) fun v28 h27 =>
      some (some (.int v28), h27)
  else none :=
  sorry
theorem je_9 (rc : Nat → Nat × (Nat → Int32)) (d : Nat) (a0 : Nat) (h : jxH) : jx_C rc (d + 1) 9 [.ref a0] h =
  if jx_is (jx_at h a0) 11 = true then
  (jx_gR (jx_at h a0) 11 4).bind fun b1 =>
  (jx_gR (jx_at h a0) 11 1).bind fun b2 =>
  jx_cI (jx_C rc d 315 [.ref b1, .ref b2] h) fun v4 h3 =>
  if v4 = 0 then
    jx_cI (jx_C rc d 53 [.ref a0, .int (2 : Int32)] h3) fun v6 h5 =>
    some (some (.int v6), h5)
  else
    (jx_gR (jx_at h3 a0) 11 4).bind fun b7 =>
    (jx_gI (jx_at h3 b7) 9 1).bind fun v8 =>
    some (some (.int v8), h3)
  else none :=
  sorry
theorem je_10 (rc : Nat → Nat × (Nat → Int32)) (d : Nat) (a0 : Nat) (h : jxH) : jx_C rc (d + 1) 10 [.ref a0] h =
  if jx_is (jx_at h a0) 11 = true then
  (jx_gR (jx_at h a0) 11 4).bind fun b1 =>
  (jx_gR (jx_at h a0) 11 1).bind fun b2 =>
  jx_cI (jx_C rc d 316 [.ref b1, .ref b2] h) fun v4 h3 =>
  if v4 = 0 then
    jx_cI (jx_C rc d 53 [.ref a0, .int (2 : Int32)] h3) fun v6 h5 =>
    some (some (.int v6), h5)
  else
    (jx_gR (jx_at h3 a0) 11 4).bind fun b7 =>
    (jx_gI (jx_at h3 b7) 9 1).bind fun v8 =>
    some (some (.int v8), h3)
  else none :=
  sorry
theorem je_11 (rc : Nat → Nat × (Nat → Int32)) (d : Nat) (a0 : Nat) (x1 : Int32) (x2 : Int32) (h : jxH) : jx_C rc (d + 1) 11 [.ref a0, .int x1, .int x2] h =
  if jx_is (jx_at h a0) 11 = true then
  if x2 < 0 then
    jx_cI (jx_C rc d 53 [.ref a0, .int (1 : Int32)] h) fun v2 h1 =>
    some (some (.int v2), h1)
  else
    if x2 ≤ (4 : Int32) then
      (jx_gR (jx_at h a0) 11 4).bind fun b3 =>
      (jx_gI (jx_at h b3) 9 1).bind fun v4 =>
      if v4 ≤ x1 then
        jx_cI (jx_C rc d 53 [.ref a0, .int (2 : Int32)] h) fun v6 h5 =>
        some (some (.int v6), h5)
      else
        (jx_gR (jx_at h a0) 11 4).bind fun b7 =>
        jx_cR (jx_C rc d 312 [.ref b7, .int x1] h) fun o9 h8 =>
        jx_mo o9 (fun b10 => if x2 = (0 : Int32) then
            (jx_gI (jx_at h8 b10) 6 0).bind fun v11 =>
            some (some (.int v11), h8)
          else if x2 = ((0 : Int32) + 1) then
            (jx_gI (jx_at h8 b10) 6 1).bind fun v12 =>
            some (some (.int v12), h8)
          else if x2 = (((0 : Int32) + 1) + 1) then
            (jx_gI (jx_at h8 b10) 6 2).bind fun v13 =>
            some (some (.int v13), h8)
          else if x2 = ((((0 : Int32) + 1) + 1) + 1) then
            (jx_gI (jx_at h8 b10) 6 3).bind fun v14 =>
            some (some (.int v14), h8)
          else 
            (jx_gI (jx_at h8 b10) 6 4).bind fun v15 =>
            some (some (.int v15), h8))
        (jx_cI (jx_C rc d 53 [.ref a0, .int (2 : Int32)] h8) fun v17 h16 =>
          some (some (.int v17), h16))
    else
      jx_cI (jx_C rc d 53 [.ref a0, .int (1 : Int32)] h) fun v19 h18 =>
      some (some (.int v19), h18)
  else none :=
  sorry
theorem je_12 (rc : Nat → Nat × (Nat → Int32)) (d : Nat) (a0 : Nat) (h : jxH) : jx_C rc (d + 1) 12 [.ref a0] h =
  if jx_is (jx_at h a0) 11 = true then
  (jx_gR (jx_at h a0) 11 4).bind fun b1 =>
  jx_cI (jx_C rc d 317 [.ref b1] h) fun v3 h2 =>
  some (some (.int v3), h2)
  else none :=
  sorry
theorem je_13 (rc : Nat → Nat × (Nat → Int32)) (d : Nat) (a0 : Nat) (x1 : Int32) (h : jxH) : jx_C rc (d + 1) 13 [.ref a0, .int x1] h =
  if jx_is (jx_at h a0) 11 = true then
  (jx_gR (jx_at h a0) 11 1).bind fun b1 =>
  (jx_gI (jx_at h b1) 1 2).bind fun v2 =>
  if (x1 &&& (v2 ^^^ (-1 : Int32))) = 0 then
    (jx_gR (jx_at h a0) 11 6).bind fun b3 =>
    (jx_gR (jx_at h a0) 11 1).bind fun b4 =>
    jx_cL (jx_C rc d 249 [.ref b3, .ref b4, .int x1] h) fun v6 h5 =>
    jx_cI (jx_C rc d 54 [.ref a0, .long v6] h5) fun v8 h7 =>
    some (some (.int v8), h7)
  else
    jx_cI (jx_C rc d 53 [.ref a0, .int (1 : Int32)] h) fun v10 h9 =>
    some (some (.int v10), h9)
  else none :=
  sorry
theorem je_14 (rc : Nat → Nat × (Nat → Int32)) (d : Nat) (a0 : Nat) (h : jxH) : jx_C rc (d + 1) 14 [.ref a0] h =
  if jx_is (jx_at h a0) 11 = true then
  (jx_gR (jx_at h a0) 11 6).bind fun b1 =>
  (jx_gR (jx_at h a0) 11 1).bind fun b2 =>
  (jx_gR (jx_at h a0) 11 1).bind fun b3 =>
  (jx_gI (jx_at h b3) 1 2).bind fun v4 =>
  jx_cL (jx_C rc d 249 [.ref b1, .ref b2, .int v4] h) fun v6 h5 =>
  jx_cI (jx_C rc d 54 [.ref a0, .long v6] h5) fun v8 h7 =>
  some (some (.int v8), h7)
  else none :=
  sorry
theorem je_15 (rc : Nat → Nat × (Nat → Int32)) (d : Nat) (a0 : Nat) (x1 : Int32) (x2 : Int32) (x3 : Int32) (h : jxH) : jx_C rc (d + 1) 15 [.ref a0, .int x1, .int x2, .int x3] h =
  if jx_is (jx_at h a0) 11 = true then
  (jx_gR (jx_at h a0) 11 1).bind fun b1 =>
  jx_cI (jx_C rc d 226 [.ref b1, .int x1] h) fun v3 h2 =>
  if v3 = 0 then
    jx_cI (jx_C rc d 53 [.ref a0, .int (1 : Int32)] h2) fun v5 h4 =>
    some (some (.int v5), h4)
  else
    (jx_gR (jx_at h2 a0) 11 1).bind fun b6 =>
    jx_cI (jx_C rc d 226 [.ref b6, .int x2] h2) fun v8 h7 =>
    if v8 = 0 then
      jx_cI (jx_C rc d 53 [.ref a0, .int (1 : Int32)] h7) fun v10 h9 =>
      some (some (.int v10), h9)
    else
      jx_cI (jx_C rc d 62 [.int x3] h7) fun v12 h11 =>
      if v12 = 0 then
        jx_cI (jx_C rc d 53 [.ref a0, .int (1 : Int32)] h11) fun v14 h13 =>
        some (some (.int v14), h13)
      else
        (jx_gR (jx_at h11 a0) 11 6).bind fun b15 =>
        (jx_gR (jx_at h11 a0) 11 1).bind fun b16 =>
        jx_cI (jx_C rc d 253 [.ref b15, .ref b16, .int x1, .int x2] h11) fun v18 h17 =>
        if v18 = 0 then
          jx_cI (jx_C rc d 53 [.ref a0, .int (3 : Int32)] h17) fun v20 h19 =>
          some (some (.int v20), h19)
        else
          if x3 = 0 then
            (jx_gR (jx_at h17 a0) 11 6).bind fun b21 =>
            (jx_gL (jx_at h17 b21) 2 4).bind fun v22 =>
            jx_cI (jx_C rc d 54 [.ref a0, .long v22] h17) fun v24 h23 =>
            some (some (.int v24), h23)
          else
            (jx_gR (jx_at h17 a0) 11 6).bind fun b25 =>
            (jx_gL (jx_at h17 b25) 2 5).bind fun v26 =>
            jx_cI (jx_C rc d 54 [.ref a0, .long v26] h17) fun v28 h27 =>
            some (some (.int v28), h27)
  else none :=
  sorry
theorem je_16 (rc : Nat → Nat × (Nat → Int32)) (d : Nat) (a0 : Nat) (x1 : Int32) (h : jxH) : jx_C rc (d + 1) 16 [.ref a0, .int x1] h =
  if jx_is (jx_at h a0) 11 = true then
  if x1 < 0 then
    jx_cI (jx_C rc d 53 [.ref a0, .int (1 : Int32)] h) fun v2 h1 =>
    some (some (.int v2), h1)
  else
    if x1 ≤ (2 : Int32) then
      (jx_gR (jx_at h a0) 11 6).bind fun b3 =>
      (jx_gR (jx_at h a0) 11 1).bind fun b4 =>
      jx_cV (jx_C rc d 256 [.ref b3, .ref b4, .int (0 : Int32)] h) fun h5 =>
      if x1 = 0 then
        (jx_gR (jx_at h5 a0) 11 6).bind fun b6 =>
        (jx_gI (jx_at h5 b6) 2 7).bind fun v7 =>
        some (some (.int v7), h5)
      else
        if x1 = (1 : Int32) then
          (jx_gR (jx_at h5 a0) 11 6).bind fun b8 =>
          (jx_gI (jx_at h5 b8) 2 8).bind fun v9 =>
          some (some (.int v9), h5)
        else
          (jx_gR (jx_at h5 a0) 11 6).bind fun b10 =>
          (jx_gI (jx_at h5 b10) 2 9).bind fun v11 =>
          some (some (.int v11), h5)
    else
      jx_cI (jx_C rc d 53 [.ref a0, .int (1 : Int32)] h) fun v13 h12 =>
      some (some (.int v13), h12)
  else none :=
  sorry
theorem je_17 (rc : Nat → Nat × (Nat → Int32)) (d : Nat) (a0 : Nat) (x1 : Int32) (h : jxH) : jx_C rc (d + 1) 17 [.ref a0, .int x1] h =
  if jx_is (jx_at h a0) 11 = true then
  jx_cI (jx_C rc d 63 [.int x1] h) fun v2 h1 =>
  if v2 = 0 then
    jx_cI (jx_C rc d 53 [.ref a0, .int (1 : Int32)] h1) fun v4 h3 =>
    some (some (.int v4), h3)
  else
    (jx_gR (jx_at h1 a0) 11 6).bind fun b5 =>
    (jx_gR (jx_at h1 a0) 11 1).bind fun b6 =>
    jx_cV (jx_C rc d 256 [.ref b5, .ref b6, .int x1] h1) fun h7 =>
    (jx_gR (jx_at h7 a0) 11 6).bind fun b8 =>
    (jx_gI (jx_at h7 b8) 2 9).bind fun v9 =>
    some (some (.int v9), h7)
  else none :=
  sorry
theorem je_18 (rc : Nat → Nat × (Nat → Int32)) (d : Nat) (a0 : Nat) (x1 : Int32) (h : jxH) : jx_C rc (d + 1) 18 [.ref a0, .int x1] h =
  if jx_is (jx_at h a0) 11 = true then
  jx_cI (jx_C rc d 62 [.int x1] h) fun v2 h1 =>
  if v2 = 0 then
    jx_cI (jx_C rc d 53 [.ref a0, .int (1 : Int32)] h1) fun v4 h3 =>
    some (some (.int v4), h3)
  else
    (jx_gR (jx_at h1 a0) 11 6).bind fun b5 =>
    (jx_gR (jx_at h1 a0) 11 1).bind fun b6 =>
    jx_cV (jx_C rc d 258 [.ref b5, .ref b6] h1) fun h7 =>
    if x1 = 0 then
      (jx_gR (jx_at h7 a0) 11 6).bind fun b8 =>
      (jx_gI (jx_at h7 b8) 2 10).bind fun v9 =>
      some (some (.int ((1 : Int32) <<< (v9 &&& 31))), h7)
    else
      (jx_gR (jx_at h7 a0) 11 6).bind fun b10 =>
      (jx_gI (jx_at h7 b10) 2 11).bind fun v11 =>
      some (some (.int v11), h7)
  else none :=
  sorry
theorem je_19 (rc : Nat → Nat × (Nat → Int32)) (d : Nat) (a0 : Nat) (h : jxH) : jx_C rc (d + 1) 19 [.ref a0] h =
  if jx_is (jx_at h a0) 11 = true then
  (jx_gR (jx_at h a0) 11 6).bind fun b1 =>
  (jx_gR (jx_at h a0) 11 1).bind fun b2 =>
  (jx_gR (jx_at h a0) 11 1).bind fun b3 =>
  (jx_gI (jx_at h b3) 1 2).bind fun v4 =>
  jx_cL (jx_C rc d 249 [.ref b1, .ref b2, .int v4] h) fun v6 h5 =>
  if (lg_cmp (v6 &&& (1 : Int64)) (0 : Int64)) = 0 then
    jx_cI (jx_C rc d 53 [.ref a0, .int (3 : Int32)] h5) fun v8 h7 =>
    some (some (.int v8), h7)
  else
    (jx_gR (jx_at h5 a0) 11 6).bind fun b9 =>
    (jx_gR (jx_at h5 a0) 11 1).bind fun b10 =>
    jx_cV (jx_C rc d 256 [.ref b9, .ref b10, .int (0 : Int32)] h5) fun h11 =>
    (jx_gR (jx_at h11 a0) 11 6).bind fun b12 =>
    (jx_gR (jx_at h11 a0) 11 1).bind fun b13 =>
    jx_cV (jx_C rc d 258 [.ref b12, .ref b13] h11) fun h14 =>
    (jx_gR (jx_at h14 a0) 11 6).bind fun b15 =>
    (jx_gI (jx_at h14 b15) 2 7).bind fun v16 =>
    (jx_gR (jx_at h14 a0) 11 6).bind fun b17 =>
    (jx_gI (jx_at h14 b17) 2 8).bind fun v18 =>
    (jx_gR (jx_at h14 a0) 11 1).bind fun b19 =>
    (jx_gR (jx_at h14 a0) 11 6).bind fun b20 =>
    (jx_gI (jx_at h14 b20) 2 11).bind fun v21 =>
    jx_cI (jx_C rc d 236 [.ref b19, .int v21] h14) fun v23 h22 =>
    some (some (.int ((v16 - v18) - v23)), h22)
  else none :=
  sorry
theorem je_20 (rc : Nat → Nat × (Nat → Int32)) (d : Nat) (a0 : Nat) (x1 : Int32) (x2 : Int32) (x3 : Int32) (h : jxH) : jx_C rc (d + 1) 20 [.ref a0, .int x1, .int x2, .int x3] h =
  if jx_is (jx_at h a0) 11 = true then
  (jx_gR (jx_at h a0) 11 1).bind fun b1 =>
  jx_cI (jx_C rc d 226 [.ref b1, .int x1] h) fun v3 h2 =>
  if v3 = 0 then
    jx_cI (jx_C rc d 53 [.ref a0, .int (1 : Int32)] h2) fun v5 h4 =>
    some (some (.int v5), h4)
  else
    (jx_gR (jx_at h2 a0) 11 1).bind fun b6 =>
    jx_cI (jx_C rc d 226 [.ref b6, .int x2] h2) fun v8 h7 =>
    if v8 = 0 then
      jx_cI (jx_C rc d 53 [.ref a0, .int (1 : Int32)] h7) fun v10 h9 =>
      some (some (.int v10), h9)
    else
      jx_cI (jx_C rc d 62 [.int x3] h7) fun v12 h11 =>
      if v12 = 0 then
        jx_cI (jx_C rc d 53 [.ref a0, .int (1 : Int32)] h11) fun v14 h13 =>
        some (some (.int v14), h13)
      else
        (jx_gR (jx_at h11 a0) 11 6).bind fun b15 =>
        (jx_gR (jx_at h11 a0) 11 1).bind fun b16 =>
        jx_cI (jx_C rc d 254 [.ref b15, .ref b16, .int x1, .int x2] h11) fun v18 h17 =>
        if v18 = 0 then
          jx_cI (jx_C rc d 53 [.ref a0, .int (2 : Int32)] h17) fun v20 h19 =>
          some (some (.int v20), h19)
        else
          if x3 = 0 then
            (jx_gR (jx_at h17 a0) 11 6).bind fun b21 =>
            (jx_gL (jx_at h17 b21) 2 4).bind fun v22 =>
            jx_cI (jx_C rc d 54 [.ref a0, .long v22] h17) fun v24 h23 =>
            some (some (.int v24), h23)
          else
            (jx_gR (jx_at h17 a0) 11 6).bind fun b25 =>
            (jx_gL (jx_at h17 b25) 2 5).bind fun v26 =>
            jx_cI (jx_C rc d 54 [.ref a0, .long v26] h17) fun v28 h27 =>
            some (some (.int v28), h27)
  else none :=
  sorry
theorem je_21 (rc : Nat → Nat × (Nat → Int32)) (d : Nat) (a0 : Nat) (x1 : Int32) (x2 : Int32) (h : jxH) : jx_C rc (d + 1) 21 [.ref a0, .int x1, .int x2] h =
  if jx_is (jx_at h a0) 11 = true then
  (jx_gR (jx_at h a0) 11 1).bind fun b1 =>
  jx_cI (jx_C rc d 226 [.ref b1, .int x1] h) fun v3 h2 =>
  if v3 = 0 then
    jx_cI (jx_C rc d 53 [.ref a0, .int (1 : Int32)] h2) fun v5 h4 =>
    some (some (.int v5), h4)
  else
    jx_cI (jx_C rc d 62 [.int x2] h2) fun v7 h6 =>
    if v7 = 0 then
      jx_cI (jx_C rc d 53 [.ref a0, .int (1 : Int32)] h6) fun v9 h8 =>
      some (some (.int v9), h8)
    else
      jx_cI (jx_C rc d 56 [.ref a0, .int x1] h6) fun v11 h10 =>
      (jx_gR (jx_at h10 a0) 11 1).bind fun b12 =>
      jx_cI (jx_C rc d 235 [.ref b12, .int v11] h10) fun v14 h13 =>
      if v14 = 0 then
        jx_cI (jx_C rc d 53 [.ref a0, .int (3 : Int32)] h13) fun v16 h15 =>
        some (some (.int v16), h15)
      else
        (jx_gR (jx_at h13 a0) 11 6).bind fun b17 =>
        (jx_gR (jx_at h13 a0) 11 1).bind fun b18 =>
        jx_cV (jx_C rc d 255 [.ref b17, .ref b18, .int v11] h13) fun h19 =>
        (jx_gR (jx_at h19 a0) 11 6).bind fun b20 =>
        (jx_gL (jx_at h19 b20) 2 4).bind fun v21 =>
        if (lg_cmp v21 (1073741823 : Int64)) ≤ 0 then
          if x2 = 0 then
            (jx_gR (jx_at h19 a0) 11 6).bind fun b22 =>
            (jx_gL (jx_at h19 b22) 2 4).bind fun v23 =>
            jx_cI (jx_C rc d 54 [.ref a0, .long v23] h19) fun v25 h24 =>
            some (some (.int v25), h24)
          else
            (jx_gR (jx_at h19 a0) 11 6).bind fun b26 =>
            (jx_gL (jx_at h19 b26) 2 5).bind fun v27 =>
            jx_cI (jx_C rc d 54 [.ref a0, .long v27] h19) fun v29 h28 =>
            some (some (.int v29), h28)
        else
          jx_cI (jx_C rc d 53 [.ref a0, .int (5 : Int32)] h19) fun v31 h30 =>
          some (some (.int v31), h30)
  else none :=
  sorry
theorem je_22 (rc : Nat → Nat × (Nat → Int32)) (d : Nat) (a0 : Nat) (x1 : Int32) (x2 : Int32) (h : jxH) : jx_C rc (d + 1) 22 [.ref a0, .int x1, .int x2] h =
  if jx_is (jx_at h a0) 11 = true then
  (jx_gR (jx_at h a0) 11 1).bind fun b1 =>
  jx_cI (jx_C rc d 226 [.ref b1, .int x1] h) fun v3 h2 =>
  if v3 = 0 then
    jx_cI (jx_C rc d 53 [.ref a0, .int (1 : Int32)] h2) fun v5 h4 =>
    some (some (.int v5), h4)
  else
    (jx_gR (jx_at h2 a0) 11 1).bind fun b6 =>
    jx_cI (jx_C rc d 226 [.ref b6, .int x2] h2) fun v8 h7 =>
    if v8 = 0 then
      jx_cI (jx_C rc d 53 [.ref a0, .int (1 : Int32)] h7) fun v10 h9 =>
      some (some (.int v10), h9)
    else
      jx_cI (jx_C rc d 56 [.ref a0, .int x1] h7) fun v12 h11 =>
      jx_cI (jx_C rc d 56 [.ref a0, .int x2] h11) fun v14 h13 =>
      (jx_gR (jx_at h13 a0) 11 1).bind fun b15 =>
      jx_cI (jx_C rc d 235 [.ref b15, .int v12] h13) fun v17 h16 =>
      if v17 = 0 then
        jx_cI (jx_C rc d 53 [.ref a0, .int (3 : Int32)] h16) fun v19 h18 =>
        some (some (.int v19), h18)
      else
        (jx_gR (jx_at h16 a0) 11 1).bind fun b20 =>
        jx_cI (jx_C rc d 235 [.ref b20, .int v14] h16) fun v22 h21 =>
        if v22 = 0 then
          jx_cI (jx_C rc d 53 [.ref a0, .int (3 : Int32)] h21) fun v24 h23 =>
          some (some (.int v24), h23)
        else
          (jx_gR (jx_at h21 a0) 11 6).bind fun b25 =>
          (jx_gR (jx_at h21 a0) 11 1).bind fun b26 =>
          jx_cV (jx_C rc d 255 [.ref b25, .ref b26, .int v12] h21) fun h27 =>
          (jx_gR (jx_at h27 a0) 11 6).bind fun b28 =>
          (jx_gL (jx_at h27 b28) 2 4).bind fun v29 =>
          (jx_gR (jx_at h27 a0) 11 6).bind fun b30 =>
          (jx_gL (jx_at h27 b30) 2 5).bind fun v31 =>
          (jx_gR (jx_at h27 a0) 11 6).bind fun b32 =>
          (jx_gR (jx_at h27 a0) 11 1).bind fun b33 =>
          jx_cV (jx_C rc d 255 [.ref b32, .ref b33, .int v14] h27) fun h34 =>
          if 0 < (lg_cmp v29 (1073741823 : Int64)) then
            jx_cI (jx_C rc d 53 [.ref a0, .int (5 : Int32)] h34) fun v36 h35 =>
            some (some (.int v36), h35)
          else
            (jx_gR (jx_at h34 a0) 11 6).bind fun b37 =>
            (jx_gL (jx_at h34 b37) 2 4).bind fun v38 =>
            if (lg_cmp v38 (1073741823 : Int64)) ≤ 0 then
              (jx_gR (jx_at h34 a0) 11 6).bind fun b39 =>
              (jx_gL (jx_at h34 b39) 2 4).bind fun v40 =>
              if (lg_cmp v29 v40) = 0 then
                (jx_gR (jx_at h34 a0) 11 6).bind fun b41 =>
                (jx_gL (jx_at h34 b41) 2 5).bind fun v42 =>
                if (lg_cmp v31 v42) = 0 then
                  some (some (.int (1 : Int32)), h34)
                else
                  if (lg_cmp v29 (0 : Int64)) ≤ 0 then
                    some (some (.int (0 : Int32)), h34)
                  else
                    (jx_gR (jx_at h34 a0) 11 6).bind fun b43 =>
                    (jx_gL (jx_at h34 b43) 2 5).bind fun v44 =>
                    if v29 = 0 then none else if (lg_cmp ((v31 * v44) - (v31 * v44) / v29 * v29) (1 : Int64)) = 0 then
                      some (some (.int (1 : Int32)), h34)
                    else
                      some (some (.int (0 : Int32)), h34)
              else
                some (some (.int (0 : Int32)), h34)
            else
              jx_cI (jx_C rc d 53 [.ref a0, .int (5 : Int32)] h34) fun v46 h45 =>
              some (some (.int v46), h45)
  else none :=
  sorry
theorem je_23 (rc : Nat → Nat × (Nat → Int32)) (d : Nat) (a0 : Nat) (x1 : Int32) (x2 : Int32) (x3 : Int32) (h : jxH) : jx_C rc (d + 1) 23 [.ref a0, .int x1, .int x2, .int x3] h =
  if jx_is (jx_at h a0) 11 = true then
  jx_cI (jx_C rc d 66 [.int x1, .int x2] h) fun v2 h1 =>
  if v2 = 0 then
    jx_cI (jx_C rc d 53 [.ref a0, .int (1 : Int32)] h1) fun v4 h3 =>
    some (some (.int v4), h3)
  else
    if (-1 : Int32) ≤ x3 then
      jx_cL (jx_C rc d 69 [.long (x1).toInt64, .long (x2).toInt64] h1) fun v6 h5 =>
      if (lg_cmp v6 (1 : Int64)) = 0 then
        jx_cI (jx_C rc d 70 [.int x1, .int x2, .int x3] h5) fun v8 h7 =>
        if v8 = 0 then
          jx_cI (jx_C rc d 53 [.ref a0, .int (2 : Int32)] h7) fun v10 h9 =>
          some (some (.int v10), h9)
        else
          some (some (.int v8), h7)
      else
        jx_cI (jx_C rc d 53 [.ref a0, .int (3 : Int32)] h5) fun v12 h11 =>
        some (some (.int v12), h11)
    else
      jx_cI (jx_C rc d 53 [.ref a0, .int (1 : Int32)] h1) fun v14 h13 =>
      some (some (.int v14), h13)
  else none :=
  sorry
noncomputable def jb_24 (rc : Nat → Nat × (Nat → Int32)) (d : Nat) (i : Nat) (ls : List (Nat × Value)) (st : List Value) (h : jxH) : jxR := none
theorem je_24 (rc : Nat → Nat × (Nat → Int32)) (d : Nat) (a0 : Nat) (x1 : Int32) (x2 : Int32) (h : jxH) : jx_C rc (d + 1) 24 [.ref a0, .int x1, .int x2] h =
  if jx_is (jx_at h a0) 11 = true then
  jx_cI (jx_C rc d 66 [.int x1, .int x2] h) fun v2 h1 =>
  if v2 = 0 then
    jx_cI (jx_C rc d 53 [.ref a0, .int (1 : Int32)] h1) fun v4 h3 =>
    some (some (.int v4), h3)
  else
    jx_cL (jx_C rc d 69 [.long (x1).toInt64, .long (x2).toInt64] h1) fun v6 h5 =>
    if (lg_cmp v6 (1 : Int64)) = 0 then
      jx_cI (jx_C rc d 70 [.int x1, .int x2, .int (-1 : Int32)] h5) fun v8 h7 =>
      (jx_gR (jx_at h7 a0) 11 1).bind fun b9 =>
      jx_cI (jx_C rc d 227 [.ref b9] h7) fun v11 h10 =>
      if v8 ≤ ((12 : Int32) - v11) then
        jb_24 rc d 38 [(0, .ref a0), (1, .int x1), (2, .int x2), (3, .int v8), (4, .int (0 : Int32))] [] h10
      else
        jx_cI (jx_C rc d 53 [.ref a0, .int (4 : Int32)] h10) fun v13 h12 =>
        some (some (.int v13), h12)
    else
      jx_cI (jx_C rc d 53 [.ref a0, .int (3 : Int32)] h5) fun v15 h14 =>
      some (some (.int v15), h14)
  else none :=
  sorry
theorem je_24_38 (rc : Nat → Nat × (Nat → Int32)) (d : Nat) (a0 : Nat) (x1 : Int32) (x2 : Int32) (x3 : Int32) (x4 : Int32) (h : jxH) : jb_24 rc d 38 [(0, .ref a0), (1, .int x1), (2, .int x2), (3, .int x3), (4, .int x4)] [] h =
  if x3 ≤ x4 then
    (jx_gR (jx_at h a0) 11 1).bind fun b1 =>
    jx_cI (jx_C rc d 70 [.int x1, .int x2, .int (0 : Int32)] h) fun v3 h2 =>
    jx_cI (jx_C rc d 240 [.ref b1, .int (-v3)] h2) fun v5 h4 =>
    jb_24 rc d 67 [(0, .ref a0), (1, .int x1), (2, .int x2), (3, .int x3), (4, .int v5), (5, .int v5), (6, .int (1 : Int32))] [] h4
  else
    jx_cI (jx_C rc d 70 [.int x1, .int x2, .int x4] h) fun v7 h6 =>
    jx_cI (jx_C rc d 61 [.int (-v7)] h6) fun v9 h8 =>
    if v9 = 0 then
      jx_cI (jx_C rc d 53 [.ref a0, .int (5 : Int32)] h8) fun v11 h10 =>
      some (some (.int v11), h10)
    else
      jb_24 rc d 38 [(0, .ref a0), (1, .int x1), (2, .int x2), (3, .int x3), (4, .int (x4 + (1 : Int32)))] [] h8 :=
  sorry
theorem je_24_67 (rc : Nat → Nat × (Nat → Int32)) (d : Nat) (a0 : Nat) (x1 : Int32) (x2 : Int32) (x3 : Int32) (x4 : Int32) (x5 : Int32) (x6 : Int32) (h : jxH) : jb_24 rc d 67 [(0, .ref a0), (1, .int x1), (2, .int x2), (3, .int x3), (4, .int x4), (5, .int x5), (6, .int x6)] [] h =
  if x3 ≤ x6 then
    (jx_gR (jx_at h a0) 11 4).bind fun b1 =>
    jx_cV (jx_C rc d 313 [.ref b1] h) fun h2 =>
    some (some (.int x4), h2)
  else
    (jx_gR (jx_at h a0) 11 1).bind fun b3 =>
    jx_cI (jx_C rc d 70 [.int x1, .int x2, .int x6] h) fun v5 h4 =>
    jx_cI (jx_C rc d 240 [.ref b3, .int (-v5)] h4) fun v7 h6 =>
    (jx_gR (jx_at h6 a0) 11 1).bind fun b8 =>
    jx_cV (jx_C rc d 241 [.ref b8, .int x5, .int v7] h6) fun h9 =>
    jb_24 rc d 67 [(0, .ref a0), (1, .int x1), (2, .int x2), (3, .int x3), (4, .int x4), (5, .int v7), (6, .int (x6 + (1 : Int32)))] [] h9 :=
  sorry
noncomputable def jb_25 (rc : Nat → Nat × (Nat → Int32)) (d : Nat) (i : Nat) (ls : List (Nat × Value)) (st : List Value) (h : jxH) : jxR := none
theorem je_25 (rc : Nat → Nat × (Nat → Int32)) (d : Nat) (a0 : Nat) (x1 : Int64) (x3 : Int32) (h : jxH) : jx_C rc (d + 1) 25 [.ref a0, .long x1, .int x3] h =
  if jx_is (jx_at h a0) 11 = true then
  if x3 < (1 : Int32) then
    jx_cI (jx_C rc d 53 [.ref a0, .int (1 : Int32)] h) fun v2 h1 =>
    some (some (.int v2), h1)
  else
    if x3 ≤ (8 : Int32) then
      (jx_gR (jx_at h a0) 11 10).bind fun b3 =>
      (jx_gI (jx_at h b3) 7 2).bind fun v4 =>
      if (v4 + x3) ≤ (120 : Int32) then
        jb_25 rc d 23 [(0, .ref a0), (1, .long x1), (3, .int x3), (4, .int (0 : Int32))] [] h
      else
        jx_cI (jx_C rc d 53 [.ref a0, .int (4 : Int32)] h) fun v6 h5 =>
        some (some (.int v6), h5)
    else
      jx_cI (jx_C rc d 53 [.ref a0, .int (1 : Int32)] h) fun v8 h7 =>
      some (some (.int v8), h7)
  else none :=
  sorry
theorem je_25_23 (rc : Nat → Nat × (Nat → Int32)) (d : Nat) (a0 : Nat) (x1 : Int64) (x3 : Int32) (x4 : Int32) (h : jxH) : jb_25 rc d 23 [(0, .ref a0), (1, .long x1), (3, .int x3), (4, .int x4)] [] h =
  if x3 ≤ x4 then
    (jx_gR (jx_at h a0) 11 10).bind fun b1 =>
    (jx_gI (jx_at h b1) 7 2).bind fun v2 =>
    some (some (.int v2), h)
  else
    (jx_gR (jx_at h a0) 11 10).bind fun b3 =>
    jx_cV (jx_C rc d 296 [.ref b3, .int (((x1 >>> ((((8 : Int32) * x4)).toInt64 &&& 63)) &&& (255 : Int64))).toInt32] h) fun h4 =>
    jb_25 rc d 23 [(0, .ref a0), (1, .long x1), (3, .int x3), (4, .int (x4 + (1 : Int32)))] [] h4 :=
  sorry
theorem je_26 (rc : Nat → Nat × (Nat → Int32)) (d : Nat) (a0 : Nat) (h : jxH) : jx_C rc (d + 1) 26 [.ref a0] h =
  if jx_is (jx_at h a0) 11 = true then
  (jx_gR (jx_at h a0) 11 10).bind fun b1 =>
  (jx_gR (jx_at h a0) 11 2).bind fun b2 =>
  jx_cI (jx_C rc d 297 [.ref b1, .ref b2] h) fun v4 h3 =>
  (jx_gR (jx_at h3 a0) 11 10).bind fun b5 =>
  (jx_pF (jx_at h3 b5) 7 2 (.int (0 : Int32))).bind fun e6 =>
  if v4 < 0 then
    (jx_gR (jx_at (jx_set h3 b5 e6) a0) 11 2).bind fun b7 =>
    jx_cI (jx_C rc d 55 [.ref a0, .ref b7] (jx_set h3 b5 e6)) fun v9 h8 =>
    some (some (.int v9), h8)
  else
    some (some (.int ((-10 : Int32) - v4)), (jx_set h3 b5 e6))
  else none :=
  sorry
theorem je_27 (rc : Nat → Nat × (Nat → Int32)) (d : Nat) (a0 : Nat) (x1 : Int32) (h : jxH) : jx_C rc (d + 1) 27 [.ref a0, .int x1] h =
  if jx_is (jx_at h a0) 11 = true then
  if (-1 : Int32) ≤ x1 then
    (jx_gR (jx_at h a0) 11 7).bind fun b1 =>
    (jx_gR (jx_at h a0) 11 1).bind fun b2 =>
    (jx_gR (jx_at h a0) 11 8).bind fun b3 =>
    jx_cV (jx_C rc d 277 [.ref b1, .ref b2, .ref b3] h) fun h4 =>
    if x1 = (-1 : Int32) then
      (jx_gR (jx_at h4 a0) 11 8).bind fun b5 =>
      (jx_gI (jx_at h4 b5) 8 1).bind fun v6 =>
      some (some (.int v6), h4)
    else
      (jx_gR (jx_at h4 a0) 11 8).bind fun b7 =>
      (jx_gI (jx_at h4 b7) 8 1).bind fun v8 =>
      if v8 ≤ x1 then
        jx_cI (jx_C rc d 53 [.ref a0, .int (2 : Int32)] h4) fun v10 h9 =>
        some (some (.int v10), h9)
      else
        (jx_gR (jx_at h4 a0) 11 8).bind fun b11 =>
        jx_cI (jx_C rc d 308 [.ref b11, .int x1] h4) fun v13 h12 =>
        some (some (.int v13), h12)
  else
    jx_cI (jx_C rc d 53 [.ref a0, .int (1 : Int32)] h) fun v15 h14 =>
    some (some (.int v15), h14)
  else none :=
  sorry
theorem je_28 (rc : Nat → Nat × (Nat → Int32)) (d : Nat) (a0 : Nat) (x1 : Int32) (h : jxH) : jx_C rc (d + 1) 28 [.ref a0, .int x1] h =
  if jx_is (jx_at h a0) 11 = true then
  if x1 < 0 then
    jx_cI (jx_C rc d 53 [.ref a0, .int (1 : Int32)] h) fun v2 h1 =>
    some (some (.int v2), h1)
  else
    if x1 < (4 : Int32) then
      jx_cV (jx_C rc d 223 [.ref h.1] (jx_new h 3 (.inl (1, jx_dflt 1)))) fun h3 =>
      (jx_gR (jx_at h3 a0) 11 1).bind fun b4 =>
      jx_cV (jx_C rc d 225 [.ref h.1, .ref b4] h3) fun h5 =>
      (jx_gR (jx_at h5 a0) 11 11).bind fun b6 =>
      if jx_is (jx_at h5 h.1) 1 = true then (jx_sQ (jx_at h5 b6) 4 x1 (some h.1)).bind fun e7 =>
      jx_cI (jx_C rc d 227 [.ref h.1] (jx_set h5 b6 e7)) fun v9 h8 =>
      some (some (.int v9), h8) else none
    else
      jx_cI (jx_C rc d 53 [.ref a0, .int (1 : Int32)] h) fun v11 h10 =>
      some (some (.int v11), h10)
  else none :=
  sorry
theorem je_29 (rc : Nat → Nat × (Nat → Int32)) (d : Nat) (a0 : Nat) (x1 : Int32) (h : jxH) : jx_C rc (d + 1) 29 [.ref a0, .int x1] h =
  if jx_is (jx_at h a0) 11 = true then
  if x1 < 0 then
    jx_cI (jx_C rc d 53 [.ref a0, .int (1 : Int32)] h) fun v2 h1 =>
    some (some (.int v2), h1)
  else
    if x1 < (4 : Int32) then
      (jx_gR (jx_at h a0) 11 11).bind fun b3 =>
      (jx_aQ (jx_at h b3) 4 x1).bind fun o4 =>
      jx_mo o4 (fun b5 => jx_cI (jx_C rc d 55 [.ref a0, .ref b5] h) fun v7 h6 =>
        some (some (.int v7), h6))
      (jx_cI (jx_C rc d 53 [.ref a0, .int (7 : Int32)] h) fun v9 h8 =>
        some (some (.int v9), h8))
    else
      jx_cI (jx_C rc d 53 [.ref a0, .int (1 : Int32)] h) fun v11 h10 =>
      some (some (.int v11), h10)
  else none :=
  sorry
theorem je_30 (rc : Nat → Nat × (Nat → Int32)) (d : Nat) (a0 : Nat) (x1 : Int32) (h : jxH) : jx_C rc (d + 1) 30 [.ref a0, .int x1] h =
  if jx_is (jx_at h a0) 11 = true then
  if x1 < 0 then
    jx_cI (jx_C rc d 53 [.ref a0, .int (1 : Int32)] h) fun v2 h1 =>
    some (some (.int v2), h1)
  else
    if x1 < (4 : Int32) then
      (jx_gR (jx_at h a0) 11 11).bind fun b3 =>
      (jx_aQ (jx_at h b3) 4 x1).bind fun o4 =>
      jx_mo o4 (fun b5 => (jx_gR (jx_at h a0) 11 11).bind fun b6 =>
        (jx_sQ (jx_at h b6) 4 x1 none).bind fun e7 =>
        if (1 : Int32) = 0 then
          some (some (.int (0 : Int32)), (jx_set h b6 e7))
        else
          some (some (.int (1 : Int32)), (jx_set h b6 e7)))
      ((jx_gR (jx_at h a0) 11 11).bind fun b8 =>
        (jx_sQ (jx_at h b8) 4 x1 none).bind fun e9 =>
        if (0 : Int32) = 0 then
          some (some (.int (0 : Int32)), (jx_set h b8 e9))
        else
          some (some (.int (1 : Int32)), (jx_set h b8 e9)))
    else
      jx_cI (jx_C rc d 53 [.ref a0, .int (1 : Int32)] h) fun v11 h10 =>
      some (some (.int v11), h10)
  else none :=
  sorry
theorem je_31 (rc : Nat → Nat × (Nat → Int32)) (d : Nat) (a0 : Nat) (x1 : Int32) (h : jxH) : jx_C rc (d + 1) 31 [.ref a0, .int x1] h =
  if jx_is (jx_at h a0) 11 = true then
  if x1 < 0 then
    jx_cI (jx_C rc d 53 [.ref a0, .int (1 : Int32)] h) fun v2 h1 =>
    some (some (.int v2), h1)
  else
    if x1 < (4 : Int32) then
      (jx_gR (jx_at h a0) 11 11).bind fun b3 =>
      (jx_aQ (jx_at h b3) 4 x1).bind fun o4 =>
      jx_mo o4 (fun b5 => (jx_gR (jx_at h a0) 11 9).bind fun b6 =>
        jx_cV (jx_C rc d 268 [.ref b6, .ref b5] h) fun h7 =>
        (jx_gR (jx_at h7 a0) 11 9).bind fun b8 =>
        (jx_gR (jx_at h7 a0) 11 1).bind fun b9 =>
        jx_cI (jx_C rc d 269 [.ref b8, .ref b9] h7) fun v11 h10 =>
        if v11 = 0 then
          some (some (.int (0 : Int32)), h10)
        else
          some (some (.int (1 : Int32)), h10))
      (jx_cI (jx_C rc d 53 [.ref a0, .int (7 : Int32)] h) fun v13 h12 =>
        some (some (.int v13), h12))
    else
      jx_cI (jx_C rc d 53 [.ref a0, .int (1 : Int32)] h) fun v15 h14 =>
      some (some (.int v15), h14)
  else none :=
  sorry
theorem je_32 (rc : Nat → Nat × (Nat → Int32)) (d : Nat) (a0 : Nat) (x1 : Int32) (x2 : Int32) (h : jxH) : jx_C rc (d + 1) 32 [.ref a0, .int x1, .int x2] h =
  if jx_is (jx_at h a0) 11 = true then
  jx_cI (jx_C rc d 64 [.int x1] h) fun v2 h1 =>
  if v2 = 0 then
    jx_cI (jx_C rc d 53 [.ref a0, .int (1 : Int32)] h1) fun v4 h3 =>
    some (some (.int v4), h3)
  else
    jx_cI (jx_C rc d 65 [.int x2] h1) fun v6 h5 =>
    if v6 = 0 then
      jx_cI (jx_C rc d 53 [.ref a0, .int (1 : Int32)] h5) fun v8 h7 =>
      some (some (.int v8), h7)
    else
      (jx_gR (jx_at h5 a0) 11 13).bind fun b9 =>
      jx_cI (jx_C rc d 213 [.ref b9, .int x1, .int x2] h5) fun v11 h10 =>
      if 0 ≤ v11 then
        some (some (.int v11), h10)
      else
        jx_cI (jx_C rc d 53 [.ref a0, .int (4 : Int32)] h10) fun v13 h12 =>
        some (some (.int v13), h12)
  else none :=
  sorry
theorem je_33 (rc : Nat → Nat × (Nat → Int32)) (d : Nat) (a0 : Nat) (x1 : Int32) (x2 : Int32) (h : jxH) : jx_C rc (d + 1) 33 [.ref a0, .int x1, .int x2] h =
  if jx_is (jx_at h a0) 11 = true then
  (jx_gR (jx_at h a0) 11 13).bind fun b1 =>
  jx_cI (jx_C rc d 212 [.ref b1, .int x1] h) fun v3 h2 =>
  if v3 = 0 then
    jx_cI (jx_C rc d 53 [.ref a0, .int (1 : Int32)] h2) fun v5 h4 =>
    some (some (.int v5), h4)
  else
    if x2 = (0 : Int32) then
      (jx_gR (jx_at h2 a0) 11 13).bind fun b6 =>
      jx_cI (jx_C rc d 216 [.ref b6, .int x1] h2) fun v8 h7 =>
      some (some (.int v8), h7)
    else if x2 = ((0 : Int32) + 1) then
      (jx_gR (jx_at h2 a0) 11 13).bind fun b9 =>
      jx_cI (jx_C rc d 217 [.ref b9, .int x1] h2) fun v11 h10 =>
      some (some (.int v11), h10)
    else if x2 = (((0 : Int32) + 1) + 1) then
      (jx_gR (jx_at h2 a0) 11 13).bind fun b12 =>
      jx_cI (jx_C rc d 218 [.ref b12, .int x1] h2) fun v14 h13 =>
      some (some (.int v14), h13)
    else if x2 = ((((0 : Int32) + 1) + 1) + 1) then
      (jx_gR (jx_at h2 a0) 11 13).bind fun b15 =>
      jx_cI (jx_C rc d 216 [.ref b15, .int x1] h2) fun v17 h16 =>
      (jx_gR (jx_at h16 a0) 11 13).bind fun b18 =>
      jx_cI (jx_C rc d 217 [.ref b18, .int x1] h16) fun v20 h19 =>
      jx_cI (jx_C rc d 221 [.int v17, .int v20] h19) fun v22 h21 =>
      some (some (.int v22), h21)
    else 
      jx_cI (jx_C rc d 53 [.ref a0, .int (1 : Int32)] h2) fun v24 h23 =>
      some (some (.int v24), h23)
  else none :=
  sorry
theorem je_34 (rc : Nat → Nat × (Nat → Int32)) (d : Nat) (a0 : Nat) (x1 : Int32) (x2 : Int32) (h : jxH) : jx_C rc (d + 1) 34 [.ref a0, .int x1, .int x2] h =
  if jx_is (jx_at h a0) 11 = true then
  (jx_gR (jx_at h a0) 11 13).bind fun b1 =>
  jx_cI (jx_C rc d 212 [.ref b1, .int x1] h) fun v3 h2 =>
  if v3 = 0 then
    jx_cI (jx_C rc d 53 [.ref a0, .int (1 : Int32)] h2) fun v5 h4 =>
    some (some (.int v5), h4)
  else
    jx_cI (jx_C rc d 64 [.int x2] h2) fun v7 h6 =>
    if v7 = 0 then
      jx_cI (jx_C rc d 53 [.ref a0, .int (1 : Int32)] h6) fun v9 h8 =>
      some (some (.int v9), h8)
    else
      (jx_gR (jx_at h6 a0) 11 13).bind fun b10 =>
      jx_cI (jx_C rc d 216 [.ref b10, .int x1] h6) fun v12 h11 =>
      (jx_gR (jx_at h11 a0) 11 13).bind fun b13 =>
      jx_cV (jx_C rc d 214 [.ref b13, .int x1, .int x2] h11) fun h14 =>
      some (some (.int v12), h14)
  else none :=
  sorry
theorem je_35 (rc : Nat → Nat × (Nat → Int32)) (d : Nat) (a0 : Nat) (x1 : Int32) (x2 : Int32) (h : jxH) : jx_C rc (d + 1) 35 [.ref a0, .int x1, .int x2] h =
  if jx_is (jx_at h a0) 11 = true then
  (jx_gR (jx_at h a0) 11 13).bind fun b1 =>
  jx_cI (jx_C rc d 212 [.ref b1, .int x1] h) fun v3 h2 =>
  if v3 = 0 then
    jx_cI (jx_C rc d 53 [.ref a0, .int (1 : Int32)] h2) fun v5 h4 =>
    some (some (.int v5), h4)
  else
    jx_cI (jx_C rc d 64 [.int x2] h2) fun v7 h6 =>
    if v7 = 0 then
      jx_cI (jx_C rc d 53 [.ref a0, .int (1 : Int32)] h6) fun v9 h8 =>
      some (some (.int v9), h8)
    else
      (jx_gR (jx_at h6 a0) 11 13).bind fun b10 =>
      jx_cI (jx_C rc d 216 [.ref b10, .int x1] h6) fun v12 h11 =>
      jx_cI (jx_C rc d 220 [.int v12, .int x2] h11) fun v14 h13 =>
      if v14 = 0 then
        jx_cI (jx_C rc d 53 [.ref a0, .int (6 : Int32)] h13) fun v16 h15 =>
        some (some (.int v16), h15)
      else
        (jx_gR (jx_at h13 a0) 11 13).bind fun b17 =>
        jx_cI (jx_C rc d 217 [.ref b17, .int x1] h13) fun v19 h18 =>
        some (some (.int v19), h18)
  else none :=
  sorry
theorem je_36 (rc : Nat → Nat × (Nat → Int32)) (d : Nat) (a0 : Nat) (x1 : Int32) (x2 : Int32) (h : jxH) : jx_C rc (d + 1) 36 [.ref a0, .int x1, .int x2] h =
  if jx_is (jx_at h a0) 11 = true then
  (jx_gR (jx_at h a0) 11 13).bind fun b1 =>
  jx_cI (jx_C rc d 212 [.ref b1, .int x1] h) fun v3 h2 =>
  if v3 = 0 then
    jx_cI (jx_C rc d 53 [.ref a0, .int (1 : Int32)] h2) fun v5 h4 =>
    some (some (.int v5), h4)
  else
    jx_cI (jx_C rc d 62 [.int x2] h2) fun v7 h6 =>
    if v7 = 0 then
      jx_cI (jx_C rc d 53 [.ref a0, .int (1 : Int32)] h6) fun v9 h8 =>
      some (some (.int v9), h8)
    else
      (jx_gR (jx_at h6 a0) 11 3).bind fun b10 =>
      (jx_gR (jx_at h6 a0) 11 1).bind fun b11 =>
      (jx_gR (jx_at h6 a0) 11 13).bind fun b12 =>
      jx_cI (jx_C rc d 216 [.ref b12, .int x1] h6) fun v14 h13 =>
      (jx_gR (jx_at h13 a0) 11 13).bind fun b15 =>
      jx_cI (jx_C rc d 217 [.ref b15, .int x1] h13) fun v17 h16 =>
      jx_cI (jx_C rc d 222 [.ref b10, .ref b11, .int v14, .int v17] h16) fun v19 h18 =>
      if v19 = 0 then
        jx_cI (jx_C rc d 53 [.ref a0, .int (2 : Int32)] h18) fun v21 h20 =>
        some (some (.int v21), h20)
      else
        if x2 = 0 then
          (jx_gR (jx_at h18 a0) 11 3).bind fun b22 =>
          (jx_gI (jx_at h18 b22) 6 0).bind fun v23 =>
          some (some (.int v23), h18)
        else
          (jx_gR (jx_at h18 a0) 11 3).bind fun b24 =>
          (jx_gI (jx_at h18 b24) 6 1).bind fun v25 =>
          some (some (.int v25), h18)
  else none :=
  sorry
noncomputable def jb_37 (rc : Nat → Nat × (Nat → Int32)) (d : Nat) (i : Nat) (ls : List (Nat × Value)) (st : List Value) (h : jxH) : jxR := none
theorem je_37 (rc : Nat → Nat × (Nat → Int32)) (d : Nat) (a0 : Nat) (x1 : Int32) (x2 : Int32) (h : jxH) : jx_C rc (d + 1) 37 [.ref a0, .int x1, .int x2] h =
  if jx_is (jx_at h a0) 11 = true then
  (jx_gR (jx_at h a0) 11 13).bind fun b1 =>
  jx_cI (jx_C rc d 212 [.ref b1, .int x1] h) fun v3 h2 =>
  if v3 = 0 then
    jx_cI (jx_C rc d 53 [.ref a0, .int (1 : Int32)] h2) fun v5 h4 =>
    some (some (.int v5), h4)
  else
    if x2 < (1 : Int32) then
      jx_cI (jx_C rc d 53 [.ref a0, .int (1 : Int32)] h2) fun v7 h6 =>
      some (some (.int v7), h6)
    else
      if x2 ≤ (12 : Int32) then
        (jx_gR (jx_at h2 a0) 11 4).bind fun b8 =>
        (jx_gI (jx_at h2 b8) 9 1).bind fun v9 =>
        if (v9 + x2) ≤ (40 : Int32) then
          (jx_gR (jx_at h2 a0) 11 13).bind fun b10 =>
          jx_cI (jx_C rc d 216 [.ref b10, .int x1] h2) fun v12 h11 =>
          (jx_gR (jx_at h11 a0) 11 13).bind fun b13 =>
          jx_cI (jx_C rc d 217 [.ref b13, .int x1] h11) fun v15 h14 =>
          jb_37 rc d 38 [(0, .ref a0), (1, .int x1), (2, .int x2), (3, .int v12), (4, .int v15), (5, .int (0 : Int32))] [] h14
        else
          jx_cI (jx_C rc d 53 [.ref a0, .int (4 : Int32)] h2) fun v17 h16 =>
          some (some (.int v17), h16)
      else
        jx_cI (jx_C rc d 53 [.ref a0, .int (1 : Int32)] h2) fun v19 h18 =>
        some (some (.int v19), h18)
  else none :=
  sorry
theorem je_37_38 (rc : Nat → Nat × (Nat → Int32)) (d : Nat) (a0 : Nat) (x1 : Int32) (x2 : Int32) (x3 : Int32) (x4 : Int32) (x5 : Int32) (h : jxH) : jb_37 rc d 38 [(0, .ref a0), (1, .int x1), (2, .int x2), (3, .int x3), (4, .int x4), (5, .int x5)] [] h =
  if x2 ≤ x5 then
    (jx_gR (jx_at h a0) 11 13).bind fun b1 =>
    jx_cV (jx_C rc d 215 [.ref b1, .int x1, .int x5] h) fun h2 =>
    some (some (.int x5), h2)
  else
    (jx_gR (jx_at h a0) 11 3).bind fun b3 =>
    (jx_gR (jx_at h a0) 11 1).bind fun b4 =>
    jx_cI (jx_C rc d 222 [.ref b3, .ref b4, .int x3, .int x4] h) fun v6 h5 =>
    if v6 = 0 then
      (jx_gR (jx_at h5 a0) 11 13).bind fun b7 =>
      jx_cV (jx_C rc d 215 [.ref b7, .int x1, .int x5] h5) fun h8 =>
      some (some (.int x5), h8)
    else
      (jx_gR (jx_at h5 a0) 11 4).bind fun b9 =>
      (jx_gR (jx_at h5 a0) 11 3).bind fun b10 =>
      (jx_gR (jx_at h5 a0) 11 1).bind fun b11 =>
      jx_cV (jx_C rc d 314 [.ref b9, .ref b10, .ref b11] h5) fun h12 =>
      jb_37 rc d 38 [(0, .ref a0), (1, .int x1), (2, .int x2), (3, .int x3), (4, .int x4), (5, .int (x5 + (1 : Int32)))] [] h12 :=
  sorry
theorem je_38 (rc : Nat → Nat × (Nat → Int32)) (d : Nat) (a0 : Nat) (x1 : Int32) (x2 : Int32) (h : jxH) : jx_C rc (d + 1) 38 [.ref a0, .int x1, .int x2] h =
  if jx_is (jx_at h a0) 11 = true then
  (jx_gR (jx_at h a0) 11 13).bind fun b1 =>
  jx_cI (jx_C rc d 212 [.ref b1, .int x1] h) fun v3 h2 =>
  if v3 = 0 then
    jx_cI (jx_C rc d 53 [.ref a0, .int (1 : Int32)] h2) fun v5 h4 =>
    some (some (.int v5), h4)
  else
    if x2 < 0 then
      jx_cI (jx_C rc d 53 [.ref a0, .int (1 : Int32)] h2) fun v7 h6 =>
      some (some (.int v7), h6)
    else
      if x2 ≤ (2 : Int32) then
        (jx_gR (jx_at h2 a0) 11 13).bind fun b8 =>
        jx_cI (jx_C rc d 216 [.ref b8, .int x1] h2) fun v10 h9 =>
        (jx_gR (jx_at h9 a0) 11 13).bind fun b11 =>
        jx_cI (jx_C rc d 217 [.ref b11, .int x1] h9) fun v13 h12 =>
        jx_cI (jx_C rc d 57 [.ref a0, .int v10, .int v13] h12) fun v15 h14 =>
        if x2 = 0 then
          some (some (.int v15), h14)
        else
          if x2 = (1 : Int32) then
            (jx_gR (jx_at h14 a0) 11 2).bind fun b16 =>
            jx_cI (jx_C rc d 227 [.ref b16] h14) fun v18 h17 =>
            some (some (.int v18), h17)
          else
            (jx_gR (jx_at h14 a0) 11 2).bind fun b19 =>
            jx_cI (jx_C rc d 234 [.ref b19] h14) fun v21 h20 =>
            some (some (.int v21), h20)
      else
        jx_cI (jx_C rc d 53 [.ref a0, .int (1 : Int32)] h2) fun v23 h22 =>
        some (some (.int v23), h22)
  else none :=
  sorry
noncomputable def jb_39 (rc : Nat → Nat × (Nat → Int32)) (d : Nat) (i : Nat) (ls : List (Nat × Value)) (st : List Value) (h : jxH) : jxR := none
theorem je_39 (rc : Nat → Nat × (Nat → Int32)) (d : Nat) (a0 : Nat) (x1 : Int32) (h : jxH) : jx_C rc (d + 1) 39 [.ref a0, .int x1] h =
  if jx_is (jx_at h a0) 11 = true then
  jx_cI (jx_C rc d 65 [.int x1] h) fun v2 h1 =>
  if v2 = 0 then
    jx_cI (jx_C rc d 53 [.ref a0, .int (1 : Int32)] h1) fun v4 h3 =>
    some (some (.int v4), h3)
  else
    jb_39 rc d 13 [(0, .ref a0), (1, .int x1), (2, .int (-1 : Int32)), (3, .int (13 : Int32)), (4, .int (0 : Int32))] [] h1
  else none :=
  sorry
theorem je_39_13 (rc : Nat → Nat × (Nat → Int32)) (d : Nat) (a0 : Nat) (x1 : Int32) (x2 : Int32) (x3 : Int32) (x4 : Int32) (h : jxH) : jb_39 rc d 13 [(0, .ref a0), (1, .int x1), (2, .int x2), (3, .int x3), (4, .int x4)] [] h =
  if (6 : Int32) ≤ x4 then
    some (some (.int x2), h)
  else
    jx_cI (jx_C rc d 57 [.ref a0, .int x4, .int x1] h) fun v2 h1 =>
    (jx_gR (jx_at h1 a0) 11 2).bind fun b3 =>
    jx_cI (jx_C rc d 227 [.ref b3] h1) fun v5 h4 =>
    if x3 ≤ v5 then
      jb_39 rc d 13 [(0, .ref a0), (1, .int x1), (2, .int x2), (3, .int x3), (4, .int (x4 + (1 : Int32)))] [] h4
    else
      (jx_gR (jx_at h4 a0) 11 2).bind fun b6 =>
      jx_cI (jx_C rc d 227 [.ref b6] h4) fun v8 h7 =>
      jb_39 rc d 13 [(0, .ref a0), (1, .int x1), (2, .int x4), (3, .int v8), (4, .int (x4 + (1 : Int32)))] [] h7 :=
  sorry
theorem je_40 (rc : Nat → Nat × (Nat → Int32)) (d : Nat) (a0 : Nat) (x1 : Int32) (x2 : Int32) (h : jxH) : jx_C rc (d + 1) 40 [.ref a0, .int x1, .int x2] h =
  if jx_is (jx_at h a0) 11 = true then
  if x1 < 0 then
    jx_cI (jx_C rc d 53 [.ref a0, .int (1 : Int32)] h) fun v2 h1 =>
    some (some (.int v2), h1)
  else
    if (4 : Int32) < x1 then
      jx_cI (jx_C rc d 53 [.ref a0, .int (1 : Int32)] h) fun v4 h3 =>
      some (some (.int v4), h3)
    else
      if x2 < 0 then
        jx_cI (jx_C rc d 53 [.ref a0, .int (1 : Int32)] h) fun v6 h5 =>
        some (some (.int v6), h5)
      else
        if x2 ≤ (2 : Int32) then
          (jx_gR (jx_at h a0) 11 9).bind fun b7 =>
          (jx_gR (jx_at h a0) 11 1).bind fun b8 =>
          jx_cV (jx_C rc d 265 [.ref b7, .ref b8, .int x1] h) fun h9 =>
          if x2 = 0 then
            (jx_gR (jx_at h9 a0) 11 9).bind fun b10 =>
            (jx_gI (jx_at h9 b10) 3 7).bind fun v11 =>
            some (some (.int v11), h9)
          else
            if x2 = (1 : Int32) then
              (jx_gR (jx_at h9 a0) 11 9).bind fun b12 =>
              (jx_gI (jx_at h9 b12) 3 8).bind fun v13 =>
              some (some (.int v13), h9)
            else
              (jx_gR (jx_at h9 a0) 11 9).bind fun b14 =>
              (jx_gI (jx_at h9 b14) 3 9).bind fun v15 =>
              some (some (.int v15), h9)
        else
          jx_cI (jx_C rc d 53 [.ref a0, .int (1 : Int32)] h) fun v17 h16 =>
          some (some (.int v17), h16)
  else none :=
  sorry
noncomputable def jb_41 (rc : Nat → Nat × (Nat → Int32)) (d : Nat) (i : Nat) (ls : List (Nat × Value)) (st : List Value) (h : jxH) : jxR := none
theorem je_41 (rc : Nat → Nat × (Nat → Int32)) (d : Nat) (a0 : Nat) (x1 : Int32) (x2 : Int32) (h : jxH) : jx_C rc (d + 1) 41 [.ref a0, .int x1, .int x2] h =
  if jx_is (jx_at h a0) 11 = true then
  if x1 < 0 then
    jx_cI (jx_C rc d 53 [.ref a0, .int (1 : Int32)] h) fun v2 h1 =>
    some (some (.int v2), h1)
  else
    if (4 : Int32) ≤ x1 then
      jx_cI (jx_C rc d 53 [.ref a0, .int (1 : Int32)] h) fun v4 h3 =>
      some (some (.int v4), h3)
    else
      if x2 < 0 then
        jx_cI (jx_C rc d 53 [.ref a0, .int (1 : Int32)] h) fun v6 h5 =>
        some (some (.int v6), h5)
      else
        if x2 ≤ (3 : Int32) then
          (jx_gR (jx_at h a0) 11 11).bind fun b7 =>
          (jx_aQ (jx_at h b7) 4 x1).bind fun o8 =>
          jx_mo o8 (fun b9 => (jx_gR (jx_at h a0) 11 9).bind fun b10 =>
            jx_cV (jx_C rc d 268 [.ref b10, .ref b9] h) fun h11 =>
            (jx_gR (jx_at h11 a0) 11 9).bind fun b12 =>
            (jx_gR (jx_at h11 a0) 11 1).bind fun b13 =>
            jx_cV (jx_C rc d 264 [.ref b12, .ref b13] h11) fun h14 =>
            jb_41 rc d 36 [(0, .ref a0), (2, .int x2), (4, .int (0 : Int32))] [] h14)
          (jx_cI (jx_C rc d 53 [.ref a0, .int (7 : Int32)] h) fun v16 h15 =>
            some (some (.int v16), h15))
        else
          jx_cI (jx_C rc d 53 [.ref a0, .int (1 : Int32)] h) fun v18 h17 =>
          some (some (.int v18), h17)
  else none :=
  sorry
theorem je_41_36 (rc : Nat → Nat × (Nat → Int32)) (d : Nat) (a0 : Nat) (x2 : Int32) (x4 : Int32) (h : jxH) : jb_41 rc d 36 [(0, .ref a0), (2, .int x2), (4, .int x4)] [] h =
  if x2 < x4 then
    jx_cI (jx_C rc d 53 [.ref a0, .int (2 : Int32)] h) fun v2 h1 =>
    some (some (.int v2), h1)
  else
    (jx_gR (jx_at h a0) 11 9).bind fun b3 =>
    jx_cI (jx_C rc d 270 [.ref b3, .int (0 : Int32), .int x4] h) fun v5 h4 =>
    if v5 = 0 then
      jb_41 rc d 36 [(0, .ref a0), (2, .int x2), (4, .int (x4 + (1 : Int32)))] [] h4
    else
      some (some (.int x4), h4) :=
  sorry
noncomputable def jb_42 (rc : Nat → Nat × (Nat → Int32)) (d : Nat) (i : Nat) (ls : List (Nat × Value)) (st : List Value) (h : jxH) : jxR := none
theorem je_42 (rc : Nat → Nat × (Nat → Int32)) (d : Nat) (a0 : Nat) (x1 : Int32) (x2 : Int32) (x3 : Int32) (h : jxH) : jx_C rc (d + 1) 42 [.ref a0, .int x1, .int x2, .int x3] h =
  if jx_is (jx_at h a0) 11 = true then
  if x1 < 0 then
    jx_cI (jx_C rc d 53 [.ref a0, .int (1 : Int32)] h) fun v2 h1 =>
    some (some (.int v2), h1)
  else
    if (4 : Int32) ≤ x1 then
      jx_cI (jx_C rc d 53 [.ref a0, .int (1 : Int32)] h) fun v4 h3 =>
      some (some (.int v4), h3)
    else
      if x2 = 0 then
        jb_42 rc d 20 [(0, .ref a0), (1, .int x1), (2, .int x2), (3, .int x3)] [] h
      else
        if x2 = (8 : Int32) then
          jb_42 rc d 20 [(0, .ref a0), (1, .int x1), (2, .int x2), (3, .int x3)] [] h
        else
          if x2 = (16 : Int32) then
            jb_42 rc d 20 [(0, .ref a0), (1, .int x1), (2, .int x2), (3, .int x3)] [] h
          else
            if x2 = (32 : Int32) then
              jb_42 rc d 20 [(0, .ref a0), (1, .int x1), (2, .int x2), (3, .int x3)] [] h
            else
              jx_cI (jx_C rc d 53 [.ref a0, .int (1 : Int32)] h) fun v6 h5 =>
              some (some (.int v6), h5)
  else none :=
  sorry
theorem je_42_20 (rc : Nat → Nat × (Nat → Int32)) (d : Nat) (a0 : Nat) (x1 : Int32) (x2 : Int32) (x3 : Int32) (h : jxH) : jb_42 rc d 20 [(0, .ref a0), (1, .int x1), (2, .int x2), (3, .int x3)] [] h =
  if x2 = 0 then
    (jx_gR (jx_at h a0) 11 12).bind fun b1 =>
    (jx_sQ (jx_at h b1) 5 x1 none).bind fun e2 =>
    some (some (.int (1 : Int32)), (jx_set h b1 e2))
  else
    if 0 ≤ x3 then
      if x3 ≤ (24 : Int32) then
        (jx_gR (jx_at h a0) 11 12).bind fun b3 =>
        jx_cV (jx_C rc d 271 [.ref h.1, .int x2, .int x3] (jx_new h 2 (.inl (4, jx_dflt 4)))) fun h4 =>
        if jx_is (jx_at h4 h.1) 4 = true then (jx_sQ (jx_at h4 b3) 5 x1 (some h.1)).bind fun e5 =>
        some (some (.int (1 : Int32)), (jx_set h4 b3 e5)) else none
      else
        jx_cI (jx_C rc d 53 [.ref a0, .int (1 : Int32)] h) fun v7 h6 =>
        some (some (.int v7), h6)
    else
      jx_cI (jx_C rc d 53 [.ref a0, .int (3 : Int32)] h) fun v9 h8 =>
      some (some (.int v9), h8) :=
  sorry
theorem je_43 (rc : Nat → Nat × (Nat → Int32)) (d : Nat) (a0 : Nat) (x1 : Int32) (x2 : Int32) (x3 : Int32) (h : jxH) : jx_C rc (d + 1) 43 [.ref a0, .int x1, .int x2, .int x3] h =
  if jx_is (jx_at h a0) 11 = true then
  if x1 < 0 then
    jx_cI (jx_C rc d 53 [.ref a0, .int (1 : Int32)] h) fun v2 h1 =>
    some (some (.int v2), h1)
  else
    if x1 < (4 : Int32) then
      (jx_gR (jx_at h a0) 11 12).bind fun b3 =>
      (jx_aQ (jx_at h b3) 5 x1).bind fun o4 =>
      jx_mo o4 (fun b5 => jx_cI (jx_C rc d 272 [.ref b5, .int x2] h) fun v7 h6 =>
        if v7 = 0 then
          jx_cI (jx_C rc d 53 [.ref a0, .int (1 : Int32)] h6) fun v9 h8 =>
          some (some (.int v9), h8)
        else
          jx_cV (jx_C rc d 275 [.ref b5, .int x2, .int x3] h6) fun h10 =>
          some (some (.int (1 : Int32)), h10))
      (jx_cI (jx_C rc d 53 [.ref a0, .int (7 : Int32)] h) fun v12 h11 =>
        some (some (.int v12), h11))
    else
      jx_cI (jx_C rc d 53 [.ref a0, .int (1 : Int32)] h) fun v14 h13 =>
      some (some (.int v14), h13)
  else none :=
  sorry
theorem je_44 (rc : Nat → Nat × (Nat → Int32)) (d : Nat) (a0 : Nat) (x1 : Int32) (x2 : Int32) (h : jxH) : jx_C rc (d + 1) 44 [.ref a0, .int x1, .int x2] h =
  if jx_is (jx_at h a0) 11 = true then
  if x1 < 0 then
    jx_cI (jx_C rc d 53 [.ref a0, .int (1 : Int32)] h) fun v2 h1 =>
    some (some (.int v2), h1)
  else
    if x1 < (4 : Int32) then
      (jx_gR (jx_at h a0) 11 12).bind fun b3 =>
      (jx_aQ (jx_at h b3) 5 x1).bind fun o4 =>
      jx_mo o4 (fun b5 => jx_cI (jx_C rc d 272 [.ref b5, .int x2] h) fun v7 h6 =>
        if v7 = 0 then
          jx_cI (jx_C rc d 53 [.ref a0, .int (1 : Int32)] h6) fun v9 h8 =>
          some (some (.int v9), h8)
        else
          jx_cI (jx_C rc d 274 [.ref b5, .int x2] h6) fun v11 h10 =>
          some (some (.int v11), h10))
      (jx_cI (jx_C rc d 53 [.ref a0, .int (7 : Int32)] h) fun v13 h12 =>
        some (some (.int v13), h12))
    else
      jx_cI (jx_C rc d 53 [.ref a0, .int (1 : Int32)] h) fun v15 h14 =>
      some (some (.int v15), h14)
  else none :=
  sorry
theorem je_45 (rc : Nat → Nat × (Nat → Int32)) (d : Nat) (a0 : Nat) (x1 : Int32) (x2 : Int32) (x3 : Int32) (x4 : Int32) (x5 : Int32) (h : jxH) : jx_C rc (d + 1) 45 [.ref a0, .int x1, .int x2, .int x3, .int x4, .int x5] h =
  if jx_is (jx_at h a0) 11 = true then
  if x1 < 0 then
    jx_cI (jx_C rc d 53 [.ref a0, .int (1 : Int32)] h) fun v2 h1 =>
    some (some (.int v2), h1)
  else
    if (4 : Int32) ≤ x1 then
      jx_cI (jx_C rc d 53 [.ref a0, .int (1 : Int32)] h) fun v4 h3 =>
      some (some (.int v4), h3)
    else
      if x3 < 0 then
        jx_cI (jx_C rc d 53 [.ref a0, .int (1 : Int32)] h) fun v6 h5 =>
        some (some (.int v6), h5)
      else
        if x3 < (4 : Int32) then
          (jx_gR (jx_at h a0) 11 12).bind fun b7 =>
          (jx_aQ (jx_at h b7) 5 x1).bind fun o8 =>
          jx_mo o8 (fun b9 => (jx_gR (jx_at h a0) 11 12).bind fun b10 =>
            (jx_aQ (jx_at h b10) 5 x3).bind fun o11 =>
            jx_mo o11 (fun b12 => (jx_gI (jx_at h b9) 4 0).bind fun v13 =>
              (jx_gI (jx_at h b12) 4 0).bind fun v14 =>
              if v13 = v14 then
                jx_cI (jx_C rc d 273 [.ref b9, .int x2, .int x5] h) fun v16 h15 =>
                if v16 = 0 then
                  jx_cI (jx_C rc d 53 [.ref a0, .int (1 : Int32)] h15) fun v18 h17 =>
                  some (some (.int v18), h17)
                else
                  jx_cI (jx_C rc d 273 [.ref b12, .int x4, .int x5] h15) fun v20 h19 =>
                  if v20 = 0 then
                    jx_cI (jx_C rc d 53 [.ref a0, .int (1 : Int32)] h19) fun v22 h21 =>
                    some (some (.int v22), h21)
                  else
                    (jx_gR (jx_at h19 b9) 4 1).bind fun b23 =>
                    (jx_gR (jx_at h19 b12) 4 1).bind fun b24 =>
                    (jx_cp (jx_at h19 b23) (jx_at h19 b24) 0 x2 x4 x5).bind fun e25 =>
                    some (some (.int x5), (jx_set h19 b24 e25))
              else
                jx_cI (jx_C rc d 53 [.ref a0, .int (6 : Int32)] h) fun v27 h26 =>
                some (some (.int v27), h26))
            (jx_cI (jx_C rc d 53 [.ref a0, .int (7 : Int32)] h) fun v29 h28 =>
              some (some (.int v29), h28)))
          ((jx_gR (jx_at h a0) 11 12).bind fun b30 =>
            (jx_aQ (jx_at h b30) 5 x3).bind fun o31 =>
            jx_mo o31 (fun b32 => jx_cI (jx_C rc d 53 [.ref a0, .int (7 : Int32)] h) fun v34 h33 =>
              some (some (.int v34), h33))
            (jx_cI (jx_C rc d 53 [.ref a0, .int (7 : Int32)] h) fun v36 h35 =>
              some (some (.int v36), h35)))
        else
          jx_cI (jx_C rc d 53 [.ref a0, .int (1 : Int32)] h) fun v38 h37 =>
          some (some (.int v38), h37)
  else none :=
  sorry
noncomputable def jb_46 (rc : Nat → Nat × (Nat → Int32)) (d : Nat) (i : Nat) (ls : List (Nat × Value)) (st : List Value) (h : jxH) : jxR := none
theorem je_46 (rc : Nat → Nat × (Nat → Int32)) (d : Nat) (a0 : Nat) (x1 : Int32) (h : jxH) : jx_C rc (d + 1) 46 [.ref a0, .int x1] h =
  if jx_is (jx_at h a0) 11 = true then
  if x1 < 0 then
    jx_cI (jx_C rc d 53 [.ref a0, .int (1 : Int32)] h) fun v2 h1 =>
    some (some (.int v2), h1)
  else
    if x1 < (4 : Int32) then
      (jx_gR (jx_at h a0) 11 12).bind fun b3 =>
      (jx_aQ (jx_at h b3) 5 x1).bind fun o4 =>
      jx_mo o4 (fun b5 => jb_46 rc d 22 [(0, .ref a0), (2, .ref b5), (3, .int (0 : Int32))] [] h)
      (jx_cI (jx_C rc d 53 [.ref a0, .int (7 : Int32)] h) fun v7 h6 =>
        some (some (.int v7), h6))
    else
      jx_cI (jx_C rc d 53 [.ref a0, .int (1 : Int32)] h) fun v9 h8 =>
      some (some (.int v9), h8)
  else none :=
  sorry
theorem je_46_22 (rc : Nat → Nat × (Nat → Int32)) (d : Nat) (a0 : Nat) (a2 : Nat) (x3 : Int32) (h : jxH) : jb_46 rc d 22 [(0, .ref a0), (2, .ref a2), (3, .int x3)] [] h =
  if (12 : Int32) ≤ x3 then
    (jx_gR (jx_at h a0) 11 4).bind fun b1 =>
    jx_cV (jx_C rc d 313 [.ref b1] h) fun h2 =>
    some (some (.int x3), h2)
  else
    jx_cI (jx_C rc d 272 [.ref a2, .int x3] h) fun v4 h3 =>
    if v4 = 0 then
      (jx_gR (jx_at h3 a0) 11 4).bind fun b5 =>
      jx_cV (jx_C rc d 313 [.ref b5] h3) fun h6 =>
      some (some (.int x3), h6)
    else
      (jx_gR (jx_at h3 a0) 11 1).bind fun b7 =>
      jx_cI (jx_C rc d 226 [.ref b7, .int x3] h3) fun v9 h8 =>
      if v9 = 0 then
        (jx_gR (jx_at h8 a0) 11 4).bind fun b10 =>
        jx_cV (jx_C rc d 313 [.ref b10] h8) fun h11 =>
        some (some (.int x3), h11)
      else
        jx_cI (jx_C rc d 274 [.ref a2, .int x3] h8) fun v13 h12 =>
        jx_cI (jx_C rc d 61 [.int v13] h12) fun v15 h14 =>
        if v15 = 0 then
          (jx_gR (jx_at h14 a0) 11 4).bind fun b16 =>
          jx_cV (jx_C rc d 313 [.ref b16] h14) fun h17 =>
          some (some (.int x3), h17)
        else
          (jx_gR (jx_at h14 a0) 11 1).bind fun b18 =>
          jx_cI (jx_C rc d 274 [.ref a2, .int x3] h14) fun v20 h19 =>
          jx_cV (jx_C rc d 237 [.ref b18, .int x3, .int v20] h19) fun h21 =>
          jb_46 rc d 22 [(0, .ref a0), (2, .ref a2), (3, .int (x3 + (1 : Int32)))] [] h21 :=
  sorry
noncomputable def jb_47 (rc : Nat → Nat × (Nat → Int32)) (d : Nat) (i : Nat) (ls : List (Nat × Value)) (st : List Value) (h : jxH) : jxR := none
theorem je_47 (rc : Nat → Nat × (Nat → Int32)) (d : Nat) (a0 : Nat) (x1 : Int32) (h : jxH) : jx_C rc (d + 1) 47 [.ref a0, .int x1] h =
  if jx_is (jx_at h a0) 11 = true then
  if x1 < 0 then
    jx_cI (jx_C rc d 53 [.ref a0, .int (1 : Int32)] h) fun v2 h1 =>
    some (some (.int v2), h1)
  else
    if x1 < (4 : Int32) then
      (jx_gR (jx_at h a0) 11 12).bind fun b3 =>
      (jx_aQ (jx_at h b3) 5 x1).bind fun o4 =>
      jx_mo o4 (fun b5 => jb_47 rc d 22 [(0, .ref a0), (2, .ref b5), (3, .int (0 : Int32))] [] h)
      (jx_cI (jx_C rc d 53 [.ref a0, .int (7 : Int32)] h) fun v7 h6 =>
        some (some (.int v7), h6))
    else
      jx_cI (jx_C rc d 53 [.ref a0, .int (1 : Int32)] h) fun v9 h8 =>
      some (some (.int v9), h8)
  else none :=
  sorry
theorem je_47_22 (rc : Nat → Nat × (Nat → Int32)) (d : Nat) (a0 : Nat) (a2 : Nat) (x3 : Int32) (h : jxH) : jb_47 rc d 22 [(0, .ref a0), (2, .ref a2), (3, .int x3)] [] h =
  if (12 : Int32) ≤ x3 then
    some (some (.int x3), h)
  else
    jx_cI (jx_C rc d 272 [.ref a2, .int x3] h) fun v2 h1 =>
    if v2 = 0 then
      some (some (.int x3), h1)
    else
      (jx_gR (jx_at h1 a0) 11 1).bind fun b3 =>
      jx_cI (jx_C rc d 226 [.ref b3, .int x3] h1) fun v5 h4 =>
      if v5 = 0 then
        jx_cV (jx_C rc d 275 [.ref a2, .int x3, .int (99 : Int32)] h4) fun h6 =>
        jb_47 rc d 22 [(0, .ref a0), (2, .ref a2), (3, .int (x3 + (1 : Int32)))] [] h6
      else
        (jx_gR (jx_at h4 a0) 11 1).bind fun b7 =>
        jx_cI (jx_C rc d 228 [.ref b7, .int x3] h4) fun v9 h8 =>
        jx_cV (jx_C rc d 275 [.ref a2, .int x3, .int v9] h8) fun h10 =>
        jb_47 rc d 22 [(0, .ref a0), (2, .ref a2), (3, .int (x3 + (1 : Int32)))] [] h10 :=
  sorry
noncomputable def jb_48 (rc : Nat → Nat × (Nat → Int32)) (d : Nat) (i : Nat) (ls : List (Nat × Value)) (st : List Value) (h : jxH) : jxR := none
theorem je_48 (rc : Nat → Nat × (Nat → Int32)) (d : Nat) (a0 : Nat) (x1 : Int32) (x2 : Int32) (h : jxH) : jx_C rc (d + 1) 48 [.ref a0, .int x1, .int x2] h =
  if jx_is (jx_at h a0) 11 = true then
  if x1 < 0 then
    jx_cI (jx_C rc d 53 [.ref a0, .int (1 : Int32)] h) fun v2 h1 =>
    some (some (.int v2), h1)
  else
    if (4 : Int32) ≤ x1 then
      jx_cI (jx_C rc d 53 [.ref a0, .int (1 : Int32)] h) fun v4 h3 =>
      some (some (.int v4), h3)
    else
      jx_cI (jx_C rc d 62 [.int x2] h) fun v6 h5 =>
      if v6 = 0 then
        jx_cI (jx_C rc d 53 [.ref a0, .int (1 : Int32)] h5) fun v8 h7 =>
        some (some (.int v8), h7)
      else
        (jx_gR (jx_at h5 a0) 11 12).bind fun b9 =>
        (jx_aQ (jx_at h5 b9) 5 x1).bind fun o10 =>
        jx_mo o10 (fun b11 => (jx_gR (jx_at h5 a0) 11 2).bind fun b12 =>
          (jx_gR (jx_at h5 a0) 11 1).bind fun b13 =>
          jx_cV (jx_C rc d 225 [.ref b12, .ref b13] h5) fun h14 =>
          jb_48 rc d 30 [(0, .ref a0), (2, .int x2), (3, .ref b11), (4, .int (0 : Int32))] [] h14)
        (jx_cI (jx_C rc d 53 [.ref a0, .int (7 : Int32)] h5) fun v16 h15 =>
          some (some (.int v16), h15))
  else none :=
  sorry
theorem je_48_30 (rc : Nat → Nat × (Nat → Int32)) (d : Nat) (a0 : Nat) (x2 : Int32) (a3 : Nat) (x4 : Int32) (h : jxH) : jb_48 rc d 30 [(0, .ref a0), (2, .int x2), (3, .ref a3), (4, .int x4)] [] h =
  if (24 : Int32) ≤ x4 then
    if x2 = 0 then
      some (some (.int x4), h)
    else
      (jx_gR (jx_at h a0) 11 2).bind fun b1 =>
      jx_cI (jx_C rc d 227 [.ref b1] h) fun v3 h2 =>
      some (some (.int v3), h2)
  else
    jx_cI (jx_C rc d 272 [.ref a3, .int x4] h) fun v5 h4 =>
    if v5 = 0 then
      if x2 = 0 then
        some (some (.int x4), h4)
      else
        (jx_gR (jx_at h4 a0) 11 2).bind fun b6 =>
        jx_cI (jx_C rc d 227 [.ref b6] h4) fun v8 h7 =>
        some (some (.int v8), h7)
    else
      (jx_gR (jx_at h4 a0) 11 3).bind fun b9 =>
      jx_cI (jx_C rc d 274 [.ref a3, .int x4] h4) fun v11 h10 =>
      jx_cI (jx_C rc d 282 [.ref b9, .int v11] h10) fun v13 h12 =>
      if v13 = 0 then
        if x2 = 0 then
          some (some (.int x4), h12)
        else
          (jx_gR (jx_at h12 a0) 11 2).bind fun b14 =>
          jx_cI (jx_C rc d 227 [.ref b14] h12) fun v16 h15 =>
          some (some (.int v16), h15)
      else
        (jx_gR (jx_at h12 a0) 11 3).bind fun b17 =>
        (jx_gR (jx_at h12 a0) 11 2).bind fun b18 =>
        jx_cI (jx_C rc d 285 [.ref b17, .ref b18, .int (0 : Int32)] h12) fun v20 h19 =>
        if v20 = 0 then
          (jx_gR (jx_at h19 a0) 11 3).bind fun b21 =>
          (jx_gR (jx_at h19 a0) 11 2).bind fun b22 =>
          jx_cV (jx_C rc d 290 [.ref b21, .ref b22] h19) fun h23 =>
          jb_48 rc d 30 [(0, .ref a0), (2, .int x2), (3, .ref a3), (4, .int (x4 + (1 : Int32)))] [] h23
        else
          if x2 = 0 then
            some (some (.int x4), h19)
          else
            (jx_gR (jx_at h19 a0) 11 2).bind fun b24 =>
            jx_cI (jx_C rc d 227 [.ref b24] h19) fun v26 h25 =>
            some (some (.int v26), h25) :=
  sorry
theorem je_49 (rc : Nat → Nat × (Nat → Int32)) (d : Nat) (a0 : Nat) (h : jxH) : jx_C rc (d + 1) 49 [.ref a0] h =
  if jx_is (jx_at h a0) 11 = true then
  (jx_gR (jx_at h a0) 11 14).bind fun b1 =>
  (jx_gR (jx_at h a0) 11 1).bind fun b2 =>
  jx_cV (jx_C rc d 225 [.ref b1, .ref b2] h) fun h3 =>
  (jx_gR (jx_at h3 a0) 11 15).bind fun b4 =>
  (jx_gR (jx_at h3 a0) 11 13).bind fun b5 =>
  jx_cV (jx_C rc d 211 [.ref b4, .ref b5] h3) fun h6 =>
  if jx_bool (1 : Int32) = true then (jx_pF (jx_at h6 a0) 11 16 (.int (1 : Int32))).bind fun e7 =>
  (jx_gR (jx_at (jx_set h6 a0 e7) a0) 11 1).bind fun b8 =>
  jx_cI (jx_C rc d 227 [.ref b8] (jx_set h6 a0 e7)) fun v10 h9 =>
  some (some (.int v10), h9) else none
  else none :=
  sorry
theorem je_50 (rc : Nat → Nat × (Nat → Int32)) (d : Nat) (a0 : Nat) (h : jxH) : jx_C rc (d + 1) 50 [.ref a0] h =
  if jx_is (jx_at h a0) 11 = true then
  (jx_gI (jx_at h a0) 11 16).bind fun v1 =>
  if v1 = 0 then
    jx_cI (jx_C rc d 53 [.ref a0, .int (2 : Int32)] h) fun v3 h2 =>
    some (some (.int v3), h2)
  else
    (jx_gR (jx_at h a0) 11 13).bind fun b4 =>
    (jx_gR (jx_at h a0) 11 15).bind fun b5 =>
    jx_cV (jx_C rc d 211 [.ref b4, .ref b5] h) fun h6 =>
    (jx_gR (jx_at h6 a0) 11 14).bind fun b7 =>
    jx_cI (jx_C rc d 55 [.ref a0, .ref b7] h6) fun v9 h8 =>
    some (some (.int v9), h8)
  else none :=
  sorry
theorem je_51 (rc : Nat → Nat × (Nat → Int32)) (d : Nat) (a0 : Nat) (x1 : Int32) (h : jxH) : jx_C rc (d + 1) 51 [.ref a0, .int x1] h =
  if jx_is (jx_at h a0) 11 = true then
  if x1 = (0 : Int32) then
    (jx_gR (jx_at h a0) 11 1).bind fun b1 =>
    jx_cI (jx_C rc d 227 [.ref b1] h) fun v3 h2 =>
    some (some (.int v3), h2)
  else if x1 = ((0 : Int32) + 1) then
    (jx_gR (jx_at h a0) 11 1).bind fun b4 =>
    jx_cI (jx_C rc d 233 [.ref b4] h) fun v6 h5 =>
    some (some (.int v6), h5)
  else if x1 = (((0 : Int32) + 1) + 1) then
    (jx_gR (jx_at h a0) 11 1).bind fun b7 =>
    jx_cI (jx_C rc d 232 [.ref b7] h) fun v9 h8 =>
    some (some (.int v9), h8)
  else if x1 = ((((0 : Int32) + 1) + 1) + 1) then
    (jx_gR (jx_at h a0) 11 1).bind fun b10 =>
    jx_cI (jx_C rc d 234 [.ref b10] h) fun v12 h11 =>
    some (some (.int v12), h11)
  else if x1 = (((((0 : Int32) + 1) + 1) + 1) + 1) then
    (jx_gR (jx_at h a0) 11 4).bind fun b13 =>
    (jx_gI (jx_at h b13) 9 1).bind fun v14 =>
    some (some (.int v14), h)
  else if x1 = ((((((0 : Int32) + 1) + 1) + 1) + 1) + 1) then
    (jx_gR (jx_at h a0) 11 4).bind fun b15 =>
    (jx_gI (jx_at h b15) 9 2).bind fun v16 =>
    (jx_gR (jx_at h a0) 11 4).bind fun b17 =>
    (jx_gI (jx_at h b17) 9 1).bind fun v18 =>
    some (some (.int (v16 - v18)), h)
  else if x1 = (((((((0 : Int32) + 1) + 1) + 1) + 1) + 1) + 1) then
    (jx_gR (jx_at h a0) 11 13).bind fun b19 =>
    (jx_gI (jx_at h b19) 0 3).bind fun v20 =>
    some (some (.int v20), h)
  else if x1 = ((((((((0 : Int32) + 1) + 1) + 1) + 1) + 1) + 1) + 1) then
    (jx_gR (jx_at h a0) 11 10).bind fun b21 =>
    (jx_gI (jx_at h b21) 7 2).bind fun v22 =>
    some (some (.int v22), h)
  else if x1 = (((((((((0 : Int32) + 1) + 1) + 1) + 1) + 1) + 1) + 1) + 1) then
    jx_cI (jx_C rc d 58 [.ref a0] h) fun v24 h23 =>
    some (some (.int v24), h23)
  else if x1 = ((((((((((0 : Int32) + 1) + 1) + 1) + 1) + 1) + 1) + 1) + 1) + 1) then
    (jx_gR (jx_at h a0) 11 13).bind fun b25 =>
    jx_cI (jx_C rc d 219 [.ref b25] h) fun v27 h26 =>
    some (some (.int v27), h26)
  else 
    jx_cI (jx_C rc d 53 [.ref a0, .int (1 : Int32)] h) fun v29 h28 =>
    some (some (.int v29), h28)
  else none :=
  sorry
theorem je_52 (rc : Nat → Nat × (Nat → Int32)) (d : Nat) (a0 : Nat) (x1 : Int32) (h : jxH) : jx_C rc (d + 1) 52 [.ref a0, .int x1] h =
  if jx_is (jx_at h a0) 11 = true then
  if x1 < (1 : Int32) then
    jx_cI (jx_C rc d 53 [.ref a0, .int (1 : Int32)] h) fun v2 h1 =>
    some (some (.int v2), h1)
  else
    if x1 ≤ (7 : Int32) then
      (jx_gR (jx_at h a0) 11 0).bind fun b3 =>
      (jx_aI (jx_at h b3) 0 x1).bind fun v4 =>
      some (some (.int v4), h)
    else
      jx_cI (jx_C rc d 53 [.ref a0, .int (1 : Int32)] h) fun v6 h5 =>
      some (some (.int v6), h5)
  else none :=
  sorry
theorem je_53 (rc : Nat → Nat × (Nat → Int32)) (d : Nat) (a0 : Nat) (x1 : Int32) (h : jxH) : jx_C rc (d + 1) 53 [.ref a0, .int x1] h =
  if jx_is (jx_at h a0) 11 = true then
  if x1 ≤ 0 then
    some (some (.int ((-1100000000 : Int32) - x1)), h)
  else
    (jx_gR (jx_at h a0) 11 0).bind fun b1 =>
    (jx_len (jx_at h b1)).bind fun n2 =>
    if (Int32.ofNat n2) ≤ x1 then
      some (some (.int ((-1100000000 : Int32) - x1)), h)
    else
      (jx_gR (jx_at h a0) 11 0).bind fun b3 =>
      (jx_aI (jx_at h b3) 0 x1).bind fun v4 =>
      (jx_sI (jx_at h b3) 0 x1 (v4 + (1 : Int32))).bind fun e5 =>
      some (some (.int ((-1100000000 : Int32) - x1)), (jx_set h b3 e5))
  else none :=
  sorry
theorem je_54 (rc : Nat → Nat × (Nat → Int32)) (d : Nat) (a0 : Nat) (x1 : Int64) (h : jxH) : jx_C rc (d + 1) 54 [.ref a0, .long x1] h =
  if jx_is (jx_at h a0) 11 = true then
  if (lg_cmp x1 (-1073741824 : Int64)) < 0 then
    jx_cI (jx_C rc d 53 [.ref a0, .int (5 : Int32)] h) fun v2 h1 =>
    some (some (.int v2), h1)
  else
    if (lg_cmp x1 (1073741823 : Int64)) ≤ 0 then
      some (some (.int ((x1).toInt32)), h)
    else
      jx_cI (jx_C rc d 53 [.ref a0, .int (5 : Int32)] h) fun v4 h3 =>
      some (some (.int v4), h3)
  else none :=
  sorry
theorem je_55 (rc : Nat → Nat × (Nat → Int32)) (d : Nat) (a0 : Nat) (a1 : Nat) (h : jxH) : jx_C rc (d + 1) 55 [.ref a0, .ref a1] h =
  if jx_is (jx_at h a0) 11 = true then
  (jx_gR (jx_at h a0) 11 1).bind fun b1 =>
  jx_cV (jx_C rc d 225 [.ref b1, .ref a1] h) fun h2 =>
  (jx_gR (jx_at h2 a0) 11 4).bind fun b3 =>
  jx_cV (jx_C rc d 313 [.ref b3] h2) fun h4 =>
  (jx_gR (jx_at h4 a0) 11 1).bind fun b5 =>
  jx_cI (jx_C rc d 227 [.ref b5] h4) fun v7 h6 =>
  some (some (.int v7), h6)
  else none :=
  sorry
theorem je_56 (rc : Nat → Nat × (Nat → Int32)) (d : Nat) (a0 : Nat) (x1 : Int32) (h : jxH) : jx_C rc (d + 1) 56 [.ref a0, .int x1] h =
  if jx_is (jx_at h a0) 11 = true then
  (jx_gR (jx_at h a0) 11 5).bind fun b1 =>
  (jx_gR (jx_at h a0) 11 1).bind fun b2 =>
  jx_cV (jx_C rc d 320 [.ref b1, .ref b2, .int x1] h) fun h3 =>
  (jx_gR (jx_at h3 a0) 11 5).bind fun b4 =>
  (jx_gI (jx_at h3 b4) 10 4).bind fun v5 =>
  some (some (.int v5), h3)
  else none :=
  sorry
noncomputable def jb_57 (rc : Nat → Nat × (Nat → Int32)) (d : Nat) (i : Nat) (ls : List (Nat × Value)) (st : List Value) (h : jxH) : jxR := none
theorem je_57 (rc : Nat → Nat × (Nat → Int32)) (d : Nat) (a0 : Nat) (x1 : Int32) (x2 : Int32) (h : jxH) : jx_C rc (d + 1) 57 [.ref a0, .int x1, .int x2] h =
  if jx_is (jx_at h a0) 11 = true then
  (jx_gR (jx_at h a0) 11 2).bind fun b1 =>
  (jx_gR (jx_at h a0) 11 1).bind fun b2 =>
  jx_cV (jx_C rc d 225 [.ref b1, .ref b2] h) fun h3 =>
  jb_57 rc d 7 [(0, .ref a0), (1, .int x1), (2, .int x2), (3, .int (0 : Int32))] [] h3
  else none :=
  sorry
theorem je_57_7 (rc : Nat → Nat × (Nat → Int32)) (d : Nat) (a0 : Nat) (x1 : Int32) (x2 : Int32) (x3 : Int32) (h : jxH) : jb_57 rc d 7 [(0, .ref a0), (1, .int x1), (2, .int x2), (3, .int x3)] [] h =
  if (12 : Int32) ≤ x3 then
    some (some (.int x3), h)
  else
    (jx_gR (jx_at h a0) 11 3).bind fun b1 =>
    (jx_gR (jx_at h a0) 11 2).bind fun b2 =>
    jx_cI (jx_C rc d 222 [.ref b1, .ref b2, .int x1, .int x2] h) fun v4 h3 =>
    if v4 = 0 then
      some (some (.int x3), h3)
    else
      (jx_gR (jx_at h3 a0) 11 3).bind fun b5 =>
      (jx_gR (jx_at h3 a0) 11 2).bind fun b6 =>
      jx_cV (jx_C rc d 290 [.ref b5, .ref b6] h3) fun h7 =>
      jb_57 rc d 7 [(0, .ref a0), (1, .int x1), (2, .int x2), (3, .int (x3 + (1 : Int32)))] [] h7 :=
  sorry
noncomputable def jb_58 (rc : Nat → Nat × (Nat → Int32)) (d : Nat) (i : Nat) (ls : List (Nat × Value)) (st : List Value) (h : jxH) : jxR := none
theorem je_58 (rc : Nat → Nat × (Nat → Int32)) (d : Nat) (a0 : Nat) (h : jxH) : jx_C rc (d + 1) 58 [.ref a0] h =
  if jx_is (jx_at h a0) 11 = true then
  jb_58 rc d 4 [(0, .ref a0), (1, .int (0 : Int32)), (2, .int (0 : Int32))] [] h
  else none :=
  sorry
theorem je_58_4 (rc : Nat → Nat × (Nat → Int32)) (d : Nat) (a0 : Nat) (x1 : Int32) (x2 : Int32) (h : jxH) : jb_58 rc d 4 [(0, .ref a0), (1, .int x1), (2, .int x2)] [] h =
  if (4 : Int32) ≤ x2 then
    some (some (.int x1), h)
  else
    (jx_gR (jx_at h a0) 11 11).bind fun b1 =>
    (jx_aQ (jx_at h b1) 4 x2).bind fun o2 =>
    jx_mo o2 (fun b3 => jb_58 rc d 4 [(0, .ref a0), (1, .int (x1 + (1 : Int32))), (2, .int (x2 + (1 : Int32)))] [] h)
    (jb_58 rc d 4 [(0, .ref a0), (1, .int (x1 + (0 : Int32))), (2, .int (x2 + (1 : Int32)))] [] h) :=
  sorry
theorem je_59 (rc : Nat → Nat × (Nat → Int32)) (d : Nat) (x0 : Int32) (h : jxH) : jx_C rc (d + 1) 59 [.int x0] h =
  if x0 < 0 then
    if jx_bool (0 : Int32) = true then some (some (.int (0 : Int32)), h) else none
  else
    if (12 : Int32) ≤ x0 then
      if jx_bool (0 : Int32) = true then some (some (.int (0 : Int32)), h) else none
    else
      if jx_bool (1 : Int32) = true then some (some (.int (1 : Int32)), h) else none :=
  sorry
theorem je_60 (rc : Nat → Nat × (Nat → Int32)) (d : Nat) (x0 : Int32) (x1 : Int32) (h : jxH) : jx_C rc (d + 1) 60 [.int x0, .int x1] h =
  if x0 < 0 then
    if jx_bool (0 : Int32) = true then some (some (.int (0 : Int32)), h) else none
  else
    if (12 : Int32) ≤ x0 then
      if jx_bool (0 : Int32) = true then some (some (.int (0 : Int32)), h) else none
    else
      if ((x1 >>> (x0 &&& 31)) &&& (1 : Int32)) = 0 then
        if jx_bool (0 : Int32) = true then some (some (.int (0 : Int32)), h) else none
      else
        if jx_bool (1 : Int32) = true then some (some (.int (1 : Int32)), h) else none :=
  sorry
theorem je_61 (rc : Nat → Nat × (Nat → Int32)) (d : Nat) (x0 : Int32) (h : jxH) : jx_C rc (d + 1) 61 [.int x0] h =
  if x0 < (-30 : Int32) then
    if jx_bool (0 : Int32) = true then some (some (.int (0 : Int32)), h) else none
  else
    if (30 : Int32) < x0 then
      if jx_bool (0 : Int32) = true then some (some (.int (0 : Int32)), h) else none
    else
      if jx_bool (1 : Int32) = true then some (some (.int (1 : Int32)), h) else none :=
  sorry
theorem je_62 (rc : Nat → Nat × (Nat → Int32)) (d : Nat) (x0 : Int32) (h : jxH) : jx_C rc (d + 1) 62 [.int x0] h =
  if x0 = 0 then
    if jx_bool (1 : Int32) = true then some (some (.int (1 : Int32)), h) else none
  else
    if x0 = (1 : Int32) then
      if jx_bool (1 : Int32) = true then some (some (.int (1 : Int32)), h) else none
    else
      if jx_bool (0 : Int32) = true then some (some (.int (0 : Int32)), h) else none :=
  sorry
theorem je_63 (rc : Nat → Nat × (Nat → Int32)) (d : Nat) (x0 : Int32) (h : jxH) : jx_C rc (d + 1) 63 [.int x0] h =
  if x0 = (2 : Int32) then
    if jx_bool (1 : Int32) = true then some (some (.int (1 : Int32)), h) else none
  else
    if x0 = (3 : Int32) then
      if jx_bool (1 : Int32) = true then some (some (.int (1 : Int32)), h) else none
    else
      if x0 = (5 : Int32) then
        if jx_bool (1 : Int32) = true then some (some (.int (1 : Int32)), h) else none
      else
        if x0 = (7 : Int32) then
          if jx_bool (1 : Int32) = true then some (some (.int (1 : Int32)), h) else none
        else
          if x0 = (11 : Int32) then
            if jx_bool (1 : Int32) = true then some (some (.int (1 : Int32)), h) else none
          else
            if x0 = (13 : Int32) then
              if jx_bool (1 : Int32) = true then some (some (.int (1 : Int32)), h) else none
            else
              if jx_bool (0 : Int32) = true then some (some (.int (0 : Int32)), h) else none :=
  sorry
theorem je_64 (rc : Nat → Nat × (Nat → Int32)) (d : Nat) (x0 : Int32) (h : jxH) : jx_C rc (d + 1) 64 [.int x0] h =
  if x0 < 0 then
    if jx_bool (0 : Int32) = true then some (some (.int (0 : Int32)), h) else none
  else
    if (6 : Int32) ≤ x0 then
      if jx_bool (0 : Int32) = true then some (some (.int (0 : Int32)), h) else none
    else
      if jx_bool (1 : Int32) = true then some (some (.int (1 : Int32)), h) else none :=
  sorry
theorem je_65 (rc : Nat → Nat × (Nat → Int32)) (d : Nat) (x0 : Int32) (h : jxH) : jx_C rc (d + 1) 65 [.int x0] h =
  if x0 < 0 then
    if jx_bool (0 : Int32) = true then some (some (.int (0 : Int32)), h) else none
  else
    if (9 : Int32) < x0 then
      if jx_bool (0 : Int32) = true then some (some (.int (0 : Int32)), h) else none
    else
      if jx_bool (1 : Int32) = true then some (some (.int (1 : Int32)), h) else none :=
  sorry
theorem je_66 (rc : Nat → Nat × (Nat → Int32)) (d : Nat) (x0 : Int32) (x1 : Int32) (h : jxH) : jx_C rc (d + 1) 66 [.int x0, .int x1] h =
  if x0 < (2 : Int32) then
    if jx_bool (0 : Int32) = true then some (some (.int (0 : Int32)), h) else none
  else
    if (999 : Int32) < x0 then
      if jx_bool (0 : Int32) = true then some (some (.int (0 : Int32)), h) else none
    else
      if x1 < (1 : Int32) then
        if jx_bool (0 : Int32) = true then some (some (.int (0 : Int32)), h) else none
      else
        if x0 ≤ x1 then
          if jx_bool (0 : Int32) = true then some (some (.int (0 : Int32)), h) else none
        else
          if jx_bool (1 : Int32) = true then some (some (.int (1 : Int32)), h) else none :=
  sorry
noncomputable def jb_67 (rc : Nat → Nat × (Nat → Int32)) (d : Nat) (i : Nat) (ls : List (Nat × Value)) (st : List Value) (h : jxH) : jxR := none
theorem je_67 (rc : Nat → Nat × (Nat → Int32)) (d : Nat) (x0 : Int32) (h : jxH) : jx_C rc (d + 1) 67 [.int x0] h =
  jb_67 rc d 2 [(0, .int x0), (1, .int (0 : Int32))] [] h :=
  sorry
theorem je_67_2 (rc : Nat → Nat × (Nat → Int32)) (d : Nat) (x0 : Int32) (x1 : Int32) (h : jxH) : jb_67 rc d 2 [(0, .int x0), (1, .int x1)] [] h =
  if (12 : Int32) ≤ x1 then
    some (some (.int (-1 : Int32)), h)
  else
    if ((x0 >>> (x1 &&& 31)) &&& (1 : Int32)) = 0 then
      jb_67 rc d 2 [(0, .int x0), (1, .int (x1 + (1 : Int32)))] [] h
    else
      some (some (.int x1), h) :=
  sorry
noncomputable def jb_68 (rc : Nat → Nat × (Nat → Int32)) (d : Nat) (i : Nat) (ls : List (Nat × Value)) (st : List Value) (h : jxH) : jxR := none
theorem je_68 (rc : Nat → Nat × (Nat → Int32)) (d : Nat) (x0 : Int32) (h : jxH) : jx_C rc (d + 1) 68 [.int x0] h =
  jb_68 rc d 2 [(0, .int x0), (1, .int (11 : Int32))] [] h :=
  sorry
theorem je_68_2 (rc : Nat → Nat × (Nat → Int32)) (d : Nat) (x0 : Int32) (x1 : Int32) (h : jxH) : jb_68 rc d 2 [(0, .int x0), (1, .int x1)] [] h =
  if x1 < 0 then
    some (some (.int (-1 : Int32)), h)
  else
    if ((x0 >>> (x1 &&& 31)) &&& (1 : Int32)) = 0 then
      jb_68 rc d 2 [(0, .int x0), (1, .int (x1 + (-1 : Int32)))] [] h
    else
      some (some (.int x1), h) :=
  sorry
noncomputable def jb_69 (rc : Nat → Nat × (Nat → Int32)) (d : Nat) (i : Nat) (ls : List (Nat × Value)) (st : List Value) (h : jxH) : jxR := none
theorem je_69 (rc : Nat → Nat × (Nat → Int32)) (d : Nat) (x0 : Int64) (x2 : Int64) (h : jxH) : jx_C rc (d + 1) 69 [.long x0, .long x2] h =
  if 0 ≤ (lg_cmp x0 (0 : Int64)) then
    if 0 ≤ (lg_cmp x2 (0 : Int64)) then
      jb_69 rc d 20 [(4, .long x0), (6, .long x2), (8, .int (0 : Int32))] [] h
    else
      jb_69 rc d 20 [(4, .long x0), (6, .long (-x2)), (8, .int (0 : Int32))] [] h
  else
    if 0 ≤ (lg_cmp x2 (0 : Int64)) then
      jb_69 rc d 20 [(4, .long (-x0)), (6, .long x2), (8, .int (0 : Int32))] [] h
    else
      jb_69 rc d 20 [(4, .long (-x0)), (6, .long (-x2)), (8, .int (0 : Int32))] [] h :=
  sorry
theorem je_69_20 (rc : Nat → Nat × (Nat → Int32)) (d : Nat) (x4 : Int64) (x6 : Int64) (x8 : Int32) (h : jxH) : jb_69 rc d 20 [(4, .long x4), (6, .long x6), (8, .int x8)] [] h =
  if (100 : Int32) ≤ x8 then
    some (some (.long x4), h)
  else
    if (lg_cmp x6 (0 : Int64)) = 0 then
      some (some (.long x4), h)
    else
      if x6 = 0 then none else jb_69 rc d 20 [(4, .long x6), (6, .long (x4 - x4 / x6 * x6)), (8, .int (x8 + (1 : Int32)))] [] h :=
  sorry
noncomputable def jb_70 (rc : Nat → Nat × (Nat → Int32)) (d : Nat) (i : Nat) (ls : List (Nat × Value)) (st : List Value) (h : jxH) : jxR := none
theorem je_70 (rc : Nat → Nat × (Nat → Int32)) (d : Nat) (x0 : Int32) (x1 : Int32) (x2 : Int32) (h : jxH) : jx_C rc (d + 1) 70 [.int x0, .int x1, .int x2] h =
  jb_70 rc d 6 [(2, .int x2), (3, .int x0), (4, .int x1), (5, .int (0 : Int32))] [] h :=
  sorry
theorem je_70_6 (rc : Nat → Nat × (Nat → Int32)) (d : Nat) (x2 : Int32) (x3 : Int32) (x4 : Int32) (x5 : Int32) (h : jxH) : jb_70 rc d 6 [(2, .int x2), (3, .int x3), (4, .int x4), (5, .int x5)] [] h =
  if (999 : Int32) ≤ x5 then
    if x2 = (-1 : Int32) then
      some (some (.int x5), h)
    else
      some (some (.int (0 : Int32)), h)
  else
    if x4 ≤ 0 then
      if x2 = (-1 : Int32) then
        some (some (.int x5), h)
      else
        some (some (.int (0 : Int32)), h)
    else
      if x4 = 0 then none else if x5 = x2 then
        some (some (.int (((x3 + x4) - (1 : Int32)) / x4)), h)
      else
        jb_70 rc d 6 [(2, .int x2), (3, .int x4), (4, .int (((((x3 + x4) - (1 : Int32)) / x4) * x4) - x3)), (5, .int (x5 + (1 : Int32)))] [] h :=
  sorry
theorem je_71 (rc : Nat → Nat × (Nat → Int32)) (d : Nat) (a0 : Nat) (h : jxH) : jx_C rc (d + 1) 71 [.ref a0] h =
  if jx_is (jx_at h a0) 12 = true then
  if (8 : Int32) < 0 ∨ 5000 < (8 : Int32) then none else
  (jx_pF (jx_at (jx_new h ((8 : Int32)).toNatClampNeg (jx_arr 0 ((8 : Int32)).toNatClampNeg)) a0) 12 0 (.ref h.1)).bind fun e1 =>
  if (25 : Int32) < 0 ∨ 5000 < (25 : Int32) then none else
  (jx_pF (jx_at (jx_new (jx_set (jx_new h ((8 : Int32)).toNatClampNeg (jx_arr 0 ((8 : Int32)).toNatClampNeg)) a0 e1) ((25 : Int32)).toNatClampNeg (jx_arr 0 ((25 : Int32)).toNatClampNeg)) a0) 12 1 (.ref (jx_set (jx_new h ((8 : Int32)).toNatClampNeg (jx_arr 0 ((8 : Int32)).toNatClampNeg)) a0 e1).1)).bind fun e2 =>
  if (41 : Int32) < 0 ∨ 5000 < (41 : Int32) ∨ (25 : Int32) < 0 ∨ 5000 < (25 : Int32) then none else
  (jx_pF (jx_at (jx_inner (jx_set (jx_new (jx_set (jx_new h ((8 : Int32)).toNatClampNeg (jx_arr 0 ((8 : Int32)).toNatClampNeg)) a0 e1) ((25 : Int32)).toNatClampNeg (jx_arr 0 ((25 : Int32)).toNatClampNeg)) a0 e2) ((41 : Int32)).toNatClampNeg ((25 : Int32)).toNatClampNeg) a0) 12 2 (.ref (jx_set (jx_new (jx_set (jx_new h ((8 : Int32)).toNatClampNeg (jx_arr 0 ((8 : Int32)).toNatClampNeg)) a0 e1) ((25 : Int32)).toNatClampNeg (jx_arr 0 ((25 : Int32)).toNatClampNeg)) a0 e2).1)).bind fun e3 =>
  if (240 : Int32) < 0 ∨ 5000 < (240 : Int32) then none else
  (jx_pF (jx_at (jx_new (jx_set (jx_inner (jx_set (jx_new (jx_set (jx_new h ((8 : Int32)).toNatClampNeg (jx_arr 0 ((8 : Int32)).toNatClampNeg)) a0 e1) ((25 : Int32)).toNatClampNeg (jx_arr 0 ((25 : Int32)).toNatClampNeg)) a0 e2) ((41 : Int32)).toNatClampNeg ((25 : Int32)).toNatClampNeg) a0 e3) ((240 : Int32)).toNatClampNeg (jx_arr 0 ((240 : Int32)).toNatClampNeg)) a0) 12 3 (.ref (jx_set (jx_inner (jx_set (jx_new (jx_set (jx_new h ((8 : Int32)).toNatClampNeg (jx_arr 0 ((8 : Int32)).toNatClampNeg)) a0 e1) ((25 : Int32)).toNatClampNeg (jx_arr 0 ((25 : Int32)).toNatClampNeg)) a0 e2) ((41 : Int32)).toNatClampNeg ((25 : Int32)).toNatClampNeg) a0 e3).1)).bind fun e4 =>
  if (4096 : Int32) < 0 ∨ 5000 < (4096 : Int32) then none else
  (jx_pF (jx_at (jx_new (jx_set (jx_new (jx_set (jx_inner (jx_set (jx_new (jx_set (jx_new h ((8 : Int32)).toNatClampNeg (jx_arr 0 ((8 : Int32)).toNatClampNeg)) a0 e1) ((25 : Int32)).toNatClampNeg (jx_arr 0 ((25 : Int32)).toNatClampNeg)) a0 e2) ((41 : Int32)).toNatClampNeg ((25 : Int32)).toNatClampNeg) a0 e3) ((240 : Int32)).toNatClampNeg (jx_arr 0 ((240 : Int32)).toNatClampNeg)) a0 e4) ((4096 : Int32)).toNatClampNeg (jx_arr 1 ((4096 : Int32)).toNatClampNeg)) a0) 12 6 (.ref (jx_set (jx_new (jx_set (jx_inner (jx_set (jx_new (jx_set (jx_new h ((8 : Int32)).toNatClampNeg (jx_arr 0 ((8 : Int32)).toNatClampNeg)) a0 e1) ((25 : Int32)).toNatClampNeg (jx_arr 0 ((25 : Int32)).toNatClampNeg)) a0 e2) ((41 : Int32)).toNatClampNeg ((25 : Int32)).toNatClampNeg) a0 e3) ((240 : Int32)).toNatClampNeg (jx_arr 0 ((240 : Int32)).toNatClampNeg)) a0 e4).1)).bind fun e5 =>
  if (4096 : Int32) < 0 ∨ 5000 < (4096 : Int32) then none else
  (jx_pF (jx_at (jx_new (jx_set (jx_new (jx_set (jx_new (jx_set (jx_inner (jx_set (jx_new (jx_set (jx_new h ((8 : Int32)).toNatClampNeg (jx_arr 0 ((8 : Int32)).toNatClampNeg)) a0 e1) ((25 : Int32)).toNatClampNeg (jx_arr 0 ((25 : Int32)).toNatClampNeg)) a0 e2) ((41 : Int32)).toNatClampNeg ((25 : Int32)).toNatClampNeg) a0 e3) ((240 : Int32)).toNatClampNeg (jx_arr 0 ((240 : Int32)).toNatClampNeg)) a0 e4) ((4096 : Int32)).toNatClampNeg (jx_arr 1 ((4096 : Int32)).toNatClampNeg)) a0 e5) ((4096 : Int32)).toNatClampNeg (jx_arr 1 ((4096 : Int32)).toNatClampNeg)) a0) 12 7 (.ref (jx_set (jx_new (jx_set (jx_new (jx_set (jx_inner (jx_set (jx_new (jx_set (jx_new h ((8 : Int32)).toNatClampNeg (jx_arr 0 ((8 : Int32)).toNatClampNeg)) a0 e1) ((25 : Int32)).toNatClampNeg (jx_arr 0 ((25 : Int32)).toNatClampNeg)) a0 e2) ((41 : Int32)).toNatClampNeg ((25 : Int32)).toNatClampNeg) a0 e3) ((240 : Int32)).toNatClampNeg (jx_arr 0 ((240 : Int32)).toNatClampNeg)) a0 e4) ((4096 : Int32)).toNatClampNeg (jx_arr 1 ((4096 : Int32)).toNatClampNeg)) a0 e5).1)).bind fun e6 =>
  if (13 : Int32) < 0 ∨ 5000 < (13 : Int32) then none else
  (jx_pF (jx_at (jx_new (jx_set (jx_new (jx_set (jx_new (jx_set (jx_new (jx_set (jx_inner (jx_set (jx_new (jx_set (jx_new h ((8 : Int32)).toNatClampNeg (jx_arr 0 ((8 : Int32)).toNatClampNeg)) a0 e1) ((25 : Int32)).toNatClampNeg (jx_arr 0 ((25 : Int32)).toNatClampNeg)) a0 e2) ((41 : Int32)).toNatClampNeg ((25 : Int32)).toNatClampNeg) a0 e3) ((240 : Int32)).toNatClampNeg (jx_arr 0 ((240 : Int32)).toNatClampNeg)) a0 e4) ((4096 : Int32)).toNatClampNeg (jx_arr 1 ((4096 : Int32)).toNatClampNeg)) a0 e5) ((4096 : Int32)).toNatClampNeg (jx_arr 1 ((4096 : Int32)).toNatClampNeg)) a0 e6) ((13 : Int32)).toNatClampNeg (jx_arr 1 ((13 : Int32)).toNatClampNeg)) a0) 12 8 (.ref (jx_set (jx_new (jx_set (jx_new (jx_set (jx_new (jx_set (jx_inner (jx_set (jx_new (jx_set (jx_new h ((8 : Int32)).toNatClampNeg (jx_arr 0 ((8 : Int32)).toNatClampNeg)) a0 e1) ((25 : Int32)).toNatClampNeg (jx_arr 0 ((25 : Int32)).toNatClampNeg)) a0 e2) ((41 : Int32)).toNatClampNeg ((25 : Int32)).toNatClampNeg) a0 e3) ((240 : Int32)).toNatClampNeg (jx_arr 0 ((240 : Int32)).toNatClampNeg)) a0 e4) ((4096 : Int32)).toNatClampNeg (jx_arr 1 ((4096 : Int32)).toNatClampNeg)) a0 e5) ((4096 : Int32)).toNatClampNeg (jx_arr 1 ((4096 : Int32)).toNatClampNeg)) a0 e6).1)).bind fun e7 =>
  if (12 : Int32) < 0 ∨ 5000 < (12 : Int32) ∨ (12 : Int32) < 0 ∨ 5000 < (12 : Int32) then none else
  (jx_pF (jx_at (jx_inner (jx_set (jx_new (jx_set (jx_new (jx_set (jx_new (jx_set (jx_new (jx_set (jx_inner (jx_set (jx_new (jx_set (jx_new h ((8 : Int32)).toNatClampNeg (jx_arr 0 ((8 : Int32)).toNatClampNeg)) a0 e1) ((25 : Int32)).toNatClampNeg (jx_arr 0 ((25 : Int32)).toNatClampNeg)) a0 e2) ((41 : Int32)).toNatClampNeg ((25 : Int32)).toNatClampNeg) a0 e3) ((240 : Int32)).toNatClampNeg (jx_arr 0 ((240 : Int32)).toNatClampNeg)) a0 e4) ((4096 : Int32)).toNatClampNeg (jx_arr 1 ((4096 : Int32)).toNatClampNeg)) a0 e5) ((4096 : Int32)).toNatClampNeg (jx_arr 1 ((4096 : Int32)).toNatClampNeg)) a0 e6) ((13 : Int32)).toNatClampNeg (jx_arr 1 ((13 : Int32)).toNatClampNeg)) a0 e7) ((12 : Int32)).toNatClampNeg ((12 : Int32)).toNatClampNeg) a0) 12 9 (.ref (jx_set (jx_new (jx_set (jx_new (jx_set (jx_new (jx_set (jx_new (jx_set (jx_inner (jx_set (jx_new (jx_set (jx_new h ((8 : Int32)).toNatClampNeg (jx_arr 0 ((8 : Int32)).toNatClampNeg)) a0 e1) ((25 : Int32)).toNatClampNeg (jx_arr 0 ((25 : Int32)).toNatClampNeg)) a0 e2) ((41 : Int32)).toNatClampNeg ((25 : Int32)).toNatClampNeg) a0 e3) ((240 : Int32)).toNatClampNeg (jx_arr 0 ((240 : Int32)).toNatClampNeg)) a0 e4) ((4096 : Int32)).toNatClampNeg (jx_arr 1 ((4096 : Int32)).toNatClampNeg)) a0 e5) ((4096 : Int32)).toNatClampNeg (jx_arr 1 ((4096 : Int32)).toNatClampNeg)) a0 e6) ((13 : Int32)).toNatClampNeg (jx_arr 1 ((13 : Int32)).toNatClampNeg)) a0 e7).1)).bind fun e8 =>
  if (120 : Int32) < 0 ∨ 5000 < (120 : Int32) then none else
  (jx_pF (jx_at (jx_new (jx_set (jx_inner (jx_set (jx_new (jx_set (jx_new (jx_set (jx_new (jx_set (jx_new (jx_set (jx_inner (jx_set (jx_new (jx_set (jx_new h ((8 : Int32)).toNatClampNeg (jx_arr 0 ((8 : Int32)).toNatClampNeg)) a0 e1) ((25 : Int32)).toNatClampNeg (jx_arr 0 ((25 : Int32)).toNatClampNeg)) a0 e2) ((41 : Int32)).toNatClampNeg ((25 : Int32)).toNatClampNeg) a0 e3) ((240 : Int32)).toNatClampNeg (jx_arr 0 ((240 : Int32)).toNatClampNeg)) a0 e4) ((4096 : Int32)).toNatClampNeg (jx_arr 1 ((4096 : Int32)).toNatClampNeg)) a0 e5) ((4096 : Int32)).toNatClampNeg (jx_arr 1 ((4096 : Int32)).toNatClampNeg)) a0 e6) ((13 : Int32)).toNatClampNeg (jx_arr 1 ((13 : Int32)).toNatClampNeg)) a0 e7) ((12 : Int32)).toNatClampNeg ((12 : Int32)).toNatClampNeg) a0 e8) ((120 : Int32)).toNatClampNeg (jx_arr 0 ((120 : Int32)).toNatClampNeg)) a0) 12 10 (.ref (jx_set (jx_inner (jx_set (jx_new (jx_set (jx_new (jx_set (jx_new (jx_set (jx_new (jx_set (jx_inner (jx_set (jx_new (jx_set (jx_new h ((8 : Int32)).toNatClampNeg (jx_arr 0 ((8 : Int32)).toNatClampNeg)) a0 e1) ((25 : Int32)).toNatClampNeg (jx_arr 0 ((25 : Int32)).toNatClampNeg)) a0 e2) ((41 : Int32)).toNatClampNeg ((25 : Int32)).toNatClampNeg) a0 e3) ((240 : Int32)).toNatClampNeg (jx_arr 0 ((240 : Int32)).toNatClampNeg)) a0 e4) ((4096 : Int32)).toNatClampNeg (jx_arr 1 ((4096 : Int32)).toNatClampNeg)) a0 e5) ((4096 : Int32)).toNatClampNeg (jx_arr 1 ((4096 : Int32)).toNatClampNeg)) a0 e6) ((13 : Int32)).toNatClampNeg (jx_arr 1 ((13 : Int32)).toNatClampNeg)) a0 e7) ((12 : Int32)).toNatClampNeg ((12 : Int32)).toNatClampNeg) a0 e8).1)).bind fun e9 =>
  if (25 : Int32) < 0 ∨ 5000 < (25 : Int32) then none else
  (jx_pF (jx_at (jx_new (jx_set (jx_new (jx_set (jx_inner (jx_set (jx_new (jx_set (jx_new (jx_set (jx_new (jx_set (jx_new (jx_set (jx_inner (jx_set (jx_new (jx_set (jx_new h ((8 : Int32)).toNatClampNeg (jx_arr 0 ((8 : Int32)).toNatClampNeg)) a0 e1) ((25 : Int32)).toNatClampNeg (jx_arr 0 ((25 : Int32)).toNatClampNeg)) a0 e2) ((41 : Int32)).toNatClampNeg ((25 : Int32)).toNatClampNeg) a0 e3) ((240 : Int32)).toNatClampNeg (jx_arr 0 ((240 : Int32)).toNatClampNeg)) a0 e4) ((4096 : Int32)).toNatClampNeg (jx_arr 1 ((4096 : Int32)).toNatClampNeg)) a0 e5) ((4096 : Int32)).toNatClampNeg (jx_arr 1 ((4096 : Int32)).toNatClampNeg)) a0 e6) ((13 : Int32)).toNatClampNeg (jx_arr 1 ((13 : Int32)).toNatClampNeg)) a0 e7) ((12 : Int32)).toNatClampNeg ((12 : Int32)).toNatClampNeg) a0 e8) ((120 : Int32)).toNatClampNeg (jx_arr 0 ((120 : Int32)).toNatClampNeg)) a0 e9) ((25 : Int32)).toNatClampNeg (jx_arr 0 ((25 : Int32)).toNatClampNeg)) a0) 12 14 (.ref (jx_set (jx_new (jx_set (jx_inner (jx_set (jx_new (jx_set (jx_new (jx_set (jx_new (jx_set (jx_new (jx_set (jx_inner (jx_set (jx_new (jx_set (jx_new h ((8 : Int32)).toNatClampNeg (jx_arr 0 ((8 : Int32)).toNatClampNeg)) a0 e1) ((25 : Int32)).toNatClampNeg (jx_arr 0 ((25 : Int32)).toNatClampNeg)) a0 e2) ((41 : Int32)).toNatClampNeg ((25 : Int32)).toNatClampNeg) a0 e3) ((240 : Int32)).toNatClampNeg (jx_arr 0 ((240 : Int32)).toNatClampNeg)) a0 e4) ((4096 : Int32)).toNatClampNeg (jx_arr 1 ((4096 : Int32)).toNatClampNeg)) a0 e5) ((4096 : Int32)).toNatClampNeg (jx_arr 1 ((4096 : Int32)).toNatClampNeg)) a0 e6) ((13 : Int32)).toNatClampNeg (jx_arr 1 ((13 : Int32)).toNatClampNeg)) a0 e7) ((12 : Int32)).toNatClampNeg ((12 : Int32)).toNatClampNeg) a0 e8) ((120 : Int32)).toNatClampNeg (jx_arr 0 ((120 : Int32)).toNatClampNeg)) a0 e9).1)).bind fun e10 =>
  if (12 : Int32) < 0 ∨ 5000 < (12 : Int32) then none else
  (jx_pF (jx_at (jx_new (jx_set (jx_new (jx_set (jx_new (jx_set (jx_inner (jx_set (jx_new (jx_set (jx_new (jx_set (jx_new (jx_set (jx_new (jx_set (jx_inner (jx_set (jx_new (jx_set (jx_new h ((8 : Int32)).toNatClampNeg (jx_arr 0 ((8 : Int32)).toNatClampNeg)) a0 e1) ((25 : Int32)).toNatClampNeg (jx_arr 0 ((25 : Int32)).toNatClampNeg)) a0 e2) ((41 : Int32)).toNatClampNeg ((25 : Int32)).toNatClampNeg) a0 e3) ((240 : Int32)).toNatClampNeg (jx_arr 0 ((240 : Int32)).toNatClampNeg)) a0 e4) ((4096 : Int32)).toNatClampNeg (jx_arr 1 ((4096 : Int32)).toNatClampNeg)) a0 e5) ((4096 : Int32)).toNatClampNeg (jx_arr 1 ((4096 : Int32)).toNatClampNeg)) a0 e6) ((13 : Int32)).toNatClampNeg (jx_arr 1 ((13 : Int32)).toNatClampNeg)) a0 e7) ((12 : Int32)).toNatClampNeg ((12 : Int32)).toNatClampNeg) a0 e8) ((120 : Int32)).toNatClampNeg (jx_arr 0 ((120 : Int32)).toNatClampNeg)) a0 e9) ((25 : Int32)).toNatClampNeg (jx_arr 0 ((25 : Int32)).toNatClampNeg)) a0 e10) ((12 : Int32)).toNatClampNeg (jx_arr 0 ((12 : Int32)).toNatClampNeg)) a0) 12 15 (.ref (jx_set (jx_new (jx_set (jx_new (jx_set (jx_inner (jx_set (jx_new (jx_set (jx_new (jx_set (jx_new (jx_set (jx_new (jx_set (jx_inner (jx_set (jx_new (jx_set (jx_new h ((8 : Int32)).toNatClampNeg (jx_arr 0 ((8 : Int32)).toNatClampNeg)) a0 e1) ((25 : Int32)).toNatClampNeg (jx_arr 0 ((25 : Int32)).toNatClampNeg)) a0 e2) ((41 : Int32)).toNatClampNeg ((25 : Int32)).toNatClampNeg) a0 e3) ((240 : Int32)).toNatClampNeg (jx_arr 0 ((240 : Int32)).toNatClampNeg)) a0 e4) ((4096 : Int32)).toNatClampNeg (jx_arr 1 ((4096 : Int32)).toNatClampNeg)) a0 e5) ((4096 : Int32)).toNatClampNeg (jx_arr 1 ((4096 : Int32)).toNatClampNeg)) a0 e6) ((13 : Int32)).toNatClampNeg (jx_arr 1 ((13 : Int32)).toNatClampNeg)) a0 e7) ((12 : Int32)).toNatClampNeg ((12 : Int32)).toNatClampNeg) a0 e8) ((120 : Int32)).toNatClampNeg (jx_arr 0 ((120 : Int32)).toNatClampNeg)) a0 e9) ((25 : Int32)).toNatClampNeg (jx_arr 0 ((25 : Int32)).toNatClampNeg)) a0 e10).1)).bind fun e11 =>
  if (12 : Int32) < 0 ∨ 5000 < (12 : Int32) ∨ (64 : Int32) < 0 ∨ 5000 < (64 : Int32) then none else
  (jx_pF (jx_at (jx_inner (jx_set (jx_new (jx_set (jx_new (jx_set (jx_new (jx_set (jx_inner (jx_set (jx_new (jx_set (jx_new (jx_set (jx_new (jx_set (jx_new (jx_set (jx_inner (jx_set (jx_new (jx_set (jx_new h ((8 : Int32)).toNatClampNeg (jx_arr 0 ((8 : Int32)).toNatClampNeg)) a0 e1) ((25 : Int32)).toNatClampNeg (jx_arr 0 ((25 : Int32)).toNatClampNeg)) a0 e2) ((41 : Int32)).toNatClampNeg ((25 : Int32)).toNatClampNeg) a0 e3) ((240 : Int32)).toNatClampNeg (jx_arr 0 ((240 : Int32)).toNatClampNeg)) a0 e4) ((4096 : Int32)).toNatClampNeg (jx_arr 1 ((4096 : Int32)).toNatClampNeg)) a0 e5) ((4096 : Int32)).toNatClampNeg (jx_arr 1 ((4096 : Int32)).toNatClampNeg)) a0 e6) ((13 : Int32)).toNatClampNeg (jx_arr 1 ((13 : Int32)).toNatClampNeg)) a0 e7) ((12 : Int32)).toNatClampNeg ((12 : Int32)).toNatClampNeg) a0 e8) ((120 : Int32)).toNatClampNeg (jx_arr 0 ((120 : Int32)).toNatClampNeg)) a0 e9) ((25 : Int32)).toNatClampNeg (jx_arr 0 ((25 : Int32)).toNatClampNeg)) a0 e10) ((12 : Int32)).toNatClampNeg (jx_arr 0 ((12 : Int32)).toNatClampNeg)) a0 e11) ((12 : Int32)).toNatClampNeg ((64 : Int32)).toNatClampNeg) a0) 12 16 (.ref (jx_set (jx_new (jx_set (jx_new (jx_set (jx_new (jx_set (jx_inner (jx_set (jx_new (jx_set (jx_new (jx_set (jx_new (jx_set (jx_new (jx_set (jx_inner (jx_set (jx_new (jx_set (jx_new h ((8 : Int32)).toNatClampNeg (jx_arr 0 ((8 : Int32)).toNatClampNeg)) a0 e1) ((25 : Int32)).toNatClampNeg (jx_arr 0 ((25 : Int32)).toNatClampNeg)) a0 e2) ((41 : Int32)).toNatClampNeg ((25 : Int32)).toNatClampNeg) a0 e3) ((240 : Int32)).toNatClampNeg (jx_arr 0 ((240 : Int32)).toNatClampNeg)) a0 e4) ((4096 : Int32)).toNatClampNeg (jx_arr 1 ((4096 : Int32)).toNatClampNeg)) a0 e5) ((4096 : Int32)).toNatClampNeg (jx_arr 1 ((4096 : Int32)).toNatClampNeg)) a0 e6) ((13 : Int32)).toNatClampNeg (jx_arr 1 ((13 : Int32)).toNatClampNeg)) a0 e7) ((12 : Int32)).toNatClampNeg ((12 : Int32)).toNatClampNeg) a0 e8) ((120 : Int32)).toNatClampNeg (jx_arr 0 ((120 : Int32)).toNatClampNeg)) a0 e9) ((25 : Int32)).toNatClampNeg (jx_arr 0 ((25 : Int32)).toNatClampNeg)) a0 e10) ((12 : Int32)).toNatClampNeg (jx_arr 0 ((12 : Int32)).toNatClampNeg)) a0 e11).1)).bind fun e12 =>
  if (12 : Int32) < 0 ∨ 5000 < (12 : Int32) then none else
  (jx_pF (jx_at (jx_new (jx_set (jx_inner (jx_set (jx_new (jx_set (jx_new (jx_set (jx_new (jx_set (jx_inner (jx_set (jx_new (jx_set (jx_new (jx_set (jx_new (jx_set (jx_new (jx_set (jx_inner (jx_set (jx_new (jx_set (jx_new h ((8 : Int32)).toNatClampNeg (jx_arr 0 ((8 : Int32)).toNatClampNeg)) a0 e1) ((25 : Int32)).toNatClampNeg (jx_arr 0 ((25 : Int32)).toNatClampNeg)) a0 e2) ((41 : Int32)).toNatClampNeg ((25 : Int32)).toNatClampNeg) a0 e3) ((240 : Int32)).toNatClampNeg (jx_arr 0 ((240 : Int32)).toNatClampNeg)) a0 e4) ((4096 : Int32)).toNatClampNeg (jx_arr 1 ((4096 : Int32)).toNatClampNeg)) a0 e5) ((4096 : Int32)).toNatClampNeg (jx_arr 1 ((4096 : Int32)).toNatClampNeg)) a0 e6) ((13 : Int32)).toNatClampNeg (jx_arr 1 ((13 : Int32)).toNatClampNeg)) a0 e7) ((12 : Int32)).toNatClampNeg ((12 : Int32)).toNatClampNeg) a0 e8) ((120 : Int32)).toNatClampNeg (jx_arr 0 ((120 : Int32)).toNatClampNeg)) a0 e9) ((25 : Int32)).toNatClampNeg (jx_arr 0 ((25 : Int32)).toNatClampNeg)) a0 e10) ((12 : Int32)).toNatClampNeg (jx_arr 0 ((12 : Int32)).toNatClampNeg)) a0 e11) ((12 : Int32)).toNatClampNeg ((64 : Int32)).toNatClampNeg) a0 e12) ((12 : Int32)).toNatClampNeg (jx_arr 0 ((12 : Int32)).toNatClampNeg)) a0) 12 17 (.ref (jx_set (jx_inner (jx_set (jx_new (jx_set (jx_new (jx_set (jx_new (jx_set (jx_inner (jx_set (jx_new (jx_set (jx_new (jx_set (jx_new (jx_set (jx_new (jx_set (jx_inner (jx_set (jx_new (jx_set (jx_new h ((8 : Int32)).toNatClampNeg (jx_arr 0 ((8 : Int32)).toNatClampNeg)) a0 e1) ((25 : Int32)).toNatClampNeg (jx_arr 0 ((25 : Int32)).toNatClampNeg)) a0 e2) ((41 : Int32)).toNatClampNeg ((25 : Int32)).toNatClampNeg) a0 e3) ((240 : Int32)).toNatClampNeg (jx_arr 0 ((240 : Int32)).toNatClampNeg)) a0 e4) ((4096 : Int32)).toNatClampNeg (jx_arr 1 ((4096 : Int32)).toNatClampNeg)) a0 e5) ((4096 : Int32)).toNatClampNeg (jx_arr 1 ((4096 : Int32)).toNatClampNeg)) a0 e6) ((13 : Int32)).toNatClampNeg (jx_arr 1 ((13 : Int32)).toNatClampNeg)) a0 e7) ((12 : Int32)).toNatClampNeg ((12 : Int32)).toNatClampNeg) a0 e8) ((120 : Int32)).toNatClampNeg (jx_arr 0 ((120 : Int32)).toNatClampNeg)) a0 e9) ((25 : Int32)).toNatClampNeg (jx_arr 0 ((25 : Int32)).toNatClampNeg)) a0 e10) ((12 : Int32)).toNatClampNeg (jx_arr 0 ((12 : Int32)).toNatClampNeg)) a0 e11) ((12 : Int32)).toNatClampNeg ((64 : Int32)).toNatClampNeg) a0 e12).1)).bind fun e13 =>
  if (12 : Int32) < 0 ∨ 5000 < (12 : Int32) ∨ (64 : Int32) < 0 ∨ 5000 < (64 : Int32) then none else
  (jx_pF (jx_at (jx_inner (jx_set (jx_new (jx_set (jx_inner (jx_set (jx_new (jx_set (jx_new (jx_set (jx_new (jx_set (jx_inner (jx_set (jx_new (jx_set (jx_new (jx_set (jx_new (jx_set (jx_new (jx_set (jx_inner (jx_set (jx_new (jx_set (jx_new h ((8 : Int32)).toNatClampNeg (jx_arr 0 ((8 : Int32)).toNatClampNeg)) a0 e1) ((25 : Int32)).toNatClampNeg (jx_arr 0 ((25 : Int32)).toNatClampNeg)) a0 e2) ((41 : Int32)).toNatClampNeg ((25 : Int32)).toNatClampNeg) a0 e3) ((240 : Int32)).toNatClampNeg (jx_arr 0 ((240 : Int32)).toNatClampNeg)) a0 e4) ((4096 : Int32)).toNatClampNeg (jx_arr 1 ((4096 : Int32)).toNatClampNeg)) a0 e5) ((4096 : Int32)).toNatClampNeg (jx_arr 1 ((4096 : Int32)).toNatClampNeg)) a0 e6) ((13 : Int32)).toNatClampNeg (jx_arr 1 ((13 : Int32)).toNatClampNeg)) a0 e7) ((12 : Int32)).toNatClampNeg ((12 : Int32)).toNatClampNeg) a0 e8) ((120 : Int32)).toNatClampNeg (jx_arr 0 ((120 : Int32)).toNatClampNeg)) a0 e9) ((25 : Int32)).toNatClampNeg (jx_arr 0 ((25 : Int32)).toNatClampNeg)) a0 e10) ((12 : Int32)).toNatClampNeg (jx_arr 0 ((12 : Int32)).toNatClampNeg)) a0 e11) ((12 : Int32)).toNatClampNeg ((64 : Int32)).toNatClampNeg) a0 e12) ((12 : Int32)).toNatClampNeg (jx_arr 0 ((12 : Int32)).toNatClampNeg)) a0 e13) ((12 : Int32)).toNatClampNeg ((64 : Int32)).toNatClampNeg) a0) 12 18 (.ref (jx_set (jx_new (jx_set (jx_inner (jx_set (jx_new (jx_set (jx_new (jx_set (jx_new (jx_set (jx_inner (jx_set (jx_new (jx_set (jx_new (jx_set (jx_new (jx_set (jx_new (jx_set (jx_inner (jx_set (jx_new (jx_set (jx_new h ((8 : Int32)).toNatClampNeg (jx_arr 0 ((8 : Int32)).toNatClampNeg)) a0 e1) ((25 : Int32)).toNatClampNeg (jx_arr 0 ((25 : Int32)).toNatClampNeg)) a0 e2) ((41 : Int32)).toNatClampNeg ((25 : Int32)).toNatClampNeg) a0 e3) ((240 : Int32)).toNatClampNeg (jx_arr 0 ((240 : Int32)).toNatClampNeg)) a0 e4) ((4096 : Int32)).toNatClampNeg (jx_arr 1 ((4096 : Int32)).toNatClampNeg)) a0 e5) ((4096 : Int32)).toNatClampNeg (jx_arr 1 ((4096 : Int32)).toNatClampNeg)) a0 e6) ((13 : Int32)).toNatClampNeg (jx_arr 1 ((13 : Int32)).toNatClampNeg)) a0 e7) ((12 : Int32)).toNatClampNeg ((12 : Int32)).toNatClampNeg) a0 e8) ((120 : Int32)).toNatClampNeg (jx_arr 0 ((120 : Int32)).toNatClampNeg)) a0 e9) ((25 : Int32)).toNatClampNeg (jx_arr 0 ((25 : Int32)).toNatClampNeg)) a0 e10) ((12 : Int32)).toNatClampNeg (jx_arr 0 ((12 : Int32)).toNatClampNeg)) a0 e11) ((12 : Int32)).toNatClampNeg ((64 : Int32)).toNatClampNeg) a0 e12) ((12 : Int32)).toNatClampNeg (jx_arr 0 ((12 : Int32)).toNatClampNeg)) a0 e13).1)).bind fun e14 =>
  if (12 : Int32) < 0 ∨ 5000 < (12 : Int32) then none else
  (jx_pF (jx_at (jx_new (jx_set (jx_inner (jx_set (jx_new (jx_set (jx_inner (jx_set (jx_new (jx_set (jx_new (jx_set (jx_new (jx_set (jx_inner (jx_set (jx_new (jx_set (jx_new (jx_set (jx_new (jx_set (jx_new (jx_set (jx_inner (jx_set (jx_new (jx_set (jx_new h ((8 : Int32)).toNatClampNeg (jx_arr 0 ((8 : Int32)).toNatClampNeg)) a0 e1) ((25 : Int32)).toNatClampNeg (jx_arr 0 ((25 : Int32)).toNatClampNeg)) a0 e2) ((41 : Int32)).toNatClampNeg ((25 : Int32)).toNatClampNeg) a0 e3) ((240 : Int32)).toNatClampNeg (jx_arr 0 ((240 : Int32)).toNatClampNeg)) a0 e4) ((4096 : Int32)).toNatClampNeg (jx_arr 1 ((4096 : Int32)).toNatClampNeg)) a0 e5) ((4096 : Int32)).toNatClampNeg (jx_arr 1 ((4096 : Int32)).toNatClampNeg)) a0 e6) ((13 : Int32)).toNatClampNeg (jx_arr 1 ((13 : Int32)).toNatClampNeg)) a0 e7) ((12 : Int32)).toNatClampNeg ((12 : Int32)).toNatClampNeg) a0 e8) ((120 : Int32)).toNatClampNeg (jx_arr 0 ((120 : Int32)).toNatClampNeg)) a0 e9) ((25 : Int32)).toNatClampNeg (jx_arr 0 ((25 : Int32)).toNatClampNeg)) a0 e10) ((12 : Int32)).toNatClampNeg (jx_arr 0 ((12 : Int32)).toNatClampNeg)) a0 e11) ((12 : Int32)).toNatClampNeg ((64 : Int32)).toNatClampNeg) a0 e12) ((12 : Int32)).toNatClampNeg (jx_arr 0 ((12 : Int32)).toNatClampNeg)) a0 e13) ((12 : Int32)).toNatClampNeg ((64 : Int32)).toNatClampNeg) a0 e14) ((12 : Int32)).toNatClampNeg (jx_arr 0 ((12 : Int32)).toNatClampNeg)) a0) 12 19 (.ref (jx_set (jx_inner (jx_set (jx_new (jx_set (jx_inner (jx_set (jx_new (jx_set (jx_new (jx_set (jx_new (jx_set (jx_inner (jx_set (jx_new (jx_set (jx_new (jx_set (jx_new (jx_set (jx_new (jx_set (jx_inner (jx_set (jx_new (jx_set (jx_new h ((8 : Int32)).toNatClampNeg (jx_arr 0 ((8 : Int32)).toNatClampNeg)) a0 e1) ((25 : Int32)).toNatClampNeg (jx_arr 0 ((25 : Int32)).toNatClampNeg)) a0 e2) ((41 : Int32)).toNatClampNeg ((25 : Int32)).toNatClampNeg) a0 e3) ((240 : Int32)).toNatClampNeg (jx_arr 0 ((240 : Int32)).toNatClampNeg)) a0 e4) ((4096 : Int32)).toNatClampNeg (jx_arr 1 ((4096 : Int32)).toNatClampNeg)) a0 e5) ((4096 : Int32)).toNatClampNeg (jx_arr 1 ((4096 : Int32)).toNatClampNeg)) a0 e6) ((13 : Int32)).toNatClampNeg (jx_arr 1 ((13 : Int32)).toNatClampNeg)) a0 e7) ((12 : Int32)).toNatClampNeg ((12 : Int32)).toNatClampNeg) a0 e8) ((120 : Int32)).toNatClampNeg (jx_arr 0 ((120 : Int32)).toNatClampNeg)) a0 e9) ((25 : Int32)).toNatClampNeg (jx_arr 0 ((25 : Int32)).toNatClampNeg)) a0 e10) ((12 : Int32)).toNatClampNeg (jx_arr 0 ((12 : Int32)).toNatClampNeg)) a0 e11) ((12 : Int32)).toNatClampNeg ((64 : Int32)).toNatClampNeg) a0 e12) ((12 : Int32)).toNatClampNeg (jx_arr 0 ((12 : Int32)).toNatClampNeg)) a0 e13) ((12 : Int32)).toNatClampNeg ((64 : Int32)).toNatClampNeg) a0 e14).1)).bind fun e15 =>
  if (64 : Int32) < 0 ∨ 5000 < (64 : Int32) then none else
  (jx_pF (jx_at (jx_new (jx_set (jx_new (jx_set (jx_inner (jx_set (jx_new (jx_set (jx_inner (jx_set (jx_new (jx_set (jx_new (jx_set (jx_new (jx_set (jx_inner (jx_set (jx_new (jx_set (jx_new (jx_set (jx_new (jx_set (jx_new (jx_set (jx_inner (jx_set (jx_new (jx_set (jx_new h ((8 : Int32)).toNatClampNeg (jx_arr 0 ((8 : Int32)).toNatClampNeg)) a0 e1) ((25 : Int32)).toNatClampNeg (jx_arr 0 ((25 : Int32)).toNatClampNeg)) a0 e2) ((41 : Int32)).toNatClampNeg ((25 : Int32)).toNatClampNeg) a0 e3) ((240 : Int32)).toNatClampNeg (jx_arr 0 ((240 : Int32)).toNatClampNeg)) a0 e4) ((4096 : Int32)).toNatClampNeg (jx_arr 1 ((4096 : Int32)).toNatClampNeg)) a0 e5) ((4096 : Int32)).toNatClampNeg (jx_arr 1 ((4096 : Int32)).toNatClampNeg)) a0 e6) ((13 : Int32)).toNatClampNeg (jx_arr 1 ((13 : Int32)).toNatClampNeg)) a0 e7) ((12 : Int32)).toNatClampNeg ((12 : Int32)).toNatClampNeg) a0 e8) ((120 : Int32)).toNatClampNeg (jx_arr 0 ((120 : Int32)).toNatClampNeg)) a0 e9) ((25 : Int32)).toNatClampNeg (jx_arr 0 ((25 : Int32)).toNatClampNeg)) a0 e10) ((12 : Int32)).toNatClampNeg (jx_arr 0 ((12 : Int32)).toNatClampNeg)) a0 e11) ((12 : Int32)).toNatClampNeg ((64 : Int32)).toNatClampNeg) a0 e12) ((12 : Int32)).toNatClampNeg (jx_arr 0 ((12 : Int32)).toNatClampNeg)) a0 e13) ((12 : Int32)).toNatClampNeg ((64 : Int32)).toNatClampNeg) a0 e14) ((12 : Int32)).toNatClampNeg (jx_arr 0 ((12 : Int32)).toNatClampNeg)) a0 e15) ((64 : Int32)).toNatClampNeg (jx_arr 0 ((64 : Int32)).toNatClampNeg)) a0) 12 20 (.ref (jx_set (jx_new (jx_set (jx_inner (jx_set (jx_new (jx_set (jx_inner (jx_set (jx_new (jx_set (jx_new (jx_set (jx_new (jx_set (jx_inner (jx_set (jx_new (jx_set (jx_new (jx_set (jx_new (jx_set (jx_new (jx_set (jx_inner (jx_set (jx_new (jx_set (jx_new h ((8 : Int32)).toNatClampNeg (jx_arr 0 ((8 : Int32)).toNatClampNeg)) a0 e1) ((25 : Int32)).toNatClampNeg (jx_arr 0 ((25 : Int32)).toNatClampNeg)) a0 e2) ((41 : Int32)).toNatClampNeg ((25 : Int32)).toNatClampNeg) a0 e3) ((240 : Int32)).toNatClampNeg (jx_arr 0 ((240 : Int32)).toNatClampNeg)) a0 e4) ((4096 : Int32)).toNatClampNeg (jx_arr 1 ((4096 : Int32)).toNatClampNeg)) a0 e5) ((4096 : Int32)).toNatClampNeg (jx_arr 1 ((4096 : Int32)).toNatClampNeg)) a0 e6) ((13 : Int32)).toNatClampNeg (jx_arr 1 ((13 : Int32)).toNatClampNeg)) a0 e7) ((12 : Int32)).toNatClampNeg ((12 : Int32)).toNatClampNeg) a0 e8) ((120 : Int32)).toNatClampNeg (jx_arr 0 ((120 : Int32)).toNatClampNeg)) a0 e9) ((25 : Int32)).toNatClampNeg (jx_arr 0 ((25 : Int32)).toNatClampNeg)) a0 e10) ((12 : Int32)).toNatClampNeg (jx_arr 0 ((12 : Int32)).toNatClampNeg)) a0 e11) ((12 : Int32)).toNatClampNeg ((64 : Int32)).toNatClampNeg) a0 e12) ((12 : Int32)).toNatClampNeg (jx_arr 0 ((12 : Int32)).toNatClampNeg)) a0 e13) ((12 : Int32)).toNatClampNeg ((64 : Int32)).toNatClampNeg) a0 e14) ((12 : Int32)).toNatClampNeg (jx_arr 0 ((12 : Int32)).toNatClampNeg)) a0 e15).1)).bind fun e16 =>
  if (4 : Int32) < 0 ∨ 5000 < (4 : Int32) ∨ (25 : Int32) < 0 ∨ 5000 < (25 : Int32) then none else
  (jx_pF (jx_at (jx_inner (jx_set (jx_new (jx_set (jx_new (jx_set (jx_inner (jx_set (jx_new (jx_set (jx_inner (jx_set (jx_new (jx_set (jx_new (jx_set (jx_new (jx_set (jx_inner (jx_set (jx_new (jx_set (jx_new (jx_set (jx_new (jx_set (jx_new (jx_set (jx_inner (jx_set (jx_new (jx_set (jx_new h ((8 : Int32)).toNatClampNeg (jx_arr 0 ((8 : Int32)).toNatClampNeg)) a0 e1) ((25 : Int32)).toNatClampNeg (jx_arr 0 ((25 : Int32)).toNatClampNeg)) a0 e2) ((41 : Int32)).toNatClampNeg ((25 : Int32)).toNatClampNeg) a0 e3) ((240 : Int32)).toNatClampNeg (jx_arr 0 ((240 : Int32)).toNatClampNeg)) a0 e4) ((4096 : Int32)).toNatClampNeg (jx_arr 1 ((4096 : Int32)).toNatClampNeg)) a0 e5) ((4096 : Int32)).toNatClampNeg (jx_arr 1 ((4096 : Int32)).toNatClampNeg)) a0 e6) ((13 : Int32)).toNatClampNeg (jx_arr 1 ((13 : Int32)).toNatClampNeg)) a0 e7) ((12 : Int32)).toNatClampNeg ((12 : Int32)).toNatClampNeg) a0 e8) ((120 : Int32)).toNatClampNeg (jx_arr 0 ((120 : Int32)).toNatClampNeg)) a0 e9) ((25 : Int32)).toNatClampNeg (jx_arr 0 ((25 : Int32)).toNatClampNeg)) a0 e10) ((12 : Int32)).toNatClampNeg (jx_arr 0 ((12 : Int32)).toNatClampNeg)) a0 e11) ((12 : Int32)).toNatClampNeg ((64 : Int32)).toNatClampNeg) a0 e12) ((12 : Int32)).toNatClampNeg (jx_arr 0 ((12 : Int32)).toNatClampNeg)) a0 e13) ((12 : Int32)).toNatClampNeg ((64 : Int32)).toNatClampNeg) a0 e14) ((12 : Int32)).toNatClampNeg (jx_arr 0 ((12 : Int32)).toNatClampNeg)) a0 e15) ((64 : Int32)).toNatClampNeg (jx_arr 0 ((64 : Int32)).toNatClampNeg)) a0 e16) ((4 : Int32)).toNatClampNeg ((25 : Int32)).toNatClampNeg) a0) 12 22 (.ref (jx_set (jx_new (jx_set (jx_new (jx_set (jx_inner (jx_set (jx_new (jx_set (jx_inner (jx_set (jx_new (jx_set (jx_new (jx_set (jx_new (jx_set (jx_inner (jx_set (jx_new (jx_set (jx_new (jx_set (jx_new (jx_set (jx_new (jx_set (jx_inner (jx_set (jx_new (jx_set (jx_new h ((8 : Int32)).toNatClampNeg (jx_arr 0 ((8 : Int32)).toNatClampNeg)) a0 e1) ((25 : Int32)).toNatClampNeg (jx_arr 0 ((25 : Int32)).toNatClampNeg)) a0 e2) ((41 : Int32)).toNatClampNeg ((25 : Int32)).toNatClampNeg) a0 e3) ((240 : Int32)).toNatClampNeg (jx_arr 0 ((240 : Int32)).toNatClampNeg)) a0 e4) ((4096 : Int32)).toNatClampNeg (jx_arr 1 ((4096 : Int32)).toNatClampNeg)) a0 e5) ((4096 : Int32)).toNatClampNeg (jx_arr 1 ((4096 : Int32)).toNatClampNeg)) a0 e6) ((13 : Int32)).toNatClampNeg (jx_arr 1 ((13 : Int32)).toNatClampNeg)) a0 e7) ((12 : Int32)).toNatClampNeg ((12 : Int32)).toNatClampNeg) a0 e8) ((120 : Int32)).toNatClampNeg (jx_arr 0 ((120 : Int32)).toNatClampNeg)) a0 e9) ((25 : Int32)).toNatClampNeg (jx_arr 0 ((25 : Int32)).toNatClampNeg)) a0 e10) ((12 : Int32)).toNatClampNeg (jx_arr 0 ((12 : Int32)).toNatClampNeg)) a0 e11) ((12 : Int32)).toNatClampNeg ((64 : Int32)).toNatClampNeg) a0 e12) ((12 : Int32)).toNatClampNeg (jx_arr 0 ((12 : Int32)).toNatClampNeg)) a0 e13) ((12 : Int32)).toNatClampNeg ((64 : Int32)).toNatClampNeg) a0 e14) ((12 : Int32)).toNatClampNeg (jx_arr 0 ((12 : Int32)).toNatClampNeg)) a0 e15) ((64 : Int32)).toNatClampNeg (jx_arr 0 ((64 : Int32)).toNatClampNeg)) a0 e16).1)).bind fun e17 =>
  if (4 : Int32) < 0 ∨ 5000 < (4 : Int32) then none else
  (jx_pF (jx_at (jx_new (jx_set (jx_inner (jx_set (jx_new (jx_set (jx_new (jx_set (jx_inner (jx_set (jx_new (jx_set (jx_inner (jx_set (jx_new (jx_set (jx_new (jx_set (jx_new (jx_set (jx_inner (jx_set (jx_new (jx_set (jx_new (jx_set (jx_new (jx_set (jx_new (jx_set (jx_inner (jx_set (jx_new (jx_set (jx_new h ((8 : Int32)).toNatClampNeg (jx_arr 0 ((8 : Int32)).toNatClampNeg)) a0 e1) ((25 : Int32)).toNatClampNeg (jx_arr 0 ((25 : Int32)).toNatClampNeg)) a0 e2) ((41 : Int32)).toNatClampNeg ((25 : Int32)).toNatClampNeg) a0 e3) ((240 : Int32)).toNatClampNeg (jx_arr 0 ((240 : Int32)).toNatClampNeg)) a0 e4) ((4096 : Int32)).toNatClampNeg (jx_arr 1 ((4096 : Int32)).toNatClampNeg)) a0 e5) ((4096 : Int32)).toNatClampNeg (jx_arr 1 ((4096 : Int32)).toNatClampNeg)) a0 e6) ((13 : Int32)).toNatClampNeg (jx_arr 1 ((13 : Int32)).toNatClampNeg)) a0 e7) ((12 : Int32)).toNatClampNeg ((12 : Int32)).toNatClampNeg) a0 e8) ((120 : Int32)).toNatClampNeg (jx_arr 0 ((120 : Int32)).toNatClampNeg)) a0 e9) ((25 : Int32)).toNatClampNeg (jx_arr 0 ((25 : Int32)).toNatClampNeg)) a0 e10) ((12 : Int32)).toNatClampNeg (jx_arr 0 ((12 : Int32)).toNatClampNeg)) a0 e11) ((12 : Int32)).toNatClampNeg ((64 : Int32)).toNatClampNeg) a0 e12) ((12 : Int32)).toNatClampNeg (jx_arr 0 ((12 : Int32)).toNatClampNeg)) a0 e13) ((12 : Int32)).toNatClampNeg ((64 : Int32)).toNatClampNeg) a0 e14) ((12 : Int32)).toNatClampNeg (jx_arr 0 ((12 : Int32)).toNatClampNeg)) a0 e15) ((64 : Int32)).toNatClampNeg (jx_arr 0 ((64 : Int32)).toNatClampNeg)) a0 e16) ((4 : Int32)).toNatClampNeg ((25 : Int32)).toNatClampNeg) a0 e17) ((4 : Int32)).toNatClampNeg (jx_arr 3 ((4 : Int32)).toNatClampNeg)) a0) 12 23 (.ref (jx_set (jx_inner (jx_set (jx_new (jx_set (jx_new (jx_set (jx_inner (jx_set (jx_new (jx_set (jx_inner (jx_set (jx_new (jx_set (jx_new (jx_set (jx_new (jx_set (jx_inner (jx_set (jx_new (jx_set (jx_new (jx_set (jx_new (jx_set (jx_new (jx_set (jx_inner (jx_set (jx_new (jx_set (jx_new h ((8 : Int32)).toNatClampNeg (jx_arr 0 ((8 : Int32)).toNatClampNeg)) a0 e1) ((25 : Int32)).toNatClampNeg (jx_arr 0 ((25 : Int32)).toNatClampNeg)) a0 e2) ((41 : Int32)).toNatClampNeg ((25 : Int32)).toNatClampNeg) a0 e3) ((240 : Int32)).toNatClampNeg (jx_arr 0 ((240 : Int32)).toNatClampNeg)) a0 e4) ((4096 : Int32)).toNatClampNeg (jx_arr 1 ((4096 : Int32)).toNatClampNeg)) a0 e5) ((4096 : Int32)).toNatClampNeg (jx_arr 1 ((4096 : Int32)).toNatClampNeg)) a0 e6) ((13 : Int32)).toNatClampNeg (jx_arr 1 ((13 : Int32)).toNatClampNeg)) a0 e7) ((12 : Int32)).toNatClampNeg ((12 : Int32)).toNatClampNeg) a0 e8) ((120 : Int32)).toNatClampNeg (jx_arr 0 ((120 : Int32)).toNatClampNeg)) a0 e9) ((25 : Int32)).toNatClampNeg (jx_arr 0 ((25 : Int32)).toNatClampNeg)) a0 e10) ((12 : Int32)).toNatClampNeg (jx_arr 0 ((12 : Int32)).toNatClampNeg)) a0 e11) ((12 : Int32)).toNatClampNeg ((64 : Int32)).toNatClampNeg) a0 e12) ((12 : Int32)).toNatClampNeg (jx_arr 0 ((12 : Int32)).toNatClampNeg)) a0 e13) ((12 : Int32)).toNatClampNeg ((64 : Int32)).toNatClampNeg) a0 e14) ((12 : Int32)).toNatClampNeg (jx_arr 0 ((12 : Int32)).toNatClampNeg)) a0 e15) ((64 : Int32)).toNatClampNeg (jx_arr 0 ((64 : Int32)).toNatClampNeg)) a0 e16) ((4 : Int32)).toNatClampNeg ((25 : Int32)).toNatClampNeg) a0 e17).1)).bind fun e18 =>
  if (64 : Int32) < 0 ∨ 5000 < (64 : Int32) then none else
  (jx_pF (jx_at (jx_new (jx_set (jx_new (jx_set (jx_inner (jx_set (jx_new (jx_set (jx_new (jx_set (jx_inner (jx_set (jx_new (jx_set (jx_inner (jx_set (jx_new (jx_set (jx_new (jx_set (jx_new (jx_set (jx_inner (jx_set (jx_new (jx_set (jx_new (jx_set (jx_new (jx_set (jx_new (jx_set (jx_inner (jx_set (jx_new (jx_set (jx_new h ((8 : Int32)).toNatClampNeg (jx_arr 0 ((8 : Int32)).toNatClampNeg)) a0 e1) ((25 : Int32)).toNatClampNeg (jx_arr 0 ((25 : Int32)).toNatClampNeg)) a0 e2) ((41 : Int32)).toNatClampNeg ((25 : Int32)).toNatClampNeg) a0 e3) ((240 : Int32)).toNatClampNeg (jx_arr 0 ((240 : Int32)).toNatClampNeg)) a0 e4) ((4096 : Int32)).toNatClampNeg (jx_arr 1 ((4096 : Int32)).toNatClampNeg)) a0 e5) ((4096 : Int32)).toNatClampNeg (jx_arr 1 ((4096 : Int32)).toNatClampNeg)) a0 e6) ((13 : Int32)).toNatClampNeg (jx_arr 1 ((13 : Int32)).toNatClampNeg)) a0 e7) ((12 : Int32)).toNatClampNeg ((12 : Int32)).toNatClampNeg) a0 e8) ((120 : Int32)).toNatClampNeg (jx_arr 0 ((120 : Int32)).toNatClampNeg)) a0 e9) ((25 : Int32)).toNatClampNeg (jx_arr 0 ((25 : Int32)).toNatClampNeg)) a0 e10) ((12 : Int32)).toNatClampNeg (jx_arr 0 ((12 : Int32)).toNatClampNeg)) a0 e11) ((12 : Int32)).toNatClampNeg ((64 : Int32)).toNatClampNeg) a0 e12) ((12 : Int32)).toNatClampNeg (jx_arr 0 ((12 : Int32)).toNatClampNeg)) a0 e13) ((12 : Int32)).toNatClampNeg ((64 : Int32)).toNatClampNeg) a0 e14) ((12 : Int32)).toNatClampNeg (jx_arr 0 ((12 : Int32)).toNatClampNeg)) a0 e15) ((64 : Int32)).toNatClampNeg (jx_arr 0 ((64 : Int32)).toNatClampNeg)) a0 e16) ((4 : Int32)).toNatClampNeg ((25 : Int32)).toNatClampNeg) a0 e17) ((4 : Int32)).toNatClampNeg (jx_arr 3 ((4 : Int32)).toNatClampNeg)) a0 e18) ((64 : Int32)).toNatClampNeg (jx_arr 0 ((64 : Int32)).toNatClampNeg)) a0) 12 24 (.ref (jx_set (jx_new (jx_set (jx_inner (jx_set (jx_new (jx_set (jx_new (jx_set (jx_inner (jx_set (jx_new (jx_set (jx_inner (jx_set (jx_new (jx_set (jx_new (jx_set (jx_new (jx_set (jx_inner (jx_set (jx_new (jx_set (jx_new (jx_set (jx_new (jx_set (jx_new (jx_set (jx_inner (jx_set (jx_new (jx_set (jx_new h ((8 : Int32)).toNatClampNeg (jx_arr 0 ((8 : Int32)).toNatClampNeg)) a0 e1) ((25 : Int32)).toNatClampNeg (jx_arr 0 ((25 : Int32)).toNatClampNeg)) a0 e2) ((41 : Int32)).toNatClampNeg ((25 : Int32)).toNatClampNeg) a0 e3) ((240 : Int32)).toNatClampNeg (jx_arr 0 ((240 : Int32)).toNatClampNeg)) a0 e4) ((4096 : Int32)).toNatClampNeg (jx_arr 1 ((4096 : Int32)).toNatClampNeg)) a0 e5) ((4096 : Int32)).toNatClampNeg (jx_arr 1 ((4096 : Int32)).toNatClampNeg)) a0 e6) ((13 : Int32)).toNatClampNeg (jx_arr 1 ((13 : Int32)).toNatClampNeg)) a0 e7) ((12 : Int32)).toNatClampNeg ((12 : Int32)).toNatClampNeg) a0 e8) ((120 : Int32)).toNatClampNeg (jx_arr 0 ((120 : Int32)).toNatClampNeg)) a0 e9) ((25 : Int32)).toNatClampNeg (jx_arr 0 ((25 : Int32)).toNatClampNeg)) a0 e10) ((12 : Int32)).toNatClampNeg (jx_arr 0 ((12 : Int32)).toNatClampNeg)) a0 e11) ((12 : Int32)).toNatClampNeg ((64 : Int32)).toNatClampNeg) a0 e12) ((12 : Int32)).toNatClampNeg (jx_arr 0 ((12 : Int32)).toNatClampNeg)) a0 e13) ((12 : Int32)).toNatClampNeg ((64 : Int32)).toNatClampNeg) a0 e14) ((12 : Int32)).toNatClampNeg (jx_arr 0 ((12 : Int32)).toNatClampNeg)) a0 e15) ((64 : Int32)).toNatClampNeg (jx_arr 0 ((64 : Int32)).toNatClampNeg)) a0 e16) ((4 : Int32)).toNatClampNeg ((25 : Int32)).toNatClampNeg) a0 e17) ((4 : Int32)).toNatClampNeg (jx_arr 3 ((4 : Int32)).toNatClampNeg)) a0 e18).1)).bind fun e19 =>
  if (18 : Int32) < 0 ∨ 5000 < (18 : Int32) then none else
  (jx_pF (jx_at (jx_new (jx_set (jx_new (jx_set (jx_new (jx_set (jx_inner (jx_set (jx_new (jx_set (jx_new (jx_set (jx_inner (jx_set (jx_new (jx_set (jx_inner (jx_set (jx_new (jx_set (jx_new (jx_set (jx_new (jx_set (jx_inner (jx_set (jx_new (jx_set (jx_new (jx_set (jx_new (jx_set (jx_new (jx_set (jx_inner (jx_set (jx_new (jx_set (jx_new h ((8 : Int32)).toNatClampNeg (jx_arr 0 ((8 : Int32)).toNatClampNeg)) a0 e1) ((25 : Int32)).toNatClampNeg (jx_arr 0 ((25 : Int32)).toNatClampNeg)) a0 e2) ((41 : Int32)).toNatClampNeg ((25 : Int32)).toNatClampNeg) a0 e3) ((240 : Int32)).toNatClampNeg (jx_arr 0 ((240 : Int32)).toNatClampNeg)) a0 e4) ((4096 : Int32)).toNatClampNeg (jx_arr 1 ((4096 : Int32)).toNatClampNeg)) a0 e5) ((4096 : Int32)).toNatClampNeg (jx_arr 1 ((4096 : Int32)).toNatClampNeg)) a0 e6) ((13 : Int32)).toNatClampNeg (jx_arr 1 ((13 : Int32)).toNatClampNeg)) a0 e7) ((12 : Int32)).toNatClampNeg ((12 : Int32)).toNatClampNeg) a0 e8) ((120 : Int32)).toNatClampNeg (jx_arr 0 ((120 : Int32)).toNatClampNeg)) a0 e9) ((25 : Int32)).toNatClampNeg (jx_arr 0 ((25 : Int32)).toNatClampNeg)) a0 e10) ((12 : Int32)).toNatClampNeg (jx_arr 0 ((12 : Int32)).toNatClampNeg)) a0 e11) ((12 : Int32)).toNatClampNeg ((64 : Int32)).toNatClampNeg) a0 e12) ((12 : Int32)).toNatClampNeg (jx_arr 0 ((12 : Int32)).toNatClampNeg)) a0 e13) ((12 : Int32)).toNatClampNeg ((64 : Int32)).toNatClampNeg) a0 e14) ((12 : Int32)).toNatClampNeg (jx_arr 0 ((12 : Int32)).toNatClampNeg)) a0 e15) ((64 : Int32)).toNatClampNeg (jx_arr 0 ((64 : Int32)).toNatClampNeg)) a0 e16) ((4 : Int32)).toNatClampNeg ((25 : Int32)).toNatClampNeg) a0 e17) ((4 : Int32)).toNatClampNeg (jx_arr 3 ((4 : Int32)).toNatClampNeg)) a0 e18) ((64 : Int32)).toNatClampNeg (jx_arr 0 ((64 : Int32)).toNatClampNeg)) a0 e19) ((18 : Int32)).toNatClampNeg (jx_arr 0 ((18 : Int32)).toNatClampNeg)) a0) 12 26 (.ref (jx_set (jx_new (jx_set (jx_new (jx_set (jx_inner (jx_set (jx_new (jx_set (jx_new (jx_set (jx_inner (jx_set (jx_new (jx_set (jx_inner (jx_set (jx_new (jx_set (jx_new (jx_set (jx_new (jx_set (jx_inner (jx_set (jx_new (jx_set (jx_new (jx_set (jx_new (jx_set (jx_new (jx_set (jx_inner (jx_set (jx_new (jx_set (jx_new h ((8 : Int32)).toNatClampNeg (jx_arr 0 ((8 : Int32)).toNatClampNeg)) a0 e1) ((25 : Int32)).toNatClampNeg (jx_arr 0 ((25 : Int32)).toNatClampNeg)) a0 e2) ((41 : Int32)).toNatClampNeg ((25 : Int32)).toNatClampNeg) a0 e3) ((240 : Int32)).toNatClampNeg (jx_arr 0 ((240 : Int32)).toNatClampNeg)) a0 e4) ((4096 : Int32)).toNatClampNeg (jx_arr 1 ((4096 : Int32)).toNatClampNeg)) a0 e5) ((4096 : Int32)).toNatClampNeg (jx_arr 1 ((4096 : Int32)).toNatClampNeg)) a0 e6) ((13 : Int32)).toNatClampNeg (jx_arr 1 ((13 : Int32)).toNatClampNeg)) a0 e7) ((12 : Int32)).toNatClampNeg ((12 : Int32)).toNatClampNeg) a0 e8) ((120 : Int32)).toNatClampNeg (jx_arr 0 ((120 : Int32)).toNatClampNeg)) a0 e9) ((25 : Int32)).toNatClampNeg (jx_arr 0 ((25 : Int32)).toNatClampNeg)) a0 e10) ((12 : Int32)).toNatClampNeg (jx_arr 0 ((12 : Int32)).toNatClampNeg)) a0 e11) ((12 : Int32)).toNatClampNeg ((64 : Int32)).toNatClampNeg) a0 e12) ((12 : Int32)).toNatClampNeg (jx_arr 0 ((12 : Int32)).toNatClampNeg)) a0 e13) ((12 : Int32)).toNatClampNeg ((64 : Int32)).toNatClampNeg) a0 e14) ((12 : Int32)).toNatClampNeg (jx_arr 0 ((12 : Int32)).toNatClampNeg)) a0 e15) ((64 : Int32)).toNatClampNeg (jx_arr 0 ((64 : Int32)).toNatClampNeg)) a0 e16) ((4 : Int32)).toNatClampNeg ((25 : Int32)).toNatClampNeg) a0 e17) ((4 : Int32)).toNatClampNeg (jx_arr 3 ((4 : Int32)).toNatClampNeg)) a0 e18) ((64 : Int32)).toNatClampNeg (jx_arr 0 ((64 : Int32)).toNatClampNeg)) a0 e19).1)).bind fun e20 =>
  if (6 : Int32) < 0 ∨ 5000 < (6 : Int32) ∨ (25 : Int32) < 0 ∨ 5000 < (25 : Int32) then none else
  (jx_pF (jx_at (jx_inner (jx_set (jx_new (jx_set (jx_new (jx_set (jx_new (jx_set (jx_inner (jx_set (jx_new (jx_set (jx_new (jx_set (jx_inner (jx_set (jx_new (jx_set (jx_inner (jx_set (jx_new (jx_set (jx_new (jx_set (jx_new (jx_set (jx_inner (jx_set (jx_new (jx_set (jx_new (jx_set (jx_new (jx_set (jx_new (jx_set (jx_inner (jx_set (jx_new (jx_set (jx_new h ((8 : Int32)).toNatClampNeg (jx_arr 0 ((8 : Int32)).toNatClampNeg)) a0 e1) ((25 : Int32)).toNatClampNeg (jx_arr 0 ((25 : Int32)).toNatClampNeg)) a0 e2) ((41 : Int32)).toNatClampNeg ((25 : Int32)).toNatClampNeg) a0 e3) ((240 : Int32)).toNatClampNeg (jx_arr 0 ((240 : Int32)).toNatClampNeg)) a0 e4) ((4096 : Int32)).toNatClampNeg (jx_arr 1 ((4096 : Int32)).toNatClampNeg)) a0 e5) ((4096 : Int32)).toNatClampNeg (jx_arr 1 ((4096 : Int32)).toNatClampNeg)) a0 e6) ((13 : Int32)).toNatClampNeg (jx_arr 1 ((13 : Int32)).toNatClampNeg)) a0 e7) ((12 : Int32)).toNatClampNeg ((12 : Int32)).toNatClampNeg) a0 e8) ((120 : Int32)).toNatClampNeg (jx_arr 0 ((120 : Int32)).toNatClampNeg)) a0 e9) ((25 : Int32)).toNatClampNeg (jx_arr 0 ((25 : Int32)).toNatClampNeg)) a0 e10) ((12 : Int32)).toNatClampNeg (jx_arr 0 ((12 : Int32)).toNatClampNeg)) a0 e11) ((12 : Int32)).toNatClampNeg ((64 : Int32)).toNatClampNeg) a0 e12) ((12 : Int32)).toNatClampNeg (jx_arr 0 ((12 : Int32)).toNatClampNeg)) a0 e13) ((12 : Int32)).toNatClampNeg ((64 : Int32)).toNatClampNeg) a0 e14) ((12 : Int32)).toNatClampNeg (jx_arr 0 ((12 : Int32)).toNatClampNeg)) a0 e15) ((64 : Int32)).toNatClampNeg (jx_arr 0 ((64 : Int32)).toNatClampNeg)) a0 e16) ((4 : Int32)).toNatClampNeg ((25 : Int32)).toNatClampNeg) a0 e17) ((4 : Int32)).toNatClampNeg (jx_arr 3 ((4 : Int32)).toNatClampNeg)) a0 e18) ((64 : Int32)).toNatClampNeg (jx_arr 0 ((64 : Int32)).toNatClampNeg)) a0 e19) ((18 : Int32)).toNatClampNeg (jx_arr 0 ((18 : Int32)).toNatClampNeg)) a0 e20) ((6 : Int32)).toNatClampNeg ((25 : Int32)).toNatClampNeg) a0) 12 28 (.ref (jx_set (jx_new (jx_set (jx_new (jx_set (jx_new (jx_set (jx_inner (jx_set (jx_new (jx_set (jx_new (jx_set (jx_inner (jx_set (jx_new (jx_set (jx_inner (jx_set (jx_new (jx_set (jx_new (jx_set (jx_new (jx_set (jx_inner (jx_set (jx_new (jx_set (jx_new (jx_set (jx_new (jx_set (jx_new (jx_set (jx_inner (jx_set (jx_new (jx_set (jx_new h ((8 : Int32)).toNatClampNeg (jx_arr 0 ((8 : Int32)).toNatClampNeg)) a0 e1) ((25 : Int32)).toNatClampNeg (jx_arr 0 ((25 : Int32)).toNatClampNeg)) a0 e2) ((41 : Int32)).toNatClampNeg ((25 : Int32)).toNatClampNeg) a0 e3) ((240 : Int32)).toNatClampNeg (jx_arr 0 ((240 : Int32)).toNatClampNeg)) a0 e4) ((4096 : Int32)).toNatClampNeg (jx_arr 1 ((4096 : Int32)).toNatClampNeg)) a0 e5) ((4096 : Int32)).toNatClampNeg (jx_arr 1 ((4096 : Int32)).toNatClampNeg)) a0 e6) ((13 : Int32)).toNatClampNeg (jx_arr 1 ((13 : Int32)).toNatClampNeg)) a0 e7) ((12 : Int32)).toNatClampNeg ((12 : Int32)).toNatClampNeg) a0 e8) ((120 : Int32)).toNatClampNeg (jx_arr 0 ((120 : Int32)).toNatClampNeg)) a0 e9) ((25 : Int32)).toNatClampNeg (jx_arr 0 ((25 : Int32)).toNatClampNeg)) a0 e10) ((12 : Int32)).toNatClampNeg (jx_arr 0 ((12 : Int32)).toNatClampNeg)) a0 e11) ((12 : Int32)).toNatClampNeg ((64 : Int32)).toNatClampNeg) a0 e12) ((12 : Int32)).toNatClampNeg (jx_arr 0 ((12 : Int32)).toNatClampNeg)) a0 e13) ((12 : Int32)).toNatClampNeg ((64 : Int32)).toNatClampNeg) a0 e14) ((12 : Int32)).toNatClampNeg (jx_arr 0 ((12 : Int32)).toNatClampNeg)) a0 e15) ((64 : Int32)).toNatClampNeg (jx_arr 0 ((64 : Int32)).toNatClampNeg)) a0 e16) ((4 : Int32)).toNatClampNeg ((25 : Int32)).toNatClampNeg) a0 e17) ((4 : Int32)).toNatClampNeg (jx_arr 3 ((4 : Int32)).toNatClampNeg)) a0 e18) ((64 : Int32)).toNatClampNeg (jx_arr 0 ((64 : Int32)).toNatClampNeg)) a0 e19) ((18 : Int32)).toNatClampNeg (jx_arr 0 ((18 : Int32)).toNatClampNeg)) a0 e20).1)).bind fun e21 =>
  if (4 : Int32) < 0 ∨ 5000 < (4 : Int32) then none else
  (jx_pF (jx_at (jx_new (jx_set (jx_inner (jx_set (jx_new (jx_set (jx_new (jx_set (jx_new (jx_set (jx_inner (jx_set (jx_new (jx_set (jx_new (jx_set (jx_inner (jx_set (jx_new (jx_set (jx_inner (jx_set (jx_new (jx_set (jx_new (jx_set (jx_new (jx_set (jx_inner (jx_set (jx_new (jx_set (jx_new (jx_set (jx_new (jx_set (jx_new (jx_set (jx_inner (jx_set (jx_new (jx_set (jx_new h ((8 : Int32)).toNatClampNeg (jx_arr 0 ((8 : Int32)).toNatClampNeg)) a0 e1) ((25 : Int32)).toNatClampNeg (jx_arr 0 ((25 : Int32)).toNatClampNeg)) a0 e2) ((41 : Int32)).toNatClampNeg ((25 : Int32)).toNatClampNeg) a0 e3) ((240 : Int32)).toNatClampNeg (jx_arr 0 ((240 : Int32)).toNatClampNeg)) a0 e4) ((4096 : Int32)).toNatClampNeg (jx_arr 1 ((4096 : Int32)).toNatClampNeg)) a0 e5) ((4096 : Int32)).toNatClampNeg (jx_arr 1 ((4096 : Int32)).toNatClampNeg)) a0 e6) ((13 : Int32)).toNatClampNeg (jx_arr 1 ((13 : Int32)).toNatClampNeg)) a0 e7) ((12 : Int32)).toNatClampNeg ((12 : Int32)).toNatClampNeg) a0 e8) ((120 : Int32)).toNatClampNeg (jx_arr 0 ((120 : Int32)).toNatClampNeg)) a0 e9) ((25 : Int32)).toNatClampNeg (jx_arr 0 ((25 : Int32)).toNatClampNeg)) a0 e10) ((12 : Int32)).toNatClampNeg (jx_arr 0 ((12 : Int32)).toNatClampNeg)) a0 e11) ((12 : Int32)).toNatClampNeg ((64 : Int32)).toNatClampNeg) a0 e12) ((12 : Int32)).toNatClampNeg (jx_arr 0 ((12 : Int32)).toNatClampNeg)) a0 e13) ((12 : Int32)).toNatClampNeg ((64 : Int32)).toNatClampNeg) a0 e14) ((12 : Int32)).toNatClampNeg (jx_arr 0 ((12 : Int32)).toNatClampNeg)) a0 e15) ((64 : Int32)).toNatClampNeg (jx_arr 0 ((64 : Int32)).toNatClampNeg)) a0 e16) ((4 : Int32)).toNatClampNeg ((25 : Int32)).toNatClampNeg) a0 e17) ((4 : Int32)).toNatClampNeg (jx_arr 3 ((4 : Int32)).toNatClampNeg)) a0 e18) ((64 : Int32)).toNatClampNeg (jx_arr 0 ((64 : Int32)).toNatClampNeg)) a0 e19) ((18 : Int32)).toNatClampNeg (jx_arr 0 ((18 : Int32)).toNatClampNeg)) a0 e20) ((6 : Int32)).toNatClampNeg ((25 : Int32)).toNatClampNeg) a0 e21) ((4 : Int32)).toNatClampNeg (jx_arr 0 ((4 : Int32)).toNatClampNeg)) a0) 12 32 (.ref (jx_set (jx_inner (jx_set (jx_new (jx_set (jx_new (jx_set (jx_new (jx_set (jx_inner (jx_set (jx_new (jx_set (jx_new (jx_set (jx_inner (jx_set (jx_new (jx_set (jx_inner (jx_set (jx_new (jx_set (jx_new (jx_set (jx_new (jx_set (jx_inner (jx_set (jx_new (jx_set (jx_new (jx_set (jx_new (jx_set (jx_new (jx_set (jx_inner (jx_set (jx_new (jx_set (jx_new h ((8 : Int32)).toNatClampNeg (jx_arr 0 ((8 : Int32)).toNatClampNeg)) a0 e1) ((25 : Int32)).toNatClampNeg (jx_arr 0 ((25 : Int32)).toNatClampNeg)) a0 e2) ((41 : Int32)).toNatClampNeg ((25 : Int32)).toNatClampNeg) a0 e3) ((240 : Int32)).toNatClampNeg (jx_arr 0 ((240 : Int32)).toNatClampNeg)) a0 e4) ((4096 : Int32)).toNatClampNeg (jx_arr 1 ((4096 : Int32)).toNatClampNeg)) a0 e5) ((4096 : Int32)).toNatClampNeg (jx_arr 1 ((4096 : Int32)).toNatClampNeg)) a0 e6) ((13 : Int32)).toNatClampNeg (jx_arr 1 ((13 : Int32)).toNatClampNeg)) a0 e7) ((12 : Int32)).toNatClampNeg ((12 : Int32)).toNatClampNeg) a0 e8) ((120 : Int32)).toNatClampNeg (jx_arr 0 ((120 : Int32)).toNatClampNeg)) a0 e9) ((25 : Int32)).toNatClampNeg (jx_arr 0 ((25 : Int32)).toNatClampNeg)) a0 e10) ((12 : Int32)).toNatClampNeg (jx_arr 0 ((12 : Int32)).toNatClampNeg)) a0 e11) ((12 : Int32)).toNatClampNeg ((64 : Int32)).toNatClampNeg) a0 e12) ((12 : Int32)).toNatClampNeg (jx_arr 0 ((12 : Int32)).toNatClampNeg)) a0 e13) ((12 : Int32)).toNatClampNeg ((64 : Int32)).toNatClampNeg) a0 e14) ((12 : Int32)).toNatClampNeg (jx_arr 0 ((12 : Int32)).toNatClampNeg)) a0 e15) ((64 : Int32)).toNatClampNeg (jx_arr 0 ((64 : Int32)).toNatClampNeg)) a0 e16) ((4 : Int32)).toNatClampNeg ((25 : Int32)).toNatClampNeg) a0 e17) ((4 : Int32)).toNatClampNeg (jx_arr 3 ((4 : Int32)).toNatClampNeg)) a0 e18) ((64 : Int32)).toNatClampNeg (jx_arr 0 ((64 : Int32)).toNatClampNeg)) a0 e19) ((18 : Int32)).toNatClampNeg (jx_arr 0 ((18 : Int32)).toNatClampNeg)) a0 e20) ((6 : Int32)).toNatClampNeg ((25 : Int32)).toNatClampNeg) a0 e21).1)).bind fun e22 =>
  if (4 : Int32) < 0 ∨ 5000 < (4 : Int32) then none else
  (jx_pF (jx_at (jx_new (jx_set (jx_new (jx_set (jx_inner (jx_set (jx_new (jx_set (jx_new (jx_set (jx_new (jx_set (jx_inner (jx_set (jx_new (jx_set (jx_new (jx_set (jx_inner (jx_set (jx_new (jx_set (jx_inner (jx_set (jx_new (jx_set (jx_new (jx_set (jx_new (jx_set (jx_inner (jx_set (jx_new (jx_set (jx_new (jx_set (jx_new (jx_set (jx_new (jx_set (jx_inner (jx_set (jx_new (jx_set (jx_new h ((8 : Int32)).toNatClampNeg (jx_arr 0 ((8 : Int32)).toNatClampNeg)) a0 e1) ((25 : Int32)).toNatClampNeg (jx_arr 0 ((25 : Int32)).toNatClampNeg)) a0 e2) ((41 : Int32)).toNatClampNeg ((25 : Int32)).toNatClampNeg) a0 e3) ((240 : Int32)).toNatClampNeg (jx_arr 0 ((240 : Int32)).toNatClampNeg)) a0 e4) ((4096 : Int32)).toNatClampNeg (jx_arr 1 ((4096 : Int32)).toNatClampNeg)) a0 e5) ((4096 : Int32)).toNatClampNeg (jx_arr 1 ((4096 : Int32)).toNatClampNeg)) a0 e6) ((13 : Int32)).toNatClampNeg (jx_arr 1 ((13 : Int32)).toNatClampNeg)) a0 e7) ((12 : Int32)).toNatClampNeg ((12 : Int32)).toNatClampNeg) a0 e8) ((120 : Int32)).toNatClampNeg (jx_arr 0 ((120 : Int32)).toNatClampNeg)) a0 e9) ((25 : Int32)).toNatClampNeg (jx_arr 0 ((25 : Int32)).toNatClampNeg)) a0 e10) ((12 : Int32)).toNatClampNeg (jx_arr 0 ((12 : Int32)).toNatClampNeg)) a0 e11) ((12 : Int32)).toNatClampNeg ((64 : Int32)).toNatClampNeg) a0 e12) ((12 : Int32)).toNatClampNeg (jx_arr 0 ((12 : Int32)).toNatClampNeg)) a0 e13) ((12 : Int32)).toNatClampNeg ((64 : Int32)).toNatClampNeg) a0 e14) ((12 : Int32)).toNatClampNeg (jx_arr 0 ((12 : Int32)).toNatClampNeg)) a0 e15) ((64 : Int32)).toNatClampNeg (jx_arr 0 ((64 : Int32)).toNatClampNeg)) a0 e16) ((4 : Int32)).toNatClampNeg ((25 : Int32)).toNatClampNeg) a0 e17) ((4 : Int32)).toNatClampNeg (jx_arr 3 ((4 : Int32)).toNatClampNeg)) a0 e18) ((64 : Int32)).toNatClampNeg (jx_arr 0 ((64 : Int32)).toNatClampNeg)) a0 e19) ((18 : Int32)).toNatClampNeg (jx_arr 0 ((18 : Int32)).toNatClampNeg)) a0 e20) ((6 : Int32)).toNatClampNeg ((25 : Int32)).toNatClampNeg) a0 e21) ((4 : Int32)).toNatClampNeg (jx_arr 0 ((4 : Int32)).toNatClampNeg)) a0 e22) ((4 : Int32)).toNatClampNeg (jx_arr 0 ((4 : Int32)).toNatClampNeg)) a0) 12 33 (.ref (jx_set (jx_new (jx_set (jx_inner (jx_set (jx_new (jx_set (jx_new (jx_set (jx_new (jx_set (jx_inner (jx_set (jx_new (jx_set (jx_new (jx_set (jx_inner (jx_set (jx_new (jx_set (jx_inner (jx_set (jx_new (jx_set (jx_new (jx_set (jx_new (jx_set (jx_inner (jx_set (jx_new (jx_set (jx_new (jx_set (jx_new (jx_set (jx_new (jx_set (jx_inner (jx_set (jx_new (jx_set (jx_new h ((8 : Int32)).toNatClampNeg (jx_arr 0 ((8 : Int32)).toNatClampNeg)) a0 e1) ((25 : Int32)).toNatClampNeg (jx_arr 0 ((25 : Int32)).toNatClampNeg)) a0 e2) ((41 : Int32)).toNatClampNeg ((25 : Int32)).toNatClampNeg) a0 e3) ((240 : Int32)).toNatClampNeg (jx_arr 0 ((240 : Int32)).toNatClampNeg)) a0 e4) ((4096 : Int32)).toNatClampNeg (jx_arr 1 ((4096 : Int32)).toNatClampNeg)) a0 e5) ((4096 : Int32)).toNatClampNeg (jx_arr 1 ((4096 : Int32)).toNatClampNeg)) a0 e6) ((13 : Int32)).toNatClampNeg (jx_arr 1 ((13 : Int32)).toNatClampNeg)) a0 e7) ((12 : Int32)).toNatClampNeg ((12 : Int32)).toNatClampNeg) a0 e8) ((120 : Int32)).toNatClampNeg (jx_arr 0 ((120 : Int32)).toNatClampNeg)) a0 e9) ((25 : Int32)).toNatClampNeg (jx_arr 0 ((25 : Int32)).toNatClampNeg)) a0 e10) ((12 : Int32)).toNatClampNeg (jx_arr 0 ((12 : Int32)).toNatClampNeg)) a0 e11) ((12 : Int32)).toNatClampNeg ((64 : Int32)).toNatClampNeg) a0 e12) ((12 : Int32)).toNatClampNeg (jx_arr 0 ((12 : Int32)).toNatClampNeg)) a0 e13) ((12 : Int32)).toNatClampNeg ((64 : Int32)).toNatClampNeg) a0 e14) ((12 : Int32)).toNatClampNeg (jx_arr 0 ((12 : Int32)).toNatClampNeg)) a0 e15) ((64 : Int32)).toNatClampNeg (jx_arr 0 ((64 : Int32)).toNatClampNeg)) a0 e16) ((4 : Int32)).toNatClampNeg ((25 : Int32)).toNatClampNeg) a0 e17) ((4 : Int32)).toNatClampNeg (jx_arr 3 ((4 : Int32)).toNatClampNeg)) a0 e18) ((64 : Int32)).toNatClampNeg (jx_arr 0 ((64 : Int32)).toNatClampNeg)) a0 e19) ((18 : Int32)).toNatClampNeg (jx_arr 0 ((18 : Int32)).toNatClampNeg)) a0 e20) ((6 : Int32)).toNatClampNeg ((25 : Int32)).toNatClampNeg) a0 e21) ((4 : Int32)).toNatClampNeg (jx_arr 0 ((4 : Int32)).toNatClampNeg)) a0 e22).1)).bind fun e23 =>
  if (96 : Int32) < 0 ∨ 5000 < (96 : Int32) then none else
  (jx_pF (jx_at (jx_new (jx_set (jx_new (jx_set (jx_new (jx_set (jx_inner (jx_set (jx_new (jx_set (jx_new (jx_set (jx_new (jx_set (jx_inner (jx_set (jx_new (jx_set (jx_new (jx_set (jx_inner (jx_set (jx_new (jx_set (jx_inner (jx_set (jx_new (jx_set (jx_new (jx_set (jx_new (jx_set (jx_inner (jx_set (jx_new (jx_set (jx_new (jx_set (jx_new (jx_set (jx_new (jx_set (jx_inner (jx_set (jx_new (jx_set (jx_new h ((8 : Int32)).toNatClampNeg (jx_arr 0 ((8 : Int32)).toNatClampNeg)) a0 e1) ((25 : Int32)).toNatClampNeg (jx_arr 0 ((25 : Int32)).toNatClampNeg)) a0 e2) ((41 : Int32)).toNatClampNeg ((25 : Int32)).toNatClampNeg) a0 e3) ((240 : Int32)).toNatClampNeg (jx_arr 0 ((240 : Int32)).toNatClampNeg)) a0 e4) ((4096 : Int32)).toNatClampNeg (jx_arr 1 ((4096 : Int32)).toNatClampNeg)) a0 e5) ((4096 : Int32)).toNatClampNeg (jx_arr 1 ((4096 : Int32)).toNatClampNeg)) a0 e6) ((13 : Int32)).toNatClampNeg (jx_arr 1 ((13 : Int32)).toNatClampNeg)) a0 e7) ((12 : Int32)).toNatClampNeg ((12 : Int32)).toNatClampNeg) a0 e8) ((120 : Int32)).toNatClampNeg (jx_arr 0 ((120 : Int32)).toNatClampNeg)) a0 e9) ((25 : Int32)).toNatClampNeg (jx_arr 0 ((25 : Int32)).toNatClampNeg)) a0 e10) ((12 : Int32)).toNatClampNeg (jx_arr 0 ((12 : Int32)).toNatClampNeg)) a0 e11) ((12 : Int32)).toNatClampNeg ((64 : Int32)).toNatClampNeg) a0 e12) ((12 : Int32)).toNatClampNeg (jx_arr 0 ((12 : Int32)).toNatClampNeg)) a0 e13) ((12 : Int32)).toNatClampNeg ((64 : Int32)).toNatClampNeg) a0 e14) ((12 : Int32)).toNatClampNeg (jx_arr 0 ((12 : Int32)).toNatClampNeg)) a0 e15) ((64 : Int32)).toNatClampNeg (jx_arr 0 ((64 : Int32)).toNatClampNeg)) a0 e16) ((4 : Int32)).toNatClampNeg ((25 : Int32)).toNatClampNeg) a0 e17) ((4 : Int32)).toNatClampNeg (jx_arr 3 ((4 : Int32)).toNatClampNeg)) a0 e18) ((64 : Int32)).toNatClampNeg (jx_arr 0 ((64 : Int32)).toNatClampNeg)) a0 e19) ((18 : Int32)).toNatClampNeg (jx_arr 0 ((18 : Int32)).toNatClampNeg)) a0 e20) ((6 : Int32)).toNatClampNeg ((25 : Int32)).toNatClampNeg) a0 e21) ((4 : Int32)).toNatClampNeg (jx_arr 0 ((4 : Int32)).toNatClampNeg)) a0 e22) ((4 : Int32)).toNatClampNeg (jx_arr 0 ((4 : Int32)).toNatClampNeg)) a0 e23) ((96 : Int32)).toNatClampNeg (jx_arr 0 ((96 : Int32)).toNatClampNeg)) a0) 12 34 (.ref (jx_set (jx_new (jx_set (jx_new (jx_set (jx_inner (jx_set (jx_new (jx_set (jx_new (jx_set (jx_new (jx_set (jx_inner (jx_set (jx_new (jx_set (jx_new (jx_set (jx_inner (jx_set (jx_new (jx_set (jx_inner (jx_set (jx_new (jx_set (jx_new (jx_set (jx_new (jx_set (jx_inner (jx_set (jx_new (jx_set (jx_new (jx_set (jx_new (jx_set (jx_new (jx_set (jx_inner (jx_set (jx_new (jx_set (jx_new h ((8 : Int32)).toNatClampNeg (jx_arr 0 ((8 : Int32)).toNatClampNeg)) a0 e1) ((25 : Int32)).toNatClampNeg (jx_arr 0 ((25 : Int32)).toNatClampNeg)) a0 e2) ((41 : Int32)).toNatClampNeg ((25 : Int32)).toNatClampNeg) a0 e3) ((240 : Int32)).toNatClampNeg (jx_arr 0 ((240 : Int32)).toNatClampNeg)) a0 e4) ((4096 : Int32)).toNatClampNeg (jx_arr 1 ((4096 : Int32)).toNatClampNeg)) a0 e5) ((4096 : Int32)).toNatClampNeg (jx_arr 1 ((4096 : Int32)).toNatClampNeg)) a0 e6) ((13 : Int32)).toNatClampNeg (jx_arr 1 ((13 : Int32)).toNatClampNeg)) a0 e7) ((12 : Int32)).toNatClampNeg ((12 : Int32)).toNatClampNeg) a0 e8) ((120 : Int32)).toNatClampNeg (jx_arr 0 ((120 : Int32)).toNatClampNeg)) a0 e9) ((25 : Int32)).toNatClampNeg (jx_arr 0 ((25 : Int32)).toNatClampNeg)) a0 e10) ((12 : Int32)).toNatClampNeg (jx_arr 0 ((12 : Int32)).toNatClampNeg)) a0 e11) ((12 : Int32)).toNatClampNeg ((64 : Int32)).toNatClampNeg) a0 e12) ((12 : Int32)).toNatClampNeg (jx_arr 0 ((12 : Int32)).toNatClampNeg)) a0 e13) ((12 : Int32)).toNatClampNeg ((64 : Int32)).toNatClampNeg) a0 e14) ((12 : Int32)).toNatClampNeg (jx_arr 0 ((12 : Int32)).toNatClampNeg)) a0 e15) ((64 : Int32)).toNatClampNeg (jx_arr 0 ((64 : Int32)).toNatClampNeg)) a0 e16) ((4 : Int32)).toNatClampNeg ((25 : Int32)).toNatClampNeg) a0 e17) ((4 : Int32)).toNatClampNeg (jx_arr 3 ((4 : Int32)).toNatClampNeg)) a0 e18) ((64 : Int32)).toNatClampNeg (jx_arr 0 ((64 : Int32)).toNatClampNeg)) a0 e19) ((18 : Int32)).toNatClampNeg (jx_arr 0 ((18 : Int32)).toNatClampNeg)) a0 e20) ((6 : Int32)).toNatClampNeg ((25 : Int32)).toNatClampNeg) a0 e21) ((4 : Int32)).toNatClampNeg (jx_arr 0 ((4 : Int32)).toNatClampNeg)) a0 e22) ((4 : Int32)).toNatClampNeg (jx_arr 0 ((4 : Int32)).toNatClampNeg)) a0 e23).1)).bind fun e24 =>
  if (24 : Int32) < 0 ∨ 5000 < (24 : Int32) then none else
  (jx_pF (jx_at (jx_new (jx_set (jx_new (jx_set (jx_new (jx_set (jx_new (jx_set (jx_inner (jx_set (jx_new (jx_set (jx_new (jx_set (jx_new (jx_set (jx_inner (jx_set (jx_new (jx_set (jx_new (jx_set (jx_inner (jx_set (jx_new (jx_set (jx_inner (jx_set (jx_new (jx_set (jx_new (jx_set (jx_new (jx_set (jx_inner (jx_set (jx_new (jx_set (jx_new (jx_set (jx_new (jx_set (jx_new (jx_set (jx_inner (jx_set (jx_new (jx_set (jx_new h ((8 : Int32)).toNatClampNeg (jx_arr 0 ((8 : Int32)).toNatClampNeg)) a0 e1) ((25 : Int32)).toNatClampNeg (jx_arr 0 ((25 : Int32)).toNatClampNeg)) a0 e2) ((41 : Int32)).toNatClampNeg ((25 : Int32)).toNatClampNeg) a0 e3) ((240 : Int32)).toNatClampNeg (jx_arr 0 ((240 : Int32)).toNatClampNeg)) a0 e4) ((4096 : Int32)).toNatClampNeg (jx_arr 1 ((4096 : Int32)).toNatClampNeg)) a0 e5) ((4096 : Int32)).toNatClampNeg (jx_arr 1 ((4096 : Int32)).toNatClampNeg)) a0 e6) ((13 : Int32)).toNatClampNeg (jx_arr 1 ((13 : Int32)).toNatClampNeg)) a0 e7) ((12 : Int32)).toNatClampNeg ((12 : Int32)).toNatClampNeg) a0 e8) ((120 : Int32)).toNatClampNeg (jx_arr 0 ((120 : Int32)).toNatClampNeg)) a0 e9) ((25 : Int32)).toNatClampNeg (jx_arr 0 ((25 : Int32)).toNatClampNeg)) a0 e10) ((12 : Int32)).toNatClampNeg (jx_arr 0 ((12 : Int32)).toNatClampNeg)) a0 e11) ((12 : Int32)).toNatClampNeg ((64 : Int32)).toNatClampNeg) a0 e12) ((12 : Int32)).toNatClampNeg (jx_arr 0 ((12 : Int32)).toNatClampNeg)) a0 e13) ((12 : Int32)).toNatClampNeg ((64 : Int32)).toNatClampNeg) a0 e14) ((12 : Int32)).toNatClampNeg (jx_arr 0 ((12 : Int32)).toNatClampNeg)) a0 e15) ((64 : Int32)).toNatClampNeg (jx_arr 0 ((64 : Int32)).toNatClampNeg)) a0 e16) ((4 : Int32)).toNatClampNeg ((25 : Int32)).toNatClampNeg) a0 e17) ((4 : Int32)).toNatClampNeg (jx_arr 3 ((4 : Int32)).toNatClampNeg)) a0 e18) ((64 : Int32)).toNatClampNeg (jx_arr 0 ((64 : Int32)).toNatClampNeg)) a0 e19) ((18 : Int32)).toNatClampNeg (jx_arr 0 ((18 : Int32)).toNatClampNeg)) a0 e20) ((6 : Int32)).toNatClampNeg ((25 : Int32)).toNatClampNeg) a0 e21) ((4 : Int32)).toNatClampNeg (jx_arr 0 ((4 : Int32)).toNatClampNeg)) a0 e22) ((4 : Int32)).toNatClampNeg (jx_arr 0 ((4 : Int32)).toNatClampNeg)) a0 e23) ((96 : Int32)).toNatClampNeg (jx_arr 0 ((96 : Int32)).toNatClampNeg)) a0 e24) ((24 : Int32)).toNatClampNeg (jx_arr 0 ((24 : Int32)).toNatClampNeg)) a0) 12 35 (.ref (jx_set (jx_new (jx_set (jx_new (jx_set (jx_new (jx_set (jx_inner (jx_set (jx_new (jx_set (jx_new (jx_set (jx_new (jx_set (jx_inner (jx_set (jx_new (jx_set (jx_new (jx_set (jx_inner (jx_set (jx_new (jx_set (jx_inner (jx_set (jx_new (jx_set (jx_new (jx_set (jx_new (jx_set (jx_inner (jx_set (jx_new (jx_set (jx_new (jx_set (jx_new (jx_set (jx_new (jx_set (jx_inner (jx_set (jx_new (jx_set (jx_new h ((8 : Int32)).toNatClampNeg (jx_arr 0 ((8 : Int32)).toNatClampNeg)) a0 e1) ((25 : Int32)).toNatClampNeg (jx_arr 0 ((25 : Int32)).toNatClampNeg)) a0 e2) ((41 : Int32)).toNatClampNeg ((25 : Int32)).toNatClampNeg) a0 e3) ((240 : Int32)).toNatClampNeg (jx_arr 0 ((240 : Int32)).toNatClampNeg)) a0 e4) ((4096 : Int32)).toNatClampNeg (jx_arr 1 ((4096 : Int32)).toNatClampNeg)) a0 e5) ((4096 : Int32)).toNatClampNeg (jx_arr 1 ((4096 : Int32)).toNatClampNeg)) a0 e6) ((13 : Int32)).toNatClampNeg (jx_arr 1 ((13 : Int32)).toNatClampNeg)) a0 e7) ((12 : Int32)).toNatClampNeg ((12 : Int32)).toNatClampNeg) a0 e8) ((120 : Int32)).toNatClampNeg (jx_arr 0 ((120 : Int32)).toNatClampNeg)) a0 e9) ((25 : Int32)).toNatClampNeg (jx_arr 0 ((25 : Int32)).toNatClampNeg)) a0 e10) ((12 : Int32)).toNatClampNeg (jx_arr 0 ((12 : Int32)).toNatClampNeg)) a0 e11) ((12 : Int32)).toNatClampNeg ((64 : Int32)).toNatClampNeg) a0 e12) ((12 : Int32)).toNatClampNeg (jx_arr 0 ((12 : Int32)).toNatClampNeg)) a0 e13) ((12 : Int32)).toNatClampNeg ((64 : Int32)).toNatClampNeg) a0 e14) ((12 : Int32)).toNatClampNeg (jx_arr 0 ((12 : Int32)).toNatClampNeg)) a0 e15) ((64 : Int32)).toNatClampNeg (jx_arr 0 ((64 : Int32)).toNatClampNeg)) a0 e16) ((4 : Int32)).toNatClampNeg ((25 : Int32)).toNatClampNeg) a0 e17) ((4 : Int32)).toNatClampNeg (jx_arr 3 ((4 : Int32)).toNatClampNeg)) a0 e18) ((64 : Int32)).toNatClampNeg (jx_arr 0 ((64 : Int32)).toNatClampNeg)) a0 e19) ((18 : Int32)).toNatClampNeg (jx_arr 0 ((18 : Int32)).toNatClampNeg)) a0 e20) ((6 : Int32)).toNatClampNeg ((25 : Int32)).toNatClampNeg) a0 e21) ((4 : Int32)).toNatClampNeg (jx_arr 0 ((4 : Int32)).toNatClampNeg)) a0 e22) ((4 : Int32)).toNatClampNeg (jx_arr 0 ((4 : Int32)).toNatClampNeg)) a0 e23) ((96 : Int32)).toNatClampNeg (jx_arr 0 ((96 : Int32)).toNatClampNeg)) a0 e24).1)).bind fun e25 =>
  if (25 : Int32) < 0 ∨ 5000 < (25 : Int32) then none else
  (jx_pF (jx_at (jx_new (jx_set (jx_new (jx_set (jx_new (jx_set (jx_new (jx_set (jx_new (jx_set (jx_inner (jx_set (jx_new (jx_set (jx_new (jx_set (jx_new (jx_set (jx_inner (jx_set (jx_new (jx_set (jx_new (jx_set (jx_inner (jx_set (jx_new (jx_set (jx_inner (jx_set (jx_new (jx_set (jx_new (jx_set (jx_new (jx_set (jx_inner (jx_set (jx_new (jx_set (jx_new (jx_set (jx_new (jx_set (jx_new (jx_set (jx_inner (jx_set (jx_new (jx_set (jx_new h ((8 : Int32)).toNatClampNeg (jx_arr 0 ((8 : Int32)).toNatClampNeg)) a0 e1) ((25 : Int32)).toNatClampNeg (jx_arr 0 ((25 : Int32)).toNatClampNeg)) a0 e2) ((41 : Int32)).toNatClampNeg ((25 : Int32)).toNatClampNeg) a0 e3) ((240 : Int32)).toNatClampNeg (jx_arr 0 ((240 : Int32)).toNatClampNeg)) a0 e4) ((4096 : Int32)).toNatClampNeg (jx_arr 1 ((4096 : Int32)).toNatClampNeg)) a0 e5) ((4096 : Int32)).toNatClampNeg (jx_arr 1 ((4096 : Int32)).toNatClampNeg)) a0 e6) ((13 : Int32)).toNatClampNeg (jx_arr 1 ((13 : Int32)).toNatClampNeg)) a0 e7) ((12 : Int32)).toNatClampNeg ((12 : Int32)).toNatClampNeg) a0 e8) ((120 : Int32)).toNatClampNeg (jx_arr 0 ((120 : Int32)).toNatClampNeg)) a0 e9) ((25 : Int32)).toNatClampNeg (jx_arr 0 ((25 : Int32)).toNatClampNeg)) a0 e10) ((12 : Int32)).toNatClampNeg (jx_arr 0 ((12 : Int32)).toNatClampNeg)) a0 e11) ((12 : Int32)).toNatClampNeg ((64 : Int32)).toNatClampNeg) a0 e12) ((12 : Int32)).toNatClampNeg (jx_arr 0 ((12 : Int32)).toNatClampNeg)) a0 e13) ((12 : Int32)).toNatClampNeg ((64 : Int32)).toNatClampNeg) a0 e14) ((12 : Int32)).toNatClampNeg (jx_arr 0 ((12 : Int32)).toNatClampNeg)) a0 e15) ((64 : Int32)).toNatClampNeg (jx_arr 0 ((64 : Int32)).toNatClampNeg)) a0 e16) ((4 : Int32)).toNatClampNeg ((25 : Int32)).toNatClampNeg) a0 e17) ((4 : Int32)).toNatClampNeg (jx_arr 3 ((4 : Int32)).toNatClampNeg)) a0 e18) ((64 : Int32)).toNatClampNeg (jx_arr 0 ((64 : Int32)).toNatClampNeg)) a0 e19) ((18 : Int32)).toNatClampNeg (jx_arr 0 ((18 : Int32)).toNatClampNeg)) a0 e20) ((6 : Int32)).toNatClampNeg ((25 : Int32)).toNatClampNeg) a0 e21) ((4 : Int32)).toNatClampNeg (jx_arr 0 ((4 : Int32)).toNatClampNeg)) a0 e22) ((4 : Int32)).toNatClampNeg (jx_arr 0 ((4 : Int32)).toNatClampNeg)) a0 e23) ((96 : Int32)).toNatClampNeg (jx_arr 0 ((96 : Int32)).toNatClampNeg)) a0 e24) ((24 : Int32)).toNatClampNeg (jx_arr 0 ((24 : Int32)).toNatClampNeg)) a0 e25) ((25 : Int32)).toNatClampNeg (jx_arr 0 ((25 : Int32)).toNatClampNeg)) a0) 12 36 (.ref (jx_set (jx_new (jx_set (jx_new (jx_set (jx_new (jx_set (jx_new (jx_set (jx_inner (jx_set (jx_new (jx_set (jx_new (jx_set (jx_new (jx_set (jx_inner (jx_set (jx_new (jx_set (jx_new (jx_set (jx_inner (jx_set (jx_new (jx_set (jx_inner (jx_set (jx_new (jx_set (jx_new (jx_set (jx_new (jx_set (jx_inner (jx_set (jx_new (jx_set (jx_new (jx_set (jx_new (jx_set (jx_new (jx_set (jx_inner (jx_set (jx_new (jx_set (jx_new h ((8 : Int32)).toNatClampNeg (jx_arr 0 ((8 : Int32)).toNatClampNeg)) a0 e1) ((25 : Int32)).toNatClampNeg (jx_arr 0 ((25 : Int32)).toNatClampNeg)) a0 e2) ((41 : Int32)).toNatClampNeg ((25 : Int32)).toNatClampNeg) a0 e3) ((240 : Int32)).toNatClampNeg (jx_arr 0 ((240 : Int32)).toNatClampNeg)) a0 e4) ((4096 : Int32)).toNatClampNeg (jx_arr 1 ((4096 : Int32)).toNatClampNeg)) a0 e5) ((4096 : Int32)).toNatClampNeg (jx_arr 1 ((4096 : Int32)).toNatClampNeg)) a0 e6) ((13 : Int32)).toNatClampNeg (jx_arr 1 ((13 : Int32)).toNatClampNeg)) a0 e7) ((12 : Int32)).toNatClampNeg ((12 : Int32)).toNatClampNeg) a0 e8) ((120 : Int32)).toNatClampNeg (jx_arr 0 ((120 : Int32)).toNatClampNeg)) a0 e9) ((25 : Int32)).toNatClampNeg (jx_arr 0 ((25 : Int32)).toNatClampNeg)) a0 e10) ((12 : Int32)).toNatClampNeg (jx_arr 0 ((12 : Int32)).toNatClampNeg)) a0 e11) ((12 : Int32)).toNatClampNeg ((64 : Int32)).toNatClampNeg) a0 e12) ((12 : Int32)).toNatClampNeg (jx_arr 0 ((12 : Int32)).toNatClampNeg)) a0 e13) ((12 : Int32)).toNatClampNeg ((64 : Int32)).toNatClampNeg) a0 e14) ((12 : Int32)).toNatClampNeg (jx_arr 0 ((12 : Int32)).toNatClampNeg)) a0 e15) ((64 : Int32)).toNatClampNeg (jx_arr 0 ((64 : Int32)).toNatClampNeg)) a0 e16) ((4 : Int32)).toNatClampNeg ((25 : Int32)).toNatClampNeg) a0 e17) ((4 : Int32)).toNatClampNeg (jx_arr 3 ((4 : Int32)).toNatClampNeg)) a0 e18) ((64 : Int32)).toNatClampNeg (jx_arr 0 ((64 : Int32)).toNatClampNeg)) a0 e19) ((18 : Int32)).toNatClampNeg (jx_arr 0 ((18 : Int32)).toNatClampNeg)) a0 e20) ((6 : Int32)).toNatClampNeg ((25 : Int32)).toNatClampNeg) a0 e21) ((4 : Int32)).toNatClampNeg (jx_arr 0 ((4 : Int32)).toNatClampNeg)) a0 e22) ((4 : Int32)).toNatClampNeg (jx_arr 0 ((4 : Int32)).toNatClampNeg)) a0 e23) ((96 : Int32)).toNatClampNeg (jx_arr 0 ((96 : Int32)).toNatClampNeg)) a0 e24) ((24 : Int32)).toNatClampNeg (jx_arr 0 ((24 : Int32)).toNatClampNeg)) a0 e25).1)).bind fun e26 =>
  if (18 : Int32) < 0 ∨ 5000 < (18 : Int32) then none else
  (jx_pF (jx_at (jx_new (jx_set (jx_new (jx_set (jx_new (jx_set (jx_new (jx_set (jx_new (jx_set (jx_new (jx_set (jx_inner (jx_set (jx_new (jx_set (jx_new (jx_set (jx_new (jx_set (jx_inner (jx_set (jx_new (jx_set (jx_new (jx_set (jx_inner (jx_set (jx_new (jx_set (jx_inner (jx_set (jx_new (jx_set (jx_new (jx_set (jx_new (jx_set (jx_inner (jx_set (jx_new (jx_set (jx_new (jx_set (jx_new (jx_set (jx_new (jx_set (jx_inner (jx_set (jx_new (jx_set (jx_new h ((8 : Int32)).toNatClampNeg (jx_arr 0 ((8 : Int32)).toNatClampNeg)) a0 e1) ((25 : Int32)).toNatClampNeg (jx_arr 0 ((25 : Int32)).toNatClampNeg)) a0 e2) ((41 : Int32)).toNatClampNeg ((25 : Int32)).toNatClampNeg) a0 e3) ((240 : Int32)).toNatClampNeg (jx_arr 0 ((240 : Int32)).toNatClampNeg)) a0 e4) ((4096 : Int32)).toNatClampNeg (jx_arr 1 ((4096 : Int32)).toNatClampNeg)) a0 e5) ((4096 : Int32)).toNatClampNeg (jx_arr 1 ((4096 : Int32)).toNatClampNeg)) a0 e6) ((13 : Int32)).toNatClampNeg (jx_arr 1 ((13 : Int32)).toNatClampNeg)) a0 e7) ((12 : Int32)).toNatClampNeg ((12 : Int32)).toNatClampNeg) a0 e8) ((120 : Int32)).toNatClampNeg (jx_arr 0 ((120 : Int32)).toNatClampNeg)) a0 e9) ((25 : Int32)).toNatClampNeg (jx_arr 0 ((25 : Int32)).toNatClampNeg)) a0 e10) ((12 : Int32)).toNatClampNeg (jx_arr 0 ((12 : Int32)).toNatClampNeg)) a0 e11) ((12 : Int32)).toNatClampNeg ((64 : Int32)).toNatClampNeg) a0 e12) ((12 : Int32)).toNatClampNeg (jx_arr 0 ((12 : Int32)).toNatClampNeg)) a0 e13) ((12 : Int32)).toNatClampNeg ((64 : Int32)).toNatClampNeg) a0 e14) ((12 : Int32)).toNatClampNeg (jx_arr 0 ((12 : Int32)).toNatClampNeg)) a0 e15) ((64 : Int32)).toNatClampNeg (jx_arr 0 ((64 : Int32)).toNatClampNeg)) a0 e16) ((4 : Int32)).toNatClampNeg ((25 : Int32)).toNatClampNeg) a0 e17) ((4 : Int32)).toNatClampNeg (jx_arr 3 ((4 : Int32)).toNatClampNeg)) a0 e18) ((64 : Int32)).toNatClampNeg (jx_arr 0 ((64 : Int32)).toNatClampNeg)) a0 e19) ((18 : Int32)).toNatClampNeg (jx_arr 0 ((18 : Int32)).toNatClampNeg)) a0 e20) ((6 : Int32)).toNatClampNeg ((25 : Int32)).toNatClampNeg) a0 e21) ((4 : Int32)).toNatClampNeg (jx_arr 0 ((4 : Int32)).toNatClampNeg)) a0 e22) ((4 : Int32)).toNatClampNeg (jx_arr 0 ((4 : Int32)).toNatClampNeg)) a0 e23) ((96 : Int32)).toNatClampNeg (jx_arr 0 ((96 : Int32)).toNatClampNeg)) a0 e24) ((24 : Int32)).toNatClampNeg (jx_arr 0 ((24 : Int32)).toNatClampNeg)) a0 e25) ((25 : Int32)).toNatClampNeg (jx_arr 0 ((25 : Int32)).toNatClampNeg)) a0 e26) ((18 : Int32)).toNatClampNeg (jx_arr 0 ((18 : Int32)).toNatClampNeg)) a0) 12 37 (.ref (jx_set (jx_new (jx_set (jx_new (jx_set (jx_new (jx_set (jx_new (jx_set (jx_new (jx_set (jx_inner (jx_set (jx_new (jx_set (jx_new (jx_set (jx_new (jx_set (jx_inner (jx_set (jx_new (jx_set (jx_new (jx_set (jx_inner (jx_set (jx_new (jx_set (jx_inner (jx_set (jx_new (jx_set (jx_new (jx_set (jx_new (jx_set (jx_inner (jx_set (jx_new (jx_set (jx_new (jx_set (jx_new (jx_set (jx_new (jx_set (jx_inner (jx_set (jx_new (jx_set (jx_new h ((8 : Int32)).toNatClampNeg (jx_arr 0 ((8 : Int32)).toNatClampNeg)) a0 e1) ((25 : Int32)).toNatClampNeg (jx_arr 0 ((25 : Int32)).toNatClampNeg)) a0 e2) ((41 : Int32)).toNatClampNeg ((25 : Int32)).toNatClampNeg) a0 e3) ((240 : Int32)).toNatClampNeg (jx_arr 0 ((240 : Int32)).toNatClampNeg)) a0 e4) ((4096 : Int32)).toNatClampNeg (jx_arr 1 ((4096 : Int32)).toNatClampNeg)) a0 e5) ((4096 : Int32)).toNatClampNeg (jx_arr 1 ((4096 : Int32)).toNatClampNeg)) a0 e6) ((13 : Int32)).toNatClampNeg (jx_arr 1 ((13 : Int32)).toNatClampNeg)) a0 e7) ((12 : Int32)).toNatClampNeg ((12 : Int32)).toNatClampNeg) a0 e8) ((120 : Int32)).toNatClampNeg (jx_arr 0 ((120 : Int32)).toNatClampNeg)) a0 e9) ((25 : Int32)).toNatClampNeg (jx_arr 0 ((25 : Int32)).toNatClampNeg)) a0 e10) ((12 : Int32)).toNatClampNeg (jx_arr 0 ((12 : Int32)).toNatClampNeg)) a0 e11) ((12 : Int32)).toNatClampNeg ((64 : Int32)).toNatClampNeg) a0 e12) ((12 : Int32)).toNatClampNeg (jx_arr 0 ((12 : Int32)).toNatClampNeg)) a0 e13) ((12 : Int32)).toNatClampNeg ((64 : Int32)).toNatClampNeg) a0 e14) ((12 : Int32)).toNatClampNeg (jx_arr 0 ((12 : Int32)).toNatClampNeg)) a0 e15) ((64 : Int32)).toNatClampNeg (jx_arr 0 ((64 : Int32)).toNatClampNeg)) a0 e16) ((4 : Int32)).toNatClampNeg ((25 : Int32)).toNatClampNeg) a0 e17) ((4 : Int32)).toNatClampNeg (jx_arr 3 ((4 : Int32)).toNatClampNeg)) a0 e18) ((64 : Int32)).toNatClampNeg (jx_arr 0 ((64 : Int32)).toNatClampNeg)) a0 e19) ((18 : Int32)).toNatClampNeg (jx_arr 0 ((18 : Int32)).toNatClampNeg)) a0 e20) ((6 : Int32)).toNatClampNeg ((25 : Int32)).toNatClampNeg) a0 e21) ((4 : Int32)).toNatClampNeg (jx_arr 0 ((4 : Int32)).toNatClampNeg)) a0 e22) ((4 : Int32)).toNatClampNeg (jx_arr 0 ((4 : Int32)).toNatClampNeg)) a0 e23) ((96 : Int32)).toNatClampNeg (jx_arr 0 ((96 : Int32)).toNatClampNeg)) a0 e24) ((24 : Int32)).toNatClampNeg (jx_arr 0 ((24 : Int32)).toNatClampNeg)) a0 e25) ((25 : Int32)).toNatClampNeg (jx_arr 0 ((25 : Int32)).toNatClampNeg)) a0 e26).1)).bind fun e27 =>
  some (none, (jx_set (jx_new (jx_set (jx_new (jx_set (jx_new (jx_set (jx_new (jx_set (jx_new (jx_set (jx_new (jx_set (jx_inner (jx_set (jx_new (jx_set (jx_new (jx_set (jx_new (jx_set (jx_inner (jx_set (jx_new (jx_set (jx_new (jx_set (jx_inner (jx_set (jx_new (jx_set (jx_inner (jx_set (jx_new (jx_set (jx_new (jx_set (jx_new (jx_set (jx_inner (jx_set (jx_new (jx_set (jx_new (jx_set (jx_new (jx_set (jx_new (jx_set (jx_inner (jx_set (jx_new (jx_set (jx_new h ((8 : Int32)).toNatClampNeg (jx_arr 0 ((8 : Int32)).toNatClampNeg)) a0 e1) ((25 : Int32)).toNatClampNeg (jx_arr 0 ((25 : Int32)).toNatClampNeg)) a0 e2) ((41 : Int32)).toNatClampNeg ((25 : Int32)).toNatClampNeg) a0 e3) ((240 : Int32)).toNatClampNeg (jx_arr 0 ((240 : Int32)).toNatClampNeg)) a0 e4) ((4096 : Int32)).toNatClampNeg (jx_arr 1 ((4096 : Int32)).toNatClampNeg)) a0 e5) ((4096 : Int32)).toNatClampNeg (jx_arr 1 ((4096 : Int32)).toNatClampNeg)) a0 e6) ((13 : Int32)).toNatClampNeg (jx_arr 1 ((13 : Int32)).toNatClampNeg)) a0 e7) ((12 : Int32)).toNatClampNeg ((12 : Int32)).toNatClampNeg) a0 e8) ((120 : Int32)).toNatClampNeg (jx_arr 0 ((120 : Int32)).toNatClampNeg)) a0 e9) ((25 : Int32)).toNatClampNeg (jx_arr 0 ((25 : Int32)).toNatClampNeg)) a0 e10) ((12 : Int32)).toNatClampNeg (jx_arr 0 ((12 : Int32)).toNatClampNeg)) a0 e11) ((12 : Int32)).toNatClampNeg ((64 : Int32)).toNatClampNeg) a0 e12) ((12 : Int32)).toNatClampNeg (jx_arr 0 ((12 : Int32)).toNatClampNeg)) a0 e13) ((12 : Int32)).toNatClampNeg ((64 : Int32)).toNatClampNeg) a0 e14) ((12 : Int32)).toNatClampNeg (jx_arr 0 ((12 : Int32)).toNatClampNeg)) a0 e15) ((64 : Int32)).toNatClampNeg (jx_arr 0 ((64 : Int32)).toNatClampNeg)) a0 e16) ((4 : Int32)).toNatClampNeg ((25 : Int32)).toNatClampNeg) a0 e17) ((4 : Int32)).toNatClampNeg (jx_arr 3 ((4 : Int32)).toNatClampNeg)) a0 e18) ((64 : Int32)).toNatClampNeg (jx_arr 0 ((64 : Int32)).toNatClampNeg)) a0 e19) ((18 : Int32)).toNatClampNeg (jx_arr 0 ((18 : Int32)).toNatClampNeg)) a0 e20) ((6 : Int32)).toNatClampNeg ((25 : Int32)).toNatClampNeg) a0 e21) ((4 : Int32)).toNatClampNeg (jx_arr 0 ((4 : Int32)).toNatClampNeg)) a0 e22) ((4 : Int32)).toNatClampNeg (jx_arr 0 ((4 : Int32)).toNatClampNeg)) a0 e23) ((96 : Int32)).toNatClampNeg (jx_arr 0 ((96 : Int32)).toNatClampNeg)) a0 e24) ((24 : Int32)).toNatClampNeg (jx_arr 0 ((24 : Int32)).toNatClampNeg)) a0 e25) ((25 : Int32)).toNatClampNeg (jx_arr 0 ((25 : Int32)).toNatClampNeg)) a0 e26) ((18 : Int32)).toNatClampNeg (jx_arr 0 ((18 : Int32)).toNatClampNeg)) a0 e27))
  else none :=
  sorry
theorem je_72 (rc : Nat → Nat × (Nat → Int32)) (d : Nat) (x0 : Int64) (x2 : Int64) (x4 : Int64) (h : jxH) : jx_C rc (d + 1) 72 [.long x0, .long x2, .long x4] h =
  if (lg_cmp x0 x2) < 0 then
    if jx_bool (0 : Int32) = true then some (some (.int (0 : Int32)), h) else none
  else
    if 0 < (lg_cmp x0 x4) then
      if jx_bool (0 : Int32) = true then some (some (.int (0 : Int32)), h) else none
    else
      if jx_bool (1 : Int32) = true then some (some (.int (1 : Int32)), h) else none :=
  sorry
theorem je_73 (rc : Nat → Nat × (Nat → Int32)) (d : Nat) (a0 : Nat) (x1 : Int32) (h : jxH) : jx_C rc (d + 1) 73 [.ref a0, .int x1] h =
  if jx_is (jx_at h a0) 12 = true then
  (jx_gR (jx_at h a0) 12 0).bind fun b1 =>
  (jx_aI (jx_at h b1) 0 x1).bind fun v2 =>
  (jx_sI (jx_at h b1) 0 x1 (v2 + (1 : Int32))).bind fun e3 =>
  some (some (.int ((-1100000000 : Int32) - x1)), (jx_set h b1 e3))
  else none :=
  sorry
noncomputable def jb_74 (rc : Nat → Nat × (Nat → Int32)) (d : Nat) (i : Nat) (ls : List (Nat × Value)) (st : List Value) (h : jxH) : jxR := none
theorem je_74 (rc : Nat → Nat × (Nat → Int32)) (d : Nat) (a0 : Nat) (a1 : Nat) (h : jxH) : jx_C rc (d + 1) 74 [.ref a0, .ref a1] h =
  jb_74 rc d 2 [(0, .ref a0), (1, .ref a1), (2, .int (0 : Int32))] [] h :=
  sorry
theorem je_74_2 (rc : Nat → Nat × (Nat → Int32)) (d : Nat) (a0 : Nat) (a1 : Nat) (x2 : Int32) (h : jxH) : jb_74 rc d 2 [(0, .ref a0), (1, .ref a1), (2, .int x2)] [] h =
  if (25 : Int32) ≤ x2 then
    some (none, h)
  else
    (jx_aI (jx_at h a0) 0 x2).bind fun v1 =>
    (jx_sI (jx_at h a1) 0 x2 v1).bind fun e2 =>
    jb_74 rc d 2 [(0, .ref a0), (1, .ref a1), (2, .int (x2 + (1 : Int32)))] [] (jx_set h a1 e2) :=
  sorry
theorem je_75 (rc : Nat → Nat × (Nat → Int32)) (d : Nat) (x0 : Int32) (x1 : Int32) (h : jxH) : jx_C rc (d + 1) 75 [.int x0, .int x1] h =
  if ((x0 >>> (x1 &&& 31)) &&& (1 : Int32)) = (1 : Int32) then
    if jx_bool (1 : Int32) = true then some (some (.int (1 : Int32)), h) else none
  else
    if jx_bool (0 : Int32) = true then some (some (.int (0 : Int32)), h) else none :=
  sorry
noncomputable def jb_76 (rc : Nat → Nat × (Nat → Int32)) (d : Nat) (i : Nat) (ls : List (Nat × Value)) (st : List Value) (h : jxH) : jxR := none
theorem je_76 (rc : Nat → Nat × (Nat → Int32)) (d : Nat) (x0 : Int32) (h : jxH) : jx_C rc (d + 1) 76 [.int x0] h =
  jb_76 rc d 4 [(0, .int x0), (1, .int (0 : Int32)), (2, .int (0 : Int32))] [] h :=
  sorry
theorem je_76_4 (rc : Nat → Nat × (Nat → Int32)) (d : Nat) (x0 : Int32) (x1 : Int32) (x2 : Int32) (h : jxH) : jb_76 rc d 4 [(0, .int x0), (1, .int x1), (2, .int x2)] [] h =
  if (12 : Int32) ≤ x2 then
    some (some (.int x1), h)
  else
    jb_76 rc d 4 [(0, .int x0), (1, .int (x1 + ((x0 >>> (x2 &&& 31)) &&& (1 : Int32)))), (2, .int (x2 + (1 : Int32)))] [] h :=
  sorry
noncomputable def jb_77 (rc : Nat → Nat × (Nat → Int32)) (d : Nat) (i : Nat) (ls : List (Nat × Value)) (st : List Value) (h : jxH) : jxR := none
theorem je_77 (rc : Nat → Nat × (Nat → Int32)) (d : Nat) (x0 : Int32) (h : jxH) : jx_C rc (d + 1) 77 [.int x0] h =
  jb_77 rc d 2 [(0, .int x0), (1, .int (0 : Int32))] [] h :=
  sorry
theorem je_77_2 (rc : Nat → Nat × (Nat → Int32)) (d : Nat) (x0 : Int32) (x1 : Int32) (h : jxH) : jb_77 rc d 2 [(0, .int x0), (1, .int x1)] [] h =
  jx_cI (jx_C rc d 75 [.int x0, .int x1] h) fun v2 h1 =>
  if v2 = 0 then
    jb_77 rc d 2 [(0, .int x0), (1, .int (x1 + (1 : Int32)))] [] h1
  else
    some (some (.int x1), h1) :=
  sorry
theorem je_78 (rc : Nat → Nat × (Nat → Int32)) (d : Nat) (a0 : Nat) (x1 : Int32) (h : jxH) : jx_C rc (d + 1) 78 [.ref a0, .int x1] h =
  jx_cI (jx_C rc d 72 [.long (x1).toInt64, .long (0 : Int64), .long (11 : Int64)] h) fun v2 h1 =>
  if v2 = 0 then
    if jx_bool (0 : Int32) = true then some (some (.int (0 : Int32)), h1) else none
  else
    (jx_aI (jx_at h1 a0) 0 (0 : Int32)).bind fun v3 =>
    jx_cI (jx_C rc d 75 [.int v3, .int x1] h1) fun v5 h4 =>
    if v5 = 0 then
      if jx_bool (0 : Int32) = true then some (some (.int (0 : Int32)), h4) else none
    else
      if jx_bool (1 : Int32) = true then some (some (.int (1 : Int32)), h4) else none :=
  sorry
theorem je_79 (rc : Nat → Nat × (Nat → Int32)) (d : Nat) (a0 : Nat) (x1 : Int32) (h : jxH) : jx_C rc (d + 1) 79 [.ref a0, .int x1] h =
  if jx_is (jx_at h a0) 12 = true then
  (jx_gR (jx_at h a0) 12 1).bind fun b1 =>
  jx_cI (jx_C rc d 78 [.ref b1, .int x1] h) fun v3 h2 =>
  if jx_bool v3 = true then some (some (.int v3), h2) else none
  else none :=
  sorry
theorem je_80 (rc : Nat → Nat × (Nat → Int32)) (d : Nat) (x0 : Int32) (h : jxH) : jx_C rc (d + 1) 80 [.int x0] h =
  jx_cI (jx_C rc d 72 [.long (x0).toInt64, .long (-30 : Int64), .long (30 : Int64)] h) fun v2 h1 =>
  if jx_bool v2 = true then some (some (.int v2), h1) else none :=
  sorry
theorem je_81 (rc : Nat → Nat × (Nat → Int32)) (d : Nat) (a0 : Nat) (x1 : Int32) (h : jxH) : jx_C rc (d + 1) 81 [.ref a0, .int x1] h =
  (jx_aI (jx_at h a0) 0 (0 : Int32)).bind fun v1 =>
  jx_cI (jx_C rc d 77 [.int (v1 ^^^ (-1 : Int32))] h) fun v3 h2 =>
  (jx_aI (jx_at h2 a0) 0 (0 : Int32)).bind fun v4 =>
  (jx_sI (jx_at h2 a0) 0 (0 : Int32) (v4 ||| ((1 : Int32) <<< (v3 &&& 31)))).bind fun e5 =>
  (jx_sI (jx_at (jx_set h2 a0 e5) a0) 0 ((1 : Int32) + v3) x1).bind fun e6 =>
  (jx_sI (jx_at (jx_set (jx_set h2 a0 e5) a0 e6) a0) 0 ((13 : Int32) + v3) (0 : Int32)).bind fun e7 =>
  some (some (.int v3), (jx_set (jx_set (jx_set h2 a0 e5) a0 e6) a0 e7)) :=
  sorry
theorem je_82 (rc : Nat → Nat × (Nat → Int32)) (d : Nat) (a0 : Nat) (x1 : Int32) (x2 : Int32) (h : jxH) : jx_C rc (d + 1) 82 [.ref a0, .int x1, .int x2] h =
  (jx_aI (jx_at h a0) 0 ((13 : Int32) + x1)).bind fun v1 =>
  (jx_sI (jx_at h a0) 0 ((13 : Int32) + x1) (v1 ||| ((1 : Int32) <<< (x2 &&& 31)))).bind fun e2 =>
  (jx_aI (jx_at (jx_set h a0 e2) a0) 0 ((13 : Int32) + x2)).bind fun v3 =>
  (jx_sI (jx_at (jx_set h a0 e2) a0) 0 ((13 : Int32) + x2) (v3 ||| ((1 : Int32) <<< (x1 &&& 31)))).bind fun e4 =>
  some (none, (jx_set (jx_set h a0 e2) a0 e4)) :=
  sorry
theorem je_83 (rc : Nat → Nat × (Nat → Int32)) (d : Nat) (a0 : Nat) (x1 : Int32) (x2 : Int32) (h : jxH) : jx_C rc (d + 1) 83 [.ref a0, .int x1, .int x2] h =
  (jx_aI (jx_at h a0) 0 ((13 : Int32) + x1)).bind fun v1 =>
  (jx_sI (jx_at h a0) 0 ((13 : Int32) + x1) (v1 &&& (((1 : Int32) <<< (x2 &&& 31)) ^^^ (-1 : Int32)))).bind fun e2 =>
  (jx_aI (jx_at (jx_set h a0 e2) a0) 0 ((13 : Int32) + x2)).bind fun v3 =>
  (jx_sI (jx_at (jx_set h a0 e2) a0) 0 ((13 : Int32) + x2) (v3 &&& (((1 : Int32) <<< (x1 &&& 31)) ^^^ (-1 : Int32)))).bind fun e4 =>
  some (none, (jx_set (jx_set h a0 e2) a0 e4)) :=
  sorry
noncomputable def jb_84 (rc : Nat → Nat × (Nat → Int32)) (d : Nat) (i : Nat) (ls : List (Nat × Value)) (st : List Value) (h : jxH) : jxR := none
theorem je_84 (rc : Nat → Nat × (Nat → Int32)) (d : Nat) (a0 : Nat) (x1 : Int32) (h : jxH) : jx_C rc (d + 1) 84 [.ref a0, .int x1] h =
  jb_84 rc d 2 [(0, .ref a0), (1, .int x1), (2, .int (0 : Int32))] [] h :=
  sorry
theorem je_84_2 (rc : Nat → Nat × (Nat → Int32)) (d : Nat) (a0 : Nat) (x1 : Int32) (x2 : Int32) (h : jxH) : jb_84 rc d 2 [(0, .ref a0), (1, .int x1), (2, .int x2)] [] h =
  if (12 : Int32) ≤ x2 then
    (jx_sI (jx_at h a0) 0 ((13 : Int32) + x1) (0 : Int32)).bind fun e1 =>
    (jx_sI (jx_at (jx_set h a0 e1) a0) 0 ((1 : Int32) + x1) (0 : Int32)).bind fun e2 =>
    (jx_aI (jx_at (jx_set (jx_set h a0 e1) a0 e2) a0) 0 (0 : Int32)).bind fun v3 =>
    (jx_sI (jx_at (jx_set (jx_set h a0 e1) a0 e2) a0) 0 (0 : Int32) (v3 &&& (((1 : Int32) <<< (x1 &&& 31)) ^^^ (-1 : Int32)))).bind fun e4 =>
    some (none, (jx_set (jx_set (jx_set h a0 e1) a0 e2) a0 e4))
  else
    (jx_aI (jx_at h a0) 0 ((13 : Int32) + x2)).bind fun v5 =>
    (jx_sI (jx_at h a0) 0 ((13 : Int32) + x2) (v5 &&& (((1 : Int32) <<< (x1 &&& 31)) ^^^ (-1 : Int32)))).bind fun e6 =>
    jb_84 rc d 2 [(0, .ref a0), (1, .int x1), (2, .int (x2 + (1 : Int32)))] [] (jx_set h a0 e6) :=
  sorry
noncomputable def jb_85 (rc : Nat → Nat × (Nat → Int32)) (d : Nat) (i : Nat) (ls : List (Nat × Value)) (st : List Value) (h : jxH) : jxR := none
theorem je_85 (rc : Nat → Nat × (Nat → Int32)) (d : Nat) (a0 : Nat) (x1 : Int32) (h : jxH) : jx_C rc (d + 1) 85 [.ref a0, .int x1] h =
  jb_85 rc d 6 [(0, .ref a0), (2, .int ((1 : Int32) <<< (x1 &&& 31))), (3, .int (0 : Int32))] [] h :=
  sorry
theorem je_85_6 (rc : Nat → Nat × (Nat → Int32)) (d : Nat) (a0 : Nat) (x2 : Int32) (x3 : Int32) (h : jxH) : jb_85 rc d 6 [(0, .ref a0), (2, .int x2), (3, .int x3)] [] h =
  if x3 = x2 then
    some (some (.int x2), h)
  else
    jb_85 rc d 13 [(0, .ref a0), (2, .int x2), (3, .int x2), (4, .int (0 : Int32))] [] h :=
  sorry
theorem je_85_13 (rc : Nat → Nat × (Nat → Int32)) (d : Nat) (a0 : Nat) (x2 : Int32) (x3 : Int32) (x4 : Int32) (h : jxH) : jb_85 rc d 13 [(0, .ref a0), (2, .int x2), (3, .int x3), (4, .int x4)] [] h =
  if (12 : Int32) ≤ x4 then
    jb_85 rc d 6 [(0, .ref a0), (2, .int x2), (3, .int x3)] [] h
  else
    jx_cI (jx_C rc d 75 [.int x2, .int x4] h) fun v2 h1 =>
    if v2 = 0 then
      jb_85 rc d 13 [(0, .ref a0), (2, .int (x2 ||| (0 : Int32))), (3, .int x3), (4, .int (x4 + (1 : Int32)))] [] h1
    else
      (jx_aI (jx_at h1 a0) 0 ((13 : Int32) + x4)).bind fun v3 =>
      jb_85 rc d 13 [(0, .ref a0), (2, .int (x2 ||| v3)), (3, .int x3), (4, .int (x4 + (1 : Int32)))] [] h1 :=
  sorry
noncomputable def jb_86 (rc : Nat → Nat × (Nat → Int32)) (d : Nat) (i : Nat) (ls : List (Nat × Value)) (st : List Value) (h : jxH) : jxR := none
theorem je_86 (rc : Nat → Nat × (Nat → Int32)) (d : Nat) (a0 : Nat) (h : jxH) : jx_C rc (d + 1) 86 [.ref a0] h =
  jb_86 rc d 4 [(0, .ref a0), (1, .int (0 : Int32)), (2, .int (0 : Int32))] [] h :=
  sorry
theorem je_86_4 (rc : Nat → Nat × (Nat → Int32)) (d : Nat) (a0 : Nat) (x1 : Int32) (x2 : Int32) (h : jxH) : jb_86 rc d 4 [(0, .ref a0), (1, .int x1), (2, .int x2)] [] h =
  if (12 : Int32) ≤ x2 then
    some (some (.int x1), h)
  else
    (jx_aI (jx_at h a0) 0 (0 : Int32)).bind fun v1 =>
    jx_cI (jx_C rc d 75 [.int v1, .int x2] h) fun v3 h2 =>
    if v3 = 0 then
      jb_86 rc d 4 [(0, .ref a0), (1, .int (x1 + (0 : Int32))), (2, .int (x2 + (1 : Int32)))] [] h2
    else
      jx_cI (jx_C rc d 85 [.ref a0, .int x2] h2) fun v5 h4 =>
      jx_cI (jx_C rc d 77 [.int v5] h4) fun v7 h6 =>
      if v7 = x2 then
        jb_86 rc d 4 [(0, .ref a0), (1, .int (x1 + (1 : Int32))), (2, .int (x2 + (1 : Int32)))] [] h6
      else
        jb_86 rc d 4 [(0, .ref a0), (1, .int (x1 + (0 : Int32))), (2, .int (x2 + (1 : Int32)))] [] h6 :=
  sorry
theorem je_87 (rc : Nat → Nat × (Nat → Int32)) (d : Nat) (a0 : Nat) (x1 : Int32) (h : jxH) : jx_C rc (d + 1) 87 [.ref a0, .int x1] h =
  (jx_aI (jx_at h a0) 0 ((13 : Int32) + x1)).bind fun v1 =>
  jx_cI (jx_C rc d 77 [.int v1] h) fun v3 h2 =>
  some (some (.int v3), h2) :=
  sorry
theorem je_88 (rc : Nat → Nat × (Nat → Int32)) (d : Nat) (a0 : Nat) (x1 : Int32) (h : jxH) : jx_C rc (d + 1) 88 [.ref a0, .int x1] h =
  (jx_aI (jx_at h a0) 0 ((13 : Int32) + x1)).bind fun v1 =>
  (jx_aI (jx_at h a0) 0 ((13 : Int32) + x1)).bind fun v2 =>
  jx_cI (jx_C rc d 77 [.int (v1 &&& (v2 - (1 : Int32)))] h) fun v4 h3 =>
  some (some (.int v4), h3) :=
  sorry
noncomputable def jb_89 (rc : Nat → Nat × (Nat → Int32)) (d : Nat) (i : Nat) (ls : List (Nat × Value)) (st : List Value) (h : jxH) : jxR := none
theorem je_89 (rc : Nat → Nat × (Nat → Int32)) (d : Nat) (a0 : Nat) (x1 : Int32) (x2 : Int32) (x3 : Int32) (x4 : Int32) (x5 : Int32) (h : jxH) : jx_C rc (d + 1) 89 [.ref a0, .int x1, .int x2, .int x3, .int x4, .int x5] h =
  jx_cI (jx_C rc d 72 [.long (x1).toInt64, .long (0 : Int64), .long (7 : Int64)] h) fun v2 h1 =>
  if v2 = 0 then
    if jx_bool (0 : Int32) = true then some (some (.int (0 : Int32)), h1) else none
  else
    if x1 = (3 : Int32) then
      if x1 = (1 : Int32) then
        jx_cI (jx_C rc d 78 [.ref a0, .int x3] h1) fun v4 h3 =>
        if v4 = 0 then
          if jx_bool (0 : Int32) = true then some (some (.int (0 : Int32)), h3) else none
        else
          jb_89 rc d 27 [(0, .ref a0), (1, .int x1), (2, .int x2), (4, .int x4), (5, .int x5)] [] h3
      else
        jb_89 rc d 27 [(0, .ref a0), (1, .int x1), (2, .int x2), (4, .int x4), (5, .int x5)] [] h1
    else
      if x1 = (6 : Int32) then
        if x1 = (1 : Int32) then
          jx_cI (jx_C rc d 78 [.ref a0, .int x3] h1) fun v6 h5 =>
          if v6 = 0 then
            if jx_bool (0 : Int32) = true then some (some (.int (0 : Int32)), h5) else none
          else
            jb_89 rc d 27 [(0, .ref a0), (1, .int x1), (2, .int x2), (4, .int x4), (5, .int x5)] [] h5
        else
          jb_89 rc d 27 [(0, .ref a0), (1, .int x1), (2, .int x2), (4, .int x4), (5, .int x5)] [] h1
      else
        jx_cI (jx_C rc d 78 [.ref a0, .int x2] h1) fun v8 h7 =>
        if v8 = 0 then
          if jx_bool (0 : Int32) = true then some (some (.int (0 : Int32)), h7) else none
        else
          if x1 = (1 : Int32) then
            jx_cI (jx_C rc d 78 [.ref a0, .int x3] h7) fun v10 h9 =>
            if v10 = 0 then
              if jx_bool (0 : Int32) = true then some (some (.int (0 : Int32)), h9) else none
            else
              jb_89 rc d 27 [(0, .ref a0), (1, .int x1), (2, .int x2), (4, .int x4), (5, .int x5)] [] h9
          else
            jb_89 rc d 27 [(0, .ref a0), (1, .int x1), (2, .int x2), (4, .int x4), (5, .int x5)] [] h7 :=
  sorry
theorem je_89_27 (rc : Nat → Nat × (Nat → Int32)) (d : Nat) (a0 : Nat) (x1 : Int32) (x2 : Int32) (x4 : Int32) (x5 : Int32) (h : jxH) : jb_89 rc d 27 [(0, .ref a0), (1, .int x1), (2, .int x2), (4, .int x4), (5, .int x5)] [] h =
  jx_cI (jx_C rc d 72 [.long (x1).toInt64, .long (1 : Int64), .long (3 : Int64)] h) fun v2 h1 =>
  if v2 = 0 then
    if x1 = (7 : Int32) then
      jx_cI (jx_C rc d 80 [.int x4] h1) fun v4 h3 =>
      if v4 = 0 then
        if jx_bool (0 : Int32) = true then some (some (.int (0 : Int32)), h3) else none
      else
        (jx_aI (jx_at h3 a0) 0 ((13 : Int32) + x2)).bind fun v5 =>
        if (x5 &&& (v5 ^^^ (-1 : Int32))) = 0 then
          if jx_bool (1 : Int32) = true then some (some (.int (1 : Int32)), h3) else none
        else
          if jx_bool (0 : Int32) = true then some (some (.int (0 : Int32)), h3) else none
    else
      if jx_bool (1 : Int32) = true then some (some (.int (1 : Int32)), h1) else none
  else
    if x4 = (1 : Int32) then
      if x1 = (7 : Int32) then
        jx_cI (jx_C rc d 80 [.int x4] h1) fun v7 h6 =>
        if v7 = 0 then
          if jx_bool (0 : Int32) = true then some (some (.int (0 : Int32)), h6) else none
        else
          (jx_aI (jx_at h6 a0) 0 ((13 : Int32) + x2)).bind fun v8 =>
          if (x5 &&& (v8 ^^^ (-1 : Int32))) = 0 then
            if jx_bool (1 : Int32) = true then some (some (.int (1 : Int32)), h6) else none
          else
            if jx_bool (0 : Int32) = true then some (some (.int (0 : Int32)), h6) else none
      else
        if jx_bool (1 : Int32) = true then some (some (.int (1 : Int32)), h1) else none
    else
      if x4 = (-1 : Int32) then
        if x1 = (7 : Int32) then
          jx_cI (jx_C rc d 80 [.int x4] h1) fun v10 h9 =>
          if v10 = 0 then
            if jx_bool (0 : Int32) = true then some (some (.int (0 : Int32)), h9) else none
          else
            (jx_aI (jx_at h9 a0) 0 ((13 : Int32) + x2)).bind fun v11 =>
            if (x5 &&& (v11 ^^^ (-1 : Int32))) = 0 then
              if jx_bool (1 : Int32) = true then some (some (.int (1 : Int32)), h9) else none
            else
              if jx_bool (0 : Int32) = true then some (some (.int (0 : Int32)), h9) else none
        else
          if jx_bool (1 : Int32) = true then some (some (.int (1 : Int32)), h1) else none
      else
        if jx_bool (0 : Int32) = true then some (some (.int (0 : Int32)), h1) else none :=
  sorry
noncomputable def jb_90 (rc : Nat → Nat × (Nat → Int32)) (d : Nat) (i : Nat) (ls : List (Nat × Value)) (st : List Value) (h : jxH) : jxR := none
theorem je_90 (rc : Nat → Nat × (Nat → Int32)) (d : Nat) (a0 : Nat) (x1 : Int32) (x2 : Int32) (x3 : Int32) (h : jxH) : jx_C rc (d + 1) 90 [.ref a0, .int x1, .int x2, .int x3] h =
  if x1 = (3 : Int32) then
    if x1 = (3 : Int32) then
      jb_90 rc d 28 [(0, .ref a0), (1, .int x1), (2, .int x2), (3, .int x3), (4, .int (0 : Int32))] [.int (0 : Int32)] h
    else
      if x1 = (6 : Int32) then
        jb_90 rc d 28 [(0, .ref a0), (1, .int x1), (2, .int x2), (3, .int x3), (4, .int (0 : Int32))] [.int (0 : Int32)] h
      else
        (jx_aI (jx_at h a0) 0 ((13 : Int32) + x2)).bind fun v1 =>
        jx_cI (jx_C rc d 76 [.int v1] h) fun v3 h2 =>
        jb_90 rc d 28 [(0, .ref a0), (1, .int x1), (2, .int x2), (3, .int x3), (4, .int (0 : Int32))] [.int v3] h2
  else
    if x1 = (6 : Int32) then
      if x1 = (3 : Int32) then
        jb_90 rc d 28 [(0, .ref a0), (1, .int x1), (2, .int x2), (3, .int x3), (4, .int (0 : Int32))] [.int (0 : Int32)] h
      else
        if x1 = (6 : Int32) then
          jb_90 rc d 28 [(0, .ref a0), (1, .int x1), (2, .int x2), (3, .int x3), (4, .int (0 : Int32))] [.int (0 : Int32)] h
        else
          (jx_aI (jx_at h a0) 0 ((13 : Int32) + x2)).bind fun v4 =>
          jx_cI (jx_C rc d 76 [.int v4] h) fun v6 h5 =>
          jb_90 rc d 28 [(0, .ref a0), (1, .int x1), (2, .int x2), (3, .int x3), (4, .int (0 : Int32))] [.int v6] h5
    else
      (jx_aI (jx_at h a0) 0 ((1 : Int32) + x2)).bind fun v7 =>
      if x1 = (3 : Int32) then
        jb_90 rc d 28 [(0, .ref a0), (1, .int x1), (2, .int x2), (3, .int x3), (4, .int v7)] [.int (0 : Int32)] h
      else
        if x1 = (6 : Int32) then
          jb_90 rc d 28 [(0, .ref a0), (1, .int x1), (2, .int x2), (3, .int x3), (4, .int v7)] [.int (0 : Int32)] h
        else
          (jx_aI (jx_at h a0) 0 ((13 : Int32) + x2)).bind fun v8 =>
          jx_cI (jx_C rc d 76 [.int v8] h) fun v10 h9 =>
          jb_90 rc d 28 [(0, .ref a0), (1, .int x1), (2, .int x2), (3, .int x3), (4, .int v7)] [.int v10] h9 :=
  sorry
theorem je_90_28 (rc : Nat → Nat × (Nat → Int32)) (d : Nat) (a0 : Nat) (x1 : Int32) (x2 : Int32) (x3 : Int32) (x4 : Int32) (s0 : Int32) (h : jxH) : jb_90 rc d 28 [(0, .ref a0), (1, .int x1), (2, .int x2), (3, .int x3), (4, .int x4)] [.int s0] h =
  if x1 = (0 : Int32) then
    if x4 = (1 : Int32) then
      if (2 : Int32) < s0 then
        if jx_bool (0 : Int32) = true then some (some (.int (0 : Int32)), h) else none
      else
        if jx_bool (1 : Int32) = true then some (some (.int (1 : Int32)), h) else none
    else
      if x4 = (-1 : Int32) then
        if (2 : Int32) < s0 then
          if jx_bool (0 : Int32) = true then some (some (.int (0 : Int32)), h) else none
        else
          if jx_bool (1 : Int32) = true then some (some (.int (1 : Int32)), h) else none
      else
        if jx_bool (0 : Int32) = true then some (some (.int (0 : Int32)), h) else none
  else if x1 = ((0 : Int32) + 1) then
    (jx_aI (jx_at h a0) 0 ((13 : Int32) + x2)).bind fun v1 =>
    jx_cI (jx_C rc d 75 [.int v1, .int x3] h) fun v3 h2 =>
    if jx_bool v3 = true then some (some (.int v3), h2) else none
  else if x1 = (((0 : Int32) + 1) + 1) then
    if jx_bool (1 : Int32) = true then some (some (.int (1 : Int32)), h) else none
  else if x1 = ((((0 : Int32) + 1) + 1) + 1) then
    if jx_bool (1 : Int32) = true then some (some (.int (1 : Int32)), h) else none
  else if x1 = (((((0 : Int32) + 1) + 1) + 1) + 1) then
    if x4 = 0 then
      if s0 = (2 : Int32) then
        if jx_bool (1 : Int32) = true then some (some (.int (1 : Int32)), h) else none
      else
        if jx_bool (0 : Int32) = true then some (some (.int (0 : Int32)), h) else none
    else
      if jx_bool (0 : Int32) = true then some (some (.int (0 : Int32)), h) else none
  else if x1 = ((((((0 : Int32) + 1) + 1) + 1) + 1) + 1) then
    if x4 = 0 then
      if s0 = (1 : Int32) then
        if jx_bool (1 : Int32) = true then some (some (.int (1 : Int32)), h) else none
      else
        if jx_bool (0 : Int32) = true then some (some (.int (0 : Int32)), h) else none
    else
      if jx_bool (0 : Int32) = true then some (some (.int (0 : Int32)), h) else none
  else 
    if jx_bool (1 : Int32) = true then some (some (.int (1 : Int32)), h) else none :=
  sorry
theorem je_91 (rc : Nat → Nat × (Nat → Int32)) (d : Nat) (x0 : Int32) (h : jxH) : jx_C rc (d + 1) 91 [.int x0] h =
  if x0 = (7 : Int32) then
    some (some (.int (2 : Int32)), h)
  else
    jx_cI (jx_C rc d 72 [.long (x0).toInt64, .long (1 : Int64), .long (3 : Int64)] h) fun v2 h1 =>
    if v2 = 0 then
      some (some (.int (0 : Int32)), h1)
    else
      some (some (.int (1 : Int32)), h1) :=
  sorry
noncomputable def jb_92 (rc : Nat → Nat × (Nat → Int32)) (d : Nat) (i : Nat) (ls : List (Nat × Value)) (st : List Value) (h : jxH) : jxR := none
theorem je_92 (rc : Nat → Nat × (Nat → Int32)) (d : Nat) (a0 : Nat) (x1 : Int32) (x2 : Int32) (x3 : Int32) (x4 : Int32) (h : jxH) : jx_C rc (d + 1) 92 [.ref a0, .int x1, .int x2, .int x3, .int x4] h =
  if x1 = (0 : Int32) then
    jb_92 rc d 6 [(0, .ref a0), (2, .int x2), (5, .int (1 : Int32)), (6, .int (0 : Int32))] [] h
  else if x1 = ((0 : Int32) + 1) then
    (jx_aI (jx_at h a0) 0 ((1 : Int32) + x2)).bind fun v1 =>
    jx_cI (jx_C rc d 80 [.int (v1 + x4)] h) fun v3 h2 =>
    if v3 = 0 then
      if jx_bool (0 : Int32) = true then some (some (.int (0 : Int32)), h2) else none
    else
      (jx_aI (jx_at h2 a0) 0 ((1 : Int32) + x3)).bind fun v4 =>
      jx_cI (jx_C rc d 80 [.int (v4 + x4)] h2) fun v6 h5 =>
      if v6 = 0 then
        if jx_bool (0 : Int32) = true then some (some (.int (0 : Int32)), h5) else none
      else
        if jx_bool (1 : Int32) = true then some (some (.int (1 : Int32)), h5) else none
  else if x1 = (((0 : Int32) + 1) + 1) then
    (jx_aI (jx_at h a0) 0 ((1 : Int32) + x2)).bind fun v7 =>
    jx_cI (jx_C rc d 80 [.int (v7 + x4)] h) fun v9 h8 =>
    if jx_bool v9 = true then some (some (.int v9), h8) else none
  else if x1 = ((((0 : Int32) + 1) + 1) + 1) then
    if jx_bool (1 : Int32) = true then some (some (.int (1 : Int32)), h) else none
  else if x1 = (((((0 : Int32) + 1) + 1) + 1) + 1) then
    jx_cI (jx_C rc d 87 [.ref a0, .int x2] h) fun v11 h10 =>
    (jx_aI (jx_at h10 a0) 0 ((1 : Int32) + v11)).bind fun v12 =>
    jx_cI (jx_C rc d 88 [.ref a0, .int x2] h10) fun v14 h13 =>
    (jx_aI (jx_at h13 a0) 0 ((1 : Int32) + v14)).bind fun v15 =>
    jx_cI (jx_C rc d 80 [.int (v12 + v15)] h13) fun v17 h16 =>
    if jx_bool v17 = true then some (some (.int v17), h16) else none
  else if x1 = ((((((0 : Int32) + 1) + 1) + 1) + 1) + 1) then
    if jx_bool (1 : Int32) = true then some (some (.int (1 : Int32)), h) else none
  else if x1 = (((((((0 : Int32) + 1) + 1) + 1) + 1) + 1) + 1) then
    if jx_bool (1 : Int32) = true then some (some (.int (1 : Int32)), h) else none
  else if x1 = ((((((((0 : Int32) + 1) + 1) + 1) + 1) + 1) + 1) + 1) then
    (jx_aI (jx_at h a0) 0 ((1 : Int32) + x2)).bind fun v18 =>
    jx_cI (jx_C rc d 80 [.int (v18 - x4)] h) fun v20 h19 =>
    if jx_bool v20 = true then some (some (.int v20), h19) else none
  else 
    if jx_bool (1 : Int32) = true then some (some (.int (1 : Int32)), h) else none :=
  sorry
theorem je_92_6 (rc : Nat → Nat × (Nat → Int32)) (d : Nat) (a0 : Nat) (x2 : Int32) (x5 : Int32) (x6 : Int32) (h : jxH) : jb_92 rc d 6 [(0, .ref a0), (2, .int x2), (5, .int x5), (6, .int x6)] [] h =
  if (12 : Int32) ≤ x6 then
    if jx_bool x5 = true then some (some (.int x5), h) else none
  else
    (jx_aI (jx_at h a0) 0 ((13 : Int32) + x2)).bind fun v1 =>
    jx_cI (jx_C rc d 75 [.int v1, .int x6] h) fun v3 h2 =>
    if v3 = 0 then
      jb_92 rc d 6 [(0, .ref a0), (2, .int x2), (5, .int (x5 &&& (1 : Int32))), (6, .int (x6 + (1 : Int32)))] [] h2
    else
      (jx_aI (jx_at h2 a0) 0 ((1 : Int32) + x6)).bind fun v4 =>
      (jx_aI (jx_at h2 a0) 0 ((1 : Int32) + x2)).bind fun v5 =>
      jx_cI (jx_C rc d 80 [.int (v4 - v5)] h2) fun v7 h6 =>
      if v7 = 0 then
        jb_92 rc d 6 [(0, .ref a0), (2, .int x2), (5, .int (x5 &&& (0 : Int32))), (6, .int (x6 + (1 : Int32)))] [] h6
      else
        jb_92 rc d 6 [(0, .ref a0), (2, .int x2), (5, .int (x5 &&& (1 : Int32))), (6, .int (x6 + (1 : Int32)))] [] h6 :=
  sorry
theorem je_93 (rc : Nat → Nat × (Nat → Int32)) (d : Nat) (a0 : Nat) (x1 : Int32) (x2 : Int32) (x3 : Int32) (x4 : Int32) (x5 : Int32) (h : jxH) : jx_C rc (d + 1) 93 [.ref a0, .int x1, .int x2, .int x3, .int x4, .int x5] h =
  jx_cI (jx_C rc d 89 [.ref a0, .int x1, .int x2, .int x3, .int x4, .int x5] h) fun v2 h1 =>
  if v2 = 0 then
    some (some (.int (1 : Int32)), h1)
  else
    jx_cI (jx_C rc d 90 [.ref a0, .int x1, .int x2, .int x3] h1) fun v4 h3 =>
    if v4 = 0 then
      some (some (.int (3 : Int32)), h3)
    else
      (jx_aI (jx_at h3 a0) 0 (0 : Int32)).bind fun v5 =>
      jx_cI (jx_C rc d 76 [.int v5] h3) fun v7 h6 =>
      jx_cI (jx_C rc d 91 [.int x1] h6) fun v9 h8 =>
      if (v7 + v9) ≤ (12 : Int32) then
        jx_cI (jx_C rc d 92 [.ref a0, .int x1, .int x2, .int x3, .int x4] h8) fun v11 h10 =>
        if v11 = 0 then
          some (some (.int (5 : Int32)), h10)
        else
          some (some (.int (0 : Int32)), h10)
      else
        some (some (.int (4 : Int32)), h8) :=
  sorry
theorem je_94 (rc : Nat → Nat × (Nat → Int32)) (d : Nat) (a0 : Nat) (x1 : Int32) (x2 : Int32) (x3 : Int32) (h : jxH) : jx_C rc (d + 1) 94 [.ref a0, .int x1, .int x2, .int x3] h =
  if x1 = 0 then
    (jx_aI (jx_at h a0) 0 ((1 : Int32) + x2)).bind fun v1 =>
    some (some (.int v1), h)
  else
    jx_cI (jx_C rc d 72 [.long (x1).toInt64, .long (1 : Int64), .long (3 : Int64)] h) fun v3 h2 =>
    if v3 = 0 then
      if x1 = (6 : Int32) then
        (jx_aI (jx_at h2 a0) 0 (0 : Int32)).bind fun v4 =>
        jx_cI (jx_C rc d 76 [.int v4] h2) fun v6 h5 =>
        if (2 : Int32) = 0 then none else if (v6 - v6 / (2 : Int32) * (2 : Int32)) = 0 then
          some (some (.int (1 : Int32)), h5)
        else
          some (some (.int (-1 : Int32)), h5)
      else
        some (some (.int (-1 : Int32)), h2)
    else
      some (some (.int x3), h2) :=
  sorry
noncomputable def jb_95 (rc : Nat → Nat × (Nat → Int32)) (d : Nat) (i : Nat) (ls : List (Nat × Value)) (st : List Value) (h : jxH) : jxR := none
theorem je_95 (rc : Nat → Nat × (Nat → Int32)) (d : Nat) (a0 : Nat) (x1 : Int32) (h : jxH) : jx_C rc (d + 1) 95 [.ref a0, .int x1] h =
  (jx_aI (jx_at h a0) 0 ((1 : Int32) + x1)).bind fun v1 =>
  (jx_aI (jx_at h a0) 0 ((13 : Int32) + x1)).bind fun v2 =>
  jb_95 rc d 14 [(0, .ref a0), (1, .int x1), (2, .int v1), (3, .int v2), (4, .int (0 : Int32))] [] h :=
  sorry
theorem je_95_14 (rc : Nat → Nat × (Nat → Int32)) (d : Nat) (a0 : Nat) (x1 : Int32) (x2 : Int32) (x3 : Int32) (x4 : Int32) (h : jxH) : jb_95 rc d 14 [(0, .ref a0), (1, .int x1), (2, .int x2), (3, .int x3), (4, .int x4)] [] h =
  if (12 : Int32) ≤ x4 then
    jx_cV (jx_C rc d 84 [.ref a0, .int x1] h) fun h1 =>
    jx_cI (jx_C rc d 76 [.int x3] h1) fun v3 h2 =>
    if v3 = (2 : Int32) then
      jx_cI (jx_C rc d 77 [.int x3] h2) fun v5 h4 =>
      jx_cI (jx_C rc d 77 [.int (x3 &&& (x3 - (1 : Int32)))] h4) fun v7 h6 =>
      jx_cV (jx_C rc d 82 [.ref a0, .int v5, .int v7] h6) fun h8 =>
      some (none, h8)
    else
      some (none, h2)
  else
    (jx_aI (jx_at h a0) 0 ((1 : Int32) + x4)).bind fun v9 =>
    jx_cI (jx_C rc d 75 [.int x3, .int x4] h) fun v11 h10 =>
    if v11 = 0 then
      (jx_sI (jx_at h10 a0) 0 ((1 : Int32) + x4) (v9 - (0 : Int32))).bind fun e12 =>
      jb_95 rc d 14 [(0, .ref a0), (1, .int x1), (2, .int x2), (3, .int x3), (4, .int (x4 + (1 : Int32)))] [] (jx_set h10 a0 e12)
    else
      (jx_sI (jx_at h10 a0) 0 ((1 : Int32) + x4) (v9 - x2)).bind fun e13 =>
      jb_95 rc d 14 [(0, .ref a0), (1, .int x1), (2, .int x2), (3, .int x3), (4, .int (x4 + (1 : Int32)))] [] (jx_set h10 a0 e13) :=
  sorry
theorem je_96 (rc : Nat → Nat × (Nat → Int32)) (d : Nat) (a0 : Nat) (x1 : Int32) (x2 : Int32) (x3 : Int32) (h : jxH) : jx_C rc (d + 1) 96 [.ref a0, .int x1, .int x2, .int x3] h =
  (jx_aI (jx_at h a0) 0 ((1 : Int32) + x1)).bind fun v1 =>
  (jx_sI (jx_at h a0) 0 ((1 : Int32) + x1) (v1 + x3)).bind fun e2 =>
  (jx_aI (jx_at (jx_set h a0 e2) a0) 0 ((1 : Int32) + x2)).bind fun v3 =>
  (jx_sI (jx_at (jx_set h a0 e2) a0) 0 ((1 : Int32) + x2) (v3 + x3)).bind fun e4 =>
  jx_cV (jx_C rc d 83 [.ref a0, .int x1, .int x2] (jx_set (jx_set h a0 e2) a0 e4)) fun h5 =>
  jx_cI (jx_C rc d 81 [.ref a0, .int x3] h5) fun v7 h6 =>
  jx_cV (jx_C rc d 82 [.ref a0, .int v7, .int x1] h6) fun h8 =>
  jx_cV (jx_C rc d 82 [.ref a0, .int v7, .int x2] h8) fun h9 =>
  some (none, h9) :=
  sorry
noncomputable def jb_97 (rc : Nat → Nat × (Nat → Int32)) (d : Nat) (i : Nat) (ls : List (Nat × Value)) (st : List Value) (h : jxH) : jxR := none
theorem je_97 (rc : Nat → Nat × (Nat → Int32)) (d : Nat) (a0 : Nat) (x1 : Int32) (h : jxH) : jx_C rc (d + 1) 97 [.ref a0, .int x1] h =
  jx_cI (jx_C rc d 87 [.ref a0, .int x1] h) fun v2 h1 =>
  jx_cI (jx_C rc d 88 [.ref a0, .int x1] h1) fun v4 h3 =>
  (jx_aI (jx_at h3 a0) 0 ((1 : Int32) + v2)).bind fun v5 =>
  (jx_aI (jx_at h3 a0) 0 ((1 : Int32) + v4)).bind fun v6 =>
  (jx_sI (jx_at h3 a0) 0 ((1 : Int32) + v2) (v5 + v6)).bind fun e7 =>
  (jx_aI (jx_at (jx_set h3 a0 e7) a0) 0 ((13 : Int32) + v4)).bind fun v8 =>
  jb_97 rc d 29 [(0, .ref a0), (1, .int x1), (2, .int v2), (3, .int v4), (4, .int v8), (5, .int (0 : Int32))] [] (jx_set h3 a0 e7) :=
  sorry
theorem je_97_29 (rc : Nat → Nat × (Nat → Int32)) (d : Nat) (a0 : Nat) (x1 : Int32) (x2 : Int32) (x3 : Int32) (x4 : Int32) (x5 : Int32) (h : jxH) : jb_97 rc d 29 [(0, .ref a0), (1, .int x1), (2, .int x2), (3, .int x3), (4, .int x4), (5, .int x5)] [] h =
  if (12 : Int32) ≤ x5 then
    jx_cV (jx_C rc d 84 [.ref a0, .int x1] h) fun h1 =>
    jx_cV (jx_C rc d 84 [.ref a0, .int x3] h1) fun h2 =>
    some (none, h2)
  else
    jx_cI (jx_C rc d 75 [.int x4, .int x5] h) fun v4 h3 =>
    if v4 = 0 then
      jb_97 rc d 29 [(0, .ref a0), (1, .int x1), (2, .int x2), (3, .int x3), (4, .int x4), (5, .int (x5 + (1 : Int32)))] [] h3
    else
      if x5 = x1 then
        jb_97 rc d 29 [(0, .ref a0), (1, .int x1), (2, .int x2), (3, .int x3), (4, .int x4), (5, .int (x5 + (1 : Int32)))] [] h3
      else
        jx_cV (jx_C rc d 82 [.ref a0, .int x2, .int x5] h3) fun h5 =>
        jb_97 rc d 29 [(0, .ref a0), (1, .int x1), (2, .int x2), (3, .int x3), (4, .int x4), (5, .int (x5 + (1 : Int32)))] [] h5 :=
  sorry
noncomputable def jb_98 (rc : Nat → Nat × (Nat → Int32)) (d : Nat) (i : Nat) (ls : List (Nat × Value)) (st : List Value) (h : jxH) : jxR := none
theorem je_98 (rc : Nat → Nat × (Nat → Int32)) (d : Nat) (a0 : Nat) (x1 : Int32) (x2 : Int32) (x3 : Int32) (h : jxH) : jx_C rc (d + 1) 98 [.ref a0, .int x1, .int x2, .int x3] h =
  (jx_aI (jx_at h a0) 0 ((1 : Int32) + x1)).bind fun v1 =>
  (jx_sI (jx_at h a0) 0 ((1 : Int32) + x1) (v1 - x2)).bind fun e2 =>
  jx_cI (jx_C rc d 81 [.ref a0, .int (0 : Int32)] (jx_set h a0 e2)) fun v4 h3 =>
  jx_cI (jx_C rc d 81 [.ref a0, .int x2] h3) fun v6 h5 =>
  jb_98 rc d 19 [(0, .ref a0), (1, .int x1), (3, .int x3), (4, .int v4), (5, .int v6), (6, .int (0 : Int32))] [] h5 :=
  sorry
theorem je_98_19 (rc : Nat → Nat × (Nat → Int32)) (d : Nat) (a0 : Nat) (x1 : Int32) (x3 : Int32) (x4 : Int32) (x5 : Int32) (x6 : Int32) (h : jxH) : jb_98 rc d 19 [(0, .ref a0), (1, .int x1), (3, .int x3), (4, .int x4), (5, .int x5), (6, .int x6)] [] h =
  if (12 : Int32) ≤ x6 then
    jx_cV (jx_C rc d 82 [.ref a0, .int x4, .int x1] h) fun h1 =>
    jx_cV (jx_C rc d 82 [.ref a0, .int x5, .int x4] h1) fun h2 =>
    some (none, h2)
  else
    jx_cI (jx_C rc d 75 [.int x3, .int x6] h) fun v4 h3 =>
    if v4 = 0 then
      jb_98 rc d 19 [(0, .ref a0), (1, .int x1), (3, .int x3), (4, .int x4), (5, .int x5), (6, .int (x6 + (1 : Int32)))] [] h3
    else
      jx_cV (jx_C rc d 83 [.ref a0, .int x1, .int x6] h3) fun h5 =>
      jx_cV (jx_C rc d 82 [.ref a0, .int x5, .int x6] h5) fun h6 =>
      jb_98 rc d 19 [(0, .ref a0), (1, .int x1), (3, .int x3), (4, .int x4), (5, .int x5), (6, .int (x6 + (1 : Int32)))] [] h6 :=
  sorry
noncomputable def jb_99 (rc : Nat → Nat × (Nat → Int32)) (d : Nat) (i : Nat) (ls : List (Nat × Value)) (st : List Value) (h : jxH) : jxR := none
theorem je_99 (rc : Nat → Nat × (Nat → Int32)) (d : Nat) (a0 : Nat) (x1 : Int32) (x2 : Int32) (x3 : Int32) (x4 : Int32) (x5 : Int32) (h : jxH) : jx_C rc (d + 1) 99 [.ref a0, .int x1, .int x2, .int x3, .int x4, .int x5] h =
  if x1 = (0 : Int32) then
    jx_cV (jx_C rc d 95 [.ref a0, .int x2] h) fun h1 =>
    some (none, h1)
  else if x1 = ((0 : Int32) + 1) then
    jx_cV (jx_C rc d 96 [.ref a0, .int x2, .int x3, .int x4] h) fun h2 =>
    some (none, h2)
  else if x1 = (((0 : Int32) + 1) + 1) then
    (jx_aI (jx_at h a0) 0 ((1 : Int32) + x2)).bind fun v3 =>
    (jx_sI (jx_at h a0) 0 ((1 : Int32) + x2) (v3 + x4)).bind fun e4 =>
    jx_cI (jx_C rc d 81 [.ref a0, .int x4] (jx_set h a0 e4)) fun v6 h5 =>
    jx_cV (jx_C rc d 82 [.ref a0, .int v6, .int x2] h5) fun h7 =>
    some (none, h7)
  else if x1 = ((((0 : Int32) + 1) + 1) + 1) then
    jx_cI (jx_C rc d 81 [.ref a0, .int x4] h) fun v9 h8 =>
    some (none, h8)
  else if x1 = (((((0 : Int32) + 1) + 1) + 1) + 1) then
    jx_cV (jx_C rc d 97 [.ref a0, .int x2] h) fun h10 =>
    some (none, h10)
  else if x1 = ((((((0 : Int32) + 1) + 1) + 1) + 1) + 1) then
    jx_cI (jx_C rc d 87 [.ref a0, .int x2] h) fun v12 h11 =>
    jx_cV (jx_C rc d 84 [.ref a0, .int x2] h11) fun h13 =>
    jx_cV (jx_C rc d 84 [.ref a0, .int v12] h13) fun h14 =>
    some (none, h14)
  else if x1 = (((((((0 : Int32) + 1) + 1) + 1) + 1) + 1) + 1) then
    jb_99 rc d 50 [(0, .ref a0), (6, .int (0 : Int32))] [] h
  else 
    jx_cV (jx_C rc d 98 [.ref a0, .int x2, .int x4, .int x5] h) fun h15 =>
    some (none, h15) :=
  sorry
theorem je_99_50 (rc : Nat → Nat × (Nat → Int32)) (d : Nat) (a0 : Nat) (x6 : Int32) (h : jxH) : jb_99 rc d 50 [(0, .ref a0), (6, .int x6)] [] h =
  if (12 : Int32) ≤ x6 then
    some (none, h)
  else
    (jx_aI (jx_at h a0) 0 ((1 : Int32) + x6)).bind fun v1 =>
    (jx_sI (jx_at h a0) 0 ((1 : Int32) + x6) (-v1)).bind fun e2 =>
    jb_99 rc d 50 [(0, .ref a0), (6, .int (x6 + (1 : Int32)))] [] (jx_set h a0 e2) :=
  sorry
theorem je_100 (rc : Nat → Nat × (Nat → Int32)) (d : Nat) (a0 : Nat) (h : jxH) : jx_C rc (d + 1) 100 [.ref a0] h =
  if jx_is (jx_at h a0) 12 = true then
  (jx_pF (jx_at h a0) 12 4 (.int (0 : Int32))).bind fun e1 =>
  (jx_pF (jx_at (jx_set h a0 e1) a0) 12 5 (.int (0 : Int32))).bind fun e2 =>
  some (none, (jx_set (jx_set h a0 e1) a0 e2))
  else none :=
  sorry
noncomputable def jb_101 (rc : Nat → Nat × (Nat → Int32)) (d : Nat) (i : Nat) (ls : List (Nat × Value)) (st : List Value) (h : jxH) : jxR := none
theorem je_101 (rc : Nat → Nat × (Nat → Int32)) (d : Nat) (a0 : Nat) (x1 : Int32) (x2 : Int32) (x3 : Int32) (x4 : Int32) (x5 : Int32) (h : jxH) : jx_C rc (d + 1) 101 [.ref a0, .int x1, .int x2, .int x3, .int x4, .int x5] h =
  if jx_is (jx_at h a0) 12 = true then
  (jx_gR (jx_at h a0) 12 1).bind fun b1 =>
  (jx_gR (jx_at h a0) 12 2).bind fun b2 =>
  (jx_gI (jx_at h a0) 12 4).bind fun v3 =>
  (jx_aQ (jx_at h b2) 8 v3).bind fun o4 =>
  jx_mo o4 (fun b5 => jx_cV (jx_C rc d 74 [.ref b1, .ref b5] h) fun h6 =>
    (jx_gI (jx_at h6 a0) 12 4).bind fun v7 =>
    (jx_gR (jx_at h6 a0) 12 3).bind fun b8 =>
    (jx_sI (jx_at h6 b8) 0 ((6 : Int32) * v7) x1).bind fun e9 =>
    (jx_gR (jx_at (jx_set h6 b8 e9) a0) 12 3).bind fun b10 =>
    if x1 = (3 : Int32) then
      (jx_sI (jx_at (jx_set h6 b8 e9) b10) 0 (((6 : Int32) * v7) + (1 : Int32)) (0 : Int32)).bind fun e11 =>
      (jx_gR (jx_at (jx_set (jx_set h6 b8 e9) b10 e11) a0) 12 3).bind fun b12 =>
      if x1 = (1 : Int32) then
        jb_101 rc d 44 [(0, .ref a0), (1, .int x1), (2, .int x2), (3, .int x3), (4, .int x4), (5, .int x5), (6, .int ((6 : Int32) * v7))] [.int x3, .int (((6 : Int32) * v7) + (2 : Int32)), .ref b12] (jx_set (jx_set h6 b8 e9) b10 e11)
      else
        jb_101 rc d 44 [(0, .ref a0), (1, .int x1), (2, .int x2), (3, .int x3), (4, .int x4), (5, .int x5), (6, .int ((6 : Int32) * v7))] [.int (0 : Int32), .int (((6 : Int32) * v7) + (2 : Int32)), .ref b12] (jx_set (jx_set h6 b8 e9) b10 e11)
    else
      if x1 = (6 : Int32) then
        (jx_sI (jx_at (jx_set h6 b8 e9) b10) 0 (((6 : Int32) * v7) + (1 : Int32)) (0 : Int32)).bind fun e13 =>
        (jx_gR (jx_at (jx_set (jx_set h6 b8 e9) b10 e13) a0) 12 3).bind fun b14 =>
        if x1 = (1 : Int32) then
          jb_101 rc d 44 [(0, .ref a0), (1, .int x1), (2, .int x2), (3, .int x3), (4, .int x4), (5, .int x5), (6, .int ((6 : Int32) * v7))] [.int x3, .int (((6 : Int32) * v7) + (2 : Int32)), .ref b14] (jx_set (jx_set h6 b8 e9) b10 e13)
        else
          jb_101 rc d 44 [(0, .ref a0), (1, .int x1), (2, .int x2), (3, .int x3), (4, .int x4), (5, .int x5), (6, .int ((6 : Int32) * v7))] [.int (0 : Int32), .int (((6 : Int32) * v7) + (2 : Int32)), .ref b14] (jx_set (jx_set h6 b8 e9) b10 e13)
      else
        (jx_sI (jx_at (jx_set h6 b8 e9) b10) 0 (((6 : Int32) * v7) + (1 : Int32)) x2).bind fun e15 =>
        (jx_gR (jx_at (jx_set (jx_set h6 b8 e9) b10 e15) a0) 12 3).bind fun b16 =>
        if x1 = (1 : Int32) then
          jb_101 rc d 44 [(0, .ref a0), (1, .int x1), (2, .int x2), (3, .int x3), (4, .int x4), (5, .int x5), (6, .int ((6 : Int32) * v7))] [.int x3, .int (((6 : Int32) * v7) + (2 : Int32)), .ref b16] (jx_set (jx_set h6 b8 e9) b10 e15)
        else
          jb_101 rc d 44 [(0, .ref a0), (1, .int x1), (2, .int x2), (3, .int x3), (4, .int x4), (5, .int x5), (6, .int ((6 : Int32) * v7))] [.int (0 : Int32), .int (((6 : Int32) * v7) + (2 : Int32)), .ref b16] (jx_set (jx_set h6 b8 e9) b10 e15))
  (jx_cV (jx_C rc d 74 [.ref b1, .null] h) fun h17 =>
    (jx_gI (jx_at h17 a0) 12 4).bind fun v18 =>
    (jx_gR (jx_at h17 a0) 12 3).bind fun b19 =>
    (jx_sI (jx_at h17 b19) 0 ((6 : Int32) * v18) x1).bind fun e20 =>
    (jx_gR (jx_at (jx_set h17 b19 e20) a0) 12 3).bind fun b21 =>
    if x1 = (3 : Int32) then
      (jx_sI (jx_at (jx_set h17 b19 e20) b21) 0 (((6 : Int32) * v18) + (1 : Int32)) (0 : Int32)).bind fun e22 =>
      (jx_gR (jx_at (jx_set (jx_set h17 b19 e20) b21 e22) a0) 12 3).bind fun b23 =>
      if x1 = (1 : Int32) then
        jb_101 rc d 44 [(0, .ref a0), (1, .int x1), (2, .int x2), (3, .int x3), (4, .int x4), (5, .int x5), (6, .int ((6 : Int32) * v18))] [.int x3, .int (((6 : Int32) * v18) + (2 : Int32)), .ref b23] (jx_set (jx_set h17 b19 e20) b21 e22)
      else
        jb_101 rc d 44 [(0, .ref a0), (1, .int x1), (2, .int x2), (3, .int x3), (4, .int x4), (5, .int x5), (6, .int ((6 : Int32) * v18))] [.int (0 : Int32), .int (((6 : Int32) * v18) + (2 : Int32)), .ref b23] (jx_set (jx_set h17 b19 e20) b21 e22)
    else
      if x1 = (6 : Int32) then
        (jx_sI (jx_at (jx_set h17 b19 e20) b21) 0 (((6 : Int32) * v18) + (1 : Int32)) (0 : Int32)).bind fun e24 =>
        (jx_gR (jx_at (jx_set (jx_set h17 b19 e20) b21 e24) a0) 12 3).bind fun b25 =>
        if x1 = (1 : Int32) then
          jb_101 rc d 44 [(0, .ref a0), (1, .int x1), (2, .int x2), (3, .int x3), (4, .int x4), (5, .int x5), (6, .int ((6 : Int32) * v18))] [.int x3, .int (((6 : Int32) * v18) + (2 : Int32)), .ref b25] (jx_set (jx_set h17 b19 e20) b21 e24)
        else
          jb_101 rc d 44 [(0, .ref a0), (1, .int x1), (2, .int x2), (3, .int x3), (4, .int x4), (5, .int x5), (6, .int ((6 : Int32) * v18))] [.int (0 : Int32), .int (((6 : Int32) * v18) + (2 : Int32)), .ref b25] (jx_set (jx_set h17 b19 e20) b21 e24)
      else
        (jx_sI (jx_at (jx_set h17 b19 e20) b21) 0 (((6 : Int32) * v18) + (1 : Int32)) x2).bind fun e26 =>
        (jx_gR (jx_at (jx_set (jx_set h17 b19 e20) b21 e26) a0) 12 3).bind fun b27 =>
        if x1 = (1 : Int32) then
          jb_101 rc d 44 [(0, .ref a0), (1, .int x1), (2, .int x2), (3, .int x3), (4, .int x4), (5, .int x5), (6, .int ((6 : Int32) * v18))] [.int x3, .int (((6 : Int32) * v18) + (2 : Int32)), .ref b27] (jx_set (jx_set h17 b19 e20) b21 e26)
        else
          jb_101 rc d 44 [(0, .ref a0), (1, .int x1), (2, .int x2), (3, .int x3), (4, .int x4), (5, .int x5), (6, .int ((6 : Int32) * v18))] [.int (0 : Int32), .int (((6 : Int32) * v18) + (2 : Int32)), .ref b27] (jx_set (jx_set h17 b19 e20) b21 e26))
  else none :=
  sorry
theorem je_101_44 (rc : Nat → Nat × (Nat → Int32)) (d : Nat) (a0 : Nat) (x1 : Int32) (x2 : Int32) (x3 : Int32) (x4 : Int32) (x5 : Int32) (x6 : Int32) (s0 : Nat) (s1 : Int32) (s2 : Int32) (h : jxH) : jb_101 rc d 44 [(0, .ref a0), (1, .int x1), (2, .int x2), (3, .int x3), (4, .int x4), (5, .int x5), (6, .int x6)] [.int s2, .int s1, .ref s0] h =
  (jx_sI (jx_at h s0) 0 s1 s2).bind fun e1 =>
  (jx_gR (jx_at (jx_set h s0 e1) a0) 12 3).bind fun b2 =>
  jx_cI (jx_C rc d 72 [.long (x1).toInt64, .long (1 : Int64), .long (3 : Int64)] (jx_set h s0 e1)) fun v4 h3 =>
  if v4 = 0 then
    if x1 = (7 : Int32) then
      (jx_sI (jx_at h3 b2) 0 (x6 + (3 : Int32)) x4).bind fun e5 =>
      (jx_gR (jx_at (jx_set h3 b2 e5) a0) 12 3).bind fun b6 =>
      if x1 = (7 : Int32) then
        jb_101 rc d 74 [(0, .ref a0), (1, .int x1), (2, .int x2), (3, .int x3), (4, .int x4), (5, .int x5), (6, .int x6)] [.int x5, .int (x6 + (4 : Int32)), .ref b6] (jx_set h3 b2 e5)
      else
        jb_101 rc d 74 [(0, .ref a0), (1, .int x1), (2, .int x2), (3, .int x3), (4, .int x4), (5, .int x5), (6, .int x6)] [.int (0 : Int32), .int (x6 + (4 : Int32)), .ref b6] (jx_set h3 b2 e5)
    else
      (jx_sI (jx_at h3 b2) 0 (x6 + (3 : Int32)) (0 : Int32)).bind fun e7 =>
      (jx_gR (jx_at (jx_set h3 b2 e7) a0) 12 3).bind fun b8 =>
      if x1 = (7 : Int32) then
        jb_101 rc d 74 [(0, .ref a0), (1, .int x1), (2, .int x2), (3, .int x3), (4, .int x4), (5, .int x5), (6, .int x6)] [.int x5, .int (x6 + (4 : Int32)), .ref b8] (jx_set h3 b2 e7)
      else
        jb_101 rc d 74 [(0, .ref a0), (1, .int x1), (2, .int x2), (3, .int x3), (4, .int x4), (5, .int x5), (6, .int x6)] [.int (0 : Int32), .int (x6 + (4 : Int32)), .ref b8] (jx_set h3 b2 e7)
  else
    (jx_sI (jx_at h3 b2) 0 (x6 + (3 : Int32)) x4).bind fun e9 =>
    (jx_gR (jx_at (jx_set h3 b2 e9) a0) 12 3).bind fun b10 =>
    if x1 = (7 : Int32) then
      jb_101 rc d 74 [(0, .ref a0), (1, .int x1), (2, .int x2), (3, .int x3), (4, .int x4), (5, .int x5), (6, .int x6)] [.int x5, .int (x6 + (4 : Int32)), .ref b10] (jx_set h3 b2 e9)
    else
      jb_101 rc d 74 [(0, .ref a0), (1, .int x1), (2, .int x2), (3, .int x3), (4, .int x4), (5, .int x5), (6, .int x6)] [.int (0 : Int32), .int (x6 + (4 : Int32)), .ref b10] (jx_set h3 b2 e9) :=
  sorry
theorem je_101_74 (rc : Nat → Nat × (Nat → Int32)) (d : Nat) (a0 : Nat) (x1 : Int32) (x2 : Int32) (x3 : Int32) (x4 : Int32) (x5 : Int32) (x6 : Int32) (s0 : Nat) (s1 : Int32) (s2 : Int32) (h : jxH) : jb_101 rc d 74 [(0, .ref a0), (1, .int x1), (2, .int x2), (3, .int x3), (4, .int x4), (5, .int x5), (6, .int x6)] [.int s2, .int s1, .ref s0] h =
  (jx_sI (jx_at h s0) 0 s1 s2).bind fun e1 =>
  (jx_gR (jx_at (jx_set h s0 e1) a0) 12 3).bind fun b2 =>
  (jx_gR (jx_at (jx_set h s0 e1) a0) 12 1).bind fun b3 =>
  jx_cI (jx_C rc d 94 [.ref b3, .int x1, .int x2, .int x4] (jx_set h s0 e1)) fun v5 h4 =>
  (jx_sI (jx_at h4 b2) 0 (x6 + (5 : Int32)) v5).bind fun e6 =>
  (jx_gR (jx_at (jx_set h4 b2 e6) a0) 12 1).bind fun b7 =>
  jx_cV (jx_C rc d 99 [.ref b7, .int x1, .int x2, .int x3, .int x4, .int x5] (jx_set h4 b2 e6)) fun h8 =>
  (jx_gI (jx_at h8 a0) 12 4).bind fun v9 =>
  (jx_pF (jx_at h8 a0) 12 4 (.int (v9 + (1 : Int32)))).bind fun e10 =>
  (jx_gI (jx_at (jx_set h8 a0 e10) a0) 12 4).bind fun v11 =>
  (jx_pF (jx_at (jx_set h8 a0 e10) a0) 12 5 (.int v11)).bind fun e12 =>
  (jx_gR (jx_at (jx_set (jx_set h8 a0 e10) a0 e12) a0) 12 1).bind fun b13 =>
  (jx_gR (jx_at (jx_set (jx_set h8 a0 e10) a0 e12) a0) 12 2).bind fun b14 =>
  (jx_gI (jx_at (jx_set (jx_set h8 a0 e10) a0 e12) a0) 12 4).bind fun v15 =>
  (jx_aQ (jx_at (jx_set (jx_set h8 a0 e10) a0 e12) b14) 8 v15).bind fun o16 =>
  jx_mo o16 (fun b17 => jx_cV (jx_C rc d 74 [.ref b13, .ref b17] (jx_set (jx_set h8 a0 e10) a0 e12)) fun h18 =>
    some (none, h18))
  (jx_cV (jx_C rc d 74 [.ref b13, .null] (jx_set (jx_set h8 a0 e10) a0 e12)) fun h19 =>
    some (none, h19)) :=
  sorry
noncomputable def jb_102 (rc : Nat → Nat × (Nat → Int32)) (d : Nat) (i : Nat) (ls : List (Nat × Value)) (st : List Value) (h : jxH) : jxR := none
theorem je_102 (rc : Nat → Nat × (Nat → Int32)) (d : Nat) (a0 : Nat) (x1 : Int32) (x2 : Int32) (x3 : Int32) (x4 : Int32) (x5 : Int32) (h : jxH) : jx_C rc (d + 1) 102 [.ref a0, .int x1, .int x2, .int x3, .int x4, .int x5] h =
  if jx_is (jx_at h a0) 12 = true then
  (jx_gR (jx_at h a0) 12 1).bind fun b1 =>
  jx_cI (jx_C rc d 93 [.ref b1, .int x1, .int x2, .int x3, .int x4, .int x5] h) fun v3 h2 =>
  if v3 = 0 then
    jb_102 rc d 14 [(0, .ref a0), (1, .int x1), (2, .int x2), (3, .int x3), (4, .int x4), (5, .int x5), (6, .int v3)] [] h2
  else
    if v3 = (5 : Int32) then
      jb_102 rc d 14 [(0, .ref a0), (1, .int x1), (2, .int x2), (3, .int x3), (4, .int x4), (5, .int x5), (6, .int v3)] [] h2
    else
      if v3 = 0 then
        jx_cV (jx_C rc d 101 [.ref a0, .int x1, .int x2, .int x3, .int x4, .int x5] h2) fun h4 =>
        (jx_gR (jx_at h4 a0) 12 1).bind fun b5 =>
        (jx_aI (jx_at h4 b5) 0 (0 : Int32)).bind fun v6 =>
        jx_cI (jx_C rc d 76 [.int v6] h4) fun v8 h7 =>
        some (some (.int v8), h7)
      else
        jx_cI (jx_C rc d 73 [.ref a0, .int v3] h2) fun v10 h9 =>
        some (some (.int v10), h9)
  else none :=
  sorry
theorem je_102_14 (rc : Nat → Nat × (Nat → Int32)) (d : Nat) (a0 : Nat) (x1 : Int32) (x2 : Int32) (x3 : Int32) (x4 : Int32) (x5 : Int32) (x6 : Int32) (h : jxH) : jb_102 rc d 14 [(0, .ref a0), (1, .int x1), (2, .int x2), (3, .int x3), (4, .int x4), (5, .int x5), (6, .int x6)] [] h =
  (jx_gI (jx_at h a0) 12 4).bind fun v1 =>
  if v1 = (40 : Int32) then
    if (4 : Int32) = 0 then
      jx_cV (jx_C rc d 101 [.ref a0, .int x1, .int x2, .int x3, .int x4, .int x5] h) fun h2 =>
      (jx_gR (jx_at h2 a0) 12 1).bind fun b3 =>
      (jx_aI (jx_at h2 b3) 0 (0 : Int32)).bind fun v4 =>
      jx_cI (jx_C rc d 76 [.int v4] h2) fun v6 h5 =>
      some (some (.int v6), h5)
    else
      jx_cI (jx_C rc d 73 [.ref a0, .int (4 : Int32)] h) fun v8 h7 =>
      some (some (.int v8), h7)
  else
    if x6 = 0 then
      jx_cV (jx_C rc d 101 [.ref a0, .int x1, .int x2, .int x3, .int x4, .int x5] h) fun h9 =>
      (jx_gR (jx_at h9 a0) 12 1).bind fun b10 =>
      (jx_aI (jx_at h9 b10) 0 (0 : Int32)).bind fun v11 =>
      jx_cI (jx_C rc d 76 [.int v11] h9) fun v13 h12 =>
      some (some (.int v13), h12)
    else
      jx_cI (jx_C rc d 73 [.ref a0, .int x6] h) fun v15 h14 =>
      some (some (.int v15), h14) :=
  sorry
theorem je_103 (rc : Nat → Nat × (Nat → Int32)) (d : Nat) (a0 : Nat) (h : jxH) : jx_C rc (d + 1) 103 [.ref a0] h =
  if jx_is (jx_at h a0) 12 = true then
  (jx_gI (jx_at h a0) 12 4).bind fun v1 =>
  if v1 = 0 then
    jx_cI (jx_C rc d 73 [.ref a0, .int (2 : Int32)] h) fun v3 h2 =>
    some (some (.int v3), h2)
  else
    (jx_gI (jx_at h a0) 12 4).bind fun v4 =>
    (jx_pF (jx_at h a0) 12 4 (.int (v4 - (1 : Int32)))).bind fun e5 =>
    (jx_gR (jx_at (jx_set h a0 e5) a0) 12 2).bind fun b6 =>
    (jx_gI (jx_at (jx_set h a0 e5) a0) 12 4).bind fun v7 =>
    (jx_aQ (jx_at (jx_set h a0 e5) b6) 8 v7).bind fun o8 =>
    jx_mo o8 (fun b9 => (jx_gR (jx_at (jx_set h a0 e5) a0) 12 1).bind fun b10 =>
      jx_cV (jx_C rc d 74 [.ref b9, .ref b10] (jx_set h a0 e5)) fun h11 =>
      (jx_gI (jx_at h11 a0) 12 4).bind fun v12 =>
      some (some (.int v12), h11))
    ((jx_gR (jx_at (jx_set h a0 e5) a0) 12 1).bind fun b13 =>
      jx_cV (jx_C rc d 74 [.null, .ref b13] (jx_set h a0 e5)) fun h14 =>
      (jx_gI (jx_at h14 a0) 12 4).bind fun v15 =>
      some (some (.int v15), h14))
  else none :=
  sorry
theorem je_104 (rc : Nat → Nat × (Nat → Int32)) (d : Nat) (a0 : Nat) (h : jxH) : jx_C rc (d + 1) 104 [.ref a0] h =
  if jx_is (jx_at h a0) 12 = true then
  (jx_gI (jx_at h a0) 12 4).bind fun v1 =>
  (jx_gI (jx_at h a0) 12 5).bind fun v2 =>
  if v1 = v2 then
    jx_cI (jx_C rc d 73 [.ref a0, .int (2 : Int32)] h) fun v4 h3 =>
    some (some (.int v4), h3)
  else
    (jx_gI (jx_at h a0) 12 4).bind fun v5 =>
    (jx_pF (jx_at h a0) 12 4 (.int (v5 + (1 : Int32)))).bind fun e6 =>
    (jx_gR (jx_at (jx_set h a0 e6) a0) 12 2).bind fun b7 =>
    (jx_gI (jx_at (jx_set h a0 e6) a0) 12 4).bind fun v8 =>
    (jx_aQ (jx_at (jx_set h a0 e6) b7) 8 v8).bind fun o9 =>
    jx_mo o9 (fun b10 => (jx_gR (jx_at (jx_set h a0 e6) a0) 12 1).bind fun b11 =>
      jx_cV (jx_C rc d 74 [.ref b10, .ref b11] (jx_set h a0 e6)) fun h12 =>
      (jx_gI (jx_at h12 a0) 12 4).bind fun v13 =>
      some (some (.int v13), h12))
    ((jx_gR (jx_at (jx_set h a0 e6) a0) 12 1).bind fun b14 =>
      jx_cV (jx_C rc d 74 [.null, .ref b14] (jx_set h a0 e6)) fun h15 =>
      (jx_gI (jx_at h15 a0) 12 4).bind fun v16 =>
      some (some (.int v16), h15))
  else none :=
  sorry
theorem je_105 (rc : Nat → Nat × (Nat → Int32)) (d : Nat) (a0 : Nat) (x1 : Int32) (x2 : Int32) (h : jxH) : jx_C rc (d + 1) 105 [.ref a0, .int x1, .int x2] h =
  if jx_is (jx_at h a0) 12 = true then
  jx_cI (jx_C rc d 72 [.long (x2).toInt64, .long (0 : Int64), .long (4 : Int64)] h) fun v2 h1 =>
  if v2 = 0 then
    jx_cI (jx_C rc d 73 [.ref a0, .int (1 : Int32)] h1) fun v4 h3 =>
    some (some (.int v4), h3)
  else
    (jx_gI (jx_at h1 a0) 12 4).bind fun v5 =>
    jx_cI (jx_C rc d 72 [.long (x1).toInt64, .long (0 : Int64), .long ((v5 - (1 : Int32))).toInt64] h1) fun v7 h6 =>
    if v7 = 0 then
      jx_cI (jx_C rc d 73 [.ref a0, .int (2 : Int32)] h6) fun v9 h8 =>
      some (some (.int v9), h8)
    else
      (jx_gR (jx_at h6 a0) 12 3).bind fun b10 =>
      (jx_aI (jx_at h6 b10) 0 (((6 : Int32) * x1) + x2)).bind fun v11 =>
      some (some (.int v11), h6)
  else none :=
  sorry
noncomputable def jb_106 (rc : Nat → Nat × (Nat → Int32)) (d : Nat) (i : Nat) (ls : List (Nat × Value)) (st : List Value) (h : jxH) : jxR := none
theorem je_106 (rc : Nat → Nat × (Nat → Int32)) (d : Nat) (a0 : Nat) (h : jxH) : jx_C rc (d + 1) 106 [.ref a0] h =
  if jx_is (jx_at h a0) 12 = true then
  jb_106 rc d 4 [(0, .ref a0), (1, .int (1 : Int32)), (2, .int (0 : Int32))] [] h
  else none :=
  sorry
theorem je_106_4 (rc : Nat → Nat × (Nat → Int32)) (d : Nat) (a0 : Nat) (x1 : Int32) (x2 : Int32) (h : jxH) : jb_106 rc d 4 [(0, .ref a0), (1, .int x1), (2, .int x2)] [] h =
  (jx_gI (jx_at h a0) 12 4).bind fun v1 =>
  if v1 ≤ x2 then
    some (some (.int x1), h)
  else
    (jx_gR (jx_at h a0) 12 3).bind fun b2 =>
    (jx_aI (jx_at h b2) 0 (((6 : Int32) * x2) + (5 : Int32))).bind fun v3 =>
    jb_106 rc d 4 [(0, .ref a0), (1, .int (x1 * v3)), (2, .int (x2 + (1 : Int32)))] [] h :=
  sorry
theorem je_107 (rc : Nat → Nat × (Nat → Int32)) (d : Nat) (a0 : Nat) (x1 : Int32) (h : jxH) : jx_C rc (d + 1) 107 [.ref a0, .int x1] h =
  if jx_is (jx_at h a0) 12 = true then
  jx_cI (jx_C rc d 80 [.int x1] h) fun v2 h1 =>
  if v2 = 0 then
    jx_cI (jx_C rc d 73 [.ref a0, .int (1 : Int32)] h1) fun v4 h3 =>
    some (some (.int v4), h3)
  else
    (jx_gR (jx_at h1 a0) 12 1).bind fun b5 =>
    (jx_aI (jx_at h1 b5) 0 (0 : Int32)).bind fun v6 =>
    jx_cI (jx_C rc d 76 [.int v6] h1) fun v8 h7 =>
    if v8 = (12 : Int32) then
      jx_cI (jx_C rc d 73 [.ref a0, .int (4 : Int32)] h7) fun v10 h9 =>
      some (some (.int v10), h9)
    else
      jx_cV (jx_C rc d 100 [.ref a0] h7) fun h11 =>
      (jx_gR (jx_at h11 a0) 12 1).bind fun b12 =>
      jx_cI (jx_C rc d 81 [.ref b12, .int x1] h11) fun v14 h13 =>
      some (some (.int v14), h13)
  else none :=
  sorry
theorem je_108 (rc : Nat → Nat × (Nat → Int32)) (d : Nat) (a0 : Nat) (x1 : Int32) (x2 : Int32) (h : jxH) : jx_C rc (d + 1) 108 [.ref a0, .int x1, .int x2] h =
  if jx_is (jx_at h a0) 12 = true then
  jx_cI (jx_C rc d 79 [.ref a0, .int x1] h) fun v2 h1 =>
  if v2 = 0 then
    jx_cI (jx_C rc d 73 [.ref a0, .int (1 : Int32)] h1) fun v4 h3 =>
    some (some (.int v4), h3)
  else
    jx_cI (jx_C rc d 80 [.int x2] h1) fun v6 h5 =>
    if v6 = 0 then
      jx_cI (jx_C rc d 73 [.ref a0, .int (1 : Int32)] h5) fun v8 h7 =>
      some (some (.int v8), h7)
    else
      jx_cV (jx_C rc d 100 [.ref a0] h5) fun h9 =>
      (jx_gR (jx_at h9 a0) 12 1).bind fun b10 =>
      (jx_aI (jx_at h9 b10) 0 ((1 : Int32) + x1)).bind fun v11 =>
      (jx_gR (jx_at h9 a0) 12 1).bind fun b12 =>
      (jx_sI (jx_at h9 b12) 0 ((1 : Int32) + x1) x2).bind fun e13 =>
      some (some (.int v11), (jx_set h9 b12 e13))
  else none :=
  sorry
theorem je_109 (rc : Nat → Nat × (Nat → Int32)) (d : Nat) (a0 : Nat) (x1 : Int32) (x2 : Int32) (h : jxH) : jx_C rc (d + 1) 109 [.ref a0, .int x1, .int x2] h =
  if jx_is (jx_at h a0) 12 = true then
  jx_cI (jx_C rc d 79 [.ref a0, .int x1] h) fun v2 h1 =>
  if v2 = 0 then
    jx_cI (jx_C rc d 73 [.ref a0, .int (1 : Int32)] h1) fun v4 h3 =>
    some (some (.int v4), h3)
  else
    jx_cI (jx_C rc d 79 [.ref a0, .int x2] h1) fun v6 h5 =>
    if v6 = 0 then
      jx_cI (jx_C rc d 73 [.ref a0, .int (1 : Int32)] h5) fun v8 h7 =>
      some (some (.int v8), h7)
    else
      (jx_gR (jx_at h5 a0) 12 1).bind fun b9 =>
      jx_cI (jx_C rc d 85 [.ref b9, .int x1] h5) fun v11 h10 =>
      jx_cI (jx_C rc d 75 [.int v11, .int x2] h10) fun v13 h12 =>
      if v13 = 0 then
        jx_cV (jx_C rc d 100 [.ref a0] h12) fun h14 =>
        (jx_gR (jx_at h14 a0) 12 1).bind fun b15 =>
        jx_cV (jx_C rc d 82 [.ref b15, .int x1, .int x2] h14) fun h16 =>
        (jx_gR (jx_at h16 a0) 12 1).bind fun b17 =>
        jx_cI (jx_C rc d 86 [.ref b17] h16) fun v19 h18 =>
        some (some (.int v19), h18)
      else
        jx_cI (jx_C rc d 73 [.ref a0, .int (3 : Int32)] h12) fun v21 h20 =>
        some (some (.int v21), h20)
  else none :=
  sorry
theorem je_110 (rc : Nat → Nat × (Nat → Int32)) (d : Nat) (a0 : Nat) (x1 : Int32) (x2 : Int32) (h : jxH) : jx_C rc (d + 1) 110 [.ref a0, .int x1, .int x2] h =
  if jx_is (jx_at h a0) 12 = true then
  jx_cI (jx_C rc d 79 [.ref a0, .int x1] h) fun v2 h1 =>
  if v2 = 0 then
    jx_cI (jx_C rc d 73 [.ref a0, .int (1 : Int32)] h1) fun v4 h3 =>
    some (some (.int v4), h3)
  else
    jx_cI (jx_C rc d 79 [.ref a0, .int x2] h1) fun v6 h5 =>
    if v6 = 0 then
      jx_cI (jx_C rc d 73 [.ref a0, .int (1 : Int32)] h5) fun v8 h7 =>
      some (some (.int v8), h7)
    else
      (jx_gR (jx_at h5 a0) 12 1).bind fun b9 =>
      (jx_aI (jx_at h5 b9) 0 ((13 : Int32) + x1)).bind fun v10 =>
      jx_cI (jx_C rc d 75 [.int v10, .int x2] h5) fun v12 h11 =>
      if v12 = 0 then
        jx_cI (jx_C rc d 73 [.ref a0, .int (2 : Int32)] h11) fun v14 h13 =>
        some (some (.int v14), h13)
      else
        jx_cV (jx_C rc d 100 [.ref a0] h11) fun h15 =>
        (jx_gR (jx_at h15 a0) 12 1).bind fun b16 =>
        jx_cV (jx_C rc d 83 [.ref b16, .int x1, .int x2] h15) fun h17 =>
        (jx_gR (jx_at h17 a0) 12 1).bind fun b18 =>
        jx_cI (jx_C rc d 86 [.ref b18] h17) fun v20 h19 =>
        some (some (.int v20), h19)
  else none :=
  sorry
theorem je_111 (rc : Nat → Nat × (Nat → Int32)) (d : Nat) (a0 : Nat) (x1 : Int32) (h : jxH) : jx_C rc (d + 1) 111 [.ref a0, .int x1] h =
  if jx_is (jx_at h a0) 12 = true then
  jx_cI (jx_C rc d 79 [.ref a0, .int x1] h) fun v2 h1 =>
  if v2 = 0 then
    jx_cI (jx_C rc d 73 [.ref a0, .int (1 : Int32)] h1) fun v4 h3 =>
    some (some (.int v4), h3)
  else
    jx_cV (jx_C rc d 100 [.ref a0] h1) fun h5 =>
    (jx_gR (jx_at h5 a0) 12 1).bind fun b6 =>
    (jx_aI (jx_at h5 b6) 0 ((1 : Int32) + x1)).bind fun v7 =>
    (jx_gR (jx_at h5 a0) 12 1).bind fun b8 =>
    jx_cV (jx_C rc d 84 [.ref b8, .int x1] h5) fun h9 =>
    some (some (.int v7), h9)
  else none :=
  sorry
theorem je_112 (rc : Nat → Nat × (Nat → Int32)) (d : Nat) (a0 : Nat) (x1 : Int32) (h : jxH) : jx_C rc (d + 1) 112 [.ref a0, .int x1] h =
  if jx_is (jx_at h a0) 12 = true then
  (jx_gR (jx_at h a0) 12 1).bind fun b1 =>
  jx_cI (jx_C rc d 93 [.ref b1, .int (0 : Int32), .int x1, .int (0 : Int32), .int (0 : Int32), .int (0 : Int32)] h) fun v3 h2 =>
  if v3 = 0 then
    some (some (.int (0 : Int32)), h2)
  else
    (jx_gR (jx_at h2 a0) 12 1).bind fun b4 =>
    jx_cI (jx_C rc d 93 [.ref b4, .int (4 : Int32), .int x1, .int (0 : Int32), .int (0 : Int32), .int (0 : Int32)] h2) fun v6 h5 =>
    if v6 = 0 then
      some (some (.int (4 : Int32)), h5)
    else
      (jx_gR (jx_at h5 a0) 12 1).bind fun b7 =>
      jx_cI (jx_C rc d 93 [.ref b7, .int (5 : Int32), .int x1, .int (0 : Int32), .int (0 : Int32), .int (0 : Int32)] h5) fun v9 h8 =>
      if v9 = 0 then
        some (some (.int (5 : Int32)), h8)
      else
        some (some (.int (-1 : Int32)), h8)
  else none :=
  sorry
noncomputable def jb_113 (rc : Nat → Nat × (Nat → Int32)) (d : Nat) (i : Nat) (ls : List (Nat × Value)) (st : List Value) (h : jxH) : jxR := none
theorem je_113 (rc : Nat → Nat × (Nat → Int32)) (d : Nat) (a0 : Nat) (x1 : Int32) (h : jxH) : jx_C rc (d + 1) 113 [.ref a0, .int x1] h =
  if jx_is (jx_at h a0) 12 = true then
  jb_113 rc d 8 [(0, .ref a0), (2, .int ((1 : Int32) <<< (x1 &&& 31))), (3, .int (-1 : Int32)), (4, .int (0 : Int32))] [] h
  else none :=
  sorry
theorem je_113_8 (rc : Nat → Nat × (Nat → Int32)) (d : Nat) (a0 : Nat) (x2 : Int32) (x3 : Int32) (x4 : Int32) (h : jxH) : jb_113 rc d 8 [(0, .ref a0), (2, .int x2), (3, .int x3), (4, .int x4)] [] h =
  if x4 = x2 then
    some (some (.int x3), h)
  else
    jb_113 rc d 18 [(0, .ref a0), (2, .int x2), (3, .int (x3 + (1 : Int32))), (4, .int x2), (5, .int x2), (6, .int (0 : Int32))] [] h :=
  sorry
theorem je_113_18 (rc : Nat → Nat × (Nat → Int32)) (d : Nat) (a0 : Nat) (x2 : Int32) (x3 : Int32) (x4 : Int32) (x5 : Int32) (x6 : Int32) (h : jxH) : jb_113 rc d 18 [(0, .ref a0), (2, .int x2), (3, .int x3), (4, .int x4), (5, .int x5), (6, .int x6)] [] h =
  if (12 : Int32) ≤ x6 then
    jb_113 rc d 8 [(0, .ref a0), (2, .int x5), (3, .int x3), (4, .int x4)] [] h
  else
    jx_cI (jx_C rc d 75 [.int x2, .int x6] h) fun v2 h1 =>
    if v2 = 0 then
      jb_113 rc d 18 [(0, .ref a0), (2, .int x2), (3, .int x3), (4, .int x4), (5, .int (x5 ||| (0 : Int32))), (6, .int (x6 + (1 : Int32)))] [] h1
    else
      (jx_gR (jx_at h1 a0) 12 1).bind fun b3 =>
      (jx_aI (jx_at h1 b3) 0 ((13 : Int32) + x6)).bind fun v4 =>
      jb_113 rc d 18 [(0, .ref a0), (2, .int x2), (3, .int x3), (4, .int x4), (5, .int (x5 ||| v4)), (6, .int (x6 + (1 : Int32)))] [] h1 :=
  sorry
end
section
theorem je_114 (rc : Nat → Nat × (Nat → Int32)) (d : Nat) (a0 : Nat) (x1 : Int32) (x2 : Int32) (h : jxH) : jx_C rc (d + 1) 114 [.ref a0, .int x1, .int x2] h =
  if jx_is (jx_at h a0) 12 = true then
  jx_cI (jx_C rc d 79 [.ref a0, .int x1] h) fun v2 h1 =>
  if v2 = 0 then
    jx_cI (jx_C rc d 73 [.ref a0, .int (1 : Int32)] h1) fun v4 h3 =>
    some (some (.int v4), h3)
  else
    jx_cI (jx_C rc d 72 [.long (x2).toInt64, .long (0 : Int64), .long (5 : Int64)] h1) fun v6 h5 =>
    if v6 = 0 then
      jx_cI (jx_C rc d 73 [.ref a0, .int (1 : Int32)] h5) fun v8 h7 =>
      some (some (.int v8), h7)
    else
      if x2 = (0 : Int32) then
        (jx_gR (jx_at h5 a0) 12 1).bind fun b9 =>
        (jx_aI (jx_at h5 b9) 0 ((1 : Int32) + x1)).bind fun v10 =>
        some (some (.int v10), h5)
      else if x2 = ((0 : Int32) + 1) then
        (jx_gR (jx_at h5 a0) 12 1).bind fun b11 =>
        (jx_aI (jx_at h5 b11) 0 ((13 : Int32) + x1)).bind fun v12 =>
        jx_cI (jx_C rc d 76 [.int v12] h5) fun v14 h13 =>
        some (some (.int v14), h13)
      else if x2 = (((0 : Int32) + 1) + 1) then
        (jx_gR (jx_at h5 a0) 12 1).bind fun b15 =>
        (jx_aI (jx_at h5 b15) 0 ((13 : Int32) + x1)).bind fun v16 =>
        some (some (.int v16), h5)
      else if x2 = ((((0 : Int32) + 1) + 1) + 1) then
        (jx_gR (jx_at h5 a0) 12 1).bind fun b17 =>
        jx_cI (jx_C rc d 85 [.ref b17, .int x1] h5) fun v19 h18 =>
        some (some (.int v19), h18)
      else if x2 = (((((0 : Int32) + 1) + 1) + 1) + 1) then
        jx_cI (jx_C rc d 112 [.ref a0, .int x1] h5) fun v21 h20 =>
        some (some (.int v21), h20)
      else 
        jx_cI (jx_C rc d 113 [.ref a0, .int x1] h5) fun v23 h22 =>
        some (some (.int v23), h22)
  else none :=
  sorry
theorem je_115 (rc : Nat → Nat × (Nat → Int32)) (d : Nat) (a0 : Nat) (x1 : Int32) (x2 : Int32) (h : jxH) : jx_C rc (d + 1) 115 [.ref a0, .int x1, .int x2] h =
  if jx_is (jx_at h a0) 12 = true then
  if x1 = x2 then
    (jx_gR (jx_at h a0) 12 1).bind fun b1 =>
    (jx_aI (jx_at h b1) 0 ((1 : Int32) + x1)).bind fun v2 =>
    some (some (.int v2), h)
  else
    (jx_gR (jx_at h a0) 12 1).bind fun b3 =>
    (jx_aI (jx_at h b3) 0 ((13 : Int32) + x1)).bind fun v4 =>
    some (some (.int ((v4 >>> (x2 &&& 31)) &&& (1 : Int32))), h)
  else none :=
  sorry
theorem je_116 (rc : Nat → Nat × (Nat → Int32)) (d : Nat) (a0 : Nat) (x1 : Int32) (x2 : Int32) (h : jxH) : jx_C rc (d + 1) 116 [.ref a0, .int x1, .int x2] h =
  if jx_is (jx_at h a0) 12 = true then
  jx_cI (jx_C rc d 79 [.ref a0, .int x1] h) fun v2 h1 =>
  if v2 = 0 then
    jx_cI (jx_C rc d 73 [.ref a0, .int (1 : Int32)] h1) fun v4 h3 =>
    some (some (.int v4), h3)
  else
    jx_cI (jx_C rc d 79 [.ref a0, .int x2] h1) fun v6 h5 =>
    if v6 = 0 then
      jx_cI (jx_C rc d 73 [.ref a0, .int (1 : Int32)] h5) fun v8 h7 =>
      some (some (.int v8), h7)
    else
      jx_cI (jx_C rc d 115 [.ref a0, .int x1, .int x2] h5) fun v10 h9 =>
      some (some (.int v10), h9)
  else none :=
  sorry
noncomputable def jb_117 (rc : Nat → Nat × (Nat → Int32)) (d : Nat) (i : Nat) (ls : List (Nat × Value)) (st : List Value) (h : jxH) : jxR := none
theorem je_117 (rc : Nat → Nat × (Nat → Int32)) (d : Nat) (a0 : Nat) (h : jxH) : jx_C rc (d + 1) 117 [.ref a0] h =
  if jx_is (jx_at h a0) 12 = true then
  (jx_gR (jx_at h a0) 12 6).bind fun b1 =>
  (jx_sL (jx_at h b1) (0 : Int32) (1 : Int64)).bind fun e2 =>
  jb_117 rc d 7 [(0, .ref a0), (1, .int (1 : Int32))] [] (jx_set h b1 e2)
  else none :=
  sorry
theorem je_117_7 (rc : Nat → Nat × (Nat → Int32)) (d : Nat) (a0 : Nat) (x1 : Int32) (h : jxH) : jb_117 rc d 7 [(0, .ref a0), (1, .int x1)] [] h =
  if (4096 : Int32) ≤ x1 then
    some (none, h)
  else
    (jx_gR (jx_at h a0) 12 1).bind fun b1 =>
    (jx_aI (jx_at h b1) 0 (0 : Int32)).bind fun v2 =>
    if (x1 &&& (v2 ^^^ (-1 : Int32))) = 0 then
      jx_cI (jx_C rc d 77 [.int x1] h) fun v4 h3 =>
      (jx_gR (jx_at h3 a0) 12 1).bind fun b5 =>
      (jx_aI (jx_at h3 b5) 0 ((1 : Int32) + v4)).bind fun v6 =>
      (jx_gR (jx_at h3 a0) 12 6).bind fun b7 =>
      (jx_aL (jx_at h3 b7) (x1 &&& (((1 : Int32) <<< (v4 &&& 31)) ^^^ (-1 : Int32)))).bind fun v8 =>
      jb_117 rc d 48 [(0, .ref a0), (1, .int x1), (2, .int v4), (3, .int (x1 &&& (((1 : Int32) <<< (v4 &&& 31)) ^^^ (-1 : Int32)))), (4, .long ((v6).toInt64 * v8)), (6, .int (v4 + (1 : Int32)))] [] h3
    else
      jb_117 rc d 7 [(0, .ref a0), (1, .int (x1 + (1 : Int32)))] [] h :=
  sorry
theorem je_117_48 (rc : Nat → Nat × (Nat → Int32)) (d : Nat) (a0 : Nat) (x1 : Int32) (x2 : Int32) (x3 : Int32) (x4 : Int64) (x6 : Int32) (h : jxH) : jb_117 rc d 48 [(0, .ref a0), (1, .int x1), (2, .int x2), (3, .int x3), (4, .long x4), (6, .int x6)] [] h =
  if (12 : Int32) ≤ x6 then
    (jx_gR (jx_at h a0) 12 6).bind fun b1 =>
    (jx_sL (jx_at h b1) x1 x4).bind fun e2 =>
    jb_117 rc d 7 [(0, .ref a0), (1, .int (x1 + (1 : Int32)))] [] (jx_set h b1 e2)
  else
    (jx_gR (jx_at h a0) 12 1).bind fun b3 =>
    (jx_aI (jx_at h b3) 0 ((13 : Int32) + x2)).bind fun v4 =>
    jx_cI (jx_C rc d 75 [.int (x3 &&& v4), .int x6] h) fun v6 h5 =>
    if v6 = 0 then
      jb_117 rc d 48 [(0, .ref a0), (1, .int x1), (2, .int x2), (3, .int x3), (4, .long (x4 - (0 : Int64))), (6, .int (x6 + (1 : Int32)))] [] h5
    else
      (jx_gR (jx_at h5 a0) 12 6).bind fun b7 =>
      (jx_aL (jx_at h5 b7) (x3 &&& (((1 : Int32) <<< (x6 &&& 31)) ^^^ (-1 : Int32)))).bind fun v8 =>
      jb_117 rc d 48 [(0, .ref a0), (1, .int x1), (2, .int x2), (3, .int x3), (4, .long (x4 - v8)), (6, .int (x6 + (1 : Int32)))] [] h5 :=
  sorry
theorem je_118 (rc : Nat → Nat × (Nat → Int32)) (d : Nat) (a0 : Nat) (x1 : Int32) (h : jxH) : jx_C rc (d + 1) 118 [.ref a0, .int x1] h =
  if jx_is (jx_at h a0) 12 = true then
  jx_cV (jx_C rc d 117 [.ref a0] h) fun h1 =>
  (jx_gR (jx_at h1 a0) 12 6).bind fun b2 =>
  (jx_aL (jx_at h1 b2) x1).bind fun v3 =>
  some (some (.long v3), h1)
  else none :=
  sorry
theorem je_119 (rc : Nat → Nat × (Nat → Int32)) (d : Nat) (a0 : Nat) (x1 : Int64) (h : jxH) : jx_C rc (d + 1) 119 [.ref a0, .long x1] h =
  if jx_is (jx_at h a0) 12 = true then
  jx_cI (jx_C rc d 72 [.long x1, .long (-1073741824 : Int64), .long (1073741823 : Int64)] h) fun v2 h1 =>
  if v2 = 0 then
    jx_cI (jx_C rc d 73 [.ref a0, .int (5 : Int32)] h1) fun v4 h3 =>
    some (some (.int v4), h3)
  else
    some (some (.int ((x1).toInt32)), h1)
  else none :=
  sorry
theorem je_120 (rc : Nat → Nat × (Nat → Int32)) (d : Nat) (a0 : Nat) (x1 : Int32) (h : jxH) : jx_C rc (d + 1) 120 [.ref a0, .int x1] h =
  if jx_is (jx_at h a0) 12 = true then
  jx_cI (jx_C rc d 72 [.long (x1).toInt64, .long (0 : Int64), .long (4095 : Int64)] h) fun v2 h1 =>
  if v2 = 0 then
    jx_cI (jx_C rc d 73 [.ref a0, .int (1 : Int32)] h1) fun v4 h3 =>
    some (some (.int v4), h3)
  else
    (jx_gR (jx_at h1 a0) 12 1).bind fun b5 =>
    (jx_aI (jx_at h1 b5) 0 (0 : Int32)).bind fun v6 =>
    if (x1 &&& (v6 ^^^ (-1 : Int32))) = 0 then
      jx_cL (jx_C rc d 118 [.ref a0, .int x1] h1) fun v8 h7 =>
      jx_cI (jx_C rc d 119 [.ref a0, .long v8] h7) fun v10 h9 =>
      some (some (.int v10), h9)
    else
      jx_cI (jx_C rc d 73 [.ref a0, .int (1 : Int32)] h1) fun v12 h11 =>
      some (some (.int v12), h11)
  else none :=
  sorry
theorem je_121 (rc : Nat → Nat × (Nat → Int32)) (d : Nat) (a0 : Nat) (h : jxH) : jx_C rc (d + 1) 121 [.ref a0] h =
  if jx_is (jx_at h a0) 12 = true then
  (jx_gR (jx_at h a0) 12 1).bind fun b1 =>
  (jx_aI (jx_at h b1) 0 (0 : Int32)).bind fun v2 =>
  jx_cL (jx_C rc d 118 [.ref a0, .int v2] h) fun v4 h3 =>
  jx_cI (jx_C rc d 119 [.ref a0, .long v4] h3) fun v6 h5 =>
  some (some (.int v6), h5)
  else none :=
  sorry
noncomputable def jb_122 (rc : Nat → Nat × (Nat → Int32)) (d : Nat) (i : Nat) (ls : List (Nat × Value)) (st : List Value) (h : jxH) : jxR := none
theorem je_122 (rc : Nat → Nat × (Nat → Int32)) (d : Nat) (a0 : Nat) (x1 : Int32) (x2 : Int32) (h : jxH) : jx_C rc (d + 1) 122 [.ref a0, .int x1, .int x2] h =
  if jx_is (jx_at h a0) 12 = true then
  jb_122 rc d 2 [(0, .ref a0), (1, .int x1), (2, .int x2), (3, .int (0 : Int32))] [] h
  else none :=
  sorry
theorem je_122_2 (rc : Nat → Nat × (Nat → Int32)) (d : Nat) (a0 : Nat) (x1 : Int32) (x2 : Int32) (x3 : Int32) (h : jxH) : jb_122 rc d 2 [(0, .ref a0), (1, .int x1), (2, .int x2), (3, .int x3)] [] h =
  if (4096 : Int32) ≤ x3 then
    (jx_gR (jx_at h a0) 12 1).bind fun b1 =>
    (jx_aI (jx_at h b1) 0 (0 : Int32)).bind fun v2 =>
    (jx_gR (jx_at h a0) 12 1).bind fun b3 =>
    (jx_aI (jx_at h b3) 0 (0 : Int32)).bind fun v4 =>
    jb_122 rc d 40 [(0, .ref a0), (3, .int (v2 &&& (((1 : Int32) <<< (x1 &&& 31)) ^^^ (-1 : Int32)))), (4, .int (v4 &&& (((1 : Int32) <<< (x2 &&& 31)) ^^^ (-1 : Int32)))), (5, .int (1 : Int32))] [] h
  else
    (jx_gR (jx_at h a0) 12 7).bind fun b5 =>
    if x3 = 0 then
      (jx_sL (jx_at h b5) x3 (1 : Int64)).bind fun e6 =>
      jb_122 rc d 2 [(0, .ref a0), (1, .int x1), (2, .int x2), (3, .int (x3 + (1 : Int32)))] [] (jx_set h b5 e6)
    else
      (jx_sL (jx_at h b5) x3 (0 : Int64)).bind fun e7 =>
      jb_122 rc d 2 [(0, .ref a0), (1, .int x1), (2, .int x2), (3, .int (x3 + (1 : Int32)))] [] (jx_set h b5 e7) :=
  sorry
theorem je_122_40 (rc : Nat → Nat × (Nat → Int32)) (d : Nat) (a0 : Nat) (x3 : Int32) (x4 : Int32) (x5 : Int32) (h : jxH) : jb_122 rc d 40 [(0, .ref a0), (3, .int x3), (4, .int x4), (5, .int x5)] [] h =
  if (4096 : Int32) ≤ x5 then
    (jx_gR (jx_at h a0) 12 7).bind fun b1 =>
    (jx_aL (jx_at h b1) x4).bind fun v2 =>
    some (some (.long v2), h)
  else
    if (x5 &&& (x4 ^^^ (-1 : Int32))) = 0 then
      jx_cI (jx_C rc d 76 [.int x5] h) fun v4 h3 =>
      jx_cI (jx_C rc d 123 [.int x3, .int (v4 - (1 : Int32))] h3) fun v6 h5 =>
      jb_122 rc d 63 [(0, .ref a0), (3, .int x3), (4, .int x4), (5, .int x5), (6, .int v6), (7, .long (0 : Int64)), (9, .int (0 : Int32)), (10, .int (11 : Int32))] [] h5
    else
      jb_122 rc d 40 [(0, .ref a0), (3, .int x3), (4, .int x4), (5, .int (x5 + (1 : Int32)))] [] h :=
  sorry
theorem je_122_63 (rc : Nat → Nat × (Nat → Int32)) (d : Nat) (a0 : Nat) (x3 : Int32) (x4 : Int32) (x5 : Int32) (x6 : Int32) (x7 : Int64) (x9 : Int32) (x10 : Int32) (h : jxH) : jb_122 rc d 63 [(0, .ref a0), (3, .int x3), (4, .int x4), (5, .int x5), (6, .int x6), (7, .long x7), (9, .int x9), (10, .int x10)] [] h =
  if x10 < 0 then
    (jx_gR (jx_at h a0) 12 7).bind fun b1 =>
    (jx_sL (jx_at h b1) x5 x7).bind fun e2 =>
    jb_122 rc d 40 [(0, .ref a0), (3, .int x3), (4, .int x4), (5, .int (x5 + (1 : Int32)))] [] (jx_set h b1 e2)
  else
    jx_cI (jx_C rc d 75 [.int x5, .int x10] h) fun v4 h3 =>
    if v4 = 0 then
      jb_122 rc d 63 [(0, .ref a0), (3, .int x3), (4, .int x4), (5, .int x5), (6, .int x6), (7, .long x7), (9, .int x9), (10, .int (x10 + (-1 : Int32)))] [] h3
    else
      jx_cI (jx_C rc d 115 [.ref a0, .int x6, .int x10] h3) fun v6 h5 =>
      (jx_gR (jx_at h5 a0) 12 7).bind fun b7 =>
      (jx_aL (jx_at h5 b7) (x5 &&& (((1 : Int32) <<< (x10 &&& 31)) ^^^ (-1 : Int32)))).bind fun v8 =>
      if (2 : Int32) = 0 then none else if (x9 - x9 / (2 : Int32) * (2 : Int32)) = 0 then
        jb_122 rc d 63 [(0, .ref a0), (3, .int x3), (4, .int x4), (5, .int x5), (6, .int x6), (7, .long (x7 + ((v6).toInt64 * v8))), (9, .int (x9 + (1 : Int32))), (10, .int (x10 + (-1 : Int32)))] [] h5
      else
        jb_122 rc d 63 [(0, .ref a0), (3, .int x3), (4, .int x4), (5, .int x5), (6, .int x6), (7, .long (x7 + (-((v6).toInt64 * v8)))), (9, .int (x9 + (1 : Int32))), (10, .int (x10 + (-1 : Int32)))] [] h5 :=
  sorry
noncomputable def jb_123 (rc : Nat → Nat × (Nat → Int32)) (d : Nat) (i : Nat) (ls : List (Nat × Value)) (st : List Value) (h : jxH) : jxR := none
theorem je_123 (rc : Nat → Nat × (Nat → Int32)) (d : Nat) (x0 : Int32) (x1 : Int32) (h : jxH) : jx_C rc (d + 1) 123 [.int x0, .int x1] h =
  jb_123 rc d 4 [(1, .int x1), (2, .int x0), (3, .int (0 : Int32))] [] h :=
  sorry
theorem je_123_4 (rc : Nat → Nat × (Nat → Int32)) (d : Nat) (x1 : Int32) (x2 : Int32) (x3 : Int32) (h : jxH) : jb_123 rc d 4 [(1, .int x1), (2, .int x2), (3, .int x3)] [] h =
  if x1 ≤ x3 then
    jx_cI (jx_C rc d 77 [.int x2] h) fun v2 h1 =>
    some (some (.int v2), h1)
  else
    jb_123 rc d 4 [(1, .int x1), (2, .int (x2 &&& (x2 - (1 : Int32)))), (3, .int (x3 + (1 : Int32)))] [] h :=
  sorry
theorem je_124 (rc : Nat → Nat × (Nat → Int32)) (d : Nat) (x0 : Int32) (x1 : Int32) (h : jxH) : jx_C rc (d + 1) 124 [.int x0, .int x1] h =
  jx_cI (jx_C rc d 76 [.int (x0 &&& (((1 : Int32) <<< (x1 &&& 31)) - (1 : Int32)))] h) fun v2 h1 =>
  some (some (.int v2), h1) :=
  sorry
noncomputable def jb_125 (rc : Nat → Nat × (Nat → Int32)) (d : Nat) (i : Nat) (ls : List (Nat × Value)) (st : List Value) (h : jxH) : jxR := none
theorem je_125 (rc : Nat → Nat × (Nat → Int32)) (d : Nat) (x0 : Int64) (x2 : Int64) (h : jxH) : jx_C rc (d + 1) 125 [.long x0, .long x2] h =
  if 0 ≤ (lg_cmp x0 (0 : Int64)) then
    if 0 ≤ (lg_cmp x2 (0 : Int64)) then
      jb_125 rc d 18 [(4, .long x0), (6, .long x2)] [] h
    else
      jb_125 rc d 18 [(4, .long x0), (6, .long (-x2))] [] h
  else
    if 0 ≤ (lg_cmp x2 (0 : Int64)) then
      jb_125 rc d 18 [(4, .long (-x0)), (6, .long x2)] [] h
    else
      jb_125 rc d 18 [(4, .long (-x0)), (6, .long (-x2))] [] h :=
  sorry
theorem je_125_18 (rc : Nat → Nat × (Nat → Int32)) (d : Nat) (x4 : Int64) (x6 : Int64) (h : jxH) : jb_125 rc d 18 [(4, .long x4), (6, .long x6)] [] h =
  if (lg_cmp x6 (0 : Int64)) = 0 then
    some (some (.long x4), h)
  else
    if x6 = 0 then none else jb_125 rc d 18 [(4, .long x6), (6, .long (x4 - x4 / x6 * x6))] [] h :=
  sorry
noncomputable def jb_126 (rc : Nat → Nat × (Nat → Int32)) (d : Nat) (i : Nat) (ls : List (Nat × Value)) (st : List Value) (h : jxH) : jxR := none
theorem je_126 (rc : Nat → Nat × (Nat → Int32)) (d : Nat) (a0 : Nat) (x1 : Int32) (x2 : Int32) (x3 : Int32) (h : jxH) : jx_C rc (d + 1) 126 [.ref a0, .int x1, .int x2, .int x3] h =
  if jx_is (jx_at h a0) 12 = true then
  jx_cI (jx_C rc d 79 [.ref a0, .int x1] h) fun v2 h1 =>
  if v2 = 0 then
    jx_cI (jx_C rc d 73 [.ref a0, .int (1 : Int32)] h1) fun v4 h3 =>
    some (some (.int v4), h3)
  else
    jx_cI (jx_C rc d 79 [.ref a0, .int x2] h1) fun v6 h5 =>
    if v6 = 0 then
      jx_cI (jx_C rc d 73 [.ref a0, .int (1 : Int32)] h5) fun v8 h7 =>
      some (some (.int v8), h7)
    else
      jx_cI (jx_C rc d 72 [.long (x3).toInt64, .long (0 : Int64), .long (1 : Int64)] h5) fun v10 h9 =>
      if v10 = 0 then
        jx_cI (jx_C rc d 73 [.ref a0, .int (1 : Int32)] h9) fun v12 h11 =>
        some (some (.int v12), h11)
      else
        (jx_gR (jx_at h9 a0) 12 1).bind fun b13 =>
        (jx_aI (jx_at h9 b13) 0 (0 : Int32)).bind fun v14 =>
        jx_cL (jx_C rc d 118 [.ref a0, .int v14] h9) fun v16 h15 =>
        if (lg_cmp v16 (0 : Int64)) = 0 then
          jx_cI (jx_C rc d 73 [.ref a0, .int (3 : Int32)] h15) fun v18 h17 =>
          some (some (.int v18), h17)
        else
          jx_cL (jx_C rc d 122 [.ref a0, .int x1, .int x2] h15) fun v20 h19 =>
          (jx_gR (jx_at h19 a0) 12 1).bind fun b21 =>
          (jx_aI (jx_at h19 b21) 0 (0 : Int32)).bind fun v22 =>
          jx_cI (jx_C rc d 124 [.int v22, .int x1] h19) fun v24 h23 =>
          (jx_gR (jx_at h23 a0) 12 1).bind fun b25 =>
          (jx_aI (jx_at h23 b25) 0 (0 : Int32)).bind fun v26 =>
          jx_cI (jx_C rc d 124 [.int v26, .int x2] h23) fun v28 h27 =>
          if (2 : Int32) = 0 then none else if ((v24 + v28) - (v24 + v28) / (2 : Int32) * (2 : Int32)) = 0 then
            jb_126 rc d 58 [(0, .ref a0), (3, .int x3), (4, .long v16)] [.long v20] h27
          else
            jb_126 rc d 58 [(0, .ref a0), (3, .int x3), (4, .long v16)] [.long (-v20)] h27
  else none :=
  sorry
theorem je_126_58 (rc : Nat → Nat × (Nat → Int32)) (d : Nat) (a0 : Nat) (x3 : Int32) (x4 : Int64) (s0 : Int64) (h : jxH) : jb_126 rc d 58 [(0, .ref a0), (3, .int x3), (4, .long x4)] [.long s0] h =
  if 0 ≤ (lg_cmp x4 (0 : Int64)) then
    jx_cL (jx_C rc d 125 [.long s0, .long x4] h) fun v2 h1 =>
    if x3 = 0 then
      if v2 = 0 then none else jx_cI (jx_C rc d 119 [.ref a0, .long (s0 / v2)] h1) fun v4 h3 =>
      some (some (.int v4), h3)
    else
      if v2 = 0 then none else jx_cI (jx_C rc d 119 [.ref a0, .long (x4 / v2)] h1) fun v6 h5 =>
      some (some (.int v6), h5)
  else
    jx_cL (jx_C rc d 125 [.long (-s0), .long (-x4)] h) fun v8 h7 =>
    if x3 = 0 then
      if v8 = 0 then none else jx_cI (jx_C rc d 119 [.ref a0, .long ((-s0) / v8)] h7) fun v10 h9 =>
      some (some (.int v10), h9)
    else
      if v8 = 0 then none else jx_cI (jx_C rc d 119 [.ref a0, .long ((-x4) / v8)] h7) fun v12 h11 =>
      some (some (.int v12), h11) :=
  sorry
noncomputable def jb_127 (rc : Nat → Nat × (Nat → Int32)) (d : Nat) (i : Nat) (ls : List (Nat × Value)) (st : List Value) (h : jxH) : jxR := none
theorem je_127 (rc : Nat → Nat × (Nat → Int32)) (d : Nat) (a0 : Nat) (h : jxH) : jx_C rc (d + 1) 127 [.ref a0] h =
  if jx_is (jx_at h a0) 12 = true then
  jx_cV (jx_C rc d 117 [.ref a0] h) fun h1 =>
  jb_127 rc d 4 [(0, .ref a0), (1, .int (0 : Int32))] [] h1
  else none :=
  sorry
theorem je_127_4 (rc : Nat → Nat × (Nat → Int32)) (d : Nat) (a0 : Nat) (x1 : Int32) (h : jxH) : jb_127 rc d 4 [(0, .ref a0), (1, .int x1)] [] h =
  if (12 : Int32) < x1 then
    jb_127 rc d 16 [(0, .ref a0), (1, .int (0 : Int32))] [] h
  else
    (jx_gR (jx_at h a0) 12 8).bind fun b1 =>
    (jx_sL (jx_at h b1) x1 (0 : Int64)).bind fun e2 =>
    jb_127 rc d 4 [(0, .ref a0), (1, .int (x1 + (1 : Int32)))] [] (jx_set h b1 e2) :=
  sorry
theorem je_127_16 (rc : Nat → Nat × (Nat → Int32)) (d : Nat) (a0 : Nat) (x1 : Int32) (h : jxH) : jb_127 rc d 16 [(0, .ref a0), (1, .int x1)] [] h =
  if (4096 : Int32) ≤ x1 then
    some (none, h)
  else
    (jx_gR (jx_at h a0) 12 1).bind fun b1 =>
    (jx_aI (jx_at h b1) 0 (0 : Int32)).bind fun v2 =>
    if (x1 &&& (v2 ^^^ (-1 : Int32))) = 0 then
      (jx_gR (jx_at h a0) 12 8).bind fun b3 =>
      jx_cI (jx_C rc d 76 [.int x1] h) fun v5 h4 =>
      (jx_aL (jx_at h4 b3) v5).bind fun v6 =>
      (jx_gR (jx_at h4 a0) 12 6).bind fun b7 =>
      (jx_aL (jx_at h4 b7) x1).bind fun v8 =>
      (jx_sL (jx_at h4 b3) v5 (v6 + v8)).bind fun e9 =>
      jb_127 rc d 16 [(0, .ref a0), (1, .int (x1 + (1 : Int32)))] [] (jx_set h4 b3 e9)
    else
      jb_127 rc d 16 [(0, .ref a0), (1, .int (x1 + (1 : Int32)))] [] h :=
  sorry
noncomputable def jb_128 (rc : Nat → Nat × (Nat → Int32)) (d : Nat) (i : Nat) (ls : List (Nat × Value)) (st : List Value) (h : jxH) : jxR := none
theorem je_128 (rc : Nat → Nat × (Nat → Int32)) (d : Nat) (a0 : Nat) (h : jxH) : jx_C rc (d + 1) 128 [.ref a0] h =
  if jx_is (jx_at h a0) 12 = true then
  jx_cV (jx_C rc d 127 [.ref a0] h) fun h1 =>
  jb_128 rc d 8 [(0, .ref a0), (1, .int (0 : Int32)), (2, .int (1 : Int32)), (3, .int (1 : Int32))] [] h1
  else none :=
  sorry
theorem je_128_8 (rc : Nat → Nat × (Nat → Int32)) (d : Nat) (a0 : Nat) (x1 : Int32) (x2 : Int32) (x3 : Int32) (h : jxH) : jb_128 rc d 8 [(0, .ref a0), (1, .int x1), (2, .int x2), (3, .int x3)] [] h =
  (jx_gR (jx_at h a0) 12 1).bind fun b1 =>
  (jx_aI (jx_at h b1) 0 (0 : Int32)).bind fun v2 =>
  jx_cI (jx_C rc d 76 [.int v2] h) fun v4 h3 =>
  if v4 < x3 then
    some (some (.int x1), h3)
  else
    if (2 : Int32) = 0 then none else if (x3 - x3 / (2 : Int32) * (2 : Int32)) = 0 then
      (jx_gR (jx_at h3 a0) 12 8).bind fun b5 =>
      (jx_aL (jx_at h3 b5) x3).bind fun v6 =>
      if (lg_cmp v6 (0 : Int64)) ≤ 0 then
        if 0 ≤ (lg_cmp v6 (0 : Int64)) then
          jb_128 rc d 43 [(0, .ref a0), (1, .int x1), (2, .int x2), (3, .int x3)] [.int (0 : Int32)] h3
        else
          jb_128 rc d 43 [(0, .ref a0), (1, .int x1), (2, .int x2), (3, .int x3)] [.int (-1 : Int32)] h3
      else
        jb_128 rc d 43 [(0, .ref a0), (1, .int x1), (2, .int x2), (3, .int x3)] [.int (1 : Int32)] h3
    else
      (jx_gR (jx_at h3 a0) 12 8).bind fun b7 =>
      (jx_aL (jx_at h3 b7) x3).bind fun v8 =>
      if (lg_cmp (-v8) (0 : Int64)) ≤ 0 then
        if 0 ≤ (lg_cmp (-v8) (0 : Int64)) then
          jb_128 rc d 43 [(0, .ref a0), (1, .int x1), (2, .int x2), (3, .int x3)] [.int (0 : Int32)] h3
        else
          jb_128 rc d 43 [(0, .ref a0), (1, .int x1), (2, .int x2), (3, .int x3)] [.int (-1 : Int32)] h3
      else
        jb_128 rc d 43 [(0, .ref a0), (1, .int x1), (2, .int x2), (3, .int x3)] [.int (1 : Int32)] h3 :=
  sorry
theorem je_128_43 (rc : Nat → Nat × (Nat → Int32)) (d : Nat) (a0 : Nat) (x1 : Int32) (x2 : Int32) (x3 : Int32) (s0 : Int32) (h : jxH) : jb_128 rc d 43 [(0, .ref a0), (1, .int x1), (2, .int x2), (3, .int x3)] [.int s0] h =
  if s0 = 0 then
    if s0 = 0 then
      jb_128 rc d 8 [(0, .ref a0), (1, .int (x1 + (0 : Int32))), (2, .int x2), (3, .int (x3 + (1 : Int32)))] [] h
    else
      jb_128 rc d 8 [(0, .ref a0), (1, .int (x1 + (0 : Int32))), (2, .int s0), (3, .int (x3 + (1 : Int32)))] [] h
  else
    if s0 = x2 then
      if s0 = 0 then
        jb_128 rc d 8 [(0, .ref a0), (1, .int (x1 + (0 : Int32))), (2, .int x2), (3, .int (x3 + (1 : Int32)))] [] h
      else
        jb_128 rc d 8 [(0, .ref a0), (1, .int (x1 + (0 : Int32))), (2, .int s0), (3, .int (x3 + (1 : Int32)))] [] h
    else
      if s0 = 0 then
        jb_128 rc d 8 [(0, .ref a0), (1, .int (x1 + (1 : Int32))), (2, .int x2), (3, .int (x3 + (1 : Int32)))] [] h
      else
        jb_128 rc d 8 [(0, .ref a0), (1, .int (x1 + (1 : Int32))), (2, .int s0), (3, .int (x3 + (1 : Int32)))] [] h :=
  sorry
noncomputable def jb_129 (rc : Nat → Nat × (Nat → Int32)) (d : Nat) (i : Nat) (ls : List (Nat × Value)) (st : List Value) (h : jxH) : jxR := none
theorem je_129 (rc : Nat → Nat × (Nat → Int32)) (d : Nat) (a0 : Nat) (h : jxH) : jx_C rc (d + 1) 129 [.ref a0] h =
  if jx_is (jx_at h a0) 12 = true then
  jx_cV (jx_C rc d 127 [.ref a0] h) fun h1 =>
  jb_129 rc d 4 [(0, .ref a0), (1, .int (0 : Int32))] [] h1
  else none :=
  sorry
theorem je_129_4 (rc : Nat → Nat × (Nat → Int32)) (d : Nat) (a0 : Nat) (x1 : Int32) (h : jxH) : jb_129 rc d 4 [(0, .ref a0), (1, .int x1)] [] h =
  (jx_gR (jx_at h a0) 12 1).bind fun b1 =>
  (jx_aI (jx_at h b1) 0 (0 : Int32)).bind fun v2 =>
  jx_cI (jx_C rc d 76 [.int v2] h) fun v4 h3 =>
  if v4 ≤ x1 then
    some (some (.int x1), h3)
  else
    (jx_gR (jx_at h3 a0) 12 8).bind fun b5 =>
    (jx_gR (jx_at h3 a0) 12 1).bind fun b6 =>
    (jx_aI (jx_at h3 b6) 0 (0 : Int32)).bind fun v7 =>
    jx_cI (jx_C rc d 76 [.int v7] h3) fun v9 h8 =>
    (jx_aL (jx_at h8 b5) (v9 - x1)).bind fun v10 =>
    if (lg_cmp v10 (0 : Int64)) = 0 then
      jb_129 rc d 4 [(0, .ref a0), (1, .int (x1 + (1 : Int32)))] [] h8
    else
      some (some (.int x1), h8) :=
  sorry
theorem je_130 (rc : Nat → Nat × (Nat → Int32)) (d : Nat) (a0 : Nat) (x1 : Int32) (h : jxH) : jx_C rc (d + 1) 130 [.ref a0, .int x1] h =
  if jx_is (jx_at h a0) 12 = true then
  jx_cI (jx_C rc d 128 [.ref a0] h) fun v2 h1 =>
  jx_cI (jx_C rc d 129 [.ref a0] h1) fun v4 h3 =>
  if x1 = 0 then
    some (some (.int v2), h3)
  else
    if x1 = (2 : Int32) then
      some (some (.int v4), h3)
    else
      (jx_gR (jx_at h3 a0) 12 1).bind fun b5 =>
      (jx_aI (jx_at h3 b5) 0 (0 : Int32)).bind fun v6 =>
      jx_cI (jx_C rc d 76 [.int v6] h3) fun v8 h7 =>
      some (some (.int ((v8 - v2) - v4)), h7)
  else none :=
  sorry
theorem je_131 (rc : Nat → Nat × (Nat → Int32)) (d : Nat) (a0 : Nat) (x1 : Int32) (h : jxH) : jx_C rc (d + 1) 131 [.ref a0, .int x1] h =
  if jx_is (jx_at h a0) 12 = true then
  jx_cI (jx_C rc d 72 [.long (x1).toInt64, .long (0 : Int64), .long (2 : Int64)] h) fun v2 h1 =>
  if v2 = 0 then
    jx_cI (jx_C rc d 73 [.ref a0, .int (1 : Int32)] h1) fun v4 h3 =>
    some (some (.int v4), h3)
  else
    jx_cI (jx_C rc d 130 [.ref a0, .int x1] h1) fun v6 h5 =>
    some (some (.int v6), h5)
  else none :=
  sorry
noncomputable def jb_132 (rc : Nat → Nat × (Nat → Int32)) (d : Nat) (i : Nat) (ls : List (Nat × Value)) (st : List Value) (h : jxH) : jxR := none
theorem je_132 (rc : Nat → Nat × (Nat → Int32)) (d : Nat) (x0 : Int32) (x1 : Int32) (h : jxH) : jx_C rc (d + 1) 132 [.int x0, .int x1] h =
  jb_132 rc d 2 [(0, .int x0), (1, .int x1), (2, .int (1 : Int32))] [] h :=
  sorry
theorem je_132_2 (rc : Nat → Nat × (Nat → Int32)) (d : Nat) (x0 : Int32) (x1 : Int32) (x2 : Int32) (h : jxH) : jb_132 rc d 2 [(0, .int x0), (1, .int x1), (2, .int x2)] [] h =
  if x1 = 0 then none else if ((x2 * x0) - (x2 * x0) / x1 * x1) = (1 : Int32) then
    some (some (.int x2), h)
  else
    jb_132 rc d 2 [(0, .int x0), (1, .int x1), (2, .int (x2 + (1 : Int32)))] [] h :=
  sorry
theorem je_133 (rc : Nat → Nat × (Nat → Int32)) (d : Nat) (x0 : Int32) (x1 : Int32) (h : jxH) : jx_C rc (d + 1) 133 [.int x0, .int x1] h =
  if x1 = 0 then none else if 0 ≤ (x0 - x0 / x1 * x1) then
    some (some (.int (x0 - x0 / x1 * x1)), h)
  else
    some (some (.int ((x0 - x0 / x1 * x1) + x1)), h) :=
  sorry
noncomputable def jb_134 (rc : Nat → Nat × (Nat → Int32)) (d : Nat) (i : Nat) (ls : List (Nat × Value)) (st : List Value) (h : jxH) : jxR := none
theorem je_134 (rc : Nat → Nat × (Nat → Int32)) (d : Nat) (a0 : Nat) (x1 : Int32) (h : jxH) : jx_C rc (d + 1) 134 [.ref a0, .int x1] h =
  if jx_is (jx_at h a0) 12 = true then
  jb_134 rc d 2 [(0, .ref a0), (1, .int x1), (2, .int (0 : Int32))] [] h
  else none :=
  sorry
theorem je_134_2 (rc : Nat → Nat × (Nat → Int32)) (d : Nat) (a0 : Nat) (x1 : Int32) (x2 : Int32) (h : jxH) : jb_134 rc d 2 [(0, .ref a0), (1, .int x1), (2, .int x2)] [] h =
  if (12 : Int32) ≤ x2 then
    some (none, h)
  else
    jb_134 rc d 7 [(0, .ref a0), (1, .int x1), (2, .int x2), (3, .int (0 : Int32))] [] h :=
  sorry
theorem je_134_7 (rc : Nat → Nat × (Nat → Int32)) (d : Nat) (a0 : Nat) (x1 : Int32) (x2 : Int32) (x3 : Int32) (h : jxH) : jb_134 rc d 7 [(0, .ref a0), (1, .int x1), (2, .int x2), (3, .int x3)] [] h =
  if (12 : Int32) ≤ x3 then
    jb_134 rc d 2 [(0, .ref a0), (1, .int x1), (2, .int (x2 + (1 : Int32)))] [] h
  else
    (jx_gR (jx_at h a0) 12 9).bind fun b1 =>
    (jx_aQ (jx_at h b1) 8 x2).bind fun o2 =>
    jx_mo o2 (fun b3 => (jx_gR (jx_at h a0) 12 1).bind fun b4 =>
      (jx_aI (jx_at h b4) 0 (0 : Int32)).bind fun v5 =>
      jx_cI (jx_C rc d 75 [.int v5, .int x2] h) fun v7 h6 =>
      if v7 = 0 then
        (jx_sI (jx_at h6 b3) 0 x3 (0 : Int32)).bind fun e8 =>
        jb_134 rc d 7 [(0, .ref a0), (1, .int x1), (2, .int x2), (3, .int (x3 + (1 : Int32)))] [] (jx_set h6 b3 e8)
      else
        (jx_gR (jx_at h6 a0) 12 1).bind fun b9 =>
        (jx_aI (jx_at h6 b9) 0 (0 : Int32)).bind fun v10 =>
        jx_cI (jx_C rc d 75 [.int v10, .int x3] h6) fun v12 h11 =>
        if v12 = 0 then
          (jx_sI (jx_at h11 b3) 0 x3 (0 : Int32)).bind fun e13 =>
          jb_134 rc d 7 [(0, .ref a0), (1, .int x1), (2, .int x2), (3, .int (x3 + (1 : Int32)))] [] (jx_set h11 b3 e13)
        else
          jx_cI (jx_C rc d 115 [.ref a0, .int x2, .int x3] h11) fun v15 h14 =>
          jx_cI (jx_C rc d 133 [.int v15, .int x1] h14) fun v17 h16 =>
          (jx_sI (jx_at h16 b3) 0 x3 v17).bind fun e18 =>
          jb_134 rc d 7 [(0, .ref a0), (1, .int x1), (2, .int x2), (3, .int (x3 + (1 : Int32)))] [] (jx_set h16 b3 e18))
    ((jx_gR (jx_at h a0) 12 1).bind fun b19 =>
      (jx_aI (jx_at h b19) 0 (0 : Int32)).bind fun v20 =>
      jx_cI (jx_C rc d 75 [.int v20, .int x2] h) fun v22 h21 =>
      if v22 = 0 then
        none
      else
        (jx_gR (jx_at h21 a0) 12 1).bind fun b24 =>
        (jx_aI (jx_at h21 b24) 0 (0 : Int32)).bind fun v25 =>
        jx_cI (jx_C rc d 75 [.int v25, .int x3] h21) fun v27 h26 =>
        if v27 = 0 then
          none
        else
          jx_cI (jx_C rc d 115 [.ref a0, .int x2, .int x3] h26) fun v30 h29 =>
          jx_cI (jx_C rc d 133 [.int v30, .int x1] h29) fun v32 h31 =>
          none) :=
  sorry
noncomputable def jb_135 (rc : Nat → Nat × (Nat → Int32)) (d : Nat) (i : Nat) (ls : List (Nat × Value)) (st : List Value) (h : jxH) : jxR := none
theorem je_135 (rc : Nat → Nat × (Nat → Int32)) (d : Nat) (a0 : Nat) (x1 : Int32) (h : jxH) : jx_C rc (d + 1) 135 [.ref a0, .int x1] h =
  if jx_is (jx_at h a0) 12 = true then
  jx_cV (jx_C rc d 134 [.ref a0, .int x1] h) fun h1 =>
  jb_135 rc d 7 [(0, .ref a0), (1, .int x1), (2, .int (0 : Int32)), (3, .int (0 : Int32))] [] h1
  else none :=
  sorry
theorem je_135_7 (rc : Nat → Nat × (Nat → Int32)) (d : Nat) (a0 : Nat) (x1 : Int32) (x2 : Int32) (x3 : Int32) (h : jxH) : jb_135 rc d 7 [(0, .ref a0), (1, .int x1), (2, .int x2), (3, .int x3)] [] h =
  if (12 : Int32) ≤ x3 then
    (jx_gR (jx_at h a0) 12 1).bind fun b1 =>
    (jx_aI (jx_at h b1) 0 (0 : Int32)).bind fun v2 =>
    jx_cI (jx_C rc d 76 [.int v2] h) fun v4 h3 =>
    jx_cI (jx_C rc d 76 [.int x2] h3) fun v6 h5 =>
    some (some (.int (v4 - v6)), h5)
  else
    jb_135 rc d 14 [(0, .ref a0), (1, .int x1), (2, .int x2), (3, .int x3), (4, .int (-1 : Int32)), (5, .int (0 : Int32))] [] h :=
  sorry
theorem je_135_14 (rc : Nat → Nat × (Nat → Int32)) (d : Nat) (a0 : Nat) (x1 : Int32) (x2 : Int32) (x3 : Int32) (x4 : Int32) (x5 : Int32) (h : jxH) : jb_135 rc d 14 [(0, .ref a0), (1, .int x1), (2, .int x2), (3, .int x3), (4, .int x4), (5, .int x5)] [] h =
  if (12 : Int32) ≤ x5 then
    if 0 ≤ x4 then
      (jx_gR (jx_at h a0) 12 9).bind fun b1 =>
      (jx_aQ (jx_at h b1) 8 x4).bind fun o2 =>
      jx_mo o2 (fun b3 => (jx_aI (jx_at h b3) 0 x3).bind fun v4 =>
        jx_cI (jx_C rc d 132 [.int v4, .int x1] h) fun v6 h5 =>
        jb_135 rc d 56 [(0, .ref a0), (1, .int x1), (2, .int (x2 ||| ((1 : Int32) <<< (x4 &&& 31)))), (3, .int x3), (4, .int x4), (5, .int v6), (6, .int (0 : Int32))] [] h5)
      (none)
    else
      jb_135 rc d 7 [(0, .ref a0), (1, .int x1), (2, .int x2), (3, .int (x3 + (1 : Int32)))] [] h
  else
    if 0 ≤ x4 then
      jb_135 rc d 14 [(0, .ref a0), (1, .int x1), (2, .int x2), (3, .int x3), (4, .int x4), (5, .int (x5 + (1 : Int32)))] [] h
    else
      jx_cI (jx_C rc d 75 [.int x2, .int x5] h) fun v8 h7 =>
      if v8 = 0 then
        (jx_gR (jx_at h7 a0) 12 9).bind fun b9 =>
        (jx_aQ (jx_at h7 b9) 8 x5).bind fun o10 =>
        jx_mo o10 (fun b11 => (jx_aI (jx_at h7 b11) 0 x3).bind fun v12 =>
          if v12 = 0 then
            jb_135 rc d 14 [(0, .ref a0), (1, .int x1), (2, .int x2), (3, .int x3), (4, .int x4), (5, .int (x5 + (1 : Int32)))] [] h7
          else
            jb_135 rc d 14 [(0, .ref a0), (1, .int x1), (2, .int x2), (3, .int x3), (4, .int x5), (5, .int (x5 + (1 : Int32)))] [] h7)
        (none)
      else
        jb_135 rc d 14 [(0, .ref a0), (1, .int x1), (2, .int x2), (3, .int x3), (4, .int x4), (5, .int (x5 + (1 : Int32)))] [] h7 :=
  sorry
theorem je_135_56 (rc : Nat → Nat × (Nat → Int32)) (d : Nat) (a0 : Nat) (x1 : Int32) (x2 : Int32) (x3 : Int32) (x4 : Int32) (x5 : Int32) (x6 : Int32) (h : jxH) : jb_135 rc d 56 [(0, .ref a0), (1, .int x1), (2, .int x2), (3, .int x3), (4, .int x4), (5, .int x5), (6, .int x6)] [] h =
  if (12 : Int32) ≤ x6 then
    jb_135 rc d 7 [(0, .ref a0), (1, .int x1), (2, .int x2), (3, .int (x3 + (1 : Int32)))] [] h
  else
    if x6 = x4 then
      jb_135 rc d 77 [(0, .ref a0), (1, .int x1), (2, .int x2), (3, .int x3), (4, .int x4), (5, .int x5), (6, .int x6), (7, .int (0 : Int32)), (8, .int (0 : Int32))] [] h
    else
      (jx_gR (jx_at h a0) 12 9).bind fun b1 =>
      (jx_aQ (jx_at h b1) 8 x6).bind fun o2 =>
      jx_mo o2 (fun b3 => (jx_aI (jx_at h b3) 0 x3).bind fun v4 =>
        if x1 = 0 then none else jb_135 rc d 77 [(0, .ref a0), (1, .int x1), (2, .int x2), (3, .int x3), (4, .int x4), (5, .int x5), (6, .int x6), (7, .int ((v4 * x5) - (v4 * x5) / x1 * x1)), (8, .int (0 : Int32))] [] h)
      (none) :=
  sorry
theorem je_135_77 (rc : Nat → Nat × (Nat → Int32)) (d : Nat) (a0 : Nat) (x1 : Int32) (x2 : Int32) (x3 : Int32) (x4 : Int32) (x5 : Int32) (x6 : Int32) (x7 : Int32) (x8 : Int32) (h : jxH) : jb_135 rc d 77 [(0, .ref a0), (1, .int x1), (2, .int x2), (3, .int x3), (4, .int x4), (5, .int x5), (6, .int x6), (7, .int x7), (8, .int x8)] [] h =
  if (12 : Int32) ≤ x8 then
    jb_135 rc d 56 [(0, .ref a0), (1, .int x1), (2, .int x2), (3, .int x3), (4, .int x4), (5, .int x5), (6, .int (x6 + (1 : Int32)))] [] h
  else
    (jx_gR (jx_at h a0) 12 9).bind fun b1 =>
    (jx_aQ (jx_at h b1) 8 x6).bind fun o2 =>
    jx_mo o2 (fun b3 => (jx_gR (jx_at h a0) 12 9).bind fun b4 =>
      (jx_aQ (jx_at h b4) 8 x6).bind fun o5 =>
      jx_mo o5 (fun b6 => (jx_aI (jx_at h b6) 0 x8).bind fun v7 =>
        (jx_gR (jx_at h a0) 12 9).bind fun b8 =>
        (jx_aQ (jx_at h b8) 8 x4).bind fun o9 =>
        jx_mo o9 (fun b10 => (jx_aI (jx_at h b10) 0 x8).bind fun v11 =>
          jx_cI (jx_C rc d 133 [.int (v7 - (x7 * v11)), .int x1] h) fun v13 h12 =>
          (jx_sI (jx_at h12 b3) 0 x8 v13).bind fun e14 =>
          jb_135 rc d 77 [(0, .ref a0), (1, .int x1), (2, .int x2), (3, .int x3), (4, .int x4), (5, .int x5), (6, .int x6), (7, .int x7), (8, .int (x8 + (1 : Int32)))] [] (jx_set h12 b3 e14))
        (none))
      (none))
    ((jx_gR (jx_at h a0) 12 9).bind fun b15 =>
      (jx_aQ (jx_at h b15) 8 x6).bind fun o16 =>
      jx_mo o16 (fun b17 => (jx_aI (jx_at h b17) 0 x8).bind fun v18 =>
        (jx_gR (jx_at h a0) 12 9).bind fun b19 =>
        (jx_aQ (jx_at h b19) 8 x4).bind fun o20 =>
        jx_mo o20 (fun b21 => (jx_aI (jx_at h b21) 0 x8).bind fun v22 =>
          jx_cI (jx_C rc d 133 [.int (v18 - (x7 * v22)), .int x1] h) fun v24 h23 =>
          none)
        (none))
      (none)) :=
  sorry
theorem je_136 (rc : Nat → Nat × (Nat → Int32)) (d : Nat) (a0 : Nat) (x1 : Int32) (h : jxH) : jx_C rc (d + 1) 136 [.ref a0, .int x1] h =
  if jx_is (jx_at h a0) 12 = true then
  if x1 = (2 : Int32) then
    if (1 : Int32) = 0 then
      jx_cI (jx_C rc d 73 [.ref a0, .int (1 : Int32)] h) fun v2 h1 =>
      some (some (.int v2), h1)
    else
      jx_cI (jx_C rc d 135 [.ref a0, .int x1] h) fun v4 h3 =>
      some (some (.int v4), h3)
  else
    if x1 = (3 : Int32) then
      if (1 : Int32) = 0 then
        jx_cI (jx_C rc d 73 [.ref a0, .int (1 : Int32)] h) fun v6 h5 =>
        some (some (.int v6), h5)
      else
        jx_cI (jx_C rc d 135 [.ref a0, .int x1] h) fun v8 h7 =>
        some (some (.int v8), h7)
    else
      if x1 = (5 : Int32) then
        if (1 : Int32) = 0 then
          jx_cI (jx_C rc d 73 [.ref a0, .int (1 : Int32)] h) fun v10 h9 =>
          some (some (.int v10), h9)
        else
          jx_cI (jx_C rc d 135 [.ref a0, .int x1] h) fun v12 h11 =>
          some (some (.int v12), h11)
      else
        if x1 = (7 : Int32) then
          if (1 : Int32) = 0 then
            jx_cI (jx_C rc d 73 [.ref a0, .int (1 : Int32)] h) fun v14 h13 =>
            some (some (.int v14), h13)
          else
            jx_cI (jx_C rc d 135 [.ref a0, .int x1] h) fun v16 h15 =>
            some (some (.int v16), h15)
        else
          if x1 = (11 : Int32) then
            if (1 : Int32) = 0 then
              jx_cI (jx_C rc d 73 [.ref a0, .int (1 : Int32)] h) fun v18 h17 =>
              some (some (.int v18), h17)
            else
              jx_cI (jx_C rc d 135 [.ref a0, .int x1] h) fun v20 h19 =>
              some (some (.int v20), h19)
          else
            if x1 = (13 : Int32) then
              if (1 : Int32) = 0 then
                jx_cI (jx_C rc d 73 [.ref a0, .int (1 : Int32)] h) fun v22 h21 =>
                some (some (.int v22), h21)
              else
                jx_cI (jx_C rc d 135 [.ref a0, .int x1] h) fun v24 h23 =>
                some (some (.int v24), h23)
            else
              if (0 : Int32) = 0 then
                jx_cI (jx_C rc d 73 [.ref a0, .int (1 : Int32)] h) fun v26 h25 =>
                some (some (.int v26), h25)
              else
                jx_cI (jx_C rc d 135 [.ref a0, .int x1] h) fun v28 h27 =>
                some (some (.int v28), h27)
  else none :=
  sorry
noncomputable def jb_137 (rc : Nat → Nat × (Nat → Int32)) (d : Nat) (i : Nat) (ls : List (Nat × Value)) (st : List Value) (h : jxH) : jxR := none
theorem je_137 (rc : Nat → Nat × (Nat → Int32)) (d : Nat) (a0 : Nat) (x1 : Int32) (h : jxH) : jx_C rc (d + 1) 137 [.ref a0, .int x1] h =
  if jx_is (jx_at h a0) 12 = true then
  jb_137 rc d 2 [(0, .ref a0), (1, .int x1), (2, .int (0 : Int32))] [] h
  else none :=
  sorry
theorem je_137_2 (rc : Nat → Nat × (Nat → Int32)) (d : Nat) (a0 : Nat) (x1 : Int32) (x2 : Int32) (h : jxH) : jb_137 rc d 2 [(0, .ref a0), (1, .int x1), (2, .int x2)] [] h =
  if (12 : Int32) ≤ x2 then
    if jx_bool (1 : Int32) = true then some (some (.int (1 : Int32)), h) else none
  else
    (jx_gR (jx_at h a0) 12 1).bind fun b1 =>
    (jx_aI (jx_at h b1) 0 (0 : Int32)).bind fun v2 =>
    jx_cI (jx_C rc d 75 [.int v2, .int x2] h) fun v4 h3 =>
    if v4 = 0 then
      jb_137 rc d 2 [(0, .ref a0), (1, .int x1), (2, .int (x2 + (1 : Int32)))] [] h3
    else
      (jx_gR (jx_at h3 a0) 12 1).bind fun b5 =>
      (jx_aI (jx_at h3 b5) 0 ((13 : Int32) + x2)).bind fun v6 =>
      jx_cI (jx_C rc d 76 [.int (v6 &&& x1)] h3) fun v8 h7 =>
      jx_cI (jx_C rc d 75 [.int x1, .int x2] h7) fun v10 h9 =>
      if v10 = 0 then
        (jx_gR (jx_at h9 a0) 12 1).bind fun b11 =>
        (jx_aI (jx_at h9 b11) 0 ((1 : Int32) + x2)).bind fun v12 =>
        if (((v8 + (0 : Int32)) - v12) &&& (1 : Int32)) = 0 then
          jb_137 rc d 2 [(0, .ref a0), (1, .int x1), (2, .int (x2 + (1 : Int32)))] [] h9
        else
          if jx_bool (0 : Int32) = true then some (some (.int (0 : Int32)), h9) else none
      else
        (jx_gR (jx_at h9 a0) 12 1).bind fun b13 =>
        (jx_aI (jx_at h9 b13) 0 ((1 : Int32) + x2)).bind fun v14 =>
        (jx_gR (jx_at h9 a0) 12 1).bind fun b15 =>
        (jx_aI (jx_at h9 b15) 0 ((1 : Int32) + x2)).bind fun v16 =>
        if (((v8 + v14) - v16) &&& (1 : Int32)) = 0 then
          jb_137 rc d 2 [(0, .ref a0), (1, .int x1), (2, .int (x2 + (1 : Int32)))] [] h9
        else
          if jx_bool (0 : Int32) = true then some (some (.int (0 : Int32)), h9) else none :=
  sorry
noncomputable def jb_138 (rc : Nat → Nat × (Nat → Int32)) (d : Nat) (i : Nat) (ls : List (Nat × Value)) (st : List Value) (h : jxH) : jxR := none
theorem je_138 (rc : Nat → Nat × (Nat → Int32)) (d : Nat) (a0 : Nat) (h : jxH) : jx_C rc (d + 1) 138 [.ref a0] h =
  if jx_is (jx_at h a0) 12 = true then
  jb_138 rc d 2 [(0, .ref a0), (1, .int (0 : Int32))] [] h
  else none :=
  sorry
theorem je_138_2 (rc : Nat → Nat × (Nat → Int32)) (d : Nat) (a0 : Nat) (x1 : Int32) (h : jxH) : jb_138 rc d 2 [(0, .ref a0), (1, .int x1)] [] h =
  (jx_gR (jx_at h a0) 12 1).bind fun b1 =>
  (jx_aI (jx_at h b1) 0 (0 : Int32)).bind fun v2 =>
  if (x1 &&& (v2 ^^^ (-1 : Int32))) = 0 then
    jx_cI (jx_C rc d 137 [.ref a0, .int x1] h) fun v4 h3 =>
    if v4 = 0 then
      jb_138 rc d 2 [(0, .ref a0), (1, .int (x1 + (1 : Int32)))] [] h3
    else
      some (some (.int x1), h3)
  else
    jb_138 rc d 2 [(0, .ref a0), (1, .int (x1 + (1 : Int32)))] [] h :=
  sorry
noncomputable def jb_139 (rc : Nat → Nat × (Nat → Int32)) (d : Nat) (i : Nat) (ls : List (Nat × Value)) (st : List Value) (h : jxH) : jxR := none
theorem je_139 (rc : Nat → Nat × (Nat → Int32)) (d : Nat) (a0 : Nat) (h : jxH) : jx_C rc (d + 1) 139 [.ref a0] h =
  if jx_is (jx_at h a0) 12 = true then
  jb_139 rc d 4 [(0, .ref a0), (1, .int (0 : Int32)), (2, .int (0 : Int32))] [] h
  else none :=
  sorry
theorem je_139_4 (rc : Nat → Nat × (Nat → Int32)) (d : Nat) (a0 : Nat) (x1 : Int32) (x2 : Int32) (h : jxH) : jb_139 rc d 4 [(0, .ref a0), (1, .int x1), (2, .int x2)] [] h =
  if (4096 : Int32) ≤ x2 then
    some (some (.int x1), h)
  else
    (jx_gR (jx_at h a0) 12 1).bind fun b1 =>
    (jx_aI (jx_at h b1) 0 (0 : Int32)).bind fun v2 =>
    if (x2 &&& (v2 ^^^ (-1 : Int32))) = 0 then
      jx_cI (jx_C rc d 137 [.ref a0, .int x2] h) fun v4 h3 =>
      if v4 = 0 then
        jb_139 rc d 4 [(0, .ref a0), (1, .int (x1 + (0 : Int32))), (2, .int (x2 + (1 : Int32)))] [] h3
      else
        jb_139 rc d 4 [(0, .ref a0), (1, .int (x1 + (1 : Int32))), (2, .int (x2 + (1 : Int32)))] [] h3
    else
      jb_139 rc d 4 [(0, .ref a0), (1, .int (x1 + (0 : Int32))), (2, .int (x2 + (1 : Int32)))] [] h :=
  sorry
theorem je_140 (rc : Nat → Nat × (Nat → Int32)) (d : Nat) (a0 : Nat) (x1 : Int32) (h : jxH) : jx_C rc (d + 1) 140 [.ref a0, .int x1] h =
  if jx_is (jx_at h a0) 12 = true then
  if x1 = 0 then
    jx_cI (jx_C rc d 139 [.ref a0] h) fun v2 h1 =>
    some (some (.int v2), h1)
  else
    if x1 = (1 : Int32) then
      jx_cI (jx_C rc d 138 [.ref a0] h) fun v4 h3 =>
      some (some (.int v4), h3)
    else
      jx_cI (jx_C rc d 73 [.ref a0, .int (1 : Int32)] h) fun v6 h5 =>
      some (some (.int v6), h5)
  else none :=
  sorry
noncomputable def jb_141 (rc : Nat → Nat × (Nat → Int32)) (d : Nat) (i : Nat) (ls : List (Nat × Value)) (st : List Value) (h : jxH) : jxR := none
theorem je_141 (rc : Nat → Nat × (Nat → Int32)) (d : Nat) (a0 : Nat) (h : jxH) : jx_C rc (d + 1) 141 [.ref a0] h =
  if jx_is (jx_at h a0) 12 = true then
  (jx_gR (jx_at h a0) 12 1).bind fun b1 =>
  (jx_aI (jx_at h b1) 0 (0 : Int32)).bind fun v2 =>
  jx_cL (jx_C rc d 118 [.ref a0, .int v2] h) fun v4 h3 =>
  if (2 : Int64) = 0 then none else if (lg_cmp (v4 - v4 / (2 : Int64) * (2 : Int64)) (0 : Int64)) = 0 then
    jx_cI (jx_C rc d 73 [.ref a0, .int (3 : Int32)] h3) fun v6 h5 =>
    some (some (.int v6), h5)
  else
    jx_cI (jx_C rc d 138 [.ref a0] h3) fun v8 h7 =>
    jb_141 rc d 22 [(0, .ref a0), (1, .int v8), (2, .int (0 : Int32)), (3, .int (0 : Int32))] [] h7
  else none :=
  sorry
theorem je_141_22 (rc : Nat → Nat × (Nat → Int32)) (d : Nat) (a0 : Nat) (x1 : Int32) (x2 : Int32) (x3 : Int32) (h : jxH) : jb_141 rc d 22 [(0, .ref a0), (1, .int x1), (2, .int x2), (3, .int x3)] [] h =
  if (12 : Int32) ≤ x3 then
    jx_cI (jx_C rc d 130 [.ref a0, .int (0 : Int32)] h) fun v2 h1 =>
    jx_cI (jx_C rc d 130 [.ref a0, .int (1 : Int32)] h1) fun v4 h3 =>
    some (some (.int ((v2 - v4) - x2)), h3)
  else
    jb_141 rc d 27 [(0, .ref a0), (1, .int x1), (2, .int x2), (3, .int x3), (4, .int (0 : Int32))] [] h :=
  sorry
theorem je_141_27 (rc : Nat → Nat × (Nat → Int32)) (d : Nat) (a0 : Nat) (x1 : Int32) (x2 : Int32) (x3 : Int32) (x4 : Int32) (h : jxH) : jb_141 rc d 27 [(0, .ref a0), (1, .int x1), (2, .int x2), (3, .int x3), (4, .int x4)] [] h =
  if (12 : Int32) ≤ x4 then
    jb_141 rc d 22 [(0, .ref a0), (1, .int x1), (2, .int x2), (3, .int (x3 + (1 : Int32)))] [] h
  else
    jx_cI (jx_C rc d 75 [.int x1, .int x3] h) fun v2 h1 =>
    if v2 = 0 then
      jb_141 rc d 27 [(0, .ref a0), (1, .int x1), (2, .int (x2 + (0 : Int32))), (3, .int x3), (4, .int (x4 + (1 : Int32)))] [] h1
    else
      jx_cI (jx_C rc d 75 [.int x1, .int x4] h1) fun v4 h3 =>
      if v4 = 0 then
        jb_141 rc d 27 [(0, .ref a0), (1, .int x1), (2, .int (x2 + (0 : Int32))), (3, .int x3), (4, .int (x4 + (1 : Int32)))] [] h3
      else
        jx_cI (jx_C rc d 115 [.ref a0, .int x3, .int x4] h3) fun v6 h5 =>
        jb_141 rc d 27 [(0, .ref a0), (1, .int x1), (2, .int (x2 + v6)), (3, .int x3), (4, .int (x4 + (1 : Int32)))] [] h5 :=
  sorry
noncomputable def jb_142 (rc : Nat → Nat × (Nat → Int32)) (d : Nat) (i : Nat) (ls : List (Nat × Value)) (st : List Value) (h : jxH) : jxR := none
theorem je_142 (rc : Nat → Nat × (Nat → Int32)) (d : Nat) (a0 : Nat) (x1 : Int32) (x2 : Int32) (h : jxH) : jx_C rc (d + 1) 142 [.ref a0, .int x1, .int x2] h =
  if jx_is (jx_at h a0) 12 = true then
  (jx_gR (jx_at h a0) 12 1).bind fun b1 =>
  jx_cI (jx_C rc d 85 [.ref b1, .int x1] h) fun v3 h2 =>
  jb_142 rc d 7 [(0, .ref a0), (1, .int x1), (2, .int x2), (3, .int v3), (4, .int (0 : Int32))] [] h2
  else none :=
  sorry
theorem je_142_7 (rc : Nat → Nat × (Nat → Int32)) (d : Nat) (a0 : Nat) (x1 : Int32) (x2 : Int32) (x3 : Int32) (x4 : Int32) (h : jxH) : jb_142 rc d 7 [(0, .ref a0), (1, .int x1), (2, .int x2), (3, .int x3), (4, .int x4)] [] h =
  if x4 = x3 then
    if x1 = x2 then
      some (some (.int ((1 : Int32) <<< (x1 &&& 31))), h)
    else
      some (some (.int x3), h)
  else
    jb_142 rc d 14 [(0, .ref a0), (1, .int x1), (2, .int x2), (3, .int x3), (4, .int x3), (5, .int (0 : Int32))] [] h :=
  sorry
theorem je_142_14 (rc : Nat → Nat × (Nat → Int32)) (d : Nat) (a0 : Nat) (x1 : Int32) (x2 : Int32) (x3 : Int32) (x4 : Int32) (x5 : Int32) (h : jxH) : jb_142 rc d 14 [(0, .ref a0), (1, .int x1), (2, .int x2), (3, .int x3), (4, .int x4), (5, .int x5)] [] h =
  if (12 : Int32) ≤ x5 then
    jb_142 rc d 7 [(0, .ref a0), (1, .int x1), (2, .int x2), (3, .int x3), (4, .int x4)] [] h
  else
    jx_cI (jx_C rc d 75 [.int x3, .int x5] h) fun v2 h1 =>
    if v2 = 0 then
      if (0 : Int32) = 0 then
        jb_142 rc d 14 [(0, .ref a0), (1, .int x1), (2, .int x2), (3, .int (x3 &&& (-1 : Int32))), (4, .int x4), (5, .int (x5 + (1 : Int32)))] [] h1
      else
        jb_142 rc d 14 [(0, .ref a0), (1, .int x1), (2, .int x2), (3, .int (x3 &&& (((1 : Int32) <<< (x5 &&& 31)) ^^^ (-1 : Int32)))), (4, .int x4), (5, .int (x5 + (1 : Int32)))] [] h1
    else
      if x5 = x1 then
        if (0 : Int32) = 0 then
          jb_142 rc d 14 [(0, .ref a0), (1, .int x1), (2, .int x2), (3, .int (x3 &&& (-1 : Int32))), (4, .int x4), (5, .int (x5 + (1 : Int32)))] [] h1
        else
          jb_142 rc d 14 [(0, .ref a0), (1, .int x1), (2, .int x2), (3, .int (x3 &&& (((1 : Int32) <<< (x5 &&& 31)) ^^^ (-1 : Int32)))), (4, .int x4), (5, .int (x5 + (1 : Int32)))] [] h1
      else
        if x5 = x2 then
          if (0 : Int32) = 0 then
            jb_142 rc d 14 [(0, .ref a0), (1, .int x1), (2, .int x2), (3, .int (x3 &&& (-1 : Int32))), (4, .int x4), (5, .int (x5 + (1 : Int32)))] [] h1
          else
            jb_142 rc d 14 [(0, .ref a0), (1, .int x1), (2, .int x2), (3, .int (x3 &&& (((1 : Int32) <<< (x5 &&& 31)) ^^^ (-1 : Int32)))), (4, .int x4), (5, .int (x5 + (1 : Int32)))] [] h1
        else
          (jx_gR (jx_at h1 a0) 12 1).bind fun b3 =>
          (jx_aI (jx_at h1 b3) 0 ((13 : Int32) + x5)).bind fun v4 =>
          jx_cI (jx_C rc d 76 [.int (v4 &&& x3)] h1) fun v6 h5 =>
          if (1 : Int32) < v6 then
            if (0 : Int32) = 0 then
              jb_142 rc d 14 [(0, .ref a0), (1, .int x1), (2, .int x2), (3, .int (x3 &&& (-1 : Int32))), (4, .int x4), (5, .int (x5 + (1 : Int32)))] [] h5
            else
              jb_142 rc d 14 [(0, .ref a0), (1, .int x1), (2, .int x2), (3, .int (x3 &&& (((1 : Int32) <<< (x5 &&& 31)) ^^^ (-1 : Int32)))), (4, .int x4), (5, .int (x5 + (1 : Int32)))] [] h5
          else
            if (1 : Int32) = 0 then
              jb_142 rc d 14 [(0, .ref a0), (1, .int x1), (2, .int x2), (3, .int (x3 &&& (-1 : Int32))), (4, .int x4), (5, .int (x5 + (1 : Int32)))] [] h5
            else
              jb_142 rc d 14 [(0, .ref a0), (1, .int x1), (2, .int x2), (3, .int (x3 &&& (((1 : Int32) <<< (x5 &&& 31)) ^^^ (-1 : Int32)))), (4, .int x4), (5, .int (x5 + (1 : Int32)))] [] h5 :=
  sorry
theorem je_143 (rc : Nat → Nat × (Nat → Int32)) (d : Nat) (a0 : Nat) (x1 : Int32) (x2 : Int32) (x3 : Int32) (h : jxH) : jx_C rc (d + 1) 143 [.ref a0, .int x1, .int x2, .int x3] h =
  if jx_is (jx_at h a0) 12 = true then
  jx_cI (jx_C rc d 79 [.ref a0, .int x1] h) fun v2 h1 =>
  if v2 = 0 then
    jx_cI (jx_C rc d 73 [.ref a0, .int (1 : Int32)] h1) fun v4 h3 =>
    some (some (.int v4), h3)
  else
    jx_cI (jx_C rc d 79 [.ref a0, .int x2] h1) fun v6 h5 =>
    if v6 = 0 then
      jx_cI (jx_C rc d 73 [.ref a0, .int (1 : Int32)] h5) fun v8 h7 =>
      some (some (.int v8), h7)
    else
      jx_cI (jx_C rc d 72 [.long (x3).toInt64, .long (0 : Int64), .long (1 : Int64)] h5) fun v10 h9 =>
      if v10 = 0 then
        jx_cI (jx_C rc d 73 [.ref a0, .int (1 : Int32)] h9) fun v12 h11 =>
        some (some (.int v12), h11)
      else
        (jx_gR (jx_at h9 a0) 12 1).bind fun b13 =>
        jx_cI (jx_C rc d 85 [.ref b13, .int x1] h9) fun v15 h14 =>
        jx_cI (jx_C rc d 75 [.int v15, .int x2] h14) fun v17 h16 =>
        if v17 = 0 then
          jx_cI (jx_C rc d 73 [.ref a0, .int (2 : Int32)] h16) fun v19 h18 =>
          some (some (.int v19), h18)
        else
          jx_cI (jx_C rc d 142 [.ref a0, .int x1, .int x2] h16) fun v21 h20 =>
          jx_cV (jx_C rc d 117 [.ref a0] h20) fun h22 =>
          (jx_gR (jx_at h22 a0) 12 6).bind fun b23 =>
          (jx_aL (jx_at h22 b23) v21).bind fun v24 =>
          (jx_gR (jx_at h22 a0) 12 6).bind fun b25 =>
          (jx_aL (jx_at h22 b25) (v21 &&& (((1 : Int32) <<< (x1 &&& 31)) ^^^ (-1 : Int32)))).bind fun v26 =>
          if (lg_cmp v26 (0 : Int64)) = 0 then
            if x3 = 0 then
              some (some (.int (1 : Int32)), h22)
            else
              some (some (.int (0 : Int32)), h22)
          else
            if x3 = 0 then
              if 0 ≤ (lg_cmp v26 (0 : Int64)) then
                jx_cI (jx_C rc d 119 [.ref a0, .long v24] h22) fun v28 h27 =>
                some (some (.int v28), h27)
              else
                jx_cI (jx_C rc d 119 [.ref a0, .long (-v24)] h22) fun v30 h29 =>
                some (some (.int v30), h29)
            else
              if 0 ≤ (lg_cmp v26 (0 : Int64)) then
                jx_cI (jx_C rc d 119 [.ref a0, .long v26] h22) fun v32 h31 =>
                some (some (.int v32), h31)
              else
                jx_cI (jx_C rc d 119 [.ref a0, .long (-v26)] h22) fun v34 h33 =>
                some (some (.int v34), h33)
  else none :=
  sorry
noncomputable def jb_144 (rc : Nat → Nat × (Nat → Int32)) (d : Nat) (i : Nat) (ls : List (Nat × Value)) (st : List Value) (h : jxH) : jxR := none
theorem je_144 (rc : Nat → Nat × (Nat → Int32)) (d : Nat) (a0 : Nat) (x1 : Int32) (h : jxH) : jx_C rc (d + 1) 144 [.ref a0, .int x1] h =
  if jx_is (jx_at h a0) 12 = true then
  jb_144 rc d 2 [(0, .ref a0), (1, .int x1), (2, .int (0 : Int32))] [] h
  else none :=
  sorry
theorem je_144_2 (rc : Nat → Nat × (Nat → Int32)) (d : Nat) (a0 : Nat) (x1 : Int32) (x2 : Int32) (h : jxH) : jb_144 rc d 2 [(0, .ref a0), (1, .int x1), (2, .int x2)] [] h =
  if (12 : Int32) ≤ x2 then
    if jx_bool (1 : Int32) = true then some (some (.int (1 : Int32)), h) else none
  else
    jx_cI (jx_C rc d 75 [.int x1, .int x2] h) fun v2 h1 =>
    if v2 = 0 then
      jb_144 rc d 2 [(0, .ref a0), (1, .int x1), (2, .int (x2 + (1 : Int32)))] [] h1
    else
      (jx_gR (jx_at h1 a0) 12 1).bind fun b3 =>
      (jx_aI (jx_at h1 b3) 0 ((13 : Int32) + x2)).bind fun v4 =>
      jx_cI (jx_C rc d 76 [.int v4] h1) fun v6 h5 =>
      if v6 ≤ (2 : Int32) then
        jb_144 rc d 2 [(0, .ref a0), (1, .int x1), (2, .int (x2 + (1 : Int32)))] [] h5
      else
        if jx_bool (0 : Int32) = true then some (some (.int (0 : Int32)), h5) else none :=
  sorry
theorem je_145 (rc : Nat → Nat × (Nat → Int32)) (d : Nat) (a0 : Nat) (x1 : Int32) (h : jxH) : jx_C rc (d + 1) 145 [.ref a0, .int x1] h =
  if jx_is (jx_at h a0) 12 = true then
  jx_cL (jx_C rc d 118 [.ref a0, .int x1] h) fun v2 h1 =>
  if 0 ≤ (lg_cmp v2 (0 : Int64)) then
    some (some (.long v2), h1)
  else
    some (some (.long (-v2)), h1)
  else none :=
  sorry
noncomputable def jb_146 (rc : Nat → Nat × (Nat → Int32)) (d : Nat) (i : Nat) (ls : List (Nat × Value)) (st : List Value) (h : jxH) : jxR := none
theorem je_146 (rc : Nat → Nat × (Nat → Int32)) (d : Nat) (a0 : Nat) (x1 : Int32) (h : jxH) : jx_C rc (d + 1) 146 [.ref a0, .int x1] h =
  if jx_is (jx_at h a0) 12 = true then
  jb_146 rc d 2 [(0, .ref a0), (1, .int x1), (2, .int (0 : Int32))] [] h
  else none :=
  sorry
theorem je_146_2 (rc : Nat → Nat × (Nat → Int32)) (d : Nat) (a0 : Nat) (x1 : Int32) (x2 : Int32) (h : jxH) : jb_146 rc d 2 [(0, .ref a0), (1, .int x1), (2, .int x2)] [] h =
  jx_cI (jx_C rc d 75 [.int x1, .int x2] h) fun v2 h1 =>
  if v2 = 0 then
    jb_146 rc d 2 [(0, .ref a0), (1, .int x1), (2, .int (x2 + (1 : Int32)))] [] h1
  else
    (jx_gR (jx_at h1 a0) 12 1).bind fun b3 =>
    (jx_aI (jx_at h1 b3) 0 ((13 : Int32) + x2)).bind fun v4 =>
    jx_cI (jx_C rc d 76 [.int v4] h1) fun v6 h5 =>
    if v6 ≤ (1 : Int32) then
      jx_cV (jx_C rc d 117 [.ref a0] h5) fun h7 =>
      (jx_gR (jx_at h7 a0) 12 6).bind fun b8 =>
      (jx_aL (jx_at h7 b8) x1).bind fun v9 =>
      (jx_gR (jx_at h7 a0) 12 6).bind fun b10 =>
      (jx_aL (jx_at h7 b10) (x1 &&& (((1 : Int32) <<< (x2 &&& 31)) ^^^ (-1 : Int32)))).bind fun v11 =>
      if (lg_cmp v9 (0 : Int64)) = 0 then
        some (some (.long (1 : Int64)), h7)
      else
        if 0 ≤ (lg_cmp v9 (0 : Int64)) then
          jb_146 rc d 49 [(3, .long v9), (5, .long v11)] [.long v9] h7
        else
          jb_146 rc d 49 [(3, .long v9), (5, .long v11)] [.long (-v9)] h7
    else
      jb_146 rc d 2 [(0, .ref a0), (1, .int x1), (2, .int (x2 + (1 : Int32)))] [] h5 :=
  sorry
theorem je_146_49 (rc : Nat → Nat × (Nat → Int32)) (d : Nat) (x3 : Int64) (x5 : Int64) (s0 : Int64) (h : jxH) : jb_146 rc d 49 [(3, .long x3), (5, .long x5)] [.long s0] h =
  if (lg_cmp x3 (0 : Int64)) ≤ 0 then
    if s0 = 0 then none else if 0 ≤ (lg_cmp (x5 - x5 / s0 * s0) (0 : Int64)) then
      some (some (.long (x5 - x5 / s0 * s0)), h)
    else
      some (some (.long ((x5 - x5 / s0 * s0) + s0)), h)
  else
    if s0 = 0 then none else if 0 ≤ (lg_cmp ((-x5) - (-x5) / s0 * s0) (0 : Int64)) then
      some (some (.long ((-x5) - (-x5) / s0 * s0)), h)
    else
      some (some (.long (((-x5) - (-x5) / s0 * s0) + s0)), h) :=
  sorry
theorem je_147 (rc : Nat → Nat × (Nat → Int32)) (d : Nat) (x0 : Int64) (h : jxH) : jx_C rc (d + 1) 147 [.long x0] h =
  jx_cI (jx_C rc d 72 [.long x0, .long (-1073741824 : Int64), .long (1073741823 : Int64)] h) fun v2 h1 =>
  if v2 = 0 then
    if jx_bool (1 : Int32) = true then some (some (.int (1 : Int32)), h1) else none
  else
    if jx_bool (0 : Int32) = true then some (some (.int (0 : Int32)), h1) else none :=
  sorry
theorem je_148 (rc : Nat → Nat × (Nat → Int32)) (d : Nat) (a0 : Nat) (x1 : Int32) (x2 : Int32) (h : jxH) : jx_C rc (d + 1) 148 [.ref a0, .int x1, .int x2] h =
  if jx_is (jx_at h a0) 12 = true then
  jx_cI (jx_C rc d 79 [.ref a0, .int x1] h) fun v2 h1 =>
  if v2 = 0 then
    jx_cI (jx_C rc d 73 [.ref a0, .int (1 : Int32)] h1) fun v4 h3 =>
    some (some (.int v4), h3)
  else
    jx_cI (jx_C rc d 72 [.long (x2).toInt64, .long (0 : Int64), .long (1 : Int64)] h1) fun v6 h5 =>
    if v6 = 0 then
      jx_cI (jx_C rc d 73 [.ref a0, .int (1 : Int32)] h5) fun v8 h7 =>
      some (some (.int v8), h7)
    else
      (jx_gR (jx_at h5 a0) 12 1).bind fun b9 =>
      jx_cI (jx_C rc d 85 [.ref b9, .int x1] h5) fun v11 h10 =>
      jx_cI (jx_C rc d 144 [.ref a0, .int v11] h10) fun v13 h12 =>
      if v13 = 0 then
        jx_cI (jx_C rc d 73 [.ref a0, .int (3 : Int32)] h12) fun v15 h14 =>
        some (some (.int v15), h14)
      else
        jx_cL (jx_C rc d 145 [.ref a0, .int v11] h12) fun v17 h16 =>
        jx_cI (jx_C rc d 147 [.long v17] h16) fun v19 h18 =>
        if v19 = 0 then
          if x2 = 0 then
            jx_cL (jx_C rc d 145 [.ref a0, .int v11] h18) fun v21 h20 =>
            some (some (.int ((v21).toInt32)), h20)
          else
            jx_cL (jx_C rc d 146 [.ref a0, .int v11] h18) fun v23 h22 =>
            some (some (.int ((v23).toInt32)), h22)
        else
          jx_cI (jx_C rc d 73 [.ref a0, .int (5 : Int32)] h18) fun v25 h24 =>
          some (some (.int v25), h24)
  else none :=
  sorry
theorem je_149 (rc : Nat → Nat × (Nat → Int32)) (d : Nat) (a0 : Nat) (x1 : Int32) (x2 : Int32) (h : jxH) : jx_C rc (d + 1) 149 [.ref a0, .int x1, .int x2] h =
  if jx_is (jx_at h a0) 12 = true then
  jx_cI (jx_C rc d 79 [.ref a0, .int x1] h) fun v2 h1 =>
  if v2 = 0 then
    jx_cI (jx_C rc d 73 [.ref a0, .int (1 : Int32)] h1) fun v4 h3 =>
    some (some (.int v4), h3)
  else
    jx_cI (jx_C rc d 79 [.ref a0, .int x2] h1) fun v6 h5 =>
    if v6 = 0 then
      jx_cI (jx_C rc d 73 [.ref a0, .int (1 : Int32)] h5) fun v8 h7 =>
      some (some (.int v8), h7)
    else
      (jx_gR (jx_at h5 a0) 12 1).bind fun b9 =>
      jx_cI (jx_C rc d 85 [.ref b9, .int x1] h5) fun v11 h10 =>
      (jx_gR (jx_at h10 a0) 12 1).bind fun b12 =>
      jx_cI (jx_C rc d 85 [.ref b12, .int x2] h10) fun v14 h13 =>
      jx_cI (jx_C rc d 144 [.ref a0, .int v11] h13) fun v16 h15 =>
      if v16 = 0 then
        jx_cI (jx_C rc d 73 [.ref a0, .int (3 : Int32)] h15) fun v18 h17 =>
        some (some (.int v18), h17)
      else
        jx_cI (jx_C rc d 144 [.ref a0, .int v14] h15) fun v20 h19 =>
        if v20 = 0 then
          jx_cI (jx_C rc d 73 [.ref a0, .int (3 : Int32)] h19) fun v22 h21 =>
          some (some (.int v22), h21)
        else
          jx_cL (jx_C rc d 145 [.ref a0, .int v11] h19) fun v24 h23 =>
          jx_cI (jx_C rc d 147 [.long v24] h23) fun v26 h25 =>
          if v26 = 0 then
            jx_cL (jx_C rc d 145 [.ref a0, .int v14] h25) fun v28 h27 =>
            jx_cI (jx_C rc d 147 [.long v28] h27) fun v30 h29 =>
            if v30 = 0 then
              jx_cL (jx_C rc d 145 [.ref a0, .int v11] h29) fun v32 h31 =>
              jx_cL (jx_C rc d 145 [.ref a0, .int v14] h31) fun v34 h33 =>
              if (lg_cmp v32 v34) = 0 then
                if (lg_cmp v32 (2 : Int64)) < 0 then
                  some (some (.int (1 : Int32)), h33)
                else
                  jx_cL (jx_C rc d 146 [.ref a0, .int v11] h33) fun v36 h35 =>
                  jx_cL (jx_C rc d 146 [.ref a0, .int v14] h35) fun v38 h37 =>
                  if (lg_cmp v36 v38) = 0 then
                    some (some (.int (1 : Int32)), h37)
                  else
                    jx_cL (jx_C rc d 146 [.ref a0, .int v11] h37) fun v40 h39 =>
                    jx_cL (jx_C rc d 146 [.ref a0, .int v14] h39) fun v42 h41 =>
                    if v32 = 0 then none else if (lg_cmp ((v40 * v42) - (v40 * v42) / v32 * v32) (1 : Int64)) = 0 then
                      some (some (.int (1 : Int32)), h41)
                    else
                      some (some (.int (0 : Int32)), h41)
              else
                some (some (.int (0 : Int32)), h33)
            else
              jx_cI (jx_C rc d 73 [.ref a0, .int (5 : Int32)] h29) fun v44 h43 =>
              some (some (.int v44), h43)
          else
            jx_cI (jx_C rc d 73 [.ref a0, .int (5 : Int32)] h25) fun v46 h45 =>
            some (some (.int v46), h45)
  else none :=
  sorry
theorem je_150 (rc : Nat → Nat × (Nat → Int32)) (d : Nat) (x0 : Int32) (x1 : Int32) (h : jxH) : jx_C rc (d + 1) 150 [.int x0, .int x1] h =
  jx_cI (jx_C rc d 72 [.long (x0).toInt64, .long (2 : Int64), .long (999 : Int64)] h) fun v2 h1 =>
  if v2 = 0 then
    if jx_bool (0 : Int32) = true then some (some (.int (0 : Int32)), h1) else none
  else
    jx_cI (jx_C rc d 72 [.long (x1).toInt64, .long (1 : Int64), .long ((x0).toInt64 - (1 : Int64))] h1) fun v4 h3 =>
    if v4 = 0 then
      if jx_bool (0 : Int32) = true then some (some (.int (0 : Int32)), h3) else none
    else
      if jx_bool (1 : Int32) = true then some (some (.int (1 : Int32)), h3) else none :=
  sorry
noncomputable def jb_151 (rc : Nat → Nat × (Nat → Int32)) (d : Nat) (i : Nat) (ls : List (Nat × Value)) (st : List Value) (h : jxH) : jxR := none
theorem je_151 (rc : Nat → Nat × (Nat → Int32)) (d : Nat) (x0 : Int32) (x1 : Int32) (x2 : Int32) (h : jxH) : jx_C rc (d + 1) 151 [.int x0, .int x1, .int x2] h =
  jb_151 rc d 6 [(2, .int x2), (3, .int x0), (4, .int x1), (5, .int (0 : Int32))] [] h :=
  sorry
theorem je_151_6 (rc : Nat → Nat × (Nat → Int32)) (d : Nat) (x2 : Int32) (x3 : Int32) (x4 : Int32) (x5 : Int32) (h : jxH) : jb_151 rc d 6 [(2, .int x2), (3, .int x3), (4, .int x4), (5, .int x5)] [] h =
  if x4 ≤ 0 then
    if 0 ≤ x2 then
      some (some (.int (-1 : Int32)), h)
    else
      some (some (.int x5), h)
  else
    if x4 = 0 then none else if x5 = x2 then
      some (some (.int (((x3 + x4) - (1 : Int32)) / x4)), h)
    else
      jb_151 rc d 6 [(2, .int x2), (3, .int x4), (4, .int (((((x3 + x4) - (1 : Int32)) / x4) * x4) - x3)), (5, .int (x5 + (1 : Int32)))] [] h :=
  sorry
theorem je_152 (rc : Nat → Nat × (Nat → Int32)) (d : Nat) (a0 : Nat) (x1 : Int32) (x2 : Int32) (x3 : Int32) (h : jxH) : jx_C rc (d + 1) 152 [.ref a0, .int x1, .int x2, .int x3] h =
  if jx_is (jx_at h a0) 12 = true then
  jx_cI (jx_C rc d 150 [.int x1, .int x2] h) fun v2 h1 =>
  if v2 = 0 then
    jx_cI (jx_C rc d 73 [.ref a0, .int (1 : Int32)] h1) fun v4 h3 =>
    some (some (.int v4), h3)
  else
    if (-1 : Int32) ≤ x3 then
      jx_cL (jx_C rc d 125 [.long (x1).toInt64, .long (x2).toInt64] h1) fun v6 h5 =>
      if (lg_cmp v6 (1 : Int64)) ≤ 0 then
        jx_cI (jx_C rc d 151 [.int x1, .int x2, .int x3] h5) fun v8 h7 =>
        if 0 ≤ v8 then
          some (some (.int v8), h7)
        else
          jx_cI (jx_C rc d 73 [.ref a0, .int (2 : Int32)] h7) fun v10 h9 =>
          some (some (.int v10), h9)
      else
        jx_cI (jx_C rc d 73 [.ref a0, .int (3 : Int32)] h5) fun v12 h11 =>
        some (some (.int v12), h11)
    else
      jx_cI (jx_C rc d 73 [.ref a0, .int (1 : Int32)] h1) fun v14 h13 =>
      some (some (.int v14), h13)
  else none :=
  sorry
noncomputable def jb_153 (rc : Nat → Nat × (Nat → Int32)) (d : Nat) (i : Nat) (ls : List (Nat × Value)) (st : List Value) (h : jxH) : jxR := none
theorem je_153 (rc : Nat → Nat × (Nat → Int32)) (d : Nat) (a0 : Nat) (x1 : Int32) (x2 : Int32) (h : jxH) : jx_C rc (d + 1) 153 [.ref a0, .int x1, .int x2] h =
  if jx_is (jx_at h a0) 12 = true then
  jx_cI (jx_C rc d 150 [.int x1, .int x2] h) fun v2 h1 =>
  if v2 = 0 then
    jx_cI (jx_C rc d 73 [.ref a0, .int (1 : Int32)] h1) fun v4 h3 =>
    some (some (.int v4), h3)
  else
    jx_cL (jx_C rc d 125 [.long (x1).toInt64, .long (x2).toInt64] h1) fun v6 h5 =>
    if (lg_cmp v6 (1 : Int64)) ≤ 0 then
      jx_cI (jx_C rc d 151 [.int x1, .int x2, .int (-1 : Int32)] h5) fun v8 h7 =>
      (jx_gR (jx_at h7 a0) 12 1).bind fun b9 =>
      (jx_aI (jx_at h7 b9) 0 (0 : Int32)).bind fun v10 =>
      jx_cI (jx_C rc d 76 [.int v10] h7) fun v12 h11 =>
      if (v8 + v12) ≤ (12 : Int32) then
        jb_153 rc d 40 [(0, .ref a0), (1, .int x1), (2, .int x2), (3, .int v8), (4, .int (0 : Int32))] [] h11
      else
        jx_cI (jx_C rc d 73 [.ref a0, .int (4 : Int32)] h11) fun v14 h13 =>
        some (some (.int v14), h13)
    else
      jx_cI (jx_C rc d 73 [.ref a0, .int (3 : Int32)] h5) fun v16 h15 =>
      some (some (.int v16), h15)
  else none :=
  sorry
theorem je_153_40 (rc : Nat → Nat × (Nat → Int32)) (d : Nat) (a0 : Nat) (x1 : Int32) (x2 : Int32) (x3 : Int32) (x4 : Int32) (h : jxH) : jb_153 rc d 40 [(0, .ref a0), (1, .int x1), (2, .int x2), (3, .int x3), (4, .int x4)] [] h =
  if x3 ≤ x4 then
    jx_cV (jx_C rc d 100 [.ref a0] h) fun h1 =>
    (jx_gR (jx_at h1 a0) 12 1).bind fun b2 =>
    (jx_aI (jx_at h1 b2) 0 (0 : Int32)).bind fun v3 =>
    jx_cI (jx_C rc d 77 [.int (v3 ^^^ (-1 : Int32))] h1) fun v5 h4 =>
    jb_153 rc d 69 [(0, .ref a0), (1, .int x1), (2, .int x2), (3, .int x3), (4, .int v5), (5, .int (-1 : Int32)), (6, .int (0 : Int32))] [] h4
  else
    jx_cI (jx_C rc d 151 [.int x1, .int x2, .int x4] h) fun v7 h6 =>
    if v7 ≤ (30 : Int32) then
      jb_153 rc d 40 [(0, .ref a0), (1, .int x1), (2, .int x2), (3, .int x3), (4, .int (x4 + (1 : Int32)))] [] h6
    else
      jx_cI (jx_C rc d 73 [.ref a0, .int (5 : Int32)] h6) fun v9 h8 =>
      some (some (.int v9), h8) :=
  sorry
theorem je_153_69 (rc : Nat → Nat × (Nat → Int32)) (d : Nat) (a0 : Nat) (x1 : Int32) (x2 : Int32) (x3 : Int32) (x4 : Int32) (x5 : Int32) (x6 : Int32) (h : jxH) : jb_153 rc d 69 [(0, .ref a0), (1, .int x1), (2, .int x2), (3, .int x3), (4, .int x4), (5, .int x5), (6, .int x6)] [] h =
  if x3 ≤ x6 then
    some (some (.int x4), h)
  else
    (jx_gR (jx_at h a0) 12 1).bind fun b1 =>
    jx_cI (jx_C rc d 151 [.int x1, .int x2, .int x6] h) fun v3 h2 =>
    jx_cI (jx_C rc d 81 [.ref b1, .int (-v3)] h2) fun v5 h4 =>
    if x5 < 0 then
      jb_153 rc d 69 [(0, .ref a0), (1, .int x1), (2, .int x2), (3, .int x3), (4, .int x4), (5, .int v5), (6, .int (x6 + (1 : Int32)))] [] h4
    else
      (jx_gR (jx_at h4 a0) 12 1).bind fun b6 =>
      jx_cV (jx_C rc d 82 [.ref b6, .int x5, .int v5] h4) fun h7 =>
      jb_153 rc d 69 [(0, .ref a0), (1, .int x1), (2, .int x2), (3, .int x3), (4, .int x4), (5, .int v5), (6, .int (x6 + (1 : Int32)))] [] h7 :=
  sorry
noncomputable def jb_154 (rc : Nat → Nat × (Nat → Int32)) (d : Nat) (i : Nat) (ls : List (Nat × Value)) (st : List Value) (h : jxH) : jxR := none
theorem je_154 (rc : Nat → Nat × (Nat → Int32)) (d : Nat) (a0 : Nat) (x1 : Int64) (x3 : Int32) (h : jxH) : jx_C rc (d + 1) 154 [.ref a0, .long x1, .int x3] h =
  if jx_is (jx_at h a0) 12 = true then
  jx_cI (jx_C rc d 72 [.long (x3).toInt64, .long (1 : Int64), .long (8 : Int64)] h) fun v2 h1 =>
  if v2 = 0 then
    jx_cI (jx_C rc d 73 [.ref a0, .int (1 : Int32)] h1) fun v4 h3 =>
    some (some (.int v4), h3)
  else
    (jx_gI (jx_at h1 a0) 12 11).bind fun v5 =>
    if (v5 + x3) ≤ (120 : Int32) then
      jb_154 rc d 22 [(0, .ref a0), (1, .long x1), (3, .int x3), (4, .int (0 : Int32))] [] h1
    else
      jx_cI (jx_C rc d 73 [.ref a0, .int (4 : Int32)] h1) fun v7 h6 =>
      some (some (.int v7), h6)
  else none :=
  sorry
theorem je_154_22 (rc : Nat → Nat × (Nat → Int32)) (d : Nat) (a0 : Nat) (x1 : Int64) (x3 : Int32) (x4 : Int32) (h : jxH) : jb_154 rc d 22 [(0, .ref a0), (1, .long x1), (3, .int x3), (4, .int x4)] [] h =
  if x3 ≤ x4 then
    (jx_gI (jx_at h a0) 12 11).bind fun v1 =>
    some (some (.int v1), h)
  else
    (jx_gR (jx_at h a0) 12 10).bind fun b2 =>
    (jx_gI (jx_at h a0) 12 11).bind fun v3 =>
    (jx_sI (jx_at h b2) 0 v3 ((((x1 >>> ((((8 : Int32) * x4)).toInt64 &&& 63)) &&& (255 : Int64))).toInt32)).bind fun e4 =>
    (jx_gI (jx_at (jx_set h b2 e4) a0) 12 11).bind fun v5 =>
    (jx_pF (jx_at (jx_set h b2 e4) a0) 12 11 (.int (v5 + (1 : Int32)))).bind fun e6 =>
    jb_154 rc d 22 [(0, .ref a0), (1, .long x1), (3, .int x3), (4, .int (x4 + (1 : Int32)))] [] (jx_set (jx_set h b2 e4) a0 e6) :=
  sorry
noncomputable def jb_155 (rc : Nat → Nat × (Nat → Int32)) (d : Nat) (i : Nat) (ls : List (Nat × Value)) (st : List Value) (h : jxH) : jxR := none
theorem je_155 (rc : Nat → Nat × (Nat → Int32)) (d : Nat) (a0 : Nat) (h : jxH) : jx_C rc (d + 1) 155 [.ref a0] h =
  if jx_is (jx_at h a0) 12 = true then
  jb_155 rc d 0 [(0, .ref a0)] [] h
  else none :=
  sorry
theorem je_155_0 (rc : Nat → Nat × (Nat → Int32)) (d : Nat) (a0 : Nat) (h : jxH) : jb_155 rc d 0 [(0, .ref a0)] [] h =
  (jx_gI (jx_at h a0) 12 12).bind fun v1 =>
  (jx_gI (jx_at h a0) 12 11).bind fun v2 =>
  if v2 ≤ v1 then
    (jx_gI (jx_at h a0) 12 12).bind fun v3 =>
    (jx_gI (jx_at h a0) 12 11).bind fun v4 =>
    if v4 ≤ v3 then
      some (some (.int (-1 : Int32)), h)
    else
      (jx_gR (jx_at h a0) 12 10).bind fun b5 =>
      (jx_gI (jx_at h a0) 12 12).bind fun v6 =>
      (jx_aI (jx_at h b5) 0 v6).bind fun v7 =>
      some (some (.int v7), h)
  else
    (jx_gR (jx_at h a0) 12 10).bind fun b8 =>
    (jx_gI (jx_at h a0) 12 12).bind fun v9 =>
    (jx_aI (jx_at h b8) 0 v9).bind fun v10 =>
    if v10 = (32 : Int32) then
      (jx_gI (jx_at h a0) 12 12).bind fun v11 =>
      (jx_pF (jx_at h a0) 12 12 (.int (v11 + (1 : Int32)))).bind fun e12 =>
      jb_155 rc d 0 [(0, .ref a0)] [] (jx_set h a0 e12)
    else
      (jx_gI (jx_at h a0) 12 12).bind fun v13 =>
      (jx_gI (jx_at h a0) 12 11).bind fun v14 =>
      if v14 ≤ v13 then
        some (some (.int (-1 : Int32)), h)
      else
        (jx_gR (jx_at h a0) 12 10).bind fun b15 =>
        (jx_gI (jx_at h a0) 12 12).bind fun v16 =>
        (jx_aI (jx_at h b15) 0 v16).bind fun v17 =>
        some (some (.int v17), h) :=
  sorry
theorem je_156 (rc : Nat → Nat × (Nat → Int32)) (d : Nat) (a0 : Nat) (x1 : Int32) (h : jxH) : jx_C rc (d + 1) 156 [.ref a0, .int x1] h =
  if jx_is (jx_at h a0) 12 = true then
  (jx_gI (jx_at h a0) 12 11).bind fun v1 =>
  if v1 ≤ x1 then
    some (some (.int (-1 : Int32)), h)
  else
    (jx_gR (jx_at h a0) 12 10).bind fun b2 =>
    (jx_aI (jx_at h b2) 0 x1).bind fun v3 =>
    some (some (.int v3), h)
  else none :=
  sorry
theorem je_157 (rc : Nat → Nat × (Nat → Int32)) (d : Nat) (x0 : Int32) (h : jxH) : jx_C rc (d + 1) 157 [.int x0] h =
  jx_cI (jx_C rc d 72 [.long (x0).toInt64, .long (48 : Int64), .long (57 : Int64)] h) fun v2 h1 =>
  if jx_bool v2 = true then some (some (.int v2), h1) else none :=
  sorry
noncomputable def jb_158 (rc : Nat → Nat × (Nat → Int32)) (d : Nat) (i : Nat) (ls : List (Nat × Value)) (st : List Value) (h : jxH) : jxR := none
theorem je_158 (rc : Nat → Nat × (Nat → Int32)) (d : Nat) (a0 : Nat) (h : jxH) : jx_C rc (d + 1) 158 [.ref a0] h =
  if jx_is (jx_at h a0) 12 = true then
  jx_cI (jx_C rc d 155 [.ref a0] h) fun v2 h1 =>
  if v2 = (45 : Int32) then
    if 0 ≤ (-1 : Int32) then
      (jx_gI (jx_at h1 a0) 12 12).bind fun v3 =>
      jb_158 rc d 22 [(0, .ref a0), (1, .int (-1 : Int32)), (2, .int v3), (3, .int (0 : Int32)), (4, .int (0 : Int32))] [] h1
    else
      (jx_gI (jx_at h1 a0) 12 12).bind fun v4 =>
      jb_158 rc d 22 [(0, .ref a0), (1, .int (-1 : Int32)), (2, .int (v4 + (1 : Int32))), (3, .int (0 : Int32)), (4, .int (0 : Int32))] [] h1
  else
    if 0 ≤ (1 : Int32) then
      (jx_gI (jx_at h1 a0) 12 12).bind fun v5 =>
      jb_158 rc d 22 [(0, .ref a0), (1, .int (1 : Int32)), (2, .int v5), (3, .int (0 : Int32)), (4, .int (0 : Int32))] [] h1
    else
      (jx_gI (jx_at h1 a0) 12 12).bind fun v6 =>
      jb_158 rc d 22 [(0, .ref a0), (1, .int (1 : Int32)), (2, .int (v6 + (1 : Int32))), (3, .int (0 : Int32)), (4, .int (0 : Int32))] [] h1
  else none :=
  sorry
theorem je_158_22 (rc : Nat → Nat × (Nat → Int32)) (d : Nat) (a0 : Nat) (x1 : Int32) (x2 : Int32) (x3 : Int32) (x4 : Int32) (h : jxH) : jb_158 rc d 22 [(0, .ref a0), (1, .int x1), (2, .int x2), (3, .int x3), (4, .int x4)] [] h =
  jx_cI (jx_C rc d 156 [.ref a0, .int (x2 + x4)] h) fun v2 h1 =>
  jx_cI (jx_C rc d 157 [.int v2] h1) fun v4 h3 =>
  if v4 = 0 then
    jx_cI (jx_C rc d 72 [.long (x4).toInt64, .long (1 : Int64), .long (2 : Int64)] h3) fun v6 h5 =>
    if v6 = 0 then
      if jx_bool (1 : Int32) = true then (jx_pF (jx_at h5 a0) 12 13 (.int (1 : Int32))).bind fun e7 =>
      some (some (.int (0 : Int32)), (jx_set h5 a0 e7)) else none
    else
      if x3 ≤ (30 : Int32) then
        (jx_pF (jx_at h5 a0) 12 12 (.int (x2 + x4))).bind fun e8 =>
        some (some (.int (x1 * x3)), (jx_set h5 a0 e8))
      else
        if jx_bool (1 : Int32) = true then (jx_pF (jx_at h5 a0) 12 13 (.int (1 : Int32))).bind fun e9 =>
        some (some (.int (0 : Int32)), (jx_set h5 a0 e9)) else none
  else
    if (2 : Int32) ≤ x4 then
      jb_158 rc d 22 [(0, .ref a0), (1, .int x1), (2, .int x2), (3, .int x3), (4, .int (x4 + (1 : Int32)))] [] h3
    else
      jx_cI (jx_C rc d 156 [.ref a0, .int (x2 + x4)] h3) fun v11 h10 =>
      jb_158 rc d 22 [(0, .ref a0), (1, .int x1), (2, .int x2), (3, .int ((((10 : Int32) * x3) + v11) - (48 : Int32))), (4, .int (x4 + (1 : Int32)))] [] h10 :=
  sorry
theorem je_159 (rc : Nat → Nat × (Nat → Int32)) (d : Nat) (a0 : Nat) (x1 : Int32) (h : jxH) : jx_C rc (d + 1) 159 [.ref a0, .int x1] h =
  if jx_is (jx_at h a0) 12 = true then
  (jx_gR (jx_at h a0) 12 14).bind fun b1 =>
  (jx_aI (jx_at h b1) 0 (0 : Int32)).bind fun v2 =>
  jx_cI (jx_C rc d 76 [.int v2] h) fun v4 h3 =>
  if v4 = (12 : Int32) then
    if jx_bool (1 : Int32) = true then (jx_pF (jx_at h3 a0) 12 13 (.int (1 : Int32))).bind fun e5 =>
    some (some (.int x1), (jx_set h3 a0 e5)) else none
  else
    (jx_gI (jx_at h3 a0) 12 12).bind fun v6 =>
    (jx_pF (jx_at h3 a0) 12 12 (.int (v6 + (1 : Int32)))).bind fun e7 =>
    jx_cI (jx_C rc d 158 [.ref a0] (jx_set h3 a0 e7)) fun v9 h8 =>
    (jx_gI (jx_at h8 a0) 12 13).bind fun v10 =>
    if v10 = 0 then
      (jx_gR (jx_at h8 a0) 12 14).bind fun b11 =>
      jx_cI (jx_C rc d 81 [.ref b11, .int v9] h8) fun v13 h12 =>
      if x1 ≤ 0 then
        (jx_gR (jx_at h12 a0) 12 15).bind fun b14 =>
        (jx_sI (jx_at h12 b14) 0 x1 v13).bind fun e15 =>
        some (some (.int (x1 + (1 : Int32))), (jx_set h12 b14 e15))
      else
        (jx_gR (jx_at h12 a0) 12 14).bind fun b16 =>
        (jx_gR (jx_at h12 a0) 12 15).bind fun b17 =>
        (jx_aI (jx_at h12 b17) 0 (x1 - (1 : Int32))).bind fun v18 =>
        jx_cV (jx_C rc d 82 [.ref b16, .int v18, .int v13] h12) fun h19 =>
        (jx_gR (jx_at h19 a0) 12 15).bind fun b20 =>
        (jx_sI (jx_at h19 b20) 0 x1 v13).bind fun e21 =>
        some (some (.int (x1 + (1 : Int32))), (jx_set h19 b20 e21))
    else
      some (some (.int x1), h8)
  else none :=
  sorry
noncomputable def jb_160 (rc : Nat → Nat × (Nat → Int32)) (d : Nat) (i : Nat) (ls : List (Nat × Value)) (st : List Value) (h : jxH) : jxR := none
theorem je_160 (rc : Nat → Nat × (Nat → Int32)) (d : Nat) (a0 : Nat) (h : jxH) : jx_C rc (d + 1) 160 [.ref a0] h =
  if jx_is (jx_at h a0) 12 = true then
  jb_160 rc d 2 [(0, .ref a0), (1, .int (0 : Int32))] [] h
  else none :=
  sorry
theorem je_160_2 (rc : Nat → Nat × (Nat → Int32)) (d : Nat) (a0 : Nat) (x1 : Int32) (h : jxH) : jb_160 rc d 2 [(0, .ref a0), (1, .int x1)] [] h =
  if (25 : Int32) ≤ x1 then
    (jx_pF (jx_at h a0) 12 12 (.int (0 : Int32))).bind fun e1 =>
    if jx_bool (0 : Int32) = true then (jx_pF (jx_at (jx_set h a0 e1) a0) 12 13 (.int (0 : Int32))).bind fun e2 =>
    jb_160 rc d 20 [(0, .ref a0), (1, .int (0 : Int32))] [] (jx_set (jx_set h a0 e1) a0 e2) else none
  else
    (jx_gR (jx_at h a0) 12 14).bind fun b3 =>
    (jx_sI (jx_at h b3) 0 x1 (0 : Int32)).bind fun e4 =>
    jb_160 rc d 2 [(0, .ref a0), (1, .int (x1 + (1 : Int32)))] [] (jx_set h b3 e4) :=
  sorry
theorem je_160_20 (rc : Nat → Nat × (Nat → Int32)) (d : Nat) (a0 : Nat) (x1 : Int32) (h : jxH) : jb_160 rc d 20 [(0, .ref a0), (1, .int x1)] [] h =
  jx_cI (jx_C rc d 155 [.ref a0] h) fun v2 h1 =>
  if v2 = (40 : Int32) then
    jx_cI (jx_C rc d 159 [.ref a0, .int x1] h1) fun v4 h3 =>
    (jx_gI (jx_at h3 a0) 12 13).bind fun v5 =>
    if v5 = 0 then
      if 0 < v4 then
        jb_160 rc d 20 [(0, .ref a0), (1, .int v4)] [] h3
      else
        jx_cI (jx_C rc d 155 [.ref a0] h3) fun v7 h6 =>
        if 0 ≤ v7 then
          jb_160 rc d 20 [(0, .ref a0), (1, .int v4)] [] h6
        else
          some (none, h6)
    else
      some (none, h3)
  else
    if v2 = (41 : Int32) then
      if x1 ≤ 0 then
        if jx_bool (1 : Int32) = true then (jx_pF (jx_at h1 a0) 12 13 (.int (1 : Int32))).bind fun e8 =>
        (jx_gI (jx_at (jx_set h1 a0 e8) a0) 12 13).bind fun v9 =>
        if v9 = 0 then
          if 0 < x1 then
            jb_160 rc d 20 [(0, .ref a0), (1, .int x1)] [] (jx_set h1 a0 e8)
          else
            jx_cI (jx_C rc d 155 [.ref a0] (jx_set h1 a0 e8)) fun v11 h10 =>
            if 0 ≤ v11 then
              jb_160 rc d 20 [(0, .ref a0), (1, .int x1)] [] h10
            else
              some (none, h10)
        else
          some (none, (jx_set h1 a0 e8)) else none
      else
        (jx_gI (jx_at h1 a0) 12 12).bind fun v12 =>
        (jx_pF (jx_at h1 a0) 12 12 (.int (v12 + (1 : Int32)))).bind fun e13 =>
        (jx_gI (jx_at (jx_set h1 a0 e13) a0) 12 13).bind fun v14 =>
        if v14 = 0 then
          if 0 < (x1 + (-1 : Int32)) then
            jb_160 rc d 20 [(0, .ref a0), (1, .int (x1 + (-1 : Int32)))] [] (jx_set h1 a0 e13)
          else
            jx_cI (jx_C rc d 155 [.ref a0] (jx_set h1 a0 e13)) fun v16 h15 =>
            if 0 ≤ v16 then
              jb_160 rc d 20 [(0, .ref a0), (1, .int (x1 + (-1 : Int32)))] [] h15
            else
              some (none, h15)
        else
          some (none, (jx_set h1 a0 e13))
    else
      if jx_bool (1 : Int32) = true then (jx_pF (jx_at h1 a0) 12 13 (.int (1 : Int32))).bind fun e17 =>
      (jx_gI (jx_at (jx_set h1 a0 e17) a0) 12 13).bind fun v18 =>
      if v18 = 0 then
        if 0 < x1 then
          jb_160 rc d 20 [(0, .ref a0), (1, .int x1)] [] (jx_set h1 a0 e17)
        else
          jx_cI (jx_C rc d 155 [.ref a0] (jx_set h1 a0 e17)) fun v20 h19 =>
          if 0 ≤ v20 then
            jb_160 rc d 20 [(0, .ref a0), (1, .int x1)] [] h19
          else
            some (none, h19)
      else
        some (none, (jx_set h1 a0 e17)) else none :=
  sorry
theorem je_161 (rc : Nat → Nat × (Nat → Int32)) (d : Nat) (a0 : Nat) (h : jxH) : jx_C rc (d + 1) 161 [.ref a0] h =
  if jx_is (jx_at h a0) 12 = true then
  jx_cV (jx_C rc d 160 [.ref a0] h) fun h1 =>
  (jx_gI (jx_at h1 a0) 12 12).bind fun v2 =>
  (jx_pF (jx_at h1 a0) 12 11 (.int (0 : Int32))).bind fun e3 =>
  (jx_gI (jx_at (jx_set h1 a0 e3) a0) 12 13).bind fun v4 =>
  if v4 = 0 then
    jx_cV (jx_C rc d 100 [.ref a0] (jx_set h1 a0 e3)) fun h5 =>
    (jx_gR (jx_at h5 a0) 12 14).bind fun b6 =>
    (jx_gR (jx_at h5 a0) 12 1).bind fun b7 =>
    jx_cV (jx_C rc d 74 [.ref b6, .ref b7] h5) fun h8 =>
    (jx_gR (jx_at h8 a0) 12 1).bind fun b9 =>
    (jx_aI (jx_at h8 b9) 0 (0 : Int32)).bind fun v10 =>
    jx_cI (jx_C rc d 76 [.int v10] h8) fun v12 h11 =>
    some (some (.int v12), h11)
  else
    some (some (.int ((-10 : Int32) - v2)), (jx_set h1 a0 e3))
  else none :=
  sorry
noncomputable def jb_162 (rc : Nat → Nat × (Nat → Int32)) (d : Nat) (i : Nat) (ls : List (Nat × Value)) (st : List Value) (h : jxH) : jxR := none
theorem je_162 (rc : Nat → Nat × (Nat → Int32)) (d : Nat) (a0 : Nat) (x1 : Int32) (a2 : Nat) (x3 : Int32) (h : jxH) : jx_C rc (d + 1) 162 [.ref a0, .int x1, .ref a2, .int x3] h =
  jb_162 rc d 2 [(0, .ref a0), (1, .int x1), (2, .ref a2), (3, .int x3), (4, .int (0 : Int32))] [] h :=
  sorry
theorem je_162_2 (rc : Nat → Nat × (Nat → Int32)) (d : Nat) (a0 : Nat) (x1 : Int32) (a2 : Nat) (x3 : Int32) (x4 : Int32) (h : jxH) : jb_162 rc d 2 [(0, .ref a0), (1, .int x1), (2, .ref a2), (3, .int x3), (4, .int x4)] [] h =
  if x1 ≤ x4 then
    jb_162 rc d 17 [(0, .ref a0), (1, .int x1), (2, .ref a2), (3, .int x3), (4, .int x4)] [] h
  else
    if x3 ≤ x4 then
      jb_162 rc d 17 [(0, .ref a0), (1, .int x1), (2, .ref a2), (3, .int x3), (4, .int x4)] [] h
    else
      (jx_aI (jx_at h a0) 0 x4).bind fun v1 =>
      (jx_aI (jx_at h a2) 0 x4).bind fun v2 =>
      if v1 = v2 then
        jb_162 rc d 2 [(0, .ref a0), (1, .int x1), (2, .ref a2), (3, .int x3), (4, .int (x4 + (1 : Int32)))] [] h
      else
        jb_162 rc d 17 [(0, .ref a0), (1, .int x1), (2, .ref a2), (3, .int x3), (4, .int x4)] [] h :=
  sorry
theorem je_162_17 (rc : Nat → Nat × (Nat → Int32)) (d : Nat) (a0 : Nat) (x1 : Int32) (a2 : Nat) (x3 : Int32) (x4 : Int32) (h : jxH) : jb_162 rc d 17 [(0, .ref a0), (1, .int x1), (2, .ref a2), (3, .int x3), (4, .int x4)] [] h =
  if x1 ≤ x4 then
    if x3 ≤ x1 then
      if jx_bool (0 : Int32) = true then some (some (.int (0 : Int32)), h) else none
    else
      if jx_bool (1 : Int32) = true then some (some (.int (1 : Int32)), h) else none
  else
    if x3 ≤ x4 then
      if x3 ≤ x1 then
        if jx_bool (0 : Int32) = true then some (some (.int (0 : Int32)), h) else none
      else
        if jx_bool (1 : Int32) = true then some (some (.int (1 : Int32)), h) else none
    else
      (jx_aI (jx_at h a0) 0 x4).bind fun v1 =>
      (jx_aI (jx_at h a2) 0 x4).bind fun v2 =>
      if v2 ≤ v1 then
        if jx_bool (0 : Int32) = true then some (some (.int (0 : Int32)), h) else none
      else
        if jx_bool (1 : Int32) = true then some (some (.int (1 : Int32)), h) else none :=
  sorry
noncomputable def jb_163 (rc : Nat → Nat × (Nat → Int32)) (d : Nat) (i : Nat) (ls : List (Nat × Value)) (st : List Value) (h : jxH) : jxR := none
theorem je_163 (rc : Nat → Nat × (Nat → Int32)) (d : Nat) (a0 : Nat) (x1 : Int32) (x2 : Int32) (h : jxH) : jx_C rc (d + 1) 163 [.ref a0, .int x1, .int x2] h =
  if 0 ≤ x2 then
    if 0 ≤ x2 then
      jb_163 rc d 15 [(0, .ref a0), (3, .int x1)] [.int x2] h
    else
      jb_163 rc d 15 [(0, .ref a0), (3, .int x1)] [.int (-x2)] h
  else
    (jx_sI (jx_at h a0) 0 x1 (45 : Int32)).bind fun e1 =>
    if 0 ≤ x2 then
      jb_163 rc d 15 [(0, .ref a0), (3, .int (x1 + (1 : Int32)))] [.int x2] (jx_set h a0 e1)
    else
      jb_163 rc d 15 [(0, .ref a0), (3, .int (x1 + (1 : Int32)))] [.int (-x2)] (jx_set h a0 e1) :=
  sorry
theorem je_163_15 (rc : Nat → Nat × (Nat → Int32)) (d : Nat) (a0 : Nat) (x3 : Int32) (s0 : Int32) (h : jxH) : jb_163 rc d 15 [(0, .ref a0), (3, .int x3)] [.int s0] h =
  if s0 ≤ (9 : Int32) then
    if (10 : Int32) = 0 then none else (jx_sI (jx_at h a0) 0 x3 ((48 : Int32) + (s0 - s0 / (10 : Int32) * (10 : Int32)))).bind fun e1 =>
    some (some (.int (x3 + (1 : Int32))), (jx_set h a0 e1))
  else
    if (10 : Int32) = 0 then none else (jx_sI (jx_at h a0) 0 x3 ((48 : Int32) + (s0 / (10 : Int32)))).bind fun e2 =>
    if (10 : Int32) = 0 then none else (jx_sI (jx_at (jx_set h a0 e2) a0) 0 (x3 + (1 : Int32)) ((48 : Int32) + (s0 - s0 / (10 : Int32) * (10 : Int32)))).bind fun e3 =>
    some (some (.int ((x3 + (1 : Int32)) + (1 : Int32))), (jx_set (jx_set h a0 e2) a0 e3)) :=
  sorry
noncomputable def jb_164 (rc : Nat → Nat × (Nat → Int32)) (d : Nat) (i : Nat) (ls : List (Nat × Value)) (st : List Value) (h : jxH) : jxR := none
theorem je_164 (rc : Nat → Nat × (Nat → Int32)) (d : Nat) (a0 : Nat) (a1 : Nat) (x2 : Int32) (x3 : Int32) (h : jxH) : jx_C rc (d + 1) 164 [.ref a0, .ref a1, .int x2, .int x3] h =
  if jx_is (jx_at h a0) 12 = true then
  (jx_aI (jx_at h a1) 0 ((13 : Int32) + x2)).bind fun v1 =>
  if 0 ≤ x3 then
    jb_164 rc d 18 [(0, .ref a0), (1, .ref a1), (2, .int x2), (4, .int (v1 &&& (((1 : Int32) <<< (x3 &&& 31)) ^^^ (-1 : Int32)))), (5, .int (0 : Int32))] [] h
  else
    jb_164 rc d 18 [(0, .ref a0), (1, .ref a1), (2, .int x2), (4, .int (v1 &&& ((0 : Int32) ^^^ (-1 : Int32)))), (5, .int (0 : Int32))] [] h
  else none :=
  sorry
theorem je_164_18 (rc : Nat → Nat × (Nat → Int32)) (d : Nat) (a0 : Nat) (a1 : Nat) (x2 : Int32) (x4 : Int32) (x5 : Int32) (h : jxH) : jb_164 rc d 18 [(0, .ref a0), (1, .ref a1), (2, .int x2), (4, .int x4), (5, .int x5)] [] h =
  if (12 : Int32) ≤ x5 then
    (jx_gR (jx_at h a0) 12 16).bind fun b1 =>
    (jx_aQ (jx_at h b1) 8 x2).bind fun o2 =>
    jx_mo o2 (fun b3 => (jx_sI (jx_at h b3) 0 (0 : Int32) (40 : Int32)).bind fun e4 =>
      (jx_aI (jx_at (jx_set h b3 e4) a1) 0 ((1 : Int32) + x2)).bind fun v5 =>
      jx_cI (jx_C rc d 163 [.ref b3, .int (1 : Int32), .int v5] (jx_set h b3 e4)) fun v7 h6 =>
      jb_164 rc d 50 [(0, .ref a0), (2, .int x2), (4, .int x4), (5, .ref b3), (6, .int v7)] [] h6)
    (none)
  else
    jx_cI (jx_C rc d 75 [.int x4, .int x5] h) fun v10 h9 =>
    if v10 = 0 then
      jb_164 rc d 18 [(0, .ref a0), (1, .ref a1), (2, .int x2), (4, .int x4), (5, .int (x5 + (1 : Int32)))] [] h9
    else
      jx_cV (jx_C rc d 164 [.ref a0, .ref a1, .int x5, .int x2] h9) fun h11 =>
      jb_164 rc d 18 [(0, .ref a0), (1, .ref a1), (2, .int x2), (4, .int x4), (5, .int (x5 + (1 : Int32)))] [] h11 :=
  sorry
theorem je_164_50 (rc : Nat → Nat × (Nat → Int32)) (d : Nat) (a0 : Nat) (x2 : Int32) (x4 : Int32) (x6 : Int32) (h : jxH) : jb_164 rc d 50 [(0, .ref a0), (2, .int x2), (4, .int x4), (5, .null), (6, .int x6)] [] h =
  if x4 = 0 then
    none
  else
    jx_cI (jx_C rc d 77 [.int x4] h) fun v3 h2 =>
    jb_164 rc d 59 [(0, .ref a0), (2, .int x2), (4, .int x4), (5, .null), (6, .int x6), (7, .int v3), (8, .int (v3 + (1 : Int32)))] [] h2 :=
  sorry
theorem je_164_50b (rc : Nat → Nat × (Nat → Int32)) (d : Nat) (a0 : Nat) (x2 : Int32) (x4 : Int32) (a5 : Nat) (x6 : Int32) (h : jxH) : jb_164 rc d 50 [(0, .ref a0), (2, .int x2), (4, .int x4), (5, .ref a5), (6, .int x6)] [] h =
  if x4 = 0 then
    (jx_sI (jx_at h a5) 0 x6 (41 : Int32)).bind fun e1 =>
    (jx_gR (jx_at (jx_set h a5 e1) a0) 12 17).bind fun b2 =>
    (jx_sI (jx_at (jx_set h a5 e1) b2) 0 x2 (x6 + (1 : Int32))).bind fun e3 =>
    some (none, (jx_set (jx_set h a5 e1) b2 e3))
  else
    jx_cI (jx_C rc d 77 [.int x4] h) fun v5 h4 =>
    jb_164 rc d 59 [(0, .ref a0), (2, .int x2), (4, .int x4), (5, .ref a5), (6, .int x6), (7, .int v5), (8, .int (v5 + (1 : Int32)))] [] h4 :=
  sorry
theorem je_164_59 (rc : Nat → Nat × (Nat → Int32)) (d : Nat) (a0 : Nat) (x2 : Int32) (x4 : Int32) (x6 : Int32) (x7 : Int32) (x8 : Int32) (h : jxH) : jb_164 rc d 59 [(0, .ref a0), (2, .int x2), (4, .int x4), (5, .null), (6, .int x6), (7, .int x7), (8, .int x8)] [] h =
  if (12 : Int32) ≤ x8 then
    jb_164 rc d 92 [(0, .ref a0), (2, .int x2), (4, .int x4), (5, .null), (6, .int x6), (7, .int x7), (8, .int (0 : Int32))] [] h
  else
    jx_cI (jx_C rc d 75 [.int x4, .int x8] h) fun v2 h1 =>
    if v2 = 0 then
      jb_164 rc d 59 [(0, .ref a0), (2, .int x2), (4, .int x4), (5, .null), (6, .int x6), (7, .int x7), (8, .int (x8 + (1 : Int32)))] [] h1
    else
      (jx_gR (jx_at h1 a0) 12 16).bind fun b3 =>
      (jx_aQ (jx_at h1 b3) 8 x8).bind fun o4 =>
      jx_mo o4 (fun b5 => (jx_gR (jx_at h1 a0) 12 17).bind fun b6 =>
        (jx_aI (jx_at h1 b6) 0 x8).bind fun v7 =>
        (jx_gR (jx_at h1 a0) 12 16).bind fun b8 =>
        (jx_aQ (jx_at h1 b8) 8 x7).bind fun o9 =>
        jx_mo o9 (fun b10 => (jx_gR (jx_at h1 a0) 12 17).bind fun b11 =>
          (jx_aI (jx_at h1 b11) 0 x7).bind fun v12 =>
          jx_cI (jx_C rc d 162 [.ref b5, .int v7, .ref b10, .int v12] h1) fun v14 h13 =>
          if v14 = 0 then
            jb_164 rc d 59 [(0, .ref a0), (2, .int x2), (4, .int x4), (5, .null), (6, .int x6), (7, .int x7), (8, .int (x8 + (1 : Int32)))] [] h13
          else
            jb_164 rc d 59 [(0, .ref a0), (2, .int x2), (4, .int x4), (5, .null), (6, .int x6), (7, .int x8), (8, .int (x8 + (1 : Int32)))] [] h13)
        ((jx_gR (jx_at h1 a0) 12 17).bind fun b15 =>
          (jx_aI (jx_at h1 b15) 0 x7).bind fun v16 =>
          jx_cI (jx_C rc d 162 [.ref b5, .int v7, .null, .int v16] h1) fun v18 h17 =>
          if v18 = 0 then
            jb_164 rc d 59 [(0, .ref a0), (2, .int x2), (4, .int x4), (5, .null), (6, .int x6), (7, .int x7), (8, .int (x8 + (1 : Int32)))] [] h17
          else
            jb_164 rc d 59 [(0, .ref a0), (2, .int x2), (4, .int x4), (5, .null), (6, .int x6), (7, .int x8), (8, .int (x8 + (1 : Int32)))] [] h17))
      ((jx_gR (jx_at h1 a0) 12 17).bind fun b19 =>
        (jx_aI (jx_at h1 b19) 0 x8).bind fun v20 =>
        (jx_gR (jx_at h1 a0) 12 16).bind fun b21 =>
        (jx_aQ (jx_at h1 b21) 8 x7).bind fun o22 =>
        jx_mo o22 (fun b23 => (jx_gR (jx_at h1 a0) 12 17).bind fun b24 =>
          (jx_aI (jx_at h1 b24) 0 x7).bind fun v25 =>
          jx_cI (jx_C rc d 162 [.null, .int v20, .ref b23, .int v25] h1) fun v27 h26 =>
          if v27 = 0 then
            jb_164 rc d 59 [(0, .ref a0), (2, .int x2), (4, .int x4), (5, .null), (6, .int x6), (7, .int x7), (8, .int (x8 + (1 : Int32)))] [] h26
          else
            jb_164 rc d 59 [(0, .ref a0), (2, .int x2), (4, .int x4), (5, .null), (6, .int x6), (7, .int x8), (8, .int (x8 + (1 : Int32)))] [] h26)
        ((jx_gR (jx_at h1 a0) 12 17).bind fun b28 =>
          (jx_aI (jx_at h1 b28) 0 x7).bind fun v29 =>
          jx_cI (jx_C rc d 162 [.null, .int v20, .null, .int v29] h1) fun v31 h30 =>
          if v31 = 0 then
            jb_164 rc d 59 [(0, .ref a0), (2, .int x2), (4, .int x4), (5, .null), (6, .int x6), (7, .int x7), (8, .int (x8 + (1 : Int32)))] [] h30
          else
            jb_164 rc d 59 [(0, .ref a0), (2, .int x2), (4, .int x4), (5, .null), (6, .int x6), (7, .int x8), (8, .int (x8 + (1 : Int32)))] [] h30)) :=
  sorry
theorem je_164_59b (rc : Nat → Nat × (Nat → Int32)) (d : Nat) (a0 : Nat) (x2 : Int32) (x4 : Int32) (a5 : Nat) (x6 : Int32) (x7 : Int32) (x8 : Int32) (h : jxH) : jb_164 rc d 59 [(0, .ref a0), (2, .int x2), (4, .int x4), (5, .ref a5), (6, .int x6), (7, .int x7), (8, .int x8)] [] h =
  if (12 : Int32) ≤ x8 then
    jb_164 rc d 92 [(0, .ref a0), (2, .int x2), (4, .int x4), (5, .ref a5), (6, .int x6), (7, .int x7), (8, .int (0 : Int32))] [] h
  else
    jx_cI (jx_C rc d 75 [.int x4, .int x8] h) fun v2 h1 =>
    if v2 = 0 then
      jb_164 rc d 59 [(0, .ref a0), (2, .int x2), (4, .int x4), (5, .ref a5), (6, .int x6), (7, .int x7), (8, .int (x8 + (1 : Int32)))] [] h1
    else
      (jx_gR (jx_at h1 a0) 12 16).bind fun b3 =>
      (jx_aQ (jx_at h1 b3) 8 x8).bind fun o4 =>
      jx_mo o4 (fun b5 => (jx_gR (jx_at h1 a0) 12 17).bind fun b6 =>
        (jx_aI (jx_at h1 b6) 0 x8).bind fun v7 =>
        (jx_gR (jx_at h1 a0) 12 16).bind fun b8 =>
        (jx_aQ (jx_at h1 b8) 8 x7).bind fun o9 =>
        jx_mo o9 (fun b10 => (jx_gR (jx_at h1 a0) 12 17).bind fun b11 =>
          (jx_aI (jx_at h1 b11) 0 x7).bind fun v12 =>
          jx_cI (jx_C rc d 162 [.ref b5, .int v7, .ref b10, .int v12] h1) fun v14 h13 =>
          if v14 = 0 then
            jb_164 rc d 59 [(0, .ref a0), (2, .int x2), (4, .int x4), (5, .ref a5), (6, .int x6), (7, .int x7), (8, .int (x8 + (1 : Int32)))] [] h13
          else
            jb_164 rc d 59 [(0, .ref a0), (2, .int x2), (4, .int x4), (5, .ref a5), (6, .int x6), (7, .int x8), (8, .int (x8 + (1 : Int32)))] [] h13)
        ((jx_gR (jx_at h1 a0) 12 17).bind fun b15 =>
          (jx_aI (jx_at h1 b15) 0 x7).bind fun v16 =>
          jx_cI (jx_C rc d 162 [.ref b5, .int v7, .null, .int v16] h1) fun v18 h17 =>
          if v18 = 0 then
            jb_164 rc d 59 [(0, .ref a0), (2, .int x2), (4, .int x4), (5, .ref a5), (6, .int x6), (7, .int x7), (8, .int (x8 + (1 : Int32)))] [] h17
          else
            jb_164 rc d 59 [(0, .ref a0), (2, .int x2), (4, .int x4), (5, .ref a5), (6, .int x6), (7, .int x8), (8, .int (x8 + (1 : Int32)))] [] h17))
      ((jx_gR (jx_at h1 a0) 12 17).bind fun b19 =>
        (jx_aI (jx_at h1 b19) 0 x8).bind fun v20 =>
        (jx_gR (jx_at h1 a0) 12 16).bind fun b21 =>
        (jx_aQ (jx_at h1 b21) 8 x7).bind fun o22 =>
        jx_mo o22 (fun b23 => (jx_gR (jx_at h1 a0) 12 17).bind fun b24 =>
          (jx_aI (jx_at h1 b24) 0 x7).bind fun v25 =>
          jx_cI (jx_C rc d 162 [.null, .int v20, .ref b23, .int v25] h1) fun v27 h26 =>
          if v27 = 0 then
            jb_164 rc d 59 [(0, .ref a0), (2, .int x2), (4, .int x4), (5, .ref a5), (6, .int x6), (7, .int x7), (8, .int (x8 + (1 : Int32)))] [] h26
          else
            jb_164 rc d 59 [(0, .ref a0), (2, .int x2), (4, .int x4), (5, .ref a5), (6, .int x6), (7, .int x8), (8, .int (x8 + (1 : Int32)))] [] h26)
        ((jx_gR (jx_at h1 a0) 12 17).bind fun b28 =>
          (jx_aI (jx_at h1 b28) 0 x7).bind fun v29 =>
          jx_cI (jx_C rc d 162 [.null, .int v20, .null, .int v29] h1) fun v31 h30 =>
          if v31 = 0 then
            jb_164 rc d 59 [(0, .ref a0), (2, .int x2), (4, .int x4), (5, .ref a5), (6, .int x6), (7, .int x7), (8, .int (x8 + (1 : Int32)))] [] h30
          else
            jb_164 rc d 59 [(0, .ref a0), (2, .int x2), (4, .int x4), (5, .ref a5), (6, .int x6), (7, .int x8), (8, .int (x8 + (1 : Int32)))] [] h30)) :=
  sorry
theorem je_164_92 (rc : Nat → Nat × (Nat → Int32)) (d : Nat) (a0 : Nat) (x2 : Int32) (x4 : Int32) (x6 : Int32) (x7 : Int32) (x8 : Int32) (h : jxH) : jb_164 rc d 92 [(0, .ref a0), (2, .int x2), (4, .int x4), (5, .null), (6, .int x6), (7, .int x7), (8, .int x8)] [] h =
  (jx_gR (jx_at h a0) 12 17).bind fun b1 =>
  (jx_aI (jx_at h b1) 0 x7).bind fun v2 =>
  if v2 ≤ x8 then
    jb_164 rc d 50 [(0, .ref a0), (2, .int x2), (4, .int (x4 &&& (((1 : Int32) <<< (x7 &&& 31)) ^^^ (-1 : Int32)))), (5, .null), (6, .int x6)] [] h
  else
    (jx_gR (jx_at h a0) 12 16).bind fun b3 =>
    (jx_aQ (jx_at h b3) 8 x7).bind fun o4 =>
    jx_mo o4 (fun b5 => (jx_aI (jx_at h b5) 0 x8).bind fun v6 =>
      none)
    (none) :=
  sorry
theorem je_164_92b (rc : Nat → Nat × (Nat → Int32)) (d : Nat) (a0 : Nat) (x2 : Int32) (x4 : Int32) (a5 : Nat) (x6 : Int32) (x7 : Int32) (x8 : Int32) (h : jxH) : jb_164 rc d 92 [(0, .ref a0), (2, .int x2), (4, .int x4), (5, .ref a5), (6, .int x6), (7, .int x7), (8, .int x8)] [] h =
  (jx_gR (jx_at h a0) 12 17).bind fun b1 =>
  (jx_aI (jx_at h b1) 0 x7).bind fun v2 =>
  if v2 ≤ x8 then
    jb_164 rc d 50 [(0, .ref a0), (2, .int x2), (4, .int (x4 &&& (((1 : Int32) <<< (x7 &&& 31)) ^^^ (-1 : Int32)))), (5, .ref a5), (6, .int x6)] [] h
  else
    (jx_gR (jx_at h a0) 12 16).bind fun b3 =>
    (jx_aQ (jx_at h b3) 8 x7).bind fun o4 =>
    jx_mo o4 (fun b5 => (jx_aI (jx_at h b5) 0 x8).bind fun v6 =>
      (jx_sI (jx_at h a5) 0 x6 v6).bind fun e7 =>
      jb_164 rc d 92 [(0, .ref a0), (2, .int x2), (4, .int x4), (5, .ref a5), (6, .int (x6 + (1 : Int32))), (7, .int x7), (8, .int (x8 + (1 : Int32)))] [] (jx_set h a5 e7))
    (none) :=
  sorry
noncomputable def jb_165 (rc : Nat → Nat × (Nat → Int32)) (d : Nat) (i : Nat) (ls : List (Nat × Value)) (st : List Value) (h : jxH) : jxR := none
theorem je_165 (rc : Nat → Nat × (Nat → Int32)) (d : Nat) (a0 : Nat) (a1 : Nat) (x2 : Int32) (h : jxH) : jx_C rc (d + 1) 165 [.ref a0, .ref a1, .int x2] h =
  if jx_is (jx_at h a0) 12 = true then
  jx_cI (jx_C rc d 85 [.ref a1, .int x2] h) fun v2 h1 =>
  (jx_gR (jx_at h1 a0) 12 19).bind fun b3 =>
  (jx_sI (jx_at h1 b3) 0 x2 (0 : Int32)).bind fun e4 =>
  jb_165 rc d 11 [(0, .ref a0), (1, .ref a1), (2, .int x2), (3, .int v2), (4, .int (0 : Int32))] [] (jx_set h1 b3 e4)
  else none :=
  sorry
theorem je_165_11 (rc : Nat → Nat × (Nat → Int32)) (d : Nat) (a0 : Nat) (a1 : Nat) (x2 : Int32) (x3 : Int32) (x4 : Int32) (h : jxH) : jb_165 rc d 11 [(0, .ref a0), (1, .ref a1), (2, .int x2), (3, .int x3), (4, .int x4)] [] h =
  if (12 : Int32) ≤ x4 then
    some (none, h)
  else
    jx_cI (jx_C rc d 75 [.int x3, .int x4] h) fun v2 h1 =>
    if v2 = 0 then
      jb_165 rc d 11 [(0, .ref a0), (1, .ref a1), (2, .int x2), (3, .int x3), (4, .int (x4 + (1 : Int32)))] [] h1
    else
      jx_cV (jx_C rc d 164 [.ref a0, .ref a1, .int x4, .int (-1 : Int32)] h1) fun h3 =>
      (jx_gR (jx_at h3 a0) 12 19).bind fun b4 =>
      (jx_aI (jx_at h3 b4) 0 x2).bind fun v5 =>
      if v5 = 0 then
        jb_165 rc d 48 [(0, .ref a0), (1, .ref a1), (2, .int x2), (3, .int x3), (4, .int x4), (5, .int (0 : Int32))] [] h3
      else
        (jx_gR (jx_at h3 a0) 12 16).bind fun b6 =>
        (jx_aQ (jx_at h3 b6) 8 x4).bind fun o7 =>
        jx_mo o7 (fun b8 => (jx_gR (jx_at h3 a0) 12 17).bind fun b9 =>
          (jx_aI (jx_at h3 b9) 0 x4).bind fun v10 =>
          (jx_gR (jx_at h3 a0) 12 18).bind fun b11 =>
          (jx_aQ (jx_at h3 b11) 8 x2).bind fun o12 =>
          jx_mo o12 (fun b13 => (jx_gR (jx_at h3 a0) 12 19).bind fun b14 =>
            (jx_aI (jx_at h3 b14) 0 x2).bind fun v15 =>
            jx_cI (jx_C rc d 162 [.ref b8, .int v10, .ref b13, .int v15] h3) fun v17 h16 =>
            if v17 = 0 then
              jb_165 rc d 11 [(0, .ref a0), (1, .ref a1), (2, .int x2), (3, .int x3), (4, .int (x4 + (1 : Int32)))] [] h16
            else
              jb_165 rc d 48 [(0, .ref a0), (1, .ref a1), (2, .int x2), (3, .int x3), (4, .int x4), (5, .int (0 : Int32))] [] h16)
          ((jx_gR (jx_at h3 a0) 12 19).bind fun b18 =>
            (jx_aI (jx_at h3 b18) 0 x2).bind fun v19 =>
            jx_cI (jx_C rc d 162 [.ref b8, .int v10, .null, .int v19] h3) fun v21 h20 =>
            if v21 = 0 then
              jb_165 rc d 11 [(0, .ref a0), (1, .ref a1), (2, .int x2), (3, .int x3), (4, .int (x4 + (1 : Int32)))] [] h20
            else
              jb_165 rc d 48 [(0, .ref a0), (1, .ref a1), (2, .int x2), (3, .int x3), (4, .int x4), (5, .int (0 : Int32))] [] h20))
        ((jx_gR (jx_at h3 a0) 12 17).bind fun b22 =>
          (jx_aI (jx_at h3 b22) 0 x4).bind fun v23 =>
          (jx_gR (jx_at h3 a0) 12 18).bind fun b24 =>
          (jx_aQ (jx_at h3 b24) 8 x2).bind fun o25 =>
          jx_mo o25 (fun b26 => (jx_gR (jx_at h3 a0) 12 19).bind fun b27 =>
            (jx_aI (jx_at h3 b27) 0 x2).bind fun v28 =>
            jx_cI (jx_C rc d 162 [.null, .int v23, .ref b26, .int v28] h3) fun v30 h29 =>
            if v30 = 0 then
              jb_165 rc d 11 [(0, .ref a0), (1, .ref a1), (2, .int x2), (3, .int x3), (4, .int (x4 + (1 : Int32)))] [] h29
            else
              jb_165 rc d 48 [(0, .ref a0), (1, .ref a1), (2, .int x2), (3, .int x3), (4, .int x4), (5, .int (0 : Int32))] [] h29)
          ((jx_gR (jx_at h3 a0) 12 19).bind fun b31 =>
            (jx_aI (jx_at h3 b31) 0 x2).bind fun v32 =>
            jx_cI (jx_C rc d 162 [.null, .int v23, .null, .int v32] h3) fun v34 h33 =>
            if v34 = 0 then
              jb_165 rc d 11 [(0, .ref a0), (1, .ref a1), (2, .int x2), (3, .int x3), (4, .int (x4 + (1 : Int32)))] [] h33
            else
              jb_165 rc d 48 [(0, .ref a0), (1, .ref a1), (2, .int x2), (3, .int x3), (4, .int x4), (5, .int (0 : Int32))] [] h33)) :=
  sorry
theorem je_165_48 (rc : Nat → Nat × (Nat → Int32)) (d : Nat) (a0 : Nat) (a1 : Nat) (x2 : Int32) (x3 : Int32) (x4 : Int32) (x5 : Int32) (h : jxH) : jb_165 rc d 48 [(0, .ref a0), (1, .ref a1), (2, .int x2), (3, .int x3), (4, .int x4), (5, .int x5)] [] h =
  (jx_gR (jx_at h a0) 12 17).bind fun b1 =>
  (jx_aI (jx_at h b1) 0 x4).bind fun v2 =>
  if v2 ≤ x5 then
    (jx_gR (jx_at h a0) 12 19).bind fun b3 =>
    (jx_gR (jx_at h a0) 12 17).bind fun b4 =>
    (jx_aI (jx_at h b4) 0 x4).bind fun v5 =>
    (jx_sI (jx_at h b3) 0 x2 v5).bind fun e6 =>
    jb_165 rc d 11 [(0, .ref a0), (1, .ref a1), (2, .int x2), (3, .int x3), (4, .int (x4 + (1 : Int32)))] [] (jx_set h b3 e6)
  else
    (jx_gR (jx_at h a0) 12 18).bind fun b7 =>
    (jx_aQ (jx_at h b7) 8 x2).bind fun o8 =>
    jx_mo o8 (fun b9 => (jx_gR (jx_at h a0) 12 16).bind fun b10 =>
      (jx_aQ (jx_at h b10) 8 x4).bind fun o11 =>
      jx_mo o11 (fun b12 => (jx_aI (jx_at h b12) 0 x5).bind fun v13 =>
        (jx_sI (jx_at h b9) 0 x5 v13).bind fun e14 =>
        jb_165 rc d 48 [(0, .ref a0), (1, .ref a1), (2, .int x2), (3, .int x3), (4, .int x4), (5, .int (x5 + (1 : Int32)))] [] (jx_set h b9 e14))
      (none))
    ((jx_gR (jx_at h a0) 12 16).bind fun b15 =>
      (jx_aQ (jx_at h b15) 8 x4).bind fun o16 =>
      jx_mo o16 (fun b17 => (jx_aI (jx_at h b17) 0 x5).bind fun v18 =>
        none)
      (none)) :=
  sorry
noncomputable def jb_166 (rc : Nat → Nat × (Nat → Int32)) (d : Nat) (i : Nat) (ls : List (Nat × Value)) (st : List Value) (h : jxH) : jxR := none
theorem je_166 (rc : Nat → Nat × (Nat → Int32)) (d : Nat) (a0 : Nat) (a1 : Nat) (h : jxH) : jx_C rc (d + 1) 166 [.ref a0, .ref a1] h =
  if jx_is (jx_at h a0) 12 = true then
  jb_166 rc d 4 [(0, .ref a0), (1, .ref a1), (2, .int (0 : Int32)), (3, .int (0 : Int32))] [] h
  else none :=
  sorry
theorem je_166_4 (rc : Nat → Nat × (Nat → Int32)) (d : Nat) (a0 : Nat) (a1 : Nat) (x2 : Int32) (x3 : Int32) (h : jxH) : jb_166 rc d 4 [(0, .ref a0), (1, .ref a1), (2, .int x2), (3, .int x3)] [] h =
  if (12 : Int32) ≤ x3 then
    (jx_pF (jx_at h a0) 12 21 (.int (0 : Int32))).bind fun e1 =>
    jb_166 rc d 34 [(0, .ref a0), (2, .int x2)] [] (jx_set h a0 e1)
  else
    (jx_aI (jx_at h a1) 0 (0 : Int32)).bind fun v2 =>
    jx_cI (jx_C rc d 75 [.int v2, .int x3] h) fun v4 h3 =>
    if v4 = 0 then
      jb_166 rc d 4 [(0, .ref a0), (1, .ref a1), (2, .int x2), (3, .int (x3 + (1 : Int32)))] [] h3
    else
      jx_cI (jx_C rc d 85 [.ref a1, .int x3] h3) fun v6 h5 =>
      jx_cI (jx_C rc d 77 [.int v6] h5) fun v8 h7 =>
      if v8 = x3 then
        jx_cV (jx_C rc d 165 [.ref a0, .ref a1, .int x3] h7) fun h9 =>
        jb_166 rc d 4 [(0, .ref a0), (1, .ref a1), (2, .int (x2 ||| ((1 : Int32) <<< (x3 &&& 31)))), (3, .int (x3 + (1 : Int32)))] [] h9
      else
        jb_166 rc d 4 [(0, .ref a0), (1, .ref a1), (2, .int x2), (3, .int (x3 + (1 : Int32)))] [] h7 :=
  sorry
theorem je_166_34 (rc : Nat → Nat × (Nat → Int32)) (d : Nat) (a0 : Nat) (x2 : Int32) (h : jxH) : jb_166 rc d 34 [(0, .ref a0), (2, .int x2)] [] h =
  if x2 = 0 then
    some (none, h)
  else
    jx_cI (jx_C rc d 77 [.int x2] h) fun v2 h1 =>
    jb_166 rc d 43 [(0, .ref a0), (2, .int x2), (3, .int v2), (4, .int (v2 + (1 : Int32)))] [] h1 :=
  sorry
theorem je_166_43 (rc : Nat → Nat × (Nat → Int32)) (d : Nat) (a0 : Nat) (x2 : Int32) (x3 : Int32) (x4 : Int32) (h : jxH) : jb_166 rc d 43 [(0, .ref a0), (2, .int x2), (3, .int x3), (4, .int x4)] [] h =
  if (12 : Int32) ≤ x4 then
    jb_166 rc d 76 [(0, .ref a0), (2, .int x2), (3, .int x3), (4, .int (0 : Int32))] [] h
  else
    jx_cI (jx_C rc d 75 [.int x2, .int x4] h) fun v2 h1 =>
    if v2 = 0 then
      jb_166 rc d 43 [(0, .ref a0), (2, .int x2), (3, .int x3), (4, .int (x4 + (1 : Int32)))] [] h1
    else
      (jx_gR (jx_at h1 a0) 12 18).bind fun b3 =>
      (jx_aQ (jx_at h1 b3) 8 x4).bind fun o4 =>
      jx_mo o4 (fun b5 => (jx_gR (jx_at h1 a0) 12 19).bind fun b6 =>
        (jx_aI (jx_at h1 b6) 0 x4).bind fun v7 =>
        (jx_gR (jx_at h1 a0) 12 18).bind fun b8 =>
        (jx_aQ (jx_at h1 b8) 8 x3).bind fun o9 =>
        jx_mo o9 (fun b10 => (jx_gR (jx_at h1 a0) 12 19).bind fun b11 =>
          (jx_aI (jx_at h1 b11) 0 x3).bind fun v12 =>
          jx_cI (jx_C rc d 162 [.ref b5, .int v7, .ref b10, .int v12] h1) fun v14 h13 =>
          if v14 = 0 then
            jb_166 rc d 43 [(0, .ref a0), (2, .int x2), (3, .int x3), (4, .int (x4 + (1 : Int32)))] [] h13
          else
            jb_166 rc d 43 [(0, .ref a0), (2, .int x2), (3, .int x4), (4, .int (x4 + (1 : Int32)))] [] h13)
        ((jx_gR (jx_at h1 a0) 12 19).bind fun b15 =>
          (jx_aI (jx_at h1 b15) 0 x3).bind fun v16 =>
          jx_cI (jx_C rc d 162 [.ref b5, .int v7, .null, .int v16] h1) fun v18 h17 =>
          if v18 = 0 then
            jb_166 rc d 43 [(0, .ref a0), (2, .int x2), (3, .int x3), (4, .int (x4 + (1 : Int32)))] [] h17
          else
            jb_166 rc d 43 [(0, .ref a0), (2, .int x2), (3, .int x4), (4, .int (x4 + (1 : Int32)))] [] h17))
      ((jx_gR (jx_at h1 a0) 12 19).bind fun b19 =>
        (jx_aI (jx_at h1 b19) 0 x4).bind fun v20 =>
        (jx_gR (jx_at h1 a0) 12 18).bind fun b21 =>
        (jx_aQ (jx_at h1 b21) 8 x3).bind fun o22 =>
        jx_mo o22 (fun b23 => (jx_gR (jx_at h1 a0) 12 19).bind fun b24 =>
          (jx_aI (jx_at h1 b24) 0 x3).bind fun v25 =>
          jx_cI (jx_C rc d 162 [.null, .int v20, .ref b23, .int v25] h1) fun v27 h26 =>
          if v27 = 0 then
            jb_166 rc d 43 [(0, .ref a0), (2, .int x2), (3, .int x3), (4, .int (x4 + (1 : Int32)))] [] h26
          else
            jb_166 rc d 43 [(0, .ref a0), (2, .int x2), (3, .int x4), (4, .int (x4 + (1 : Int32)))] [] h26)
        ((jx_gR (jx_at h1 a0) 12 19).bind fun b28 =>
          (jx_aI (jx_at h1 b28) 0 x3).bind fun v29 =>
          jx_cI (jx_C rc d 162 [.null, .int v20, .null, .int v29] h1) fun v31 h30 =>
          if v31 = 0 then
            jb_166 rc d 43 [(0, .ref a0), (2, .int x2), (3, .int x3), (4, .int (x4 + (1 : Int32)))] [] h30
          else
            jb_166 rc d 43 [(0, .ref a0), (2, .int x2), (3, .int x4), (4, .int (x4 + (1 : Int32)))] [] h30)) :=
  sorry
theorem je_166_76 (rc : Nat → Nat × (Nat → Int32)) (d : Nat) (a0 : Nat) (x2 : Int32) (x3 : Int32) (x4 : Int32) (h : jxH) : jb_166 rc d 76 [(0, .ref a0), (2, .int x2), (3, .int x3), (4, .int x4)] [] h =
  (jx_gR (jx_at h a0) 12 19).bind fun b1 =>
  (jx_aI (jx_at h b1) 0 x3).bind fun v2 =>
  if v2 ≤ x4 then
    jb_166 rc d 34 [(0, .ref a0), (2, .int (x2 &&& (((1 : Int32) <<< (x3 &&& 31)) ^^^ (-1 : Int32))))] [] h
  else
    (jx_gR (jx_at h a0) 12 20).bind fun b3 =>
    (jx_gI (jx_at h a0) 12 21).bind fun v4 =>
    (jx_gR (jx_at h a0) 12 18).bind fun b5 =>
    (jx_aQ (jx_at h b5) 8 x3).bind fun o6 =>
    jx_mo o6 (fun b7 => (jx_aI (jx_at h b7) 0 x4).bind fun v8 =>
      (jx_sI (jx_at h b3) 0 v4 v8).bind fun e9 =>
      (jx_gI (jx_at (jx_set h b3 e9) a0) 12 21).bind fun v10 =>
      (jx_pF (jx_at (jx_set h b3 e9) a0) 12 21 (.int (v10 + (1 : Int32)))).bind fun e11 =>
      jb_166 rc d 76 [(0, .ref a0), (2, .int x2), (3, .int x3), (4, .int (x4 + (1 : Int32)))] [] (jx_set (jx_set h b3 e9) a0 e11))
    (none) :=
  sorry
theorem je_167 (rc : Nat → Nat × (Nat → Int32)) (d : Nat) (a0 : Nat) (x1 : Int32) (h : jxH) : jx_C rc (d + 1) 167 [.ref a0, .int x1] h =
  if jx_is (jx_at h a0) 12 = true then
  if (-1 : Int32) ≤ x1 then
    (jx_gR (jx_at h a0) 12 1).bind fun b1 =>
    jx_cV (jx_C rc d 166 [.ref a0, .ref b1] h) fun h2 =>
    if 0 ≤ x1 then
      (jx_gI (jx_at h2 a0) 12 21).bind fun v3 =>
      if v3 ≤ x1 then
        jx_cI (jx_C rc d 73 [.ref a0, .int (2 : Int32)] h2) fun v5 h4 =>
        some (some (.int v5), h4)
      else
        (jx_gR (jx_at h2 a0) 12 20).bind fun b6 =>
        (jx_aI (jx_at h2 b6) 0 x1).bind fun v7 =>
        some (some (.int v7), h2)
    else
      (jx_gI (jx_at h2 a0) 12 21).bind fun v8 =>
      some (some (.int v8), h2)
  else
    jx_cI (jx_C rc d 73 [.ref a0, .int (1 : Int32)] h) fun v10 h9 =>
    some (some (.int v10), h9)
  else none :=
  sorry
theorem je_168 (rc : Nat → Nat × (Nat → Int32)) (d : Nat) (x0 : Int32) (h : jxH) : jx_C rc (d + 1) 168 [.int x0] h =
  jx_cI (jx_C rc d 72 [.long (x0).toInt64, .long (0 : Int64), .long (3 : Int64)] h) fun v2 h1 =>
  if jx_bool v2 = true then some (some (.int v2), h1) else none :=
  sorry
theorem je_169 (rc : Nat → Nat × (Nat → Int32)) (d : Nat) (a0 : Nat) (x1 : Int32) (h : jxH) : jx_C rc (d + 1) 169 [.ref a0, .int x1] h =
  if jx_is (jx_at h a0) 12 = true then
  jx_cI (jx_C rc d 168 [.int x1] h) fun v2 h1 =>
  if v2 = 0 then
    jx_cI (jx_C rc d 73 [.ref a0, .int (1 : Int32)] h1) fun v4 h3 =>
    some (some (.int v4), h3)
  else
    (jx_gR (jx_at h1 a0) 12 1).bind fun b5 =>
    (jx_gR (jx_at h1 a0) 12 22).bind fun b6 =>
    (jx_aQ (jx_at h1 b6) 8 x1).bind fun o7 =>
    jx_mo o7 (fun b8 => jx_cV (jx_C rc d 74 [.ref b5, .ref b8] h1) fun h9 =>
      (jx_gR (jx_at h9 a0) 12 23).bind fun b10 =>
      if jx_bool (1 : Int32) = true then (jx_sI (jx_at h9 b10) 3 x1 (1 : Int32)).bind fun e11 =>
      (jx_gR (jx_at (jx_set h9 b10 e11) a0) 12 1).bind fun b12 =>
      (jx_aI (jx_at (jx_set h9 b10 e11) b12) 0 (0 : Int32)).bind fun v13 =>
      jx_cI (jx_C rc d 76 [.int v13] (jx_set h9 b10 e11)) fun v15 h14 =>
      some (some (.int v15), h14) else none)
    (jx_cV (jx_C rc d 74 [.ref b5, .null] h1) fun h16 =>
      (jx_gR (jx_at h16 a0) 12 23).bind fun b17 =>
      if jx_bool (1 : Int32) = true then (jx_sI (jx_at h16 b17) 3 x1 (1 : Int32)).bind fun e18 =>
      (jx_gR (jx_at (jx_set h16 b17 e18) a0) 12 1).bind fun b19 =>
      (jx_aI (jx_at (jx_set h16 b17 e18) b19) 0 (0 : Int32)).bind fun v20 =>
      jx_cI (jx_C rc d 76 [.int v20] (jx_set h16 b17 e18)) fun v22 h21 =>
      some (some (.int v22), h21) else none)
  else none :=
  sorry
theorem je_170 (rc : Nat → Nat × (Nat → Int32)) (d : Nat) (a0 : Nat) (x1 : Int32) (h : jxH) : jx_C rc (d + 1) 170 [.ref a0, .int x1] h =
  if jx_is (jx_at h a0) 12 = true then
  jx_cI (jx_C rc d 168 [.int x1] h) fun v2 h1 =>
  if v2 = 0 then
    jx_cI (jx_C rc d 73 [.ref a0, .int (1 : Int32)] h1) fun v4 h3 =>
    some (some (.int v4), h3)
  else
    (jx_gR (jx_at h1 a0) 12 23).bind fun b5 =>
    (jx_aI (jx_at h1 b5) 3 x1).bind fun v6 =>
    if v6 = 0 then
      jx_cI (jx_C rc d 73 [.ref a0, .int (7 : Int32)] h1) fun v8 h7 =>
      some (some (.int v8), h7)
    else
      jx_cV (jx_C rc d 100 [.ref a0] h1) fun h9 =>
      (jx_gR (jx_at h9 a0) 12 22).bind fun b10 =>
      (jx_aQ (jx_at h9 b10) 8 x1).bind fun o11 =>
      jx_mo o11 (fun b12 => (jx_gR (jx_at h9 a0) 12 1).bind fun b13 =>
        jx_cV (jx_C rc d 74 [.ref b12, .ref b13] h9) fun h14 =>
        (jx_gR (jx_at h14 a0) 12 1).bind fun b15 =>
        (jx_aI (jx_at h14 b15) 0 (0 : Int32)).bind fun v16 =>
        jx_cI (jx_C rc d 76 [.int v16] h14) fun v18 h17 =>
        some (some (.int v18), h17))
      ((jx_gR (jx_at h9 a0) 12 1).bind fun b19 =>
        jx_cV (jx_C rc d 74 [.null, .ref b19] h9) fun h20 =>
        (jx_gR (jx_at h20 a0) 12 1).bind fun b21 =>
        (jx_aI (jx_at h20 b21) 0 (0 : Int32)).bind fun v22 =>
        jx_cI (jx_C rc d 76 [.int v22] h20) fun v24 h23 =>
        some (some (.int v24), h23))
  else none :=
  sorry
theorem je_171 (rc : Nat → Nat × (Nat → Int32)) (d : Nat) (a0 : Nat) (x1 : Int32) (h : jxH) : jx_C rc (d + 1) 171 [.ref a0, .int x1] h =
  if jx_is (jx_at h a0) 12 = true then
  jx_cI (jx_C rc d 168 [.int x1] h) fun v2 h1 =>
  if v2 = 0 then
    jx_cI (jx_C rc d 73 [.ref a0, .int (1 : Int32)] h1) fun v4 h3 =>
    some (some (.int v4), h3)
  else
    (jx_gR (jx_at h1 a0) 12 23).bind fun b5 =>
    (jx_aI (jx_at h1 b5) 3 x1).bind fun v6 =>
    if v6 = 0 then
      (jx_gR (jx_at h1 a0) 12 23).bind fun b7 =>
      if jx_bool (0 : Int32) = true then (jx_sI (jx_at h1 b7) 3 x1 (0 : Int32)).bind fun e8 =>
      some (some (.int (0 : Int32)), (jx_set h1 b7 e8)) else none
    else
      (jx_gR (jx_at h1 a0) 12 23).bind fun b9 =>
      if jx_bool (0 : Int32) = true then (jx_sI (jx_at h1 b9) 3 x1 (0 : Int32)).bind fun e10 =>
      some (some (.int (1 : Int32)), (jx_set h1 b9 e10)) else none
  else none :=
  sorry
noncomputable def jb_172 (rc : Nat → Nat × (Nat → Int32)) (d : Nat) (i : Nat) (ls : List (Nat × Value)) (st : List Value) (h : jxH) : jxR := none
theorem je_172 (rc : Nat → Nat × (Nat → Int32)) (d : Nat) (a0 : Nat) (a1 : Nat) (h : jxH) : jx_C rc (d + 1) 172 [.ref a0, .ref a1] h =
  if jx_is (jx_at h a0) 12 = true then
  jx_cV (jx_C rc d 166 [.ref a0, .ref a1] h) fun h1 =>
  (jx_gI (jx_at h1 a0) 12 21).bind fun v2 =>
  (jx_pF (jx_at h1 a0) 12 25 (.int v2)).bind fun e3 =>
  jb_172 rc d 9 [(0, .ref a0), (2, .int (0 : Int32))] [] (jx_set h1 a0 e3)
  else none :=
  sorry
theorem je_172_9 (rc : Nat → Nat × (Nat → Int32)) (d : Nat) (a0 : Nat) (x2 : Int32) (h : jxH) : jb_172 rc d 9 [(0, .ref a0), (2, .int x2)] [] h =
  (jx_gI (jx_at h a0) 12 25).bind fun v1 =>
  if v1 ≤ x2 then
    some (none, h)
  else
    (jx_gR (jx_at h a0) 12 24).bind fun b2 =>
    (jx_gR (jx_at h a0) 12 20).bind fun b3 =>
    (jx_aI (jx_at h b3) 0 x2).bind fun v4 =>
    (jx_sI (jx_at h b2) 0 x2 v4).bind fun e5 =>
    jb_172 rc d 9 [(0, .ref a0), (2, .int (x2 + (1 : Int32)))] [] (jx_set h b2 e5) :=
  sorry
noncomputable def jb_173 (rc : Nat → Nat × (Nat → Int32)) (d : Nat) (i : Nat) (ls : List (Nat × Value)) (st : List Value) (h : jxH) : jxR := none
theorem je_173 (rc : Nat → Nat × (Nat → Int32)) (d : Nat) (a0 : Nat) (a1 : Nat) (h : jxH) : jx_C rc (d + 1) 173 [.ref a0, .ref a1] h =
  if jx_is (jx_at h a0) 12 = true then
  jx_cV (jx_C rc d 166 [.ref a0, .ref a1] h) fun h1 =>
  (jx_gI (jx_at h1 a0) 12 21).bind fun v2 =>
  (jx_gI (jx_at h1 a0) 12 25).bind fun v3 =>
  if v2 = v3 then
    jb_173 rc d 14 [(0, .ref a0), (2, .int (1 : Int32)), (3, .int (0 : Int32))] [] h1
  else
    jb_173 rc d 14 [(0, .ref a0), (2, .int (0 : Int32)), (3, .int (0 : Int32))] [] h1
  else none :=
  sorry
theorem je_173_14 (rc : Nat → Nat × (Nat → Int32)) (d : Nat) (a0 : Nat) (x2 : Int32) (x3 : Int32) (h : jxH) : jb_173 rc d 14 [(0, .ref a0), (2, .int x2), (3, .int x3)] [] h =
  (jx_gI (jx_at h a0) 12 25).bind fun v1 =>
  if v1 ≤ x3 then
    if jx_bool x2 = true then some (some (.int x2), h) else none
  else
    if x2 = 0 then
      if jx_bool x2 = true then some (some (.int x2), h) else none
    else
      (jx_gR (jx_at h a0) 12 20).bind fun b2 =>
      (jx_aI (jx_at h b2) 0 x3).bind fun v3 =>
      (jx_gR (jx_at h a0) 12 24).bind fun b4 =>
      (jx_aI (jx_at h b4) 0 x3).bind fun v5 =>
      if v3 = v5 then
        jb_173 rc d 14 [(0, .ref a0), (2, .int (1 : Int32)), (3, .int (x3 + (1 : Int32)))] [] h
      else
        jb_173 rc d 14 [(0, .ref a0), (2, .int (0 : Int32)), (3, .int (x3 + (1 : Int32)))] [] h :=
  sorry
theorem je_174 (rc : Nat → Nat × (Nat → Int32)) (d : Nat) (a0 : Nat) (x1 : Int32) (h : jxH) : jx_C rc (d + 1) 174 [.ref a0, .int x1] h =
  if jx_is (jx_at h a0) 12 = true then
  jx_cI (jx_C rc d 168 [.int x1] h) fun v2 h1 =>
  if v2 = 0 then
    jx_cI (jx_C rc d 73 [.ref a0, .int (1 : Int32)] h1) fun v4 h3 =>
    some (some (.int v4), h3)
  else
    (jx_gR (jx_at h1 a0) 12 23).bind fun b5 =>
    (jx_aI (jx_at h1 b5) 3 x1).bind fun v6 =>
    if v6 = 0 then
      jx_cI (jx_C rc d 73 [.ref a0, .int (7 : Int32)] h1) fun v8 h7 =>
      some (some (.int v8), h7)
    else
      (jx_gR (jx_at h1 a0) 12 22).bind fun b9 =>
      (jx_aQ (jx_at h1 b9) 8 x1).bind fun o10 =>
      jx_mo o10 (fun b11 => jx_cV (jx_C rc d 172 [.ref a0, .ref b11] h1) fun h12 =>
        (jx_gR (jx_at h12 a0) 12 1).bind fun b13 =>
        jx_cI (jx_C rc d 173 [.ref a0, .ref b13] h12) fun v15 h14 =>
        if v15 = 0 then
          some (some (.int (0 : Int32)), h14)
        else
          some (some (.int (1 : Int32)), h14))
      (jx_cV (jx_C rc d 172 [.ref a0, .null] h1) fun h16 =>
        (jx_gR (jx_at h16 a0) 12 1).bind fun b17 =>
        jx_cI (jx_C rc d 173 [.ref a0, .ref b17] h16) fun v19 h18 =>
        if v19 = 0 then
          some (some (.int (0 : Int32)), h18)
        else
          some (some (.int (1 : Int32)), h18))
  else none :=
  sorry
theorem je_175 (rc : Nat → Nat × (Nat → Int32)) (d : Nat) (a0 : Nat) (x1 : Int32) (h : jxH) : jx_C rc (d + 1) 175 [.ref a0, .int x1] h =
  if jx_is (jx_at h a0) 12 = true then
  (jx_gI (jx_at h a0) 12 27).bind fun v1 =>
  jx_cI (jx_C rc d 72 [.long (x1).toInt64, .long (0 : Int64), .long ((v1 - (1 : Int32))).toInt64] h) fun v3 h2 =>
  if jx_bool v3 = true then some (some (.int v3), h2) else none
  else none :=
  sorry
theorem je_176 (rc : Nat → Nat × (Nat → Int32)) (d : Nat) (a0 : Nat) (x1 : Int32) (x2 : Int32) (h : jxH) : jx_C rc (d + 1) 176 [.ref a0, .int x1, .int x2] h =
  if jx_is (jx_at h a0) 12 = true then
  jx_cI (jx_C rc d 72 [.long (x1).toInt64, .long (0 : Int64), .long (5 : Int64)] h) fun v2 h1 =>
  if v2 = 0 then
    jx_cI (jx_C rc d 73 [.ref a0, .int (1 : Int32)] h1) fun v4 h3 =>
    some (some (.int v4), h3)
  else
    jx_cI (jx_C rc d 72 [.long (x2).toInt64, .long (0 : Int64), .long (9 : Int64)] h1) fun v6 h5 =>
    if v6 = 0 then
      jx_cI (jx_C rc d 73 [.ref a0, .int (1 : Int32)] h5) fun v8 h7 =>
      some (some (.int v8), h7)
    else
      (jx_gI (jx_at h5 a0) 12 27).bind fun v9 =>
      if v9 = (6 : Int32) then
        jx_cI (jx_C rc d 73 [.ref a0, .int (4 : Int32)] h5) fun v11 h10 =>
        some (some (.int v11), h10)
      else
        (jx_gR (jx_at h5 a0) 12 26).bind fun b12 =>
        (jx_gI (jx_at h5 a0) 12 27).bind fun v13 =>
        (jx_sI (jx_at h5 b12) 0 ((3 : Int32) * v13) x1).bind fun e14 =>
        (jx_gR (jx_at (jx_set h5 b12 e14) a0) 12 26).bind fun b15 =>
        (jx_gI (jx_at (jx_set h5 b12 e14) a0) 12 27).bind fun v16 =>
        (jx_sI (jx_at (jx_set h5 b12 e14) b15) 0 (((3 : Int32) * v16) + (1 : Int32)) x2).bind fun e17 =>
        (jx_gR (jx_at (jx_set (jx_set h5 b12 e14) b15 e17) a0) 12 26).bind fun b18 =>
        (jx_gI (jx_at (jx_set (jx_set h5 b12 e14) b15 e17) a0) 12 27).bind fun v19 =>
        (jx_sI (jx_at (jx_set (jx_set h5 b12 e14) b15 e17) b18) 0 (((3 : Int32) * v19) + (2 : Int32)) (0 : Int32)).bind fun e20 =>
        (jx_gI (jx_at (jx_set (jx_set (jx_set h5 b12 e14) b15 e17) b18 e20) a0) 12 27).bind fun v21 =>
        (jx_pF (jx_at (jx_set (jx_set (jx_set h5 b12 e14) b15 e17) b18 e20) a0) 12 27 (.int (v21 + (1 : Int32)))).bind fun e22 =>
        (jx_gI (jx_at (jx_set (jx_set (jx_set (jx_set h5 b12 e14) b15 e17) b18 e20) a0 e22) a0) 12 27).bind fun v23 =>
        some (some (.int (v23 - (1 : Int32))), (jx_set (jx_set (jx_set (jx_set h5 b12 e14) b15 e17) b18 e20) a0 e22))
  else none :=
  sorry
theorem je_177 (rc : Nat → Nat × (Nat → Int32)) (d : Nat) (x0 : Int32) (x1 : Int32) (h : jxH) : jx_C rc (d + 1) 177 [.int x0, .int x1] h =
  if x0 = (1 : Int32) then
    some (some (.int (((2 : Int32) * x1) + (2 : Int32))), h)
  else if x0 = ((1 : Int32) + 1) then
    some (some (.int (x1 + (1 : Int32))), h)
  else if x0 = (((1 : Int32) + 1) + 1) then
    some (some (.int (((2 : Int32) * x1) + (7 : Int32))), h)
  else if x0 = ((((1 : Int32) + 1) + 1) + 1) then
    some (some (.int (((3 : Int32) * x1) + (3 : Int32))), h)
  else if x0 = (((((1 : Int32) + 1) + 1) + 1) + 1) then
    some (some (.int (x1 - (3 : Int32))), h)
  else 
    some (some (.int (x1 + (1 : Int32))), h) :=
  sorry
theorem je_178 (rc : Nat → Nat × (Nat → Int32)) (d : Nat) (a0 : Nat) (x1 : Int32) (x2 : Int32) (h : jxH) : jx_C rc (d + 1) 178 [.ref a0, .int x1, .int x2] h =
  if jx_is (jx_at h a0) 12 = true then
  jx_cI (jx_C rc d 175 [.ref a0, .int x1] h) fun v2 h1 =>
  if v2 = 0 then
    jx_cI (jx_C rc d 73 [.ref a0, .int (1 : Int32)] h1) fun v4 h3 =>
    some (some (.int v4), h3)
  else
    jx_cI (jx_C rc d 72 [.long (x2).toInt64, .long (0 : Int64), .long (3 : Int64)] h1) fun v6 h5 =>
    if v6 = 0 then
      jx_cI (jx_C rc d 73 [.ref a0, .int (1 : Int32)] h5) fun v8 h7 =>
      some (some (.int v8), h7)
    else
      if (3 : Int32) ≤ x2 then
        (jx_gR (jx_at h5 a0) 12 26).bind fun b9 =>
        (jx_aI (jx_at h5 b9) 0 ((3 : Int32) * x1)).bind fun v10 =>
        (jx_gR (jx_at h5 a0) 12 26).bind fun b11 =>
        (jx_aI (jx_at h5 b11) 0 (((3 : Int32) * x1) + (1 : Int32))).bind fun v12 =>
        jx_cI (jx_C rc d 177 [.int v10, .int v12] h5) fun v14 h13 =>
        some (some (.int v14), h13)
      else
        (jx_gR (jx_at h5 a0) 12 26).bind fun b15 =>
        (jx_aI (jx_at h5 b15) 0 (((3 : Int32) * x1) + x2)).bind fun v16 =>
        some (some (.int v16), h5)
  else none :=
  sorry
theorem je_179 (rc : Nat → Nat × (Nat → Int32)) (d : Nat) (a0 : Nat) (x1 : Int32) (x2 : Int32) (h : jxH) : jx_C rc (d + 1) 179 [.ref a0, .int x1, .int x2] h =
  if jx_is (jx_at h a0) 12 = true then
  jx_cI (jx_C rc d 175 [.ref a0, .int x1] h) fun v2 h1 =>
  if v2 = 0 then
    jx_cI (jx_C rc d 73 [.ref a0, .int (1 : Int32)] h1) fun v4 h3 =>
    some (some (.int v4), h3)
  else
    jx_cI (jx_C rc d 72 [.long (x2).toInt64, .long (0 : Int64), .long (5 : Int64)] h1) fun v6 h5 =>
    if v6 = 0 then
      jx_cI (jx_C rc d 73 [.ref a0, .int (1 : Int32)] h5) fun v8 h7 =>
      some (some (.int v8), h7)
    else
      (jx_gR (jx_at h5 a0) 12 26).bind fun b9 =>
      (jx_aI (jx_at h5 b9) 0 ((3 : Int32) * x1)).bind fun v10 =>
      (jx_gR (jx_at h5 a0) 12 26).bind fun b11 =>
      (jx_sI (jx_at h5 b11) 0 ((3 : Int32) * x1) x2).bind fun e12 =>
      some (some (.int v10), (jx_set h5 b11 e12))
  else none :=
  sorry
noncomputable def jb_180 (rc : Nat → Nat × (Nat → Int32)) (d : Nat) (i : Nat) (ls : List (Nat × Value)) (st : List Value) (h : jxH) : jxR := none
theorem je_180 (rc : Nat → Nat × (Nat → Int32)) (d : Nat) (a0 : Nat) (x1 : Int32) (x2 : Int32) (h : jxH) : jx_C rc (d + 1) 180 [.ref a0, .int x1, .int x2] h =
  if jx_is (jx_at h a0) 12 = true then
  jx_cI (jx_C rc d 175 [.ref a0, .int x1] h) fun v2 h1 =>
  if v2 = 0 then
    jx_cI (jx_C rc d 73 [.ref a0, .int (1 : Int32)] h1) fun v4 h3 =>
    some (some (.int v4), h3)
  else
    jx_cI (jx_C rc d 72 [.long (x2).toInt64, .long (0 : Int64), .long (5 : Int64)] h1) fun v6 h5 =>
    if v6 = 0 then
      jx_cI (jx_C rc d 73 [.ref a0, .int (1 : Int32)] h5) fun v8 h7 =>
      some (some (.int v8), h7)
    else
      (jx_gR (jx_at h5 a0) 12 26).bind fun b9 =>
      (jx_aI (jx_at h5 b9) 0 ((3 : Int32) * x1)).bind fun v10 =>
      if x2 = 0 then
        if (1 : Int32) = 0 then
          jx_cI (jx_C rc d 73 [.ref a0, .int (6 : Int32)] h5) fun v12 h11 =>
          some (some (.int v12), h11)
        else
          (jx_gR (jx_at h5 a0) 12 26).bind fun b13 =>
          (jx_aI (jx_at h5 b13) 0 (((3 : Int32) * x1) + (1 : Int32))).bind fun v14 =>
          some (some (.int v14), h5)
      else
        if x2 = v10 then
          if (1 : Int32) = 0 then
            jx_cI (jx_C rc d 73 [.ref a0, .int (6 : Int32)] h5) fun v16 h15 =>
            some (some (.int v16), h15)
          else
            (jx_gR (jx_at h5 a0) 12 26).bind fun b17 =>
            (jx_aI (jx_at h5 b17) 0 (((3 : Int32) * x1) + (1 : Int32))).bind fun v18 =>
            some (some (.int v18), h5)
        else
          if x2 = (1 : Int32) then
            if v10 = (3 : Int32) then
              if (1 : Int32) = 0 then
                jx_cI (jx_C rc d 73 [.ref a0, .int (6 : Int32)] h5) fun v20 h19 =>
                some (some (.int v20), h19)
              else
                (jx_gR (jx_at h5 a0) 12 26).bind fun b21 =>
                (jx_aI (jx_at h5 b21) 0 (((3 : Int32) * x1) + (1 : Int32))).bind fun v22 =>
                some (some (.int v22), h5)
            else
              jb_180 rc d 32 [(0, .ref a0), (1, .int x1), (2, .int x2), (3, .int v10)] [] h5
          else
            jb_180 rc d 32 [(0, .ref a0), (1, .int x1), (2, .int x2), (3, .int v10)] [] h5
  else none :=
  sorry
theorem je_180_32 (rc : Nat → Nat × (Nat → Int32)) (d : Nat) (a0 : Nat) (x1 : Int32) (x2 : Int32) (x3 : Int32) (h : jxH) : jb_180 rc d 32 [(0, .ref a0), (1, .int x1), (2, .int x2), (3, .int x3)] [] h =
  if x2 = (2 : Int32) then
    if x3 = (4 : Int32) then
      if (1 : Int32) = 0 then
        jx_cI (jx_C rc d 73 [.ref a0, .int (6 : Int32)] h) fun v2 h1 =>
        some (some (.int v2), h1)
      else
        (jx_gR (jx_at h a0) 12 26).bind fun b3 =>
        (jx_aI (jx_at h b3) 0 (((3 : Int32) * x1) + (1 : Int32))).bind fun v4 =>
        some (some (.int v4), h)
    else
      if (0 : Int32) = 0 then
        jx_cI (jx_C rc d 73 [.ref a0, .int (6 : Int32)] h) fun v6 h5 =>
        some (some (.int v6), h5)
      else
        (jx_gR (jx_at h a0) 12 26).bind fun b7 =>
        (jx_aI (jx_at h b7) 0 (((3 : Int32) * x1) + (1 : Int32))).bind fun v8 =>
        some (some (.int v8), h)
  else
    if (0 : Int32) = 0 then
      jx_cI (jx_C rc d 73 [.ref a0, .int (6 : Int32)] h) fun v10 h9 =>
      some (some (.int v10), h9)
    else
      (jx_gR (jx_at h a0) 12 26).bind fun b11 =>
      (jx_aI (jx_at h b11) 0 (((3 : Int32) * x1) + (1 : Int32))).bind fun v12 =>
      some (some (.int v12), h) :=
  sorry
noncomputable def jb_181 (rc : Nat → Nat × (Nat → Int32)) (d : Nat) (i : Nat) (ls : List (Nat × Value)) (st : List Value) (h : jxH) : jxR := none
theorem je_181 (rc : Nat → Nat × (Nat → Int32)) (d : Nat) (a0 : Nat) (x1 : Int32) (x2 : Int32) (x3 : Int32) (x4 : Int32) (x5 : Int32) (h : jxH) : jx_C rc (d + 1) 181 [.ref a0, .int x1, .int x2, .int x3, .int x4, .int x5] h =
  jb_181 rc d 4 [(0, .ref a0), (1, .int x1), (3, .int x3), (4, .int x4), (5, .int x5), (6, .int (-1 : Int32)), (7, .int x2)] [] h :=
  sorry
theorem je_181_4 (rc : Nat → Nat × (Nat → Int32)) (d : Nat) (a0 : Nat) (x1 : Int32) (x3 : Int32) (x4 : Int32) (x5 : Int32) (x6 : Int32) (x7 : Int32) (h : jxH) : jb_181 rc d 4 [(0, .ref a0), (1, .int x1), (3, .int x3), (4, .int x4), (5, .int x5), (6, .int x6), (7, .int x7)] [] h =
  if (12 : Int32) ≤ x7 then
    some (some (.int x6), h)
  else
    jx_cI (jx_C rc d 78 [.ref a0, .int x7] h) fun v2 h1 =>
    if v2 = 0 then
      jb_181 rc d 37 [(0, .ref a0), (1, .int x1), (3, .int x3), (4, .int x4), (5, .int x5), (6, .int x6), (7, .int x7)] [.int (0 : Int32)] h1
    else
      (jx_aI (jx_at h1 a0) 0 ((1 : Int32) + x7)).bind fun v3 =>
      if v3 = x3 then
        (jx_aI (jx_at h1 a0) 0 ((13 : Int32) + x7)).bind fun v4 =>
        jx_cI (jx_C rc d 76 [.int v4] h1) fun v6 h5 =>
        if x4 < v6 then
          jb_181 rc d 37 [(0, .ref a0), (1, .int x1), (3, .int x3), (4, .int x4), (5, .int x5), (6, .int x6), (7, .int x7)] [.int (0 : Int32)] h5
        else
          jx_cI (jx_C rc d 93 [.ref a0, .int x1, .int x7, .int (0 : Int32), .int (0 : Int32), .int (0 : Int32)] h5) fun v8 h7 =>
          if v8 = 0 then
            jb_181 rc d 37 [(0, .ref a0), (1, .int x1), (3, .int x3), (4, .int x4), (5, .int x5), (6, .int x6), (7, .int x7)] [.int (1 : Int32)] h7
          else
            jb_181 rc d 37 [(0, .ref a0), (1, .int x1), (3, .int x3), (4, .int x4), (5, .int x5), (6, .int x6), (7, .int x7)] [.int (0 : Int32)] h7
      else
        jb_181 rc d 37 [(0, .ref a0), (1, .int x1), (3, .int x3), (4, .int x4), (5, .int x5), (6, .int x6), (7, .int x7)] [.int (0 : Int32)] h1 :=
  sorry
theorem je_181_37 (rc : Nat → Nat × (Nat → Int32)) (d : Nat) (a0 : Nat) (x1 : Int32) (x3 : Int32) (x4 : Int32) (x5 : Int32) (x6 : Int32) (x7 : Int32) (s0 : Int32) (h : jxH) : jb_181 rc d 37 [(0, .ref a0), (1, .int x1), (3, .int x3), (4, .int x4), (5, .int x5), (6, .int x6), (7, .int x7)] [.int s0] h =
  if s0 = 0 then
    jb_181 rc d 4 [(0, .ref a0), (1, .int x1), (3, .int x3), (4, .int x4), (5, .int x5), (6, .int x6), (7, .int (x7 + (1 : Int32)))] [] h
  else
    if x5 = 0 then
      if 0 ≤ x6 then
        jb_181 rc d 4 [(0, .ref a0), (1, .int x1), (3, .int x3), (4, .int x4), (5, .int x5), (6, .int x6), (7, .int (x7 + (1 : Int32)))] [] h
      else
        jb_181 rc d 4 [(0, .ref a0), (1, .int x1), (3, .int x3), (4, .int x4), (5, .int x5), (6, .int x7), (7, .int (x7 + (1 : Int32)))] [] h
    else
      jb_181 rc d 4 [(0, .ref a0), (1, .int x1), (3, .int x3), (4, .int x4), (5, .int x5), (6, .int x7), (7, .int (x7 + (1 : Int32)))] [] h :=
  sorry
noncomputable def jb_182 (rc : Nat → Nat × (Nat → Int32)) (d : Nat) (i : Nat) (ls : List (Nat × Value)) (st : List Value) (h : jxH) : jxR := none
theorem je_182 (rc : Nat → Nat × (Nat → Int32)) (d : Nat) (a0 : Nat) (x1 : Int32) (x2 : Int32) (h : jxH) : jx_C rc (d + 1) 182 [.ref a0, .int x1, .int x2] h =
  if x1 = (4 : Int32) then
    jx_cI (jx_C rc d 181 [.ref a0, .int (5 : Int32), .int x2, .int (0 : Int32), .int (12 : Int32), .int (0 : Int32)] h) fun v2 h1 =>
    if v2 < 0 then
      jb_182 rc d 19 [(0, .ref a0), (1, .int x1), (2, .int x2)] [] h1
    else
      some (some (.int ((500 : Int32) + v2)), h1)
  else
    jb_182 rc d 19 [(0, .ref a0), (1, .int x1), (2, .int x2)] [] h :=
  sorry
theorem je_182_19 (rc : Nat → Nat × (Nat → Int32)) (d : Nat) (a0 : Nat) (x1 : Int32) (x2 : Int32) (h : jxH) : jb_182 rc d 19 [(0, .ref a0), (1, .int x1), (2, .int x2)] [] h =
  if x1 = (2 : Int32) then
    jb_182 rc d 25 [(0, .ref a0), (1, .int x1), (2, .int x2)] [] h
  else
    if x1 = (4 : Int32) then
      jb_182 rc d 25 [(0, .ref a0), (1, .int x1), (2, .int x2)] [] h
    else
      if x1 = (5 : Int32) then
        if x1 = (3 : Int32) then
          jb_182 rc d 55 [(0, .ref a0), (1, .int x1), (2, .int x2)] [.int (1 : Int32), .int (1 : Int32), .int (-1 : Int32), .int x2, .int (0 : Int32), .ref a0] h
        else
          jb_182 rc d 55 [(0, .ref a0), (1, .int x1), (2, .int x2)] [.int (0 : Int32), .int (1 : Int32), .int (-1 : Int32), .int x2, .int (0 : Int32), .ref a0] h
      else
        if x1 = (3 : Int32) then
          jb_182 rc d 55 [(0, .ref a0), (1, .int x1), (2, .int x2)] [.int (1 : Int32), .int (12 : Int32), .int (-1 : Int32), .int x2, .int (0 : Int32), .ref a0] h
        else
          jb_182 rc d 55 [(0, .ref a0), (1, .int x1), (2, .int x2)] [.int (0 : Int32), .int (12 : Int32), .int (-1 : Int32), .int x2, .int (0 : Int32), .ref a0] h :=
  sorry
theorem je_182_25 (rc : Nat → Nat × (Nat → Int32)) (d : Nat) (a0 : Nat) (x1 : Int32) (x2 : Int32) (h : jxH) : jb_182 rc d 25 [(0, .ref a0), (1, .int x1), (2, .int x2)] [] h =
  jx_cI (jx_C rc d 181 [.ref a0, .int (4 : Int32), .int x2, .int (0 : Int32), .int (12 : Int32), .int (0 : Int32)] h) fun v2 h1 =>
  if v2 < 0 then
    if x1 = (5 : Int32) then
      if x1 = (3 : Int32) then
        jb_182 rc d 55 [(0, .ref a0), (1, .int x1), (2, .int x2)] [.int (1 : Int32), .int (1 : Int32), .int (-1 : Int32), .int x2, .int (0 : Int32), .ref a0] h1
      else
        jb_182 rc d 55 [(0, .ref a0), (1, .int x1), (2, .int x2)] [.int (0 : Int32), .int (1 : Int32), .int (-1 : Int32), .int x2, .int (0 : Int32), .ref a0] h1
    else
      if x1 = (3 : Int32) then
        jb_182 rc d 55 [(0, .ref a0), (1, .int x1), (2, .int x2)] [.int (1 : Int32), .int (12 : Int32), .int (-1 : Int32), .int x2, .int (0 : Int32), .ref a0] h1
      else
        jb_182 rc d 55 [(0, .ref a0), (1, .int x1), (2, .int x2)] [.int (0 : Int32), .int (12 : Int32), .int (-1 : Int32), .int x2, .int (0 : Int32), .ref a0] h1
  else
    some (some (.int ((400 : Int32) + v2)), h1) :=
  sorry
theorem je_182_55 (rc : Nat → Nat × (Nat → Int32)) (d : Nat) (a0 : Nat) (x1 : Int32) (x2 : Int32) (s0 : Nat) (s1 : Int32) (s2 : Int32) (s3 : Int32) (s4 : Int32) (s5 : Int32) (h : jxH) : jb_182 rc d 55 [(0, .ref a0), (1, .int x1), (2, .int x2)] [.int s5, .int s4, .int s3, .int s2, .int s1, .ref s0] h =
  jx_cI (jx_C rc d 181 [.ref s0, .int s1, .int s2, .int s3, .int s4, .int s5] h) fun v2 h1 =>
  if 0 ≤ v2 then
    some (some (.int v2), h1)
  else
    if x1 = (1 : Int32) then
      if x1 = (3 : Int32) then
        jx_cI (jx_C rc d 181 [.ref a0, .int (0 : Int32), .int x2, .int (1 : Int32), .int (12 : Int32), .int (1 : Int32)] h1) fun v4 h3 =>
        some (some (.int v4), h3)
      else
        jx_cI (jx_C rc d 181 [.ref a0, .int (0 : Int32), .int x2, .int (1 : Int32), .int (12 : Int32), .int (0 : Int32)] h1) fun v6 h5 =>
        some (some (.int v6), h5)
    else
      if x1 = (3 : Int32) then
        if x1 = (3 : Int32) then
          jx_cI (jx_C rc d 181 [.ref a0, .int (0 : Int32), .int x2, .int (1 : Int32), .int (12 : Int32), .int (1 : Int32)] h1) fun v8 h7 =>
          some (some (.int v8), h7)
        else
          jx_cI (jx_C rc d 181 [.ref a0, .int (0 : Int32), .int x2, .int (1 : Int32), .int (12 : Int32), .int (0 : Int32)] h1) fun v10 h9 =>
          some (some (.int v10), h9)
      else
        some (some (.int v2), h1) :=
  sorry
theorem je_183 (rc : Nat → Nat × (Nat → Int32)) (d : Nat) (a0 : Nat) (x1 : Int32) (x2 : Int32) (h : jxH) : jx_C rc (d + 1) 183 [.ref a0, .int x1, .int x2] h =
  if jx_is (jx_at h a0) 12 = true then
  jx_cI (jx_C rc d 175 [.ref a0, .int x1] h) fun v2 h1 =>
  if v2 = 0 then
    jx_cI (jx_C rc d 73 [.ref a0, .int (1 : Int32)] h1) fun v4 h3 =>
    some (some (.int v4), h3)
  else
    jx_cI (jx_C rc d 72 [.long (x2).toInt64, .long (0 : Int64), .long (1 : Int64)] h1) fun v6 h5 =>
    if v6 = 0 then
      jx_cI (jx_C rc d 73 [.ref a0, .int (1 : Int32)] h5) fun v8 h7 =>
      some (some (.int v8), h7)
    else
      (jx_gR (jx_at h5 a0) 12 1).bind fun b9 =>
      (jx_gR (jx_at h5 a0) 12 26).bind fun b10 =>
      (jx_aI (jx_at h5 b10) 0 ((3 : Int32) * x1)).bind fun v11 =>
      (jx_gR (jx_at h5 a0) 12 26).bind fun b12 =>
      (jx_aI (jx_at h5 b12) 0 (((3 : Int32) * x1) + (1 : Int32))).bind fun v13 =>
      jx_cI (jx_C rc d 182 [.ref b9, .int v11, .int v13] h5) fun v15 h14 =>
      if 0 ≤ v15 then
        if x2 = 0 then
          if (100 : Int32) = 0 then none else some (some (.int (v15 / (100 : Int32))), h14)
        else
          if (100 : Int32) = 0 then none else some (some (.int (v15 - v15 / (100 : Int32) * (100 : Int32))), h14)
      else
        jx_cI (jx_C rc d 73 [.ref a0, .int (2 : Int32)] h14) fun v17 h16 =>
        some (some (.int v17), h16)
  else none :=
  sorry
noncomputable def jb_184 (rc : Nat → Nat × (Nat → Int32)) (d : Nat) (i : Nat) (ls : List (Nat × Value)) (st : List Value) (h : jxH) : jxR := none
theorem je_184 (rc : Nat → Nat × (Nat → Int32)) (d : Nat) (a0 : Nat) (x1 : Int32) (x2 : Int32) (h : jxH) : jx_C rc (d + 1) 184 [.ref a0, .int x1, .int x2] h =
  if jx_is (jx_at h a0) 12 = true then
  jx_cI (jx_C rc d 175 [.ref a0, .int x1] h) fun v2 h1 =>
  if v2 = 0 then
    jx_cI (jx_C rc d 73 [.ref a0, .int (1 : Int32)] h1) fun v4 h3 =>
    some (some (.int v4), h3)
  else
    jx_cI (jx_C rc d 72 [.long (x2).toInt64, .long (1 : Int64), .long (12 : Int64)] h1) fun v6 h5 =>
    if v6 = 0 then
      jx_cI (jx_C rc d 73 [.ref a0, .int (1 : Int32)] h5) fun v8 h7 =>
      some (some (.int v8), h7)
    else
      (jx_gI (jx_at h5 a0) 12 4).bind fun v9 =>
      if (v9 + x2) ≤ (40 : Int32) then
        (jx_gR (jx_at h5 a0) 12 1).bind fun b10 =>
        (jx_gR (jx_at h5 a0) 12 26).bind fun b11 =>
        (jx_aI (jx_at h5 b11) 0 ((3 : Int32) * x1)).bind fun v12 =>
        (jx_gR (jx_at h5 a0) 12 26).bind fun b13 =>
        (jx_aI (jx_at h5 b13) 0 (((3 : Int32) * x1) + (1 : Int32))).bind fun v14 =>
        jx_cI (jx_C rc d 182 [.ref b10, .int v12, .int v14] h5) fun v16 h15 =>
        jb_184 rc d 44 [(0, .ref a0), (1, .int x1), (2, .int x2), (3, .int (0 : Int32)), (4, .int v16)] [] h15
      else
        jx_cI (jx_C rc d 73 [.ref a0, .int (4 : Int32)] h5) fun v18 h17 =>
        some (some (.int v18), h17)
  else none :=
  sorry
theorem je_184_44 (rc : Nat → Nat × (Nat → Int32)) (d : Nat) (a0 : Nat) (x1 : Int32) (x2 : Int32) (x3 : Int32) (x4 : Int32) (h : jxH) : jb_184 rc d 44 [(0, .ref a0), (1, .int x1), (2, .int x2), (3, .int x3), (4, .int x4)] [] h =
  if x2 ≤ x3 then
    jb_184 rc d 80 [(0, .ref a0), (1, .int x1), (3, .int x3)] [] h
  else
    if x4 < 0 then
      jb_184 rc d 80 [(0, .ref a0), (1, .int x1), (3, .int x3)] [] h
    else
      if (100 : Int32) = 0 then none else if (100 : Int32) = 0 then none else jx_cV (jx_C rc d 101 [.ref a0, .int (x4 / (100 : Int32)), .int (x4 - x4 / (100 : Int32) * (100 : Int32)), .int (0 : Int32), .int (0 : Int32), .int (0 : Int32)] h) fun h1 =>
      (jx_gR (jx_at h1 a0) 12 1).bind fun b2 =>
      (jx_gR (jx_at h1 a0) 12 26).bind fun b3 =>
      (jx_aI (jx_at h1 b3) 0 ((3 : Int32) * x1)).bind fun v4 =>
      (jx_gR (jx_at h1 a0) 12 26).bind fun b5 =>
      (jx_aI (jx_at h1 b5) 0 (((3 : Int32) * x1) + (1 : Int32))).bind fun v6 =>
      jx_cI (jx_C rc d 182 [.ref b2, .int v4, .int v6] h1) fun v8 h7 =>
      jb_184 rc d 44 [(0, .ref a0), (1, .int x1), (2, .int x2), (3, .int (x3 + (1 : Int32))), (4, .int v8)] [] h7 :=
  sorry
theorem je_184_80 (rc : Nat → Nat × (Nat → Int32)) (d : Nat) (a0 : Nat) (x1 : Int32) (x3 : Int32) (h : jxH) : jb_184 rc d 80 [(0, .ref a0), (1, .int x1), (3, .int x3)] [] h =
  (jx_gR (jx_at h a0) 12 26).bind fun b1 =>
  (jx_aI (jx_at h b1) 0 (((3 : Int32) * x1) + (2 : Int32))).bind fun v2 =>
  (jx_gR (jx_at h a0) 12 26).bind fun b3 =>
  if (v2 + x3) ≤ (9999 : Int32) then
    (jx_sI (jx_at h b3) 0 (((3 : Int32) * x1) + (2 : Int32)) (v2 + x3)).bind fun e4 =>
    some (some (.int x3), (jx_set h b3 e4))
  else
    (jx_sI (jx_at h b3) 0 (((3 : Int32) * x1) + (2 : Int32)) (9999 : Int32)).bind fun e5 =>
    some (some (.int x3), (jx_set h b3 e5)) :=
  sorry
noncomputable def jb_185 (rc : Nat → Nat × (Nat → Int32)) (d : Nat) (i : Nat) (ls : List (Nat × Value)) (st : List Value) (h : jxH) : jxR := none
theorem je_185 (rc : Nat → Nat × (Nat → Int32)) (d : Nat) (a0 : Nat) (x1 : Int32) (x2 : Int32) (h : jxH) : jx_C rc (d + 1) 185 [.ref a0, .int x1, .int x2] h =
  if jx_is (jx_at h a0) 12 = true then
  (jx_gR (jx_at h a0) 12 28).bind fun b1 =>
  (jx_aQ (jx_at h b1) 8 (0 : Int32)).bind fun o2 =>
  jx_mo o2 (fun b3 => (jx_gR (jx_at h a0) 12 1).bind fun b4 =>
    jx_cV (jx_C rc d 74 [.ref b4, .ref b3] h) fun h5 =>
    jx_cI (jx_C rc d 182 [.ref b3, .int x1, .int x2] h5) fun v7 h6 =>
    jb_185 rc d 16 [(1, .int x1), (2, .int x2), (3, .ref b3), (4, .int (0 : Int32)), (5, .int v7)] [] h6)
  ((jx_gR (jx_at h a0) 12 1).bind fun b8 =>
    jx_cV (jx_C rc d 74 [.ref b8, .null] h) fun h9 =>
    jx_cI (jx_C rc d 182 [.null, .int x1, .int x2] h9) fun v11 h10 =>
    jb_185 rc d 16 [(1, .int x1), (2, .int x2), (3, .null), (4, .int (0 : Int32)), (5, .int v11)] [] h10)
  else none :=
  sorry
theorem je_185_16 (rc : Nat → Nat × (Nat → Int32)) (d : Nat) (x1 : Int32) (x2 : Int32) (x4 : Int32) (x5 : Int32) (h : jxH) : jb_185 rc d 16 [(1, .int x1), (2, .int x2), (3, .null), (4, .int x4), (5, .int x5)] [] h =
  if x5 < 0 then
    some (some (.int x4), h)
  else
    if (100 : Int32) = 0 then none else if (100 : Int32) = 0 then none else jx_cV (jx_C rc d 99 [.null, .int (x5 / (100 : Int32)), .int (x5 - x5 / (100 : Int32) * (100 : Int32)), .int (0 : Int32), .int (0 : Int32), .int (0 : Int32)] h) fun h1 =>
    jx_cI (jx_C rc d 182 [.null, .int x1, .int x2] h1) fun v3 h2 =>
    jb_185 rc d 16 [(1, .int x1), (2, .int x2), (3, .null), (4, .int (x4 + (1 : Int32))), (5, .int v3)] [] h2 :=
  sorry
theorem je_185_16b (rc : Nat → Nat × (Nat → Int32)) (d : Nat) (x1 : Int32) (x2 : Int32) (a3 : Nat) (x4 : Int32) (x5 : Int32) (h : jxH) : jb_185 rc d 16 [(1, .int x1), (2, .int x2), (3, .ref a3), (4, .int x4), (5, .int x5)] [] h =
  if x5 < 0 then
    some (some (.int x4), h)
  else
    if (100 : Int32) = 0 then none else if (100 : Int32) = 0 then none else jx_cV (jx_C rc d 99 [.ref a3, .int (x5 / (100 : Int32)), .int (x5 - x5 / (100 : Int32) * (100 : Int32)), .int (0 : Int32), .int (0 : Int32), .int (0 : Int32)] h) fun h1 =>
    jx_cI (jx_C rc d 182 [.ref a3, .int x1, .int x2] h1) fun v3 h2 =>
    jb_185 rc d 16 [(1, .int x1), (2, .int x2), (3, .ref a3), (4, .int (x4 + (1 : Int32))), (5, .int v3)] [] h2 :=
  sorry
noncomputable def jb_186 (rc : Nat → Nat × (Nat → Int32)) (d : Nat) (i : Nat) (ls : List (Nat × Value)) (st : List Value) (h : jxH) : jxR := none
theorem je_186 (rc : Nat → Nat × (Nat → Int32)) (d : Nat) (a0 : Nat) (h : jxH) : jx_C rc (d + 1) 186 [.ref a0] h =
  jb_186 rc d 4 [(0, .ref a0), (1, .int (0 : Int32)), (2, .int (0 : Int32))] [] h :=
  sorry
theorem je_186_4 (rc : Nat → Nat × (Nat → Int32)) (d : Nat) (a0 : Nat) (x1 : Int32) (x2 : Int32) (h : jxH) : jb_186 rc d 4 [(0, .ref a0), (1, .int x1), (2, .int x2)] [] h =
  if (12 : Int32) ≤ x2 then
    some (some (.int x1), h)
  else
    (jx_aI (jx_at h a0) 0 (0 : Int32)).bind fun v1 =>
    jx_cI (jx_C rc d 75 [.int v1, .int x2] h) fun v3 h2 =>
    if v3 = 0 then
      jb_186 rc d 4 [(0, .ref a0), (1, .int (x1 + (0 : Int32))), (2, .int (x2 + (1 : Int32)))] [] h2
    else
      (jx_aI (jx_at h2 a0) 0 ((1 : Int32) + x2)).bind fun v4 =>
      jb_186 rc d 4 [(0, .ref a0), (1, .int (x1 + v4)), (2, .int (x2 + (1 : Int32)))] [] h2 :=
  sorry
theorem je_187 (rc : Nat → Nat × (Nat → Int32)) (d : Nat) (a0 : Nat) (x1 : Int32) (x2 : Int32) (h : jxH) : jx_C rc (d + 1) 187 [.ref a0, .int x1, .int x2] h =
  if jx_is (jx_at h a0) 12 = true then
  jx_cI (jx_C rc d 175 [.ref a0, .int x1] h) fun v2 h1 =>
  if v2 = 0 then
    jx_cI (jx_C rc d 73 [.ref a0, .int (1 : Int32)] h1) fun v4 h3 =>
    some (some (.int v4), h3)
  else
    jx_cI (jx_C rc d 72 [.long (x2).toInt64, .long (0 : Int64), .long (2 : Int64)] h1) fun v6 h5 =>
    if v6 = 0 then
      jx_cI (jx_C rc d 73 [.ref a0, .int (1 : Int32)] h5) fun v8 h7 =>
      some (some (.int v8), h7)
    else
      (jx_gR (jx_at h5 a0) 12 26).bind fun b9 =>
      (jx_aI (jx_at h5 b9) 0 ((3 : Int32) * x1)).bind fun v10 =>
      (jx_gR (jx_at h5 a0) 12 26).bind fun b11 =>
      (jx_aI (jx_at h5 b11) 0 (((3 : Int32) * x1) + (1 : Int32))).bind fun v12 =>
      jx_cI (jx_C rc d 185 [.ref a0, .int v10, .int v12] h5) fun v14 h13 =>
      if x2 = 0 then
        some (some (.int v14), h13)
      else
        if x2 = (1 : Int32) then
          (jx_gR (jx_at h13 a0) 12 28).bind fun b15 =>
          (jx_aQ (jx_at h13 b15) 8 (0 : Int32)).bind fun o16 =>
          jx_mo o16 (fun b17 => (jx_aI (jx_at h13 b17) 0 (0 : Int32)).bind fun v18 =>
            jx_cI (jx_C rc d 76 [.int v18] h13) fun v20 h19 =>
            some (some (.int v20), h19))
          (none)
        else
          (jx_gR (jx_at h13 a0) 12 28).bind fun b21 =>
          (jx_aQ (jx_at h13 b21) 8 (0 : Int32)).bind fun o22 =>
          jx_mo o22 (fun b23 => jx_cI (jx_C rc d 186 [.ref b23] h13) fun v25 h24 =>
            some (some (.int v25), h24))
          (jx_cI (jx_C rc d 186 [.null] h13) fun v27 h26 =>
            some (some (.int v27), h26))
  else none :=
  sorry
noncomputable def jb_188 (rc : Nat → Nat × (Nat → Int32)) (d : Nat) (i : Nat) (ls : List (Nat × Value)) (st : List Value) (h : jxH) : jxR := none
theorem je_188 (rc : Nat → Nat × (Nat → Int32)) (d : Nat) (a0 : Nat) (x1 : Int32) (h : jxH) : jx_C rc (d + 1) 188 [.ref a0, .int x1] h =
  if jx_is (jx_at h a0) 12 = true then
  jx_cI (jx_C rc d 72 [.long (x1).toInt64, .long (0 : Int64), .long (9 : Int64)] h) fun v2 h1 =>
  if v2 = 0 then
    jx_cI (jx_C rc d 73 [.ref a0, .int (1 : Int32)] h1) fun v4 h3 =>
    some (some (.int v4), h3)
  else
    jb_188 rc d 16 [(0, .ref a0), (1, .int x1), (2, .int (0 : Int32)), (3, .int (13 : Int32)), (4, .int (0 : Int32))] [] h1
  else none :=
  sorry
theorem je_188_16 (rc : Nat → Nat × (Nat → Int32)) (d : Nat) (a0 : Nat) (x1 : Int32) (x2 : Int32) (x3 : Int32) (x4 : Int32) (h : jxH) : jb_188 rc d 16 [(0, .ref a0), (1, .int x1), (2, .int x2), (3, .int x3), (4, .int x4)] [] h =
  if (6 : Int32) ≤ x4 then
    some (some (.int x2), h)
  else
    jx_cI (jx_C rc d 185 [.ref a0, .int x4, .int x1] h) fun v2 h1 =>
    (jx_gR (jx_at h1 a0) 12 28).bind fun b3 =>
    (jx_aQ (jx_at h1 b3) 8 (0 : Int32)).bind fun o4 =>
    jx_mo o4 (fun b5 => (jx_aI (jx_at h1 b5) 0 (0 : Int32)).bind fun v6 =>
      jx_cI (jx_C rc d 76 [.int v6] h1) fun v8 h7 =>
      if x3 ≤ v8 then
        if x3 ≤ v8 then
          jb_188 rc d 16 [(0, .ref a0), (1, .int x1), (2, .int x2), (3, .int x3), (4, .int (x4 + (1 : Int32)))] [] h7
        else
          jb_188 rc d 16 [(0, .ref a0), (1, .int x1), (2, .int x2), (3, .int v8), (4, .int (x4 + (1 : Int32)))] [] h7
      else
        if v2 < 0 then
          if x3 ≤ v8 then
            jb_188 rc d 16 [(0, .ref a0), (1, .int x1), (2, .int x2), (3, .int x3), (4, .int (x4 + (1 : Int32)))] [] h7
          else
            jb_188 rc d 16 [(0, .ref a0), (1, .int x1), (2, .int x2), (3, .int v8), (4, .int (x4 + (1 : Int32)))] [] h7
        else
          if x3 ≤ v8 then
            jb_188 rc d 16 [(0, .ref a0), (1, .int x1), (2, .int x4), (3, .int x3), (4, .int (x4 + (1 : Int32)))] [] h7
          else
            jb_188 rc d 16 [(0, .ref a0), (1, .int x1), (2, .int x4), (3, .int v8), (4, .int (x4 + (1 : Int32)))] [] h7)
    (none) :=
  sorry
noncomputable def jb_189 (rc : Nat → Nat × (Nat → Int32)) (d : Nat) (i : Nat) (ls : List (Nat × Value)) (st : List Value) (h : jxH) : jxR := none
theorem je_189 (rc : Nat → Nat × (Nat → Int32)) (d : Nat) (a0 : Nat) (x1 : Int32) (x2 : Int32) (x3 : Int32) (h : jxH) : jx_C rc (d + 1) 189 [.ref a0, .int x1, .int x2, .int x3] h =
  if jx_is (jx_at h a0) 12 = true then
  (jx_gR (jx_at h a0) 12 28).bind fun b1 =>
  (jx_aQ (jx_at h b1) 8 x1).bind fun o2 =>
  jx_mo o2 (fun b3 => (jx_aI (jx_at h b3) 0 (0 : Int32)).bind fun v4 =>
    jx_cI (jx_C rc d 76 [.int v4] h) fun v6 h5 =>
    (jx_gI (jx_at h5 a0) 12 29).bind fun v7 =>
    if v6 < v7 then
      (jx_pF (jx_at h5 a0) 12 29 (.int v6)).bind fun e8 =>
      (jx_pF (jx_at (jx_set h5 a0 e8) a0) 12 30 (.int x1)).bind fun e9 =>
      (jx_pF (jx_at (jx_set (jx_set h5 a0 e8) a0 e9) a0) 12 31 (.int x3)).bind fun e10 =>
      jb_189 rc d 33 [(0, .ref a0), (1, .int x1), (2, .int x2), (3, .int x3), (4, .ref b3), (6, .int (0 : Int32))] [] (jx_set (jx_set (jx_set h5 a0 e8) a0 e9) a0 e10)
    else
      (jx_gI (jx_at h5 a0) 12 29).bind fun v11 =>
      if v6 = v11 then
        (jx_gI (jx_at h5 a0) 12 30).bind fun v12 =>
        if v12 ≤ x1 then
          jb_189 rc d 33 [(0, .ref a0), (1, .int x1), (2, .int x2), (3, .int x3), (4, .ref b3), (6, .int (0 : Int32))] [] h5
        else
          (jx_pF (jx_at h5 a0) 12 29 (.int v6)).bind fun e13 =>
          (jx_pF (jx_at (jx_set h5 a0 e13) a0) 12 30 (.int x1)).bind fun e14 =>
          (jx_pF (jx_at (jx_set (jx_set h5 a0 e13) a0 e14) a0) 12 31 (.int x3)).bind fun e15 =>
          jb_189 rc d 33 [(0, .ref a0), (1, .int x1), (2, .int x2), (3, .int x3), (4, .ref b3), (6, .int (0 : Int32))] [] (jx_set (jx_set (jx_set h5 a0 e13) a0 e14) a0 e15)
      else
        jb_189 rc d 33 [(0, .ref a0), (1, .int x1), (2, .int x2), (3, .int x3), (4, .ref b3), (6, .int (0 : Int32))] [] h5)
  (none)
  else none :=
  sorry
theorem je_189_33 (rc : Nat → Nat × (Nat → Int32)) (d : Nat) (a0 : Nat) (x1 : Int32) (x2 : Int32) (x3 : Int32) (x6 : Int32) (h : jxH) : jb_189 rc d 33 [(0, .ref a0), (1, .int x1), (2, .int x2), (3, .int x3), (4, .null), (6, .int x6)] [] h =
  if (12 : Int32) ≤ x6 then
    some (none, h)
  else
    if x2 ≤ x1 then
      some (none, h)
    else
      jx_cI (jx_C rc d 78 [.null, .int x6] h) fun v2 h1 =>
      if v2 = 0 then
        jb_189 rc d 64 [(0, .ref a0), (1, .int x1), (2, .int x2), (3, .int x3), (4, .null), (6, .int x6)] [.int (-1 : Int32)] h1
      else
        none :=
  sorry
theorem je_189_33b (rc : Nat → Nat × (Nat → Int32)) (d : Nat) (a0 : Nat) (x1 : Int32) (x2 : Int32) (x3 : Int32) (a4 : Nat) (x6 : Int32) (h : jxH) : jb_189 rc d 33 [(0, .ref a0), (1, .int x1), (2, .int x2), (3, .int x3), (4, .ref a4), (6, .int x6)] [] h =
  if (12 : Int32) ≤ x6 then
    some (none, h)
  else
    if x2 ≤ x1 then
      some (none, h)
    else
      jx_cI (jx_C rc d 78 [.ref a4, .int x6] h) fun v2 h1 =>
      if v2 = 0 then
        jb_189 rc d 64 [(0, .ref a0), (1, .int x1), (2, .int x2), (3, .int x3), (4, .ref a4), (6, .int x6)] [.int (-1 : Int32)] h1
      else
        (jx_aI (jx_at h1 a4) 0 ((1 : Int32) + x6)).bind fun v3 =>
        if v3 = 0 then
          (jx_aI (jx_at h1 a4) 0 ((13 : Int32) + x6)).bind fun v4 =>
          jx_cI (jx_C rc d 76 [.int v4] h1) fun v6 h5 =>
          if v6 = (2 : Int32) then
            jb_189 rc d 64 [(0, .ref a0), (1, .int x1), (2, .int x2), (3, .int x3), (4, .ref a4), (6, .int x6)] [.int (4 : Int32)] h5
          else
            jb_189 rc d 64 [(0, .ref a0), (1, .int x1), (2, .int x2), (3, .int x3), (4, .ref a4), (6, .int x6)] [.int (5 : Int32)] h5
        else
          jb_189 rc d 64 [(0, .ref a0), (1, .int x1), (2, .int x2), (3, .int x3), (4, .ref a4), (6, .int x6)] [.int (0 : Int32)] h1 :=
  sorry
theorem je_189_64 (rc : Nat → Nat × (Nat → Int32)) (d : Nat) (a0 : Nat) (x1 : Int32) (x2 : Int32) (x3 : Int32) (x6 : Int32) (s0 : Int32) (h : jxH) : jb_189 rc d 64 [(0, .ref a0), (1, .int x1), (2, .int x2), (3, .int x3), (4, .null), (6, .int x6)] [.int s0] h =
  if s0 < 0 then
    jb_189 rc d 33 [(0, .ref a0), (1, .int x1), (2, .int x2), (3, .int x3), (4, .null), (6, .int (x6 + (1 : Int32)))] [] h
  else
    jx_cI (jx_C rc d 93 [.null, .int s0, .int x6, .int (0 : Int32), .int (0 : Int32), .int (0 : Int32)] h) fun v2 h1 =>
    if v2 = 0 then
      (jx_gR (jx_at h1 a0) 12 28).bind fun b3 =>
      (jx_aQ (jx_at h1 b3) 8 (x1 + (1 : Int32))).bind fun o4 =>
      jx_mo o4 (fun b5 => jx_cV (jx_C rc d 74 [.null, .ref b5] h1) fun h6 =>
        (jx_gR (jx_at h6 a0) 12 28).bind fun b7 =>
        (jx_aQ (jx_at h6 b7) 8 (x1 + (1 : Int32))).bind fun o8 =>
        jx_mo o8 (fun b9 => jx_cV (jx_C rc d 99 [.ref b9, .int s0, .int x6, .int (0 : Int32), .int (0 : Int32), .int (0 : Int32)] h6) fun h10 =>
          if x1 = 0 then
            jx_cV (jx_C rc d 189 [.ref a0, .int (x1 + (1 : Int32)), .int x2, .int x6] h10) fun h11 =>
            jb_189 rc d 33 [(0, .ref a0), (1, .int x1), (2, .int x2), (3, .int x3), (4, .null), (6, .int (x6 + (1 : Int32)))] [] h11
          else
            jx_cV (jx_C rc d 189 [.ref a0, .int (x1 + (1 : Int32)), .int x2, .int x3] h10) fun h12 =>
            jb_189 rc d 33 [(0, .ref a0), (1, .int x1), (2, .int x2), (3, .int x3), (4, .null), (6, .int (x6 + (1 : Int32)))] [] h12)
        (jx_cV (jx_C rc d 99 [.null, .int s0, .int x6, .int (0 : Int32), .int (0 : Int32), .int (0 : Int32)] h6) fun h13 =>
          if x1 = 0 then
            jx_cV (jx_C rc d 189 [.ref a0, .int (x1 + (1 : Int32)), .int x2, .int x6] h13) fun h14 =>
            jb_189 rc d 33 [(0, .ref a0), (1, .int x1), (2, .int x2), (3, .int x3), (4, .null), (6, .int (x6 + (1 : Int32)))] [] h14
          else
            jx_cV (jx_C rc d 189 [.ref a0, .int (x1 + (1 : Int32)), .int x2, .int x3] h13) fun h15 =>
            jb_189 rc d 33 [(0, .ref a0), (1, .int x1), (2, .int x2), (3, .int x3), (4, .null), (6, .int (x6 + (1 : Int32)))] [] h15))
      (jx_cV (jx_C rc d 74 [.null, .null] h1) fun h16 =>
        (jx_gR (jx_at h16 a0) 12 28).bind fun b17 =>
        (jx_aQ (jx_at h16 b17) 8 (x1 + (1 : Int32))).bind fun o18 =>
        jx_mo o18 (fun b19 => jx_cV (jx_C rc d 99 [.ref b19, .int s0, .int x6, .int (0 : Int32), .int (0 : Int32), .int (0 : Int32)] h16) fun h20 =>
          if x1 = 0 then
            jx_cV (jx_C rc d 189 [.ref a0, .int (x1 + (1 : Int32)), .int x2, .int x6] h20) fun h21 =>
            jb_189 rc d 33 [(0, .ref a0), (1, .int x1), (2, .int x2), (3, .int x3), (4, .null), (6, .int (x6 + (1 : Int32)))] [] h21
          else
            jx_cV (jx_C rc d 189 [.ref a0, .int (x1 + (1 : Int32)), .int x2, .int x3] h20) fun h22 =>
            jb_189 rc d 33 [(0, .ref a0), (1, .int x1), (2, .int x2), (3, .int x3), (4, .null), (6, .int (x6 + (1 : Int32)))] [] h22)
        (jx_cV (jx_C rc d 99 [.null, .int s0, .int x6, .int (0 : Int32), .int (0 : Int32), .int (0 : Int32)] h16) fun h23 =>
          if x1 = 0 then
            jx_cV (jx_C rc d 189 [.ref a0, .int (x1 + (1 : Int32)), .int x2, .int x6] h23) fun h24 =>
            jb_189 rc d 33 [(0, .ref a0), (1, .int x1), (2, .int x2), (3, .int x3), (4, .null), (6, .int (x6 + (1 : Int32)))] [] h24
          else
            jx_cV (jx_C rc d 189 [.ref a0, .int (x1 + (1 : Int32)), .int x2, .int x3] h23) fun h25 =>
            jb_189 rc d 33 [(0, .ref a0), (1, .int x1), (2, .int x2), (3, .int x3), (4, .null), (6, .int (x6 + (1 : Int32)))] [] h25))
    else
      jb_189 rc d 33 [(0, .ref a0), (1, .int x1), (2, .int x2), (3, .int x3), (4, .null), (6, .int (x6 + (1 : Int32)))] [] h1 :=
  sorry
theorem je_189_64b (rc : Nat → Nat × (Nat → Int32)) (d : Nat) (a0 : Nat) (x1 : Int32) (x2 : Int32) (x3 : Int32) (a4 : Nat) (x6 : Int32) (s0 : Int32) (h : jxH) : jb_189 rc d 64 [(0, .ref a0), (1, .int x1), (2, .int x2), (3, .int x3), (4, .ref a4), (6, .int x6)] [.int s0] h =
  if s0 < 0 then
    jb_189 rc d 33 [(0, .ref a0), (1, .int x1), (2, .int x2), (3, .int x3), (4, .ref a4), (6, .int (x6 + (1 : Int32)))] [] h
  else
    jx_cI (jx_C rc d 93 [.ref a4, .int s0, .int x6, .int (0 : Int32), .int (0 : Int32), .int (0 : Int32)] h) fun v2 h1 =>
    if v2 = 0 then
      (jx_gR (jx_at h1 a0) 12 28).bind fun b3 =>
      (jx_aQ (jx_at h1 b3) 8 (x1 + (1 : Int32))).bind fun o4 =>
      jx_mo o4 (fun b5 => jx_cV (jx_C rc d 74 [.ref a4, .ref b5] h1) fun h6 =>
        (jx_gR (jx_at h6 a0) 12 28).bind fun b7 =>
        (jx_aQ (jx_at h6 b7) 8 (x1 + (1 : Int32))).bind fun o8 =>
        jx_mo o8 (fun b9 => jx_cV (jx_C rc d 99 [.ref b9, .int s0, .int x6, .int (0 : Int32), .int (0 : Int32), .int (0 : Int32)] h6) fun h10 =>
          if x1 = 0 then
            jx_cV (jx_C rc d 189 [.ref a0, .int (x1 + (1 : Int32)), .int x2, .int x6] h10) fun h11 =>
            jb_189 rc d 33 [(0, .ref a0), (1, .int x1), (2, .int x2), (3, .int x3), (4, .ref a4), (6, .int (x6 + (1 : Int32)))] [] h11
          else
            jx_cV (jx_C rc d 189 [.ref a0, .int (x1 + (1 : Int32)), .int x2, .int x3] h10) fun h12 =>
            jb_189 rc d 33 [(0, .ref a0), (1, .int x1), (2, .int x2), (3, .int x3), (4, .ref a4), (6, .int (x6 + (1 : Int32)))] [] h12)
        (jx_cV (jx_C rc d 99 [.null, .int s0, .int x6, .int (0 : Int32), .int (0 : Int32), .int (0 : Int32)] h6) fun h13 =>
          if x1 = 0 then
            jx_cV (jx_C rc d 189 [.ref a0, .int (x1 + (1 : Int32)), .int x2, .int x6] h13) fun h14 =>
            jb_189 rc d 33 [(0, .ref a0), (1, .int x1), (2, .int x2), (3, .int x3), (4, .ref a4), (6, .int (x6 + (1 : Int32)))] [] h14
          else
            jx_cV (jx_C rc d 189 [.ref a0, .int (x1 + (1 : Int32)), .int x2, .int x3] h13) fun h15 =>
            jb_189 rc d 33 [(0, .ref a0), (1, .int x1), (2, .int x2), (3, .int x3), (4, .ref a4), (6, .int (x6 + (1 : Int32)))] [] h15))
      (jx_cV (jx_C rc d 74 [.ref a4, .null] h1) fun h16 =>
        (jx_gR (jx_at h16 a0) 12 28).bind fun b17 =>
        (jx_aQ (jx_at h16 b17) 8 (x1 + (1 : Int32))).bind fun o18 =>
        jx_mo o18 (fun b19 => jx_cV (jx_C rc d 99 [.ref b19, .int s0, .int x6, .int (0 : Int32), .int (0 : Int32), .int (0 : Int32)] h16) fun h20 =>
          if x1 = 0 then
            jx_cV (jx_C rc d 189 [.ref a0, .int (x1 + (1 : Int32)), .int x2, .int x6] h20) fun h21 =>
            jb_189 rc d 33 [(0, .ref a0), (1, .int x1), (2, .int x2), (3, .int x3), (4, .ref a4), (6, .int (x6 + (1 : Int32)))] [] h21
          else
            jx_cV (jx_C rc d 189 [.ref a0, .int (x1 + (1 : Int32)), .int x2, .int x3] h20) fun h22 =>
            jb_189 rc d 33 [(0, .ref a0), (1, .int x1), (2, .int x2), (3, .int x3), (4, .ref a4), (6, .int (x6 + (1 : Int32)))] [] h22)
        (jx_cV (jx_C rc d 99 [.null, .int s0, .int x6, .int (0 : Int32), .int (0 : Int32), .int (0 : Int32)] h16) fun h23 =>
          if x1 = 0 then
            jx_cV (jx_C rc d 189 [.ref a0, .int (x1 + (1 : Int32)), .int x2, .int x6] h23) fun h24 =>
            jb_189 rc d 33 [(0, .ref a0), (1, .int x1), (2, .int x2), (3, .int x3), (4, .ref a4), (6, .int (x6 + (1 : Int32)))] [] h24
          else
            jx_cV (jx_C rc d 189 [.ref a0, .int (x1 + (1 : Int32)), .int x2, .int x3] h23) fun h25 =>
            jb_189 rc d 33 [(0, .ref a0), (1, .int x1), (2, .int x2), (3, .int x3), (4, .ref a4), (6, .int (x6 + (1 : Int32)))] [] h25))
    else
      jb_189 rc d 33 [(0, .ref a0), (1, .int x1), (2, .int x2), (3, .int x3), (4, .ref a4), (6, .int (x6 + (1 : Int32)))] [] h1 :=
  sorry
theorem je_190 (rc : Nat → Nat × (Nat → Int32)) (d : Nat) (a0 : Nat) (x1 : Int32) (x2 : Int32) (h : jxH) : jx_C rc (d + 1) 190 [.ref a0, .int x1, .int x2] h =
  if jx_is (jx_at h a0) 12 = true then
  jx_cI (jx_C rc d 72 [.long (x1).toInt64, .long (0 : Int64), .long (4 : Int64)] h) fun v2 h1 =>
  if v2 = 0 then
    jx_cI (jx_C rc d 73 [.ref a0, .int (1 : Int32)] h1) fun v4 h3 =>
    some (some (.int v4), h3)
  else
    jx_cI (jx_C rc d 72 [.long (x2).toInt64, .long (0 : Int64), .long (2 : Int64)] h1) fun v6 h5 =>
    if v6 = 0 then
      jx_cI (jx_C rc d 73 [.ref a0, .int (1 : Int32)] h5) fun v8 h7 =>
      some (some (.int v8), h7)
    else
      (jx_gR (jx_at h5 a0) 12 1).bind fun b9 =>
      (jx_gR (jx_at h5 a0) 12 28).bind fun b10 =>
      (jx_aQ (jx_at h5 b10) 8 (0 : Int32)).bind fun o11 =>
      jx_mo o11 (fun b12 => jx_cV (jx_C rc d 74 [.ref b9, .ref b12] h5) fun h13 =>
        (jx_pF (jx_at h13 a0) 12 29 (.int (13 : Int32))).bind fun e14 =>
        (jx_pF (jx_at (jx_set h13 a0 e14) a0) 12 30 (.int (9 : Int32))).bind fun e15 =>
        (jx_pF (jx_at (jx_set (jx_set h13 a0 e14) a0 e15) a0) 12 31 (.int (-1 : Int32))).bind fun e16 =>
        jx_cV (jx_C rc d 189 [.ref a0, .int (0 : Int32), .int x1, .int (-1 : Int32)] (jx_set (jx_set (jx_set h13 a0 e14) a0 e15) a0 e16)) fun h17 =>
        if x2 = 0 then
          (jx_gI (jx_at h17 a0) 12 29).bind fun v18 =>
          some (some (.int v18), h17)
        else
          if x2 = (1 : Int32) then
            (jx_gI (jx_at h17 a0) 12 30).bind fun v19 =>
            some (some (.int v19), h17)
          else
            (jx_gI (jx_at h17 a0) 12 31).bind fun v20 =>
            some (some (.int v20), h17))
      (jx_cV (jx_C rc d 74 [.ref b9, .null] h5) fun h21 =>
        (jx_pF (jx_at h21 a0) 12 29 (.int (13 : Int32))).bind fun e22 =>
        (jx_pF (jx_at (jx_set h21 a0 e22) a0) 12 30 (.int (9 : Int32))).bind fun e23 =>
        (jx_pF (jx_at (jx_set (jx_set h21 a0 e22) a0 e23) a0) 12 31 (.int (-1 : Int32))).bind fun e24 =>
        jx_cV (jx_C rc d 189 [.ref a0, .int (0 : Int32), .int x1, .int (-1 : Int32)] (jx_set (jx_set (jx_set h21 a0 e22) a0 e23) a0 e24)) fun h25 =>
        if x2 = 0 then
          (jx_gI (jx_at h25 a0) 12 29).bind fun v26 =>
          some (some (.int v26), h25)
        else
          if x2 = (1 : Int32) then
            (jx_gI (jx_at h25 a0) 12 30).bind fun v27 =>
            some (some (.int v27), h25)
          else
            (jx_gI (jx_at h25 a0) 12 31).bind fun v28 =>
            some (some (.int v28), h25))
  else none :=
  sorry
noncomputable def jb_191 (rc : Nat → Nat × (Nat → Int32)) (d : Nat) (i : Nat) (ls : List (Nat × Value)) (st : List Value) (h : jxH) : jxR := none
theorem je_191 (rc : Nat → Nat × (Nat → Int32)) (d : Nat) (a0 : Nat) (x1 : Int32) (x2 : Int32) (x3 : Int32) (h : jxH) : jx_C rc (d + 1) 191 [.ref a0, .int x1, .int x2, .int x3] h =
  if jx_is (jx_at h a0) 12 = true then
  (jx_gR (jx_at h a0) 12 28).bind fun b1 =>
  (jx_aQ (jx_at h b1) 8 x1).bind fun o2 =>
  jx_mo o2 (fun b3 => if x1 = x2 then
      (jx_aI (jx_at h b3) 0 (0 : Int32)).bind fun v4 =>
      jx_cI (jx_C rc d 76 [.int v4] h) fun v6 h5 =>
      if v6 = x3 then
        jx_cI (jx_C rc d 173 [.ref a0, .ref b3] h5) fun v8 h7 =>
        if v8 = 0 then
          if jx_bool (0 : Int32) = true then some (some (.int (0 : Int32)), h7) else none
        else
          if jx_bool (1 : Int32) = true then some (some (.int (1 : Int32)), h7) else none
      else
        if jx_bool (0 : Int32) = true then some (some (.int (0 : Int32)), h5) else none
    else
      jb_191 rc d 24 [(0, .ref a0), (1, .int x1), (2, .int x2), (3, .int x3), (4, .ref b3), (5, .int (0 : Int32))] [] h)
  (if x1 = x2 then
      none
    else
      jb_191 rc d 24 [(0, .ref a0), (1, .int x1), (2, .int x2), (3, .int x3), (4, .null), (5, .int (0 : Int32))] [] h)
  else none :=
  sorry
theorem je_191_24 (rc : Nat → Nat × (Nat → Int32)) (d : Nat) (a0 : Nat) (x1 : Int32) (x2 : Int32) (x3 : Int32) (x5 : Int32) (h : jxH) : jb_191 rc d 24 [(0, .ref a0), (1, .int x1), (2, .int x2), (3, .int x3), (4, .null), (5, .int x5)] [] h =
  if (12 : Int32) < x5 then
    if jx_bool (0 : Int32) = true then some (some (.int (0 : Int32)), h) else none
  else
    if x5 = (12 : Int32) then
      jb_191 rc d 57 [(0, .ref a0), (1, .int x1), (2, .int x2), (3, .int x3), (4, .null), (5, .int x5)] [.int (6 : Int32)] h
    else
      jx_cI (jx_C rc d 78 [.null, .int x5] h) fun v2 h1 =>
      if v2 = 0 then
        jb_191 rc d 57 [(0, .ref a0), (1, .int x1), (2, .int x2), (3, .int x3), (4, .null), (5, .int x5)] [.int (-1 : Int32)] h1
      else
        none :=
  sorry
theorem je_191_24b (rc : Nat → Nat × (Nat → Int32)) (d : Nat) (a0 : Nat) (x1 : Int32) (x2 : Int32) (x3 : Int32) (a4 : Nat) (x5 : Int32) (h : jxH) : jb_191 rc d 24 [(0, .ref a0), (1, .int x1), (2, .int x2), (3, .int x3), (4, .ref a4), (5, .int x5)] [] h =
  if (12 : Int32) < x5 then
    if jx_bool (0 : Int32) = true then some (some (.int (0 : Int32)), h) else none
  else
    if x5 = (12 : Int32) then
      jb_191 rc d 57 [(0, .ref a0), (1, .int x1), (2, .int x2), (3, .int x3), (4, .ref a4), (5, .int x5)] [.int (6 : Int32)] h
    else
      jx_cI (jx_C rc d 78 [.ref a4, .int x5] h) fun v2 h1 =>
      if v2 = 0 then
        jb_191 rc d 57 [(0, .ref a0), (1, .int x1), (2, .int x2), (3, .int x3), (4, .ref a4), (5, .int x5)] [.int (-1 : Int32)] h1
      else
        (jx_aI (jx_at h1 a4) 0 ((1 : Int32) + x5)).bind fun v3 =>
        if v3 = 0 then
          (jx_aI (jx_at h1 a4) 0 ((13 : Int32) + x5)).bind fun v4 =>
          jx_cI (jx_C rc d 76 [.int v4] h1) fun v6 h5 =>
          if v6 = (2 : Int32) then
            jb_191 rc d 57 [(0, .ref a0), (1, .int x1), (2, .int x2), (3, .int x3), (4, .ref a4), (5, .int x5)] [.int (4 : Int32)] h5
          else
            jb_191 rc d 57 [(0, .ref a0), (1, .int x1), (2, .int x2), (3, .int x3), (4, .ref a4), (5, .int x5)] [.int (5 : Int32)] h5
        else
          jb_191 rc d 57 [(0, .ref a0), (1, .int x1), (2, .int x2), (3, .int x3), (4, .ref a4), (5, .int x5)] [.int (0 : Int32)] h1 :=
  sorry
theorem je_191_57 (rc : Nat → Nat × (Nat → Int32)) (d : Nat) (a0 : Nat) (x1 : Int32) (x2 : Int32) (x3 : Int32) (x5 : Int32) (s0 : Int32) (h : jxH) : jb_191 rc d 57 [(0, .ref a0), (1, .int x1), (2, .int x2), (3, .int x3), (4, .null), (5, .int x5)] [.int s0] h =
  if s0 < 0 then
    jb_191 rc d 24 [(0, .ref a0), (1, .int x1), (2, .int x2), (3, .int x3), (4, .null), (5, .int (x5 + (1 : Int32)))] [] h
  else
    jx_cI (jx_C rc d 93 [.null, .int s0, .int x5, .int (0 : Int32), .int (0 : Int32), .int (0 : Int32)] h) fun v2 h1 =>
    if v2 = 0 then
      (jx_gR (jx_at h1 a0) 12 28).bind fun b3 =>
      (jx_aQ (jx_at h1 b3) 8 (x1 + (1 : Int32))).bind fun o4 =>
      jx_mo o4 (fun b5 => jx_cV (jx_C rc d 74 [.null, .ref b5] h1) fun h6 =>
        (jx_gR (jx_at h6 a0) 12 28).bind fun b7 =>
        (jx_aQ (jx_at h6 b7) 8 (x1 + (1 : Int32))).bind fun o8 =>
        jx_mo o8 (fun b9 => jx_cV (jx_C rc d 99 [.ref b9, .int s0, .int x5, .int (0 : Int32), .int (0 : Int32), .int (0 : Int32)] h6) fun h10 =>
          jx_cI (jx_C rc d 191 [.ref a0, .int (x1 + (1 : Int32)), .int x2, .int x3] h10) fun v12 h11 =>
          if v12 = 0 then
            jb_191 rc d 24 [(0, .ref a0), (1, .int x1), (2, .int x2), (3, .int x3), (4, .null), (5, .int (x5 + (1 : Int32)))] [] h11
          else
            if jx_bool (1 : Int32) = true then some (some (.int (1 : Int32)), h11) else none)
        (jx_cV (jx_C rc d 99 [.null, .int s0, .int x5, .int (0 : Int32), .int (0 : Int32), .int (0 : Int32)] h6) fun h13 =>
          jx_cI (jx_C rc d 191 [.ref a0, .int (x1 + (1 : Int32)), .int x2, .int x3] h13) fun v15 h14 =>
          if v15 = 0 then
            jb_191 rc d 24 [(0, .ref a0), (1, .int x1), (2, .int x2), (3, .int x3), (4, .null), (5, .int (x5 + (1 : Int32)))] [] h14
          else
            if jx_bool (1 : Int32) = true then some (some (.int (1 : Int32)), h14) else none))
      (jx_cV (jx_C rc d 74 [.null, .null] h1) fun h16 =>
        (jx_gR (jx_at h16 a0) 12 28).bind fun b17 =>
        (jx_aQ (jx_at h16 b17) 8 (x1 + (1 : Int32))).bind fun o18 =>
        jx_mo o18 (fun b19 => jx_cV (jx_C rc d 99 [.ref b19, .int s0, .int x5, .int (0 : Int32), .int (0 : Int32), .int (0 : Int32)] h16) fun h20 =>
          jx_cI (jx_C rc d 191 [.ref a0, .int (x1 + (1 : Int32)), .int x2, .int x3] h20) fun v22 h21 =>
          if v22 = 0 then
            jb_191 rc d 24 [(0, .ref a0), (1, .int x1), (2, .int x2), (3, .int x3), (4, .null), (5, .int (x5 + (1 : Int32)))] [] h21
          else
            if jx_bool (1 : Int32) = true then some (some (.int (1 : Int32)), h21) else none)
        (jx_cV (jx_C rc d 99 [.null, .int s0, .int x5, .int (0 : Int32), .int (0 : Int32), .int (0 : Int32)] h16) fun h23 =>
          jx_cI (jx_C rc d 191 [.ref a0, .int (x1 + (1 : Int32)), .int x2, .int x3] h23) fun v25 h24 =>
          if v25 = 0 then
            jb_191 rc d 24 [(0, .ref a0), (1, .int x1), (2, .int x2), (3, .int x3), (4, .null), (5, .int (x5 + (1 : Int32)))] [] h24
          else
            if jx_bool (1 : Int32) = true then some (some (.int (1 : Int32)), h24) else none))
    else
      jb_191 rc d 24 [(0, .ref a0), (1, .int x1), (2, .int x2), (3, .int x3), (4, .null), (5, .int (x5 + (1 : Int32)))] [] h1 :=
  sorry
theorem je_191_57b (rc : Nat → Nat × (Nat → Int32)) (d : Nat) (a0 : Nat) (x1 : Int32) (x2 : Int32) (x3 : Int32) (a4 : Nat) (x5 : Int32) (s0 : Int32) (h : jxH) : jb_191 rc d 57 [(0, .ref a0), (1, .int x1), (2, .int x2), (3, .int x3), (4, .ref a4), (5, .int x5)] [.int s0] h =
  if s0 < 0 then
    jb_191 rc d 24 [(0, .ref a0), (1, .int x1), (2, .int x2), (3, .int x3), (4, .ref a4), (5, .int (x5 + (1 : Int32)))] [] h
  else
    jx_cI (jx_C rc d 93 [.ref a4, .int s0, .int x5, .int (0 : Int32), .int (0 : Int32), .int (0 : Int32)] h) fun v2 h1 =>
    if v2 = 0 then
      (jx_gR (jx_at h1 a0) 12 28).bind fun b3 =>
      (jx_aQ (jx_at h1 b3) 8 (x1 + (1 : Int32))).bind fun o4 =>
      jx_mo o4 (fun b5 => jx_cV (jx_C rc d 74 [.ref a4, .ref b5] h1) fun h6 =>
        (jx_gR (jx_at h6 a0) 12 28).bind fun b7 =>
        (jx_aQ (jx_at h6 b7) 8 (x1 + (1 : Int32))).bind fun o8 =>
        jx_mo o8 (fun b9 => jx_cV (jx_C rc d 99 [.ref b9, .int s0, .int x5, .int (0 : Int32), .int (0 : Int32), .int (0 : Int32)] h6) fun h10 =>
          jx_cI (jx_C rc d 191 [.ref a0, .int (x1 + (1 : Int32)), .int x2, .int x3] h10) fun v12 h11 =>
          if v12 = 0 then
            jb_191 rc d 24 [(0, .ref a0), (1, .int x1), (2, .int x2), (3, .int x3), (4, .ref a4), (5, .int (x5 + (1 : Int32)))] [] h11
          else
            if jx_bool (1 : Int32) = true then some (some (.int (1 : Int32)), h11) else none)
        (jx_cV (jx_C rc d 99 [.null, .int s0, .int x5, .int (0 : Int32), .int (0 : Int32), .int (0 : Int32)] h6) fun h13 =>
          jx_cI (jx_C rc d 191 [.ref a0, .int (x1 + (1 : Int32)), .int x2, .int x3] h13) fun v15 h14 =>
          if v15 = 0 then
            jb_191 rc d 24 [(0, .ref a0), (1, .int x1), (2, .int x2), (3, .int x3), (4, .ref a4), (5, .int (x5 + (1 : Int32)))] [] h14
          else
            if jx_bool (1 : Int32) = true then some (some (.int (1 : Int32)), h14) else none))
      (jx_cV (jx_C rc d 74 [.ref a4, .null] h1) fun h16 =>
        (jx_gR (jx_at h16 a0) 12 28).bind fun b17 =>
        (jx_aQ (jx_at h16 b17) 8 (x1 + (1 : Int32))).bind fun o18 =>
        jx_mo o18 (fun b19 => jx_cV (jx_C rc d 99 [.ref b19, .int s0, .int x5, .int (0 : Int32), .int (0 : Int32), .int (0 : Int32)] h16) fun h20 =>
          jx_cI (jx_C rc d 191 [.ref a0, .int (x1 + (1 : Int32)), .int x2, .int x3] h20) fun v22 h21 =>
          if v22 = 0 then
            jb_191 rc d 24 [(0, .ref a0), (1, .int x1), (2, .int x2), (3, .int x3), (4, .ref a4), (5, .int (x5 + (1 : Int32)))] [] h21
          else
            if jx_bool (1 : Int32) = true then some (some (.int (1 : Int32)), h21) else none)
        (jx_cV (jx_C rc d 99 [.null, .int s0, .int x5, .int (0 : Int32), .int (0 : Int32), .int (0 : Int32)] h16) fun h23 =>
          jx_cI (jx_C rc d 191 [.ref a0, .int (x1 + (1 : Int32)), .int x2, .int x3] h23) fun v25 h24 =>
          if v25 = 0 then
            jb_191 rc d 24 [(0, .ref a0), (1, .int x1), (2, .int x2), (3, .int x3), (4, .ref a4), (5, .int (x5 + (1 : Int32)))] [] h24
          else
            if jx_bool (1 : Int32) = true then some (some (.int (1 : Int32)), h24) else none))
    else
      jb_191 rc d 24 [(0, .ref a0), (1, .int x1), (2, .int x2), (3, .int x3), (4, .ref a4), (5, .int (x5 + (1 : Int32)))] [] h1 :=
  sorry
noncomputable def jb_192 (rc : Nat → Nat × (Nat → Int32)) (d : Nat) (i : Nat) (ls : List (Nat × Value)) (st : List Value) (h : jxH) : jxR := none
theorem je_192 (rc : Nat → Nat × (Nat → Int32)) (d : Nat) (a0 : Nat) (x1 : Int32) (x2 : Int32) (h : jxH) : jx_C rc (d + 1) 192 [.ref a0, .int x1, .int x2] h =
  if jx_is (jx_at h a0) 12 = true then
  jx_cI (jx_C rc d 168 [.int x1] h) fun v2 h1 =>
  if v2 = 0 then
    jx_cI (jx_C rc d 73 [.ref a0, .int (1 : Int32)] h1) fun v4 h3 =>
    some (some (.int v4), h3)
  else
    jx_cI (jx_C rc d 72 [.long (x2).toInt64, .long (0 : Int64), .long (3 : Int64)] h1) fun v6 h5 =>
    if v6 = 0 then
      jx_cI (jx_C rc d 73 [.ref a0, .int (1 : Int32)] h5) fun v8 h7 =>
      some (some (.int v8), h7)
    else
      (jx_gR (jx_at h5 a0) 12 23).bind fun b9 =>
      (jx_aI (jx_at h5 b9) 3 x1).bind fun v10 =>
      if v10 = 0 then
        jx_cI (jx_C rc d 73 [.ref a0, .int (7 : Int32)] h5) fun v12 h11 =>
        some (some (.int v12), h11)
      else
        (jx_gR (jx_at h5 a0) 12 22).bind fun b13 =>
        (jx_aQ (jx_at h5 b13) 8 x1).bind fun o14 =>
        jx_mo o14 (fun b15 => jx_cV (jx_C rc d 172 [.ref a0, .ref b15] h5) fun h16 =>
          (jx_gR (jx_at h16 a0) 12 1).bind fun b17 =>
          (jx_gR (jx_at h16 a0) 12 28).bind fun b18 =>
          (jx_aQ (jx_at h16 b18) 8 (0 : Int32)).bind fun o19 =>
          jx_mo o19 (fun b20 => jx_cV (jx_C rc d 74 [.ref b17, .ref b20] h16) fun h21 =>
            jb_192 rc d 37 [(0, .ref a0), (1, .int x1), (2, .int x2), (3, .int (0 : Int32))] [] h21)
          (jx_cV (jx_C rc d 74 [.ref b17, .null] h16) fun h22 =>
            jb_192 rc d 37 [(0, .ref a0), (1, .int x1), (2, .int x2), (3, .int (0 : Int32))] [] h22))
        (jx_cV (jx_C rc d 172 [.ref a0, .null] h5) fun h23 =>
          (jx_gR (jx_at h23 a0) 12 1).bind fun b24 =>
          (jx_gR (jx_at h23 a0) 12 28).bind fun b25 =>
          (jx_aQ (jx_at h23 b25) 8 (0 : Int32)).bind fun o26 =>
          jx_mo o26 (fun b27 => jx_cV (jx_C rc d 74 [.ref b24, .ref b27] h23) fun h28 =>
            jb_192 rc d 37 [(0, .ref a0), (1, .int x1), (2, .int x2), (3, .int (0 : Int32))] [] h28)
          (jx_cV (jx_C rc d 74 [.ref b24, .null] h23) fun h29 =>
            jb_192 rc d 37 [(0, .ref a0), (1, .int x1), (2, .int x2), (3, .int (0 : Int32))] [] h29))
  else none :=
  sorry
theorem je_192_37 (rc : Nat → Nat × (Nat → Int32)) (d : Nat) (a0 : Nat) (x1 : Int32) (x2 : Int32) (x3 : Int32) (h : jxH) : jb_192 rc d 37 [(0, .ref a0), (1, .int x1), (2, .int x2), (3, .int x3)] [] h =
  if x2 < x3 then
    jx_cI (jx_C rc d 73 [.ref a0, .int (2 : Int32)] h) fun v2 h1 =>
    some (some (.int v2), h1)
  else
    (jx_gR (jx_at h a0) 12 22).bind fun b3 =>
    (jx_aQ (jx_at h b3) 8 x1).bind fun o4 =>
    jx_mo o4 (fun b5 => (jx_aI (jx_at h b5) 0 (0 : Int32)).bind fun v6 =>
      jx_cI (jx_C rc d 76 [.int v6] h) fun v8 h7 =>
      jx_cI (jx_C rc d 191 [.ref a0, .int (0 : Int32), .int x3, .int v8] h7) fun v10 h9 =>
      if v10 = 0 then
        jb_192 rc d 37 [(0, .ref a0), (1, .int x1), (2, .int x2), (3, .int (x3 + (1 : Int32)))] [] h9
      else
        some (some (.int x3), h9))
    (none) :=
  sorry
noncomputable def jb_193 (rc : Nat → Nat × (Nat → Int32)) (d : Nat) (i : Nat) (ls : List (Nat × Value)) (st : List Value) (h : jxH) : jxR := none
theorem je_193 (rc : Nat → Nat × (Nat → Int32)) (d : Nat) (a0 : Nat) (x1 : Int32) (x2 : Int32) (x3 : Int32) (h : jxH) : jx_C rc (d + 1) 193 [.ref a0, .int x1, .int x2, .int x3] h =
  if jx_is (jx_at h a0) 12 = true then
  jx_cI (jx_C rc d 168 [.int x1] h) fun v2 h1 =>
  if v2 = 0 then
    jx_cI (jx_C rc d 73 [.ref a0, .int (1 : Int32)] h1) fun v4 h3 =>
    some (some (.int v4), h3)
  else
    if x2 = 0 then
      if x2 ≤ 0 then
        jb_193 rc d 26 [(0, .ref a0), (1, .int x1), (2, .int x2), (3, .int x3)] [] h1
      else
        if 0 ≤ x3 then
          jb_193 rc d 26 [(0, .ref a0), (1, .int x1), (2, .int x2), (3, .int x3)] [] h1
        else
          jx_cI (jx_C rc d 73 [.ref a0, .int (3 : Int32)] h1) fun v6 h5 =>
          some (some (.int v6), h5)
    else
      if x2 = (8 : Int32) then
        if x2 ≤ 0 then
          jb_193 rc d 26 [(0, .ref a0), (1, .int x1), (2, .int x2), (3, .int x3)] [] h1
        else
          if 0 ≤ x3 then
            jb_193 rc d 26 [(0, .ref a0), (1, .int x1), (2, .int x2), (3, .int x3)] [] h1
          else
            jx_cI (jx_C rc d 73 [.ref a0, .int (3 : Int32)] h1) fun v8 h7 =>
            some (some (.int v8), h7)
      else
        if x2 = (16 : Int32) then
          if x2 ≤ 0 then
            jb_193 rc d 26 [(0, .ref a0), (1, .int x1), (2, .int x2), (3, .int x3)] [] h1
          else
            if 0 ≤ x3 then
              jb_193 rc d 26 [(0, .ref a0), (1, .int x1), (2, .int x2), (3, .int x3)] [] h1
            else
              jx_cI (jx_C rc d 73 [.ref a0, .int (3 : Int32)] h1) fun v10 h9 =>
              some (some (.int v10), h9)
        else
          if x2 = (32 : Int32) then
            if x2 ≤ 0 then
              jb_193 rc d 26 [(0, .ref a0), (1, .int x1), (2, .int x2), (3, .int x3)] [] h1
            else
              if 0 ≤ x3 then
                jb_193 rc d 26 [(0, .ref a0), (1, .int x1), (2, .int x2), (3, .int x3)] [] h1
              else
                jx_cI (jx_C rc d 73 [.ref a0, .int (3 : Int32)] h1) fun v12 h11 =>
                some (some (.int v12), h11)
          else
            jx_cI (jx_C rc d 73 [.ref a0, .int (1 : Int32)] h1) fun v14 h13 =>
            some (some (.int v14), h13)
  else none :=
  sorry
theorem je_193_26 (rc : Nat → Nat × (Nat → Int32)) (d : Nat) (a0 : Nat) (x1 : Int32) (x2 : Int32) (x3 : Int32) (h : jxH) : jb_193 rc d 26 [(0, .ref a0), (1, .int x1), (2, .int x2), (3, .int x3)] [] h =
  if x2 ≤ 0 then
    (jx_gR (jx_at h a0) 12 32).bind fun b1 =>
    (jx_sI (jx_at h b1) 0 x1 x2).bind fun e2 =>
    (jx_gR (jx_at (jx_set h b1 e2) a0) 12 33).bind fun b3 =>
    if x2 ≤ 0 then
      (jx_sI (jx_at (jx_set h b1 e2) b3) 0 x1 (0 : Int32)).bind fun e4 =>
      jb_193 rc d 51 [(0, .ref a0), (1, .int x1), (4, .int (0 : Int32))] [] (jx_set (jx_set h b1 e2) b3 e4)
    else
      (jx_sI (jx_at (jx_set h b1 e2) b3) 0 x1 x3).bind fun e5 =>
      jb_193 rc d 51 [(0, .ref a0), (1, .int x1), (4, .int (0 : Int32))] [] (jx_set (jx_set h b1 e2) b3 e5)
  else
    if x3 ≤ (24 : Int32) then
      (jx_gR (jx_at h a0) 12 32).bind fun b6 =>
      (jx_sI (jx_at h b6) 0 x1 x2).bind fun e7 =>
      (jx_gR (jx_at (jx_set h b6 e7) a0) 12 33).bind fun b8 =>
      if x2 ≤ 0 then
        (jx_sI (jx_at (jx_set h b6 e7) b8) 0 x1 (0 : Int32)).bind fun e9 =>
        jb_193 rc d 51 [(0, .ref a0), (1, .int x1), (4, .int (0 : Int32))] [] (jx_set (jx_set h b6 e7) b8 e9)
      else
        (jx_sI (jx_at (jx_set h b6 e7) b8) 0 x1 x3).bind fun e10 =>
        jb_193 rc d 51 [(0, .ref a0), (1, .int x1), (4, .int (0 : Int32))] [] (jx_set (jx_set h b6 e7) b8 e10)
    else
      jx_cI (jx_C rc d 73 [.ref a0, .int (1 : Int32)] h) fun v12 h11 =>
      some (some (.int v12), h11) :=
  sorry
theorem je_193_51 (rc : Nat → Nat × (Nat → Int32)) (d : Nat) (a0 : Nat) (x1 : Int32) (x4 : Int32) (h : jxH) : jb_193 rc d 51 [(0, .ref a0), (1, .int x1), (4, .int x4)] [] h =
  if (24 : Int32) ≤ x4 then
    some (some (.int (1 : Int32)), h)
  else
    (jx_gR (jx_at h a0) 12 34).bind fun b1 =>
    (jx_sI (jx_at h b1) 0 (((24 : Int32) * x1) + x4) (0 : Int32)).bind fun e2 =>
    jb_193 rc d 51 [(0, .ref a0), (1, .int x1), (4, .int (x4 + (1 : Int32)))] [] (jx_set h b1 e2) :=
  sorry
theorem je_194 (rc : Nat → Nat × (Nat → Int32)) (d : Nat) (a0 : Nat) (x1 : Int32) (x2 : Int32) (h : jxH) : jx_C rc (d + 1) 194 [.ref a0, .int x1, .int x2] h =
  if jx_is (jx_at h a0) 12 = true then
  jx_cI (jx_C rc d 168 [.int x1] h) fun v2 h1 =>
  if v2 = 0 then
    some (some (.int (1 : Int32)), h1)
  else
    (jx_gR (jx_at h1 a0) 12 32).bind fun b3 =>
    (jx_aI (jx_at h1 b3) 0 x1).bind fun v4 =>
    if v4 = 0 then
      some (some (.int (7 : Int32)), h1)
    else
      (jx_gR (jx_at h1 a0) 12 33).bind fun b5 =>
      (jx_aI (jx_at h1 b5) 0 x1).bind fun v6 =>
      jx_cI (jx_C rc d 72 [.long (x2).toInt64, .long (0 : Int64), .long ((v6).toInt64 - (1 : Int64))] h1) fun v8 h7 =>
      if v8 = 0 then
        some (some (.int (1 : Int32)), h7)
      else
        some (some (.int (0 : Int32)), h7)
  else none :=
  sorry
theorem je_195 (rc : Nat → Nat × (Nat → Int32)) (d : Nat) (a0 : Nat) (x1 : Int32) (x2 : Int32) (x3 : Int32) (h : jxH) : jx_C rc (d + 1) 195 [.ref a0, .int x1, .int x2, .int x3] h =
  if jx_is (jx_at h a0) 12 = true then
  (jx_gR (jx_at h a0) 12 32).bind fun b1 =>
  (jx_aI (jx_at h b1) 0 x1).bind fun v2 =>
  (jx_gR (jx_at h a0) 12 34).bind fun b3 =>
  if v2 = (8 : Int32) then
    (jx_sI (jx_at h b3) 0 (((24 : Int32) * x1) + x2) ((x3).toInt8.toInt32)).bind fun e4 =>
    some (none, (jx_set h b3 e4))
  else
    if v2 = (16 : Int32) then
      (jx_sI (jx_at h b3) 0 (((24 : Int32) * x1) + x2) ((x3).toInt16.toInt32)).bind fun e5 =>
      some (none, (jx_set h b3 e5))
    else
      (jx_sI (jx_at h b3) 0 (((24 : Int32) * x1) + x2) x3).bind fun e6 =>
      some (none, (jx_set h b3 e6))
  else none :=
  sorry
theorem je_196 (rc : Nat → Nat × (Nat → Int32)) (d : Nat) (a0 : Nat) (x1 : Int32) (x2 : Int32) (x3 : Int32) (h : jxH) : jx_C rc (d + 1) 196 [.ref a0, .int x1, .int x2, .int x3] h =
  if jx_is (jx_at h a0) 12 = true then
  jx_cI (jx_C rc d 194 [.ref a0, .int x1, .int x2] h) fun v2 h1 =>
  if v2 ≤ 0 then
    jx_cV (jx_C rc d 195 [.ref a0, .int x1, .int x2, .int x3] h1) fun h3 =>
    some (some (.int (1 : Int32)), h3)
  else
    jx_cI (jx_C rc d 73 [.ref a0, .int v2] h1) fun v5 h4 =>
    some (some (.int v5), h4)
  else none :=
  sorry
theorem je_197 (rc : Nat → Nat × (Nat → Int32)) (d : Nat) (a0 : Nat) (x1 : Int32) (x2 : Int32) (h : jxH) : jx_C rc (d + 1) 197 [.ref a0, .int x1, .int x2] h =
  if jx_is (jx_at h a0) 12 = true then
  jx_cI (jx_C rc d 194 [.ref a0, .int x1, .int x2] h) fun v2 h1 =>
  if v2 ≤ 0 then
    (jx_gR (jx_at h1 a0) 12 34).bind fun b3 =>
    (jx_aI (jx_at h1 b3) 0 (((24 : Int32) * x1) + x2)).bind fun v4 =>
    some (some (.int v4), h1)
  else
    jx_cI (jx_C rc d 73 [.ref a0, .int v2] h1) fun v6 h5 =>
    some (some (.int v6), h5)
  else none :=
  sorry
noncomputable def jb_198 (rc : Nat → Nat × (Nat → Int32)) (d : Nat) (i : Nat) (ls : List (Nat × Value)) (st : List Value) (h : jxH) : jxR := none
theorem je_198 (rc : Nat → Nat × (Nat → Int32)) (d : Nat) (a0 : Nat) (x1 : Int32) (x2 : Int32) (x3 : Int32) (x4 : Int32) (x5 : Int32) (h : jxH) : jx_C rc (d + 1) 198 [.ref a0, .int x1, .int x2, .int x3, .int x4, .int x5] h =
  if jx_is (jx_at h a0) 12 = true then
  jx_cI (jx_C rc d 168 [.int x1] h) fun v2 h1 =>
  if v2 = 0 then
    jx_cI (jx_C rc d 73 [.ref a0, .int (1 : Int32)] h1) fun v4 h3 =>
    some (some (.int v4), h3)
  else
    jx_cI (jx_C rc d 168 [.int x3] h1) fun v6 h5 =>
    if v6 = 0 then
      jx_cI (jx_C rc d 73 [.ref a0, .int (1 : Int32)] h5) fun v8 h7 =>
      some (some (.int v8), h7)
    else
      (jx_gR (jx_at h5 a0) 12 32).bind fun b9 =>
      (jx_aI (jx_at h5 b9) 0 x1).bind fun v10 =>
      if v10 = 0 then
        jx_cI (jx_C rc d 73 [.ref a0, .int (7 : Int32)] h5) fun v12 h11 =>
        some (some (.int v12), h11)
      else
        (jx_gR (jx_at h5 a0) 12 32).bind fun b13 =>
        (jx_aI (jx_at h5 b13) 0 x3).bind fun v14 =>
        if v14 = 0 then
          jx_cI (jx_C rc d 73 [.ref a0, .int (7 : Int32)] h5) fun v16 h15 =>
          some (some (.int v16), h15)
        else
          (jx_gR (jx_at h5 a0) 12 32).bind fun b17 =>
          (jx_aI (jx_at h5 b17) 0 x1).bind fun v18 =>
          (jx_gR (jx_at h5 a0) 12 32).bind fun b19 =>
          (jx_aI (jx_at h5 b19) 0 x3).bind fun v20 =>
          if v18 = v20 then
            if x5 < 0 then
              jx_cI (jx_C rc d 73 [.ref a0, .int (1 : Int32)] h5) fun v22 h21 =>
              some (some (.int v22), h21)
            else
              if x2 < 0 then
                jx_cI (jx_C rc d 73 [.ref a0, .int (1 : Int32)] h5) fun v24 h23 =>
                some (some (.int v24), h23)
              else
                if x4 < 0 then
                  jx_cI (jx_C rc d 73 [.ref a0, .int (1 : Int32)] h5) fun v26 h25 =>
                  some (some (.int v26), h25)
                else
                  (jx_gR (jx_at h5 a0) 12 33).bind fun b27 =>
                  (jx_aI (jx_at h5 b27) 0 x1).bind fun v28 =>
                  if 0 < (lg_cmp ((x2).toInt64 + (x5).toInt64) (v28).toInt64) then
                    jx_cI (jx_C rc d 73 [.ref a0, .int (1 : Int32)] h5) fun v30 h29 =>
                    some (some (.int v30), h29)
                  else
                    (jx_gR (jx_at h5 a0) 12 33).bind fun b31 =>
                    (jx_aI (jx_at h5 b31) 0 x3).bind fun v32 =>
                    if (lg_cmp ((x4).toInt64 + (x5).toInt64) (v32).toInt64) ≤ 0 then
                      jb_198 rc d 73 [(0, .ref a0), (1, .int x1), (2, .int x2), (3, .int x3), (4, .int x4), (5, .int x5), (6, .int (0 : Int32))] [] h5
                    else
                      jx_cI (jx_C rc d 73 [.ref a0, .int (1 : Int32)] h5) fun v34 h33 =>
                      some (some (.int v34), h33)
          else
            jx_cI (jx_C rc d 73 [.ref a0, .int (6 : Int32)] h5) fun v36 h35 =>
            some (some (.int v36), h35)
  else none :=
  sorry
theorem je_198_73 (rc : Nat → Nat × (Nat → Int32)) (d : Nat) (a0 : Nat) (x1 : Int32) (x2 : Int32) (x3 : Int32) (x4 : Int32) (x5 : Int32) (x6 : Int32) (h : jxH) : jb_198 rc d 73 [(0, .ref a0), (1, .int x1), (2, .int x2), (3, .int x3), (4, .int x4), (5, .int x5), (6, .int x6)] [] h =
  if x5 ≤ x6 then
    jb_198 rc d 94 [(0, .ref a0), (3, .int x3), (4, .int x4), (5, .int x5), (6, .int (0 : Int32))] [] h
  else
    (jx_gR (jx_at h a0) 12 35).bind fun b1 =>
    (jx_gR (jx_at h a0) 12 34).bind fun b2 =>
    (jx_aI (jx_at h b2) 0 ((((24 : Int32) * x1) + x2) + x6)).bind fun v3 =>
    (jx_sI (jx_at h b1) 0 x6 v3).bind fun e4 =>
    jb_198 rc d 73 [(0, .ref a0), (1, .int x1), (2, .int x2), (3, .int x3), (4, .int x4), (5, .int x5), (6, .int (x6 + (1 : Int32)))] [] (jx_set h b1 e4) :=
  sorry
theorem je_198_94 (rc : Nat → Nat × (Nat → Int32)) (d : Nat) (a0 : Nat) (x3 : Int32) (x4 : Int32) (x5 : Int32) (x6 : Int32) (h : jxH) : jb_198 rc d 94 [(0, .ref a0), (3, .int x3), (4, .int x4), (5, .int x5), (6, .int x6)] [] h =
  if x5 ≤ x6 then
    some (some (.int x5), h)
  else
    (jx_gR (jx_at h a0) 12 34).bind fun b1 =>
    (jx_gR (jx_at h a0) 12 35).bind fun b2 =>
    (jx_aI (jx_at h b2) 0 x6).bind fun v3 =>
    (jx_sI (jx_at h b1) 0 ((((24 : Int32) * x3) + x4) + x6) v3).bind fun e4 =>
    jb_198 rc d 94 [(0, .ref a0), (3, .int x3), (4, .int x4), (5, .int x5), (6, .int (x6 + (1 : Int32)))] [] (jx_set h b1 e4) :=
  sorry
theorem je_199 (rc : Nat → Nat × (Nat → Int32)) (d : Nat) (a0 : Nat) (x1 : Int32) (h : jxH) : jx_C rc (d + 1) 199 [.ref a0, .int x1] h =
  if jx_is (jx_at h a0) 12 = true then
  jx_cI (jx_C rc d 168 [.int x1] h) fun v2 h1 =>
  if v2 = 0 then
    some (some (.int (1 : Int32)), h1)
  else
    (jx_gR (jx_at h1 a0) 12 32).bind fun b3 =>
    (jx_aI (jx_at h1 b3) 0 x1).bind fun v4 =>
    if v4 = 0 then
      some (some (.int (7 : Int32)), h1)
    else
      some (some (.int (0 : Int32)), h1)
  else none :=
  sorry
noncomputable def jb_200 (rc : Nat → Nat × (Nat → Int32)) (d : Nat) (i : Nat) (ls : List (Nat × Value)) (st : List Value) (h : jxH) : jxR := none
theorem je_200 (rc : Nat → Nat × (Nat → Int32)) (d : Nat) (a0 : Nat) (x1 : Int32) (h : jxH) : jx_C rc (d + 1) 200 [.ref a0, .int x1] h =
  if jx_is (jx_at h a0) 12 = true then
  jx_cI (jx_C rc d 199 [.ref a0, .int x1] h) fun v2 h1 =>
  if v2 ≤ 0 then
    jx_cV (jx_C rc d 100 [.ref a0] h1) fun h3 =>
    jb_200 rc d 14 [(0, .ref a0), (1, .int x1), (3, .int (0 : Int32))] [] h3
  else
    jx_cI (jx_C rc d 73 [.ref a0, .int v2] h1) fun v5 h4 =>
    some (some (.int v5), h4)
  else none :=
  sorry
theorem je_200_14 (rc : Nat → Nat × (Nat → Int32)) (d : Nat) (a0 : Nat) (x1 : Int32) (x3 : Int32) (h : jxH) : jb_200 rc d 14 [(0, .ref a0), (1, .int x1), (3, .int x3)] [] h =
  (jx_gR (jx_at h a0) 12 33).bind fun b1 =>
  (jx_aI (jx_at h b1) 0 x1).bind fun v2 =>
  if v2 ≤ x3 then
    some (some (.int x3), h)
  else
    jx_cI (jx_C rc d 79 [.ref a0, .int x3] h) fun v4 h3 =>
    if v4 = 0 then
      some (some (.int x3), h3)
    else
      (jx_gR (jx_at h3 a0) 12 34).bind fun b5 =>
      (jx_aI (jx_at h3 b5) 0 (((24 : Int32) * x1) + x3)).bind fun v6 =>
      jx_cI (jx_C rc d 80 [.int v6] h3) fun v8 h7 =>
      if v8 = 0 then
        some (some (.int x3), h7)
      else
        (jx_gR (jx_at h7 a0) 12 1).bind fun b9 =>
        (jx_gR (jx_at h7 a0) 12 34).bind fun b10 =>
        (jx_aI (jx_at h7 b10) 0 (((24 : Int32) * x1) + x3)).bind fun v11 =>
        (jx_sI (jx_at h7 b9) 0 ((1 : Int32) + x3) v11).bind fun e12 =>
        jb_200 rc d 14 [(0, .ref a0), (1, .int x1), (3, .int (x3 + (1 : Int32)))] [] (jx_set h7 b9 e12) :=
  sorry
noncomputable def jb_201 (rc : Nat → Nat × (Nat → Int32)) (d : Nat) (i : Nat) (ls : List (Nat × Value)) (st : List Value) (h : jxH) : jxR := none
theorem je_201 (rc : Nat → Nat × (Nat → Int32)) (d : Nat) (a0 : Nat) (x1 : Int32) (h : jxH) : jx_C rc (d + 1) 201 [.ref a0, .int x1] h =
  if jx_is (jx_at h a0) 12 = true then
  jx_cI (jx_C rc d 199 [.ref a0, .int x1] h) fun v2 h1 =>
  if v2 ≤ 0 then
    (jx_gR (jx_at h1 a0) 12 33).bind fun b3 =>
    (jx_aI (jx_at h1 b3) 0 x1).bind fun v4 =>
    if (12 : Int32) ≤ v4 then
      jb_201 rc d 25 [(0, .ref a0), (1, .int x1), (3, .int (12 : Int32)), (4, .int (0 : Int32))] [] h1
    else
      (jx_gR (jx_at h1 a0) 12 33).bind fun b5 =>
      (jx_aI (jx_at h1 b5) 0 x1).bind fun v6 =>
      jb_201 rc d 25 [(0, .ref a0), (1, .int x1), (3, .int v6), (4, .int (0 : Int32))] [] h1
  else
    jx_cI (jx_C rc d 73 [.ref a0, .int v2] h1) fun v8 h7 =>
    some (some (.int v8), h7)
  else none :=
  sorry
theorem je_201_25 (rc : Nat → Nat × (Nat → Int32)) (d : Nat) (a0 : Nat) (x1 : Int32) (x3 : Int32) (x4 : Int32) (h : jxH) : jb_201 rc d 25 [(0, .ref a0), (1, .int x1), (3, .int x3), (4, .int x4)] [] h =
  if x3 ≤ x4 then
    some (some (.int x3), h)
  else
    jx_cI (jx_C rc d 79 [.ref a0, .int x4] h) fun v2 h1 =>
    if v2 = 0 then
      jx_cV (jx_C rc d 195 [.ref a0, .int x1, .int x4, .int (99 : Int32)] h1) fun h3 =>
      jb_201 rc d 25 [(0, .ref a0), (1, .int x1), (3, .int x3), (4, .int (x4 + (1 : Int32)))] [] h3
    else
      (jx_gR (jx_at h1 a0) 12 1).bind fun b4 =>
      (jx_aI (jx_at h1 b4) 0 ((1 : Int32) + x4)).bind fun v5 =>
      jx_cV (jx_C rc d 195 [.ref a0, .int x1, .int x4, .int v5] h1) fun h6 =>
      jb_201 rc d 25 [(0, .ref a0), (1, .int x1), (3, .int x3), (4, .int (x4 + (1 : Int32)))] [] h6 :=
  sorry
noncomputable def jb_202 (rc : Nat → Nat × (Nat → Int32)) (d : Nat) (i : Nat) (ls : List (Nat × Value)) (st : List Value) (h : jxH) : jxR := none
theorem je_202 (rc : Nat → Nat × (Nat → Int32)) (d : Nat) (a0 : Nat) (x1 : Int32) (x2 : Int32) (h : jxH) : jx_C rc (d + 1) 202 [.ref a0, .int x1, .int x2] h =
  if jx_is (jx_at h a0) 12 = true then
  jx_cI (jx_C rc d 168 [.int x1] h) fun v2 h1 =>
  if v2 = 0 then
    jx_cI (jx_C rc d 73 [.ref a0, .int (1 : Int32)] h1) fun v4 h3 =>
    some (some (.int v4), h3)
  else
    jx_cI (jx_C rc d 72 [.long (x2).toInt64, .long (0 : Int64), .long (1 : Int64)] h1) fun v6 h5 =>
    if v6 = 0 then
      jx_cI (jx_C rc d 73 [.ref a0, .int (1 : Int32)] h5) fun v8 h7 =>
      some (some (.int v8), h7)
    else
      (jx_gR (jx_at h5 a0) 12 32).bind fun b9 =>
      (jx_aI (jx_at h5 b9) 0 x1).bind fun v10 =>
      if v10 = 0 then
        jx_cI (jx_C rc d 73 [.ref a0, .int (7 : Int32)] h5) fun v12 h11 =>
        some (some (.int v12), h11)
      else
        (jx_gR (jx_at h5 a0) 12 28).bind fun b13 =>
        (jx_aQ (jx_at h5 b13) 8 (0 : Int32)).bind fun o14 =>
        jx_mo o14 (fun b15 => (jx_gR (jx_at h5 a0) 12 1).bind fun b16 =>
          jx_cV (jx_C rc d 74 [.ref b16, .ref b15] h5) fun h17 =>
          jb_202 rc d 35 [(0, .ref a0), (1, .int x1), (2, .int x2), (3, .ref b15), (4, .int (0 : Int32)), (5, .int (1 : Int32))] [] h17)
        ((jx_gR (jx_at h5 a0) 12 1).bind fun b18 =>
          jx_cV (jx_C rc d 74 [.ref b18, .null] h5) fun h19 =>
          jb_202 rc d 35 [(0, .ref a0), (1, .int x1), (2, .int x2), (3, .null), (4, .int (0 : Int32)), (5, .int (1 : Int32))] [] h19)
  else none :=
  sorry
theorem je_202_35 (rc : Nat → Nat × (Nat → Int32)) (d : Nat) (a0 : Nat) (x1 : Int32) (x2 : Int32) (x4 : Int32) (x5 : Int32) (h : jxH) : jb_202 rc d 35 [(0, .ref a0), (1, .int x1), (2, .int x2), (3, .null), (4, .int x4), (5, .int x5)] [] h =
  (jx_gR (jx_at h a0) 12 33).bind fun b1 =>
  (jx_aI (jx_at h b1) 0 x1).bind fun v2 =>
  if v2 ≤ x4 then
    if x2 = 0 then
      some (some (.int x4), h)
    else
      none
  else
    if x5 = 0 then
      if x2 = 0 then
        some (some (.int x4), h)
      else
        none
    else
      (jx_gR (jx_at h a0) 12 34).bind fun b3 =>
      (jx_aI (jx_at h b3) 0 (((24 : Int32) * x1) + x4)).bind fun v4 =>
      if v4 = (600 : Int32) then
        if v4 = (600 : Int32) then
          jb_202 rc d 77 [(0, .ref a0), (1, .int x1), (2, .int x2), (3, .null), (4, .int x4), (7, .int (6 : Int32))] [.int (0 : Int32)] h
        else
          if (100 : Int32) = 0 then none else jb_202 rc d 77 [(0, .ref a0), (1, .int x1), (2, .int x2), (3, .null), (4, .int x4), (7, .int (6 : Int32))] [.int (v4 - v4 / (100 : Int32) * (100 : Int32))] h
      else
        jx_cI (jx_C rc d 72 [.long (v4).toInt64, .long (0 : Int64), .long (599 : Int64)] h) fun v6 h5 =>
        if v6 = 0 then
          if v4 = (600 : Int32) then
            jb_202 rc d 77 [(0, .ref a0), (1, .int x1), (2, .int x2), (3, .null), (4, .int x4), (7, .int (-1 : Int32))] [.int (0 : Int32)] h5
          else
            if (100 : Int32) = 0 then none else jb_202 rc d 77 [(0, .ref a0), (1, .int x1), (2, .int x2), (3, .null), (4, .int x4), (7, .int (-1 : Int32))] [.int (v4 - v4 / (100 : Int32) * (100 : Int32))] h5
        else
          if (100 : Int32) = 0 then none else if v4 = (600 : Int32) then
            jb_202 rc d 77 [(0, .ref a0), (1, .int x1), (2, .int x2), (3, .null), (4, .int x4), (7, .int (v4 / (100 : Int32)))] [.int (0 : Int32)] h5
          else
            if (100 : Int32) = 0 then none else jb_202 rc d 77 [(0, .ref a0), (1, .int x1), (2, .int x2), (3, .null), (4, .int x4), (7, .int (v4 / (100 : Int32)))] [.int (v4 - v4 / (100 : Int32) * (100 : Int32))] h5 :=
  sorry
theorem je_202_35b (rc : Nat → Nat × (Nat → Int32)) (d : Nat) (a0 : Nat) (x1 : Int32) (x2 : Int32) (a3 : Nat) (x4 : Int32) (x5 : Int32) (h : jxH) : jb_202 rc d 35 [(0, .ref a0), (1, .int x1), (2, .int x2), (3, .ref a3), (4, .int x4), (5, .int x5)] [] h =
  (jx_gR (jx_at h a0) 12 33).bind fun b1 =>
  (jx_aI (jx_at h b1) 0 x1).bind fun v2 =>
  if v2 ≤ x4 then
    if x2 = 0 then
      some (some (.int x4), h)
    else
      (jx_aI (jx_at h a3) 0 (0 : Int32)).bind fun v3 =>
      jx_cI (jx_C rc d 76 [.int v3] h) fun v5 h4 =>
      some (some (.int v5), h4)
  else
    if x5 = 0 then
      if x2 = 0 then
        some (some (.int x4), h)
      else
        (jx_aI (jx_at h a3) 0 (0 : Int32)).bind fun v6 =>
        jx_cI (jx_C rc d 76 [.int v6] h) fun v8 h7 =>
        some (some (.int v8), h7)
    else
      (jx_gR (jx_at h a0) 12 34).bind fun b9 =>
      (jx_aI (jx_at h b9) 0 (((24 : Int32) * x1) + x4)).bind fun v10 =>
      if v10 = (600 : Int32) then
        if v10 = (600 : Int32) then
          jb_202 rc d 77 [(0, .ref a0), (1, .int x1), (2, .int x2), (3, .ref a3), (4, .int x4), (7, .int (6 : Int32))] [.int (0 : Int32)] h
        else
          if (100 : Int32) = 0 then none else jb_202 rc d 77 [(0, .ref a0), (1, .int x1), (2, .int x2), (3, .ref a3), (4, .int x4), (7, .int (6 : Int32))] [.int (v10 - v10 / (100 : Int32) * (100 : Int32))] h
      else
        jx_cI (jx_C rc d 72 [.long (v10).toInt64, .long (0 : Int64), .long (599 : Int64)] h) fun v12 h11 =>
        if v12 = 0 then
          if v10 = (600 : Int32) then
            jb_202 rc d 77 [(0, .ref a0), (1, .int x1), (2, .int x2), (3, .ref a3), (4, .int x4), (7, .int (-1 : Int32))] [.int (0 : Int32)] h11
          else
            if (100 : Int32) = 0 then none else jb_202 rc d 77 [(0, .ref a0), (1, .int x1), (2, .int x2), (3, .ref a3), (4, .int x4), (7, .int (-1 : Int32))] [.int (v10 - v10 / (100 : Int32) * (100 : Int32))] h11
        else
          if (100 : Int32) = 0 then none else if v10 = (600 : Int32) then
            jb_202 rc d 77 [(0, .ref a0), (1, .int x1), (2, .int x2), (3, .ref a3), (4, .int x4), (7, .int (v10 / (100 : Int32)))] [.int (0 : Int32)] h11
          else
            if (100 : Int32) = 0 then none else jb_202 rc d 77 [(0, .ref a0), (1, .int x1), (2, .int x2), (3, .ref a3), (4, .int x4), (7, .int (v10 / (100 : Int32)))] [.int (v10 - v10 / (100 : Int32) * (100 : Int32))] h11 :=
  sorry
theorem je_202_77 (rc : Nat → Nat × (Nat → Int32)) (d : Nat) (a0 : Nat) (x1 : Int32) (x2 : Int32) (x4 : Int32) (x7 : Int32) (s0 : Int32) (h : jxH) : jb_202 rc d 77 [(0, .ref a0), (1, .int x1), (2, .int x2), (3, .null), (4, .int x4), (7, .int x7)] [.int s0] h =
  if x7 = 0 then
    jb_202 rc d 89 [(0, .ref a0), (1, .int x1), (2, .int x2), (3, .null), (4, .int x4), (7, .int x7), (8, .int s0)] [] h
  else
    if x7 = (4 : Int32) then
      jb_202 rc d 89 [(0, .ref a0), (1, .int x1), (2, .int x2), (3, .null), (4, .int x4), (7, .int x7), (8, .int s0)] [] h
    else
      if x7 = (5 : Int32) then
        jb_202 rc d 89 [(0, .ref a0), (1, .int x1), (2, .int x2), (3, .null), (4, .int x4), (7, .int x7), (8, .int s0)] [] h
      else
        if x7 = (6 : Int32) then
          jb_202 rc d 89 [(0, .ref a0), (1, .int x1), (2, .int x2), (3, .null), (4, .int x4), (7, .int x7), (8, .int s0)] [] h
        else
          if (0 : Int32) = 0 then
            jb_202 rc d 35 [(0, .ref a0), (1, .int x1), (2, .int x2), (3, .null), (4, .int x4), (5, .int (0 : Int32))] [] h
          else
            jx_cV (jx_C rc d 99 [.null, .int x7, .int s0, .int (0 : Int32), .int (0 : Int32), .int (0 : Int32)] h) fun h1 =>
            jb_202 rc d 35 [(0, .ref a0), (1, .int x1), (2, .int x2), (3, .null), (4, .int (x4 + (1 : Int32))), (5, .int (0 : Int32))] [] h1 :=
  sorry
theorem je_202_77b (rc : Nat → Nat × (Nat → Int32)) (d : Nat) (a0 : Nat) (x1 : Int32) (x2 : Int32) (a3 : Nat) (x4 : Int32) (x7 : Int32) (s0 : Int32) (h : jxH) : jb_202 rc d 77 [(0, .ref a0), (1, .int x1), (2, .int x2), (3, .ref a3), (4, .int x4), (7, .int x7)] [.int s0] h =
  if x7 = 0 then
    jb_202 rc d 89 [(0, .ref a0), (1, .int x1), (2, .int x2), (3, .ref a3), (4, .int x4), (7, .int x7), (8, .int s0)] [] h
  else
    if x7 = (4 : Int32) then
      jb_202 rc d 89 [(0, .ref a0), (1, .int x1), (2, .int x2), (3, .ref a3), (4, .int x4), (7, .int x7), (8, .int s0)] [] h
    else
      if x7 = (5 : Int32) then
        jb_202 rc d 89 [(0, .ref a0), (1, .int x1), (2, .int x2), (3, .ref a3), (4, .int x4), (7, .int x7), (8, .int s0)] [] h
      else
        if x7 = (6 : Int32) then
          jb_202 rc d 89 [(0, .ref a0), (1, .int x1), (2, .int x2), (3, .ref a3), (4, .int x4), (7, .int x7), (8, .int s0)] [] h
        else
          if (0 : Int32) = 0 then
            jb_202 rc d 35 [(0, .ref a0), (1, .int x1), (2, .int x2), (3, .ref a3), (4, .int x4), (5, .int (0 : Int32))] [] h
          else
            jx_cV (jx_C rc d 99 [.ref a3, .int x7, .int s0, .int (0 : Int32), .int (0 : Int32), .int (0 : Int32)] h) fun h1 =>
            jb_202 rc d 35 [(0, .ref a0), (1, .int x1), (2, .int x2), (3, .ref a3), (4, .int (x4 + (1 : Int32))), (5, .int (0 : Int32))] [] h1 :=
  sorry
theorem je_202_89 (rc : Nat → Nat × (Nat → Int32)) (d : Nat) (a0 : Nat) (x1 : Int32) (x2 : Int32) (x4 : Int32) (x7 : Int32) (x8 : Int32) (h : jxH) : jb_202 rc d 89 [(0, .ref a0), (1, .int x1), (2, .int x2), (3, .null), (4, .int x4), (7, .int x7), (8, .int x8)] [] h =
  jx_cI (jx_C rc d 93 [.null, .int x7, .int x8, .int (0 : Int32), .int (0 : Int32), .int (0 : Int32)] h) fun v2 h1 =>
  if v2 = 0 then
    if (1 : Int32) = 0 then
      jb_202 rc d 35 [(0, .ref a0), (1, .int x1), (2, .int x2), (3, .null), (4, .int x4), (5, .int (1 : Int32))] [] h1
    else
      jx_cV (jx_C rc d 99 [.null, .int x7, .int x8, .int (0 : Int32), .int (0 : Int32), .int (0 : Int32)] h1) fun h3 =>
      jb_202 rc d 35 [(0, .ref a0), (1, .int x1), (2, .int x2), (3, .null), (4, .int (x4 + (1 : Int32))), (5, .int (1 : Int32))] [] h3
  else
    if (0 : Int32) = 0 then
      jb_202 rc d 35 [(0, .ref a0), (1, .int x1), (2, .int x2), (3, .null), (4, .int x4), (5, .int (0 : Int32))] [] h1
    else
      jx_cV (jx_C rc d 99 [.null, .int x7, .int x8, .int (0 : Int32), .int (0 : Int32), .int (0 : Int32)] h1) fun h4 =>
      jb_202 rc d 35 [(0, .ref a0), (1, .int x1), (2, .int x2), (3, .null), (4, .int (x4 + (1 : Int32))), (5, .int (0 : Int32))] [] h4 :=
  sorry
theorem je_202_89b (rc : Nat → Nat × (Nat → Int32)) (d : Nat) (a0 : Nat) (x1 : Int32) (x2 : Int32) (a3 : Nat) (x4 : Int32) (x7 : Int32) (x8 : Int32) (h : jxH) : jb_202 rc d 89 [(0, .ref a0), (1, .int x1), (2, .int x2), (3, .ref a3), (4, .int x4), (7, .int x7), (8, .int x8)] [] h =
  jx_cI (jx_C rc d 93 [.ref a3, .int x7, .int x8, .int (0 : Int32), .int (0 : Int32), .int (0 : Int32)] h) fun v2 h1 =>
  if v2 = 0 then
    if (1 : Int32) = 0 then
      jb_202 rc d 35 [(0, .ref a0), (1, .int x1), (2, .int x2), (3, .ref a3), (4, .int x4), (5, .int (1 : Int32))] [] h1
    else
      jx_cV (jx_C rc d 99 [.ref a3, .int x7, .int x8, .int (0 : Int32), .int (0 : Int32), .int (0 : Int32)] h1) fun h3 =>
      jb_202 rc d 35 [(0, .ref a0), (1, .int x1), (2, .int x2), (3, .ref a3), (4, .int (x4 + (1 : Int32))), (5, .int (1 : Int32))] [] h3
  else
    if (0 : Int32) = 0 then
      jb_202 rc d 35 [(0, .ref a0), (1, .int x1), (2, .int x2), (3, .ref a3), (4, .int x4), (5, .int (0 : Int32))] [] h1
    else
      jx_cV (jx_C rc d 99 [.ref a3, .int x7, .int x8, .int (0 : Int32), .int (0 : Int32), .int (0 : Int32)] h1) fun h4 =>
      jb_202 rc d 35 [(0, .ref a0), (1, .int x1), (2, .int x2), (3, .ref a3), (4, .int (x4 + (1 : Int32))), (5, .int (0 : Int32))] [] h4 :=
  sorry
noncomputable def jb_203 (rc : Nat → Nat × (Nat → Int32)) (d : Nat) (i : Nat) (ls : List (Nat × Value)) (st : List Value) (h : jxH) : jxR := none
theorem je_203 (rc : Nat → Nat × (Nat → Int32)) (d : Nat) (a0 : Nat) (h : jxH) : jx_C rc (d + 1) 203 [.ref a0] h =
  if jx_is (jx_at h a0) 12 = true then
  (jx_gR (jx_at h a0) 12 1).bind fun b1 =>
  (jx_gR (jx_at h a0) 12 36).bind fun b2 =>
  jx_cV (jx_C rc d 74 [.ref b1, .ref b2] h) fun h3 =>
  jb_203 rc d 7 [(0, .ref a0), (1, .int (0 : Int32))] [] h3
  else none :=
  sorry
theorem je_203_7 (rc : Nat → Nat × (Nat → Int32)) (d : Nat) (a0 : Nat) (x1 : Int32) (h : jxH) : jb_203 rc d 7 [(0, .ref a0), (1, .int x1)] [] h =
  if (18 : Int32) ≤ x1 then
    (jx_gI (jx_at h a0) 12 27).bind fun v1 =>
    (jx_pF (jx_at h a0) 12 38 (.int v1)).bind fun e2 =>
    if jx_bool (1 : Int32) = true then (jx_pF (jx_at (jx_set h a0 e2) a0) 12 39 (.int (1 : Int32))).bind fun e3 =>
    (jx_gR (jx_at (jx_set (jx_set h a0 e2) a0 e3) a0) 12 1).bind fun b4 =>
    (jx_aI (jx_at (jx_set (jx_set h a0 e2) a0 e3) b4) 0 (0 : Int32)).bind fun v5 =>
    jx_cI (jx_C rc d 76 [.int v5] (jx_set (jx_set h a0 e2) a0 e3)) fun v7 h6 =>
    some (some (.int v7), h6) else none
  else
    (jx_gR (jx_at h a0) 12 37).bind fun b8 =>
    (jx_gR (jx_at h a0) 12 26).bind fun b9 =>
    (jx_aI (jx_at h b9) 0 x1).bind fun v10 =>
    (jx_sI (jx_at h b8) 0 x1 v10).bind fun e11 =>
    jb_203 rc d 7 [(0, .ref a0), (1, .int (x1 + (1 : Int32)))] [] (jx_set h b8 e11) :=
  sorry
noncomputable def jb_204 (rc : Nat → Nat × (Nat → Int32)) (d : Nat) (i : Nat) (ls : List (Nat × Value)) (st : List Value) (h : jxH) : jxR := none
theorem je_204 (rc : Nat → Nat × (Nat → Int32)) (d : Nat) (a0 : Nat) (h : jxH) : jx_C rc (d + 1) 204 [.ref a0] h =
  if jx_is (jx_at h a0) 12 = true then
  (jx_gI (jx_at h a0) 12 39).bind fun v1 =>
  if v1 = 0 then
    jx_cI (jx_C rc d 73 [.ref a0, .int (2 : Int32)] h) fun v3 h2 =>
    some (some (.int v3), h2)
  else
    jx_cV (jx_C rc d 100 [.ref a0] h) fun h4 =>
    (jx_gR (jx_at h4 a0) 12 36).bind fun b5 =>
    (jx_gR (jx_at h4 a0) 12 1).bind fun b6 =>
    jx_cV (jx_C rc d 74 [.ref b5, .ref b6] h4) fun h7 =>
    jb_204 rc d 16 [(0, .ref a0), (1, .int (0 : Int32))] [] h7
  else none :=
  sorry
theorem je_204_16 (rc : Nat → Nat × (Nat → Int32)) (d : Nat) (a0 : Nat) (x1 : Int32) (h : jxH) : jb_204 rc d 16 [(0, .ref a0), (1, .int x1)] [] h =
  if (18 : Int32) ≤ x1 then
    (jx_gI (jx_at h a0) 12 38).bind fun v1 =>
    (jx_pF (jx_at h a0) 12 27 (.int v1)).bind fun e2 =>
    (jx_gR (jx_at (jx_set h a0 e2) a0) 12 1).bind fun b3 =>
    (jx_aI (jx_at (jx_set h a0 e2) b3) 0 (0 : Int32)).bind fun v4 =>
    jx_cI (jx_C rc d 76 [.int v4] (jx_set h a0 e2)) fun v6 h5 =>
    some (some (.int v6), h5)
  else
    (jx_gR (jx_at h a0) 12 26).bind fun b7 =>
    (jx_gR (jx_at h a0) 12 37).bind fun b8 =>
    (jx_aI (jx_at h b8) 0 x1).bind fun v9 =>
    (jx_sI (jx_at h b7) 0 x1 v9).bind fun e10 =>
    jb_204 rc d 16 [(0, .ref a0), (1, .int (x1 + (1 : Int32)))] [] (jx_set h b7 e10) :=
  sorry
noncomputable def jb_205 (rc : Nat → Nat × (Nat → Int32)) (d : Nat) (i : Nat) (ls : List (Nat × Value)) (st : List Value) (h : jxH) : jxR := none
theorem je_205 (rc : Nat → Nat × (Nat → Int32)) (d : Nat) (a0 : Nat) (h : jxH) : jx_C rc (d + 1) 205 [.ref a0] h =
  if jx_is (jx_at h a0) 12 = true then
  jb_205 rc d 4 [(0, .ref a0), (1, .int (0 : Int32)), (2, .int (0 : Int32))] [] h
  else none :=
  sorry
theorem je_205_4 (rc : Nat → Nat × (Nat → Int32)) (d : Nat) (a0 : Nat) (x1 : Int32) (x2 : Int32) (h : jxH) : jb_205 rc d 4 [(0, .ref a0), (1, .int x1), (2, .int x2)] [] h =
  if (12 : Int32) ≤ x2 then
    if (2 : Int32) = 0 then none else some (some (.int (x1 / (2 : Int32))), h)
  else
    (jx_gR (jx_at h a0) 12 1).bind fun b1 =>
    (jx_aI (jx_at h b1) 0 ((13 : Int32) + x2)).bind fun v2 =>
    jx_cI (jx_C rc d 76 [.int v2] h) fun v4 h3 =>
    jb_205 rc d 4 [(0, .ref a0), (1, .int (x1 + v4)), (2, .int (x2 + (1 : Int32)))] [] h3 :=
  sorry
noncomputable def jb_206 (rc : Nat → Nat × (Nat → Int32)) (d : Nat) (i : Nat) (ls : List (Nat × Value)) (st : List Value) (h : jxH) : jxR := none
theorem je_206 (rc : Nat → Nat × (Nat → Int32)) (d : Nat) (a0 : Nat) (h : jxH) : jx_C rc (d + 1) 206 [.ref a0] h =
  if jx_is (jx_at h a0) 12 = true then
  jb_206 rc d 4 [(0, .ref a0), (1, .int (0 : Int32)), (2, .int (0 : Int32))] [] h
  else none :=
  sorry
theorem je_206_4 (rc : Nat → Nat × (Nat → Int32)) (d : Nat) (a0 : Nat) (x1 : Int32) (x2 : Int32) (h : jxH) : jb_206 rc d 4 [(0, .ref a0), (1, .int x1), (2, .int x2)] [] h =
  if (4 : Int32) ≤ x2 then
    some (some (.int x1), h)
  else
    (jx_gR (jx_at h a0) 12 23).bind fun b1 =>
    (jx_aI (jx_at h b1) 3 x2).bind fun v2 =>
    if v2 = 0 then
      jb_206 rc d 4 [(0, .ref a0), (1, .int (x1 + (0 : Int32))), (2, .int (x2 + (1 : Int32)))] [] h
    else
      jb_206 rc d 4 [(0, .ref a0), (1, .int (x1 + (1 : Int32))), (2, .int (x2 + (1 : Int32)))] [] h :=
  sorry
noncomputable def jb_207 (rc : Nat → Nat × (Nat → Int32)) (d : Nat) (i : Nat) (ls : List (Nat × Value)) (st : List Value) (h : jxH) : jxR := none
theorem je_207 (rc : Nat → Nat × (Nat → Int32)) (d : Nat) (a0 : Nat) (h : jxH) : jx_C rc (d + 1) 207 [.ref a0] h =
  if jx_is (jx_at h a0) 12 = true then
  jb_207 rc d 4 [(0, .ref a0), (1, .int (0 : Int32)), (2, .int (0 : Int32))] [] h
  else none :=
  sorry
theorem je_207_4 (rc : Nat → Nat × (Nat → Int32)) (d : Nat) (a0 : Nat) (x1 : Int32) (x2 : Int32) (h : jxH) : jb_207 rc d 4 [(0, .ref a0), (1, .int x1), (2, .int x2)] [] h =
  (jx_gI (jx_at h a0) 12 27).bind fun v1 =>
  if v1 ≤ x2 then
    some (some (.int x1), h)
  else
    (jx_gR (jx_at h a0) 12 26).bind fun b2 =>
    (jx_aI (jx_at h b2) 0 (((3 : Int32) * x2) + (2 : Int32))).bind fun v3 =>
    jb_207 rc d 4 [(0, .ref a0), (1, .int (x1 + v3)), (2, .int (x2 + (1 : Int32)))] [] h :=
  sorry
theorem je_208 (rc : Nat → Nat × (Nat → Int32)) (d : Nat) (a0 : Nat) (x1 : Int32) (h : jxH) : jx_C rc (d + 1) 208 [.ref a0, .int x1] h =
  if jx_is (jx_at h a0) 12 = true then
  if x1 = (0 : Int32) then
    (jx_gR (jx_at h a0) 12 1).bind fun b1 =>
    (jx_aI (jx_at h b1) 0 (0 : Int32)).bind fun v2 =>
    jx_cI (jx_C rc d 76 [.int v2] h) fun v4 h3 =>
    some (some (.int v4), h3)
  else if x1 = ((0 : Int32) + 1) then
    (jx_gR (jx_at h a0) 12 1).bind fun b5 =>
    jx_cI (jx_C rc d 86 [.ref b5] h) fun v7 h6 =>
    some (some (.int v7), h6)
  else if x1 = (((0 : Int32) + 1) + 1) then
    jx_cI (jx_C rc d 205 [.ref a0] h) fun v9 h8 =>
    some (some (.int v9), h8)
  else if x1 = ((((0 : Int32) + 1) + 1) + 1) then
    (jx_gR (jx_at h a0) 12 1).bind fun b10 =>
    jx_cI (jx_C rc d 186 [.ref b10] h) fun v12 h11 =>
    some (some (.int v12), h11)
  else if x1 = (((((0 : Int32) + 1) + 1) + 1) + 1) then
    (jx_gI (jx_at h a0) 12 4).bind fun v13 =>
    some (some (.int v13), h)
  else if x1 = ((((((0 : Int32) + 1) + 1) + 1) + 1) + 1) then
    (jx_gI (jx_at h a0) 12 5).bind fun v14 =>
    (jx_gI (jx_at h a0) 12 4).bind fun v15 =>
    some (some (.int (v14 - v15)), h)
  else if x1 = (((((((0 : Int32) + 1) + 1) + 1) + 1) + 1) + 1) then
    (jx_gI (jx_at h a0) 12 27).bind fun v16 =>
    some (some (.int v16), h)
  else if x1 = ((((((((0 : Int32) + 1) + 1) + 1) + 1) + 1) + 1) + 1) then
    (jx_gI (jx_at h a0) 12 11).bind fun v17 =>
    some (some (.int v17), h)
  else if x1 = (((((((((0 : Int32) + 1) + 1) + 1) + 1) + 1) + 1) + 1) + 1) then
    jx_cI (jx_C rc d 206 [.ref a0] h) fun v19 h18 =>
    some (some (.int v19), h18)
  else if x1 = ((((((((((0 : Int32) + 1) + 1) + 1) + 1) + 1) + 1) + 1) + 1) + 1) then
    jx_cI (jx_C rc d 207 [.ref a0] h) fun v21 h20 =>
    some (some (.int v21), h20)
  else 
    jx_cI (jx_C rc d 73 [.ref a0, .int (1 : Int32)] h) fun v23 h22 =>
    some (some (.int v23), h22)
  else none :=
  sorry
theorem je_209 (rc : Nat → Nat × (Nat → Int32)) (d : Nat) (a0 : Nat) (x1 : Int32) (h : jxH) : jx_C rc (d + 1) 209 [.ref a0, .int x1] h =
  if jx_is (jx_at h a0) 12 = true then
  jx_cI (jx_C rc d 72 [.long (x1).toInt64, .long (1 : Int64), .long (7 : Int64)] h) fun v2 h1 =>
  if v2 = 0 then
    jx_cI (jx_C rc d 73 [.ref a0, .int (1 : Int32)] h1) fun v4 h3 =>
    some (some (.int v4), h3)
  else
    (jx_gR (jx_at h1 a0) 12 0).bind fun b5 =>
    (jx_aI (jx_at h1 b5) 0 x1).bind fun v6 =>
    some (some (.int v6), h1)
  else none :=
  sorry
theorem je_210 (rc : Nat → Nat × (Nat → Int32)) (d : Nat) (a0 : Nat) (h : jxH) : jx_C rc (d + 1) 210 [.ref a0] h =
  if jx_is (jx_at h a0) 0 = true then
  if (6 : Int32) < 0 ∨ 5000 < (6 : Int32) then none else
  (jx_pF (jx_at (jx_new h ((6 : Int32)).toNatClampNeg (jx_arr 0 ((6 : Int32)).toNatClampNeg)) a0) 0 0 (.ref h.1)).bind fun e1 =>
  if (6 : Int32) < 0 ∨ 5000 < (6 : Int32) then none else
  (jx_pF (jx_at (jx_new (jx_set (jx_new h ((6 : Int32)).toNatClampNeg (jx_arr 0 ((6 : Int32)).toNatClampNeg)) a0 e1) ((6 : Int32)).toNatClampNeg (jx_arr 0 ((6 : Int32)).toNatClampNeg)) a0) 0 1 (.ref (jx_set (jx_new h ((6 : Int32)).toNatClampNeg (jx_arr 0 ((6 : Int32)).toNatClampNeg)) a0 e1).1)).bind fun e2 =>
  if (6 : Int32) < 0 ∨ 5000 < (6 : Int32) then none else
  (jx_pF (jx_at (jx_new (jx_set (jx_new (jx_set (jx_new h ((6 : Int32)).toNatClampNeg (jx_arr 0 ((6 : Int32)).toNatClampNeg)) a0 e1) ((6 : Int32)).toNatClampNeg (jx_arr 0 ((6 : Int32)).toNatClampNeg)) a0 e2) ((6 : Int32)).toNatClampNeg (jx_arr 0 ((6 : Int32)).toNatClampNeg)) a0) 0 2 (.ref (jx_set (jx_new (jx_set (jx_new h ((6 : Int32)).toNatClampNeg (jx_arr 0 ((6 : Int32)).toNatClampNeg)) a0 e1) ((6 : Int32)).toNatClampNeg (jx_arr 0 ((6 : Int32)).toNatClampNeg)) a0 e2).1)).bind fun e3 =>
  some (none, (jx_set (jx_new (jx_set (jx_new (jx_set (jx_new h ((6 : Int32)).toNatClampNeg (jx_arr 0 ((6 : Int32)).toNatClampNeg)) a0 e1) ((6 : Int32)).toNatClampNeg (jx_arr 0 ((6 : Int32)).toNatClampNeg)) a0 e2) ((6 : Int32)).toNatClampNeg (jx_arr 0 ((6 : Int32)).toNatClampNeg)) a0 e3))
  else none :=
  sorry
theorem je_211 (rc : Nat → Nat × (Nat → Int32)) (d : Nat) (a0 : Nat) (a1 : Nat) (h : jxH) : jx_C rc (d + 1) 211 [.ref a0, .ref a1] h =
  if jx_is (jx_at h a0) 0 = true then
  (jx_gR (jx_at h a1) 0 0).bind fun b1 =>
  (jx_gR (jx_at h a0) 0 0).bind fun b2 =>
  (jx_cp (jx_at h b1) (jx_at h b2) 0 (0 : Int32) (0 : Int32) (6 : Int32)).bind fun e3 =>
  (jx_gR (jx_at (jx_set h b2 e3) a1) 0 1).bind fun b4 =>
  (jx_gR (jx_at (jx_set h b2 e3) a0) 0 1).bind fun b5 =>
  (jx_cp (jx_at (jx_set h b2 e3) b4) (jx_at (jx_set h b2 e3) b5) 0 (0 : Int32) (0 : Int32) (6 : Int32)).bind fun e6 =>
  (jx_gR (jx_at (jx_set (jx_set h b2 e3) b5 e6) a1) 0 2).bind fun b7 =>
  (jx_gR (jx_at (jx_set (jx_set h b2 e3) b5 e6) a0) 0 2).bind fun b8 =>
  (jx_cp (jx_at (jx_set (jx_set h b2 e3) b5 e6) b7) (jx_at (jx_set (jx_set h b2 e3) b5 e6) b8) 0 (0 : Int32) (0 : Int32) (6 : Int32)).bind fun e9 =>
  (jx_gI (jx_at (jx_set (jx_set (jx_set h b2 e3) b5 e6) b8 e9) a1) 0 3).bind fun v10 =>
  (jx_pF (jx_at (jx_set (jx_set (jx_set h b2 e3) b5 e6) b8 e9) a0) 0 3 (.int v10)).bind fun e11 =>
  some (none, (jx_set (jx_set (jx_set (jx_set h b2 e3) b5 e6) b8 e9) a0 e11))
  else none :=
  sorry
theorem je_212 (rc : Nat → Nat × (Nat → Int32)) (d : Nat) (a0 : Nat) (x1 : Int32) (h : jxH) : jx_C rc (d + 1) 212 [.ref a0, .int x1] h =
  if jx_is (jx_at h a0) 0 = true then
  if x1 < 0 then
    if jx_bool (0 : Int32) = true then some (some (.int (0 : Int32)), h) else none
  else
    (jx_gI (jx_at h a0) 0 3).bind fun v1 =>
    if v1 ≤ x1 then
      if jx_bool (0 : Int32) = true then some (some (.int (0 : Int32)), h) else none
    else
      if (6 : Int32) ≤ x1 then
        if jx_bool (0 : Int32) = true then some (some (.int (0 : Int32)), h) else none
      else
        if jx_bool (1 : Int32) = true then some (some (.int (1 : Int32)), h) else none
  else none :=
  sorry
theorem je_213 (rc : Nat → Nat × (Nat → Int32)) (d : Nat) (a0 : Nat) (x1 : Int32) (x2 : Int32) (h : jxH) : jx_C rc (d + 1) 213 [.ref a0, .int x1, .int x2] h =
  if jx_is (jx_at h a0) 0 = true then
  (jx_gI (jx_at h a0) 0 3).bind fun v1 =>
  if v1 < 0 then
    some (some (.int (-1 : Int32)), h)
  else
    (jx_gI (jx_at h a0) 0 3).bind fun v2 =>
    if v2 < (6 : Int32) then
      (jx_gR (jx_at h a0) 0 0).bind fun b3 =>
      (jx_gI (jx_at h a0) 0 3).bind fun v4 =>
      (jx_sI (jx_at h b3) 0 v4 x1).bind fun e5 =>
      (jx_gR (jx_at (jx_set h b3 e5) a0) 0 1).bind fun b6 =>
      (jx_gI (jx_at (jx_set h b3 e5) a0) 0 3).bind fun v7 =>
      (jx_sI (jx_at (jx_set h b3 e5) b6) 0 v7 x2).bind fun e8 =>
      (jx_gR (jx_at (jx_set (jx_set h b3 e5) b6 e8) a0) 0 2).bind fun b9 =>
      (jx_gI (jx_at (jx_set (jx_set h b3 e5) b6 e8) a0) 0 3).bind fun v10 =>
      (jx_sI (jx_at (jx_set (jx_set h b3 e5) b6 e8) b9) 0 v10 (0 : Int32)).bind fun e11 =>
      (jx_gI (jx_at (jx_set (jx_set (jx_set h b3 e5) b6 e8) b9 e11) a0) 0 3).bind fun v12 =>
      (jx_pF (jx_at (jx_set (jx_set (jx_set h b3 e5) b6 e8) b9 e11) a0) 0 3 (.int (v12 + (1 : Int32)))).bind fun e13 =>
      (jx_gI (jx_at (jx_set (jx_set (jx_set (jx_set h b3 e5) b6 e8) b9 e11) a0 e13) a0) 0 3).bind fun v14 =>
      some (some (.int (v14 - (1 : Int32))), (jx_set (jx_set (jx_set (jx_set h b3 e5) b6 e8) b9 e11) a0 e13))
    else
      some (some (.int (-1 : Int32)), h)
  else none :=
  sorry
theorem je_214 (rc : Nat → Nat × (Nat → Int32)) (d : Nat) (a0 : Nat) (x1 : Int32) (x2 : Int32) (h : jxH) : jx_C rc (d + 1) 214 [.ref a0, .int x1, .int x2] h =
  if jx_is (jx_at h a0) 0 = true then
  jx_cI (jx_C rc d 212 [.ref a0, .int x1] h) fun v2 h1 =>
  if v2 = 0 then
    some (none, h1)
  else
    (jx_gR (jx_at h1 a0) 0 0).bind fun b3 =>
    (jx_sI (jx_at h1 b3) 0 x1 x2).bind fun e4 =>
    some (none, (jx_set h1 b3 e4))
  else none :=
  sorry
theorem je_215 (rc : Nat → Nat × (Nat → Int32)) (d : Nat) (a0 : Nat) (x1 : Int32) (x2 : Int32) (h : jxH) : jx_C rc (d + 1) 215 [.ref a0, .int x1, .int x2] h =
  if jx_is (jx_at h a0) 0 = true then
  jx_cI (jx_C rc d 212 [.ref a0, .int x1] h) fun v2 h1 =>
  if v2 = 0 then
    some (none, h1)
  else
    (jx_gR (jx_at h1 a0) 0 2).bind fun b3 =>
    (jx_gR (jx_at h1 a0) 0 2).bind fun b4 =>
    (jx_aI (jx_at h1 b4) 0 x1).bind fun v5 =>
    jx_cI (jx_C rc d 331 [.int (9999 : Int32), .int (v5 + x2)] h1) fun v7 h6 =>
    (jx_sI (jx_at h6 b3) 0 x1 v7).bind fun e8 =>
    some (none, (jx_set h6 b3 e8))
  else none :=
  sorry
theorem je_216 (rc : Nat → Nat × (Nat → Int32)) (d : Nat) (a0 : Nat) (x1 : Int32) (h : jxH) : jx_C rc (d + 1) 216 [.ref a0, .int x1] h =
  if jx_is (jx_at h a0) 0 = true then
  jx_cI (jx_C rc d 212 [.ref a0, .int x1] h) fun v2 h1 =>
  if v2 = 0 then
    some (some (.int (0 : Int32)), h1)
  else
    (jx_gR (jx_at h1 a0) 0 0).bind fun b3 =>
    (jx_aI (jx_at h1 b3) 0 x1).bind fun v4 =>
    some (some (.int v4), h1)
  else none :=
  sorry
theorem je_217 (rc : Nat → Nat × (Nat → Int32)) (d : Nat) (a0 : Nat) (x1 : Int32) (h : jxH) : jx_C rc (d + 1) 217 [.ref a0, .int x1] h =
  if jx_is (jx_at h a0) 0 = true then
  jx_cI (jx_C rc d 212 [.ref a0, .int x1] h) fun v2 h1 =>
  if v2 = 0 then
    some (some (.int (0 : Int32)), h1)
  else
    (jx_gR (jx_at h1 a0) 0 1).bind fun b3 =>
    (jx_aI (jx_at h1 b3) 0 x1).bind fun v4 =>
    some (some (.int v4), h1)
  else none :=
  sorry
theorem je_218 (rc : Nat → Nat × (Nat → Int32)) (d : Nat) (a0 : Nat) (x1 : Int32) (h : jxH) : jx_C rc (d + 1) 218 [.ref a0, .int x1] h =
  if jx_is (jx_at h a0) 0 = true then
  jx_cI (jx_C rc d 212 [.ref a0, .int x1] h) fun v2 h1 =>
  if v2 = 0 then
    some (some (.int (0 : Int32)), h1)
  else
    (jx_gR (jx_at h1 a0) 0 2).bind fun b3 =>
    (jx_aI (jx_at h1 b3) 0 x1).bind fun v4 =>
    some (some (.int v4), h1)
  else none :=
  sorry
noncomputable def jb_219 (rc : Nat → Nat × (Nat → Int32)) (d : Nat) (i : Nat) (ls : List (Nat × Value)) (st : List Value) (h : jxH) : jxR := none
theorem je_219 (rc : Nat → Nat × (Nat → Int32)) (d : Nat) (a0 : Nat) (h : jxH) : jx_C rc (d + 1) 219 [.ref a0] h =
  if jx_is (jx_at h a0) 0 = true then
  jb_219 rc d 4 [(0, .ref a0), (1, .int (0 : Int32)), (2, .int (0 : Int32))] [] h
  else none :=
  sorry
theorem je_219_4 (rc : Nat → Nat × (Nat → Int32)) (d : Nat) (a0 : Nat) (x1 : Int32) (x2 : Int32) (h : jxH) : jb_219 rc d 4 [(0, .ref a0), (1, .int x1), (2, .int x2)] [] h =
  if (6 : Int32) ≤ x2 then
    some (some (.int x1), h)
  else
    jx_cI (jx_C rc d 218 [.ref a0, .int x2] h) fun v2 h1 =>
    jb_219 rc d 4 [(0, .ref a0), (1, .int (x1 + v2)), (2, .int (x2 + (1 : Int32)))] [] h1 :=
  sorry
noncomputable def jb_220 (rc : Nat → Nat × (Nat → Int32)) (d : Nat) (i : Nat) (ls : List (Nat × Value)) (st : List Value) (h : jxH) : jxR := none
theorem je_220 (rc : Nat → Nat × (Nat → Int32)) (d : Nat) (x0 : Int32) (x1 : Int32) (h : jxH) : jx_C rc (d + 1) 220 [.int x0, .int x1] h =
  jb_220 rc d 4 [(1, .int x1), (2, .int x0), (3, .int (0 : Int32))] [] h :=
  sorry
theorem je_220_4 (rc : Nat → Nat × (Nat → Int32)) (d : Nat) (x1 : Int32) (x2 : Int32) (x3 : Int32) (h : jxH) : jb_220 rc d 4 [(1, .int x1), (2, .int x2), (3, .int x3)] [] h =
  if (6 : Int32) ≤ x3 then
    if jx_bool (0 : Int32) = true then some (some (.int (0 : Int32)), h) else none
  else
    jx_cI (jx_C rc d 64 [.int x2] h) fun v2 h1 =>
    if v2 = 0 then
      if jx_bool (0 : Int32) = true then some (some (.int (0 : Int32)), h1) else none
    else
      if x2 = x1 then
        if jx_bool (1 : Int32) = true then some (some (.int (1 : Int32)), h1) else none
      else
        if jx_out x2 (rc 3).1 = true then none else
        jb_220 rc d 4 [(1, .int x1), (2, .int ((rc 3).2 (x2).toNatClampNeg)), (3, .int (x3 + (1 : Int32)))] [] h1 :=
  sorry
theorem je_221 (rc : Nat → Nat × (Nat → Int32)) (d : Nat) (x0 : Int32) (x1 : Int32) (h : jxH) : jx_C rc (d + 1) 221 [.int x0, .int x1] h =
  if x0 = (1 : Int32) then
    some (some (.int ((2 : Int32) * (x1 + (1 : Int32)))), h)
  else if x0 = ((1 : Int32) + 1) then
    some (some (.int (x1 + (1 : Int32))), h)
  else if x0 = (((1 : Int32) + 1) + 1) then
    some (some (.int (((2 : Int32) * (x1 + (1 : Int32))) + (5 : Int32))), h)
  else if x0 = ((((1 : Int32) + 1) + 1) + 1) then
    some (some (.int ((3 : Int32) * (x1 + (1 : Int32)))), h)
  else if x0 = (((((1 : Int32) + 1) + 1) + 1) + 1) then
    some (some (.int ((x1 + (1 : Int32)) - (4 : Int32))), h)
  else 
    some (some (.int (x1 + (1 : Int32))), h) :=
  sorry
theorem je_222 (rc : Nat → Nat × (Nat → Int32)) (d : Nat) (a0 : Nat) (a1 : Nat) (x2 : Int32) (x3 : Int32) (h : jxH) : jx_C rc (d + 1) 222 [.ref a0, .ref a1, .int x2, .int x3] h =
  if x2 = (1 : Int32) then
    jx_cI (jx_C rc d 284 [.ref a0, .ref a1, .int (0 : Int32), .int (-1 : Int32), .int x3, .int (0 : Int32), .int (2 : Int32)] h) fun v2 h1 =>
    if v2 = 0 then
      jx_cI (jx_C rc d 284 [.ref a0, .ref a1, .int (0 : Int32), .int (1 : Int32), .int x3, .int (0 : Int32), .int (2 : Int32)] h1) fun v4 h3 =>
      if v4 = 0 then
        if jx_bool (0 : Int32) = true then some (some (.int (0 : Int32)), h3) else none
      else
        if jx_bool (1 : Int32) = true then some (some (.int (1 : Int32)), h3) else none
    else
      if jx_bool (1 : Int32) = true then some (some (.int (1 : Int32)), h1) else none
  else if x2 = ((1 : Int32) + 1) then
    jx_cI (jx_C rc d 284 [.ref a0, .ref a1, .int (4 : Int32), .int (0 : Int32), .int x3, .int (0 : Int32), .int (2 : Int32)] h) fun v6 h5 =>
    if v6 = 0 then
      jx_cI (jx_C rc d 284 [.ref a0, .ref a1, .int (0 : Int32), .int (-1 : Int32), .int x3, .int (0 : Int32), .int (2 : Int32)] h5) fun v8 h7 =>
      if v8 = 0 then
        if jx_bool (0 : Int32) = true then some (some (.int (0 : Int32)), h7) else none
      else
        if jx_bool (1 : Int32) = true then some (some (.int (1 : Int32)), h7) else none
    else
      if jx_bool (1 : Int32) = true then some (some (.int (1 : Int32)), h5) else none
  else if x2 = (((1 : Int32) + 1) + 1) then
    jx_cI (jx_C rc d 284 [.ref a0, .ref a1, .int (0 : Int32), .int (-1 : Int32), .int x3, .int (1 : Int32), .int (2 : Int32)] h) fun v10 h9 =>
    if v10 = 0 then
      jx_cI (jx_C rc d 284 [.ref a0, .ref a1, .int (0 : Int32), .int (1 : Int32), .int x3, .int (1 : Int32), .int (2 : Int32)] h9) fun v12 h11 =>
      if v12 = 0 then
        if jx_bool (0 : Int32) = true then some (some (.int (0 : Int32)), h11) else none
      else
        if jx_bool (1 : Int32) = true then some (some (.int (1 : Int32)), h11) else none
    else
      if jx_bool (1 : Int32) = true then some (some (.int (1 : Int32)), h9) else none
  else if x2 = ((((1 : Int32) + 1) + 1) + 1) then
    jx_cI (jx_C rc d 284 [.ref a0, .ref a1, .int (5 : Int32), .int (0 : Int32), .int x3, .int (0 : Int32), .int (1 : Int32)] h) fun v14 h13 =>
    if v14 = 0 then
      jx_cI (jx_C rc d 284 [.ref a0, .ref a1, .int (4 : Int32), .int (0 : Int32), .int x3, .int (0 : Int32), .int (2 : Int32)] h13) fun v16 h15 =>
      if v16 = 0 then
        jx_cI (jx_C rc d 284 [.ref a0, .ref a1, .int (0 : Int32), .int (-1 : Int32), .int x3, .int (0 : Int32), .int (2 : Int32)] h15) fun v18 h17 =>
        if v18 = 0 then
          if jx_bool (0 : Int32) = true then some (some (.int (0 : Int32)), h17) else none
        else
          if jx_bool (1 : Int32) = true then some (some (.int (1 : Int32)), h17) else none
      else
        if jx_bool (1 : Int32) = true then some (some (.int (1 : Int32)), h15) else none
    else
      if jx_bool (1 : Int32) = true then some (some (.int (1 : Int32)), h13) else none
  else if x2 = (((((1 : Int32) + 1) + 1) + 1) + 1) then
    jx_cI (jx_C rc d 284 [.ref a0, .ref a1, .int (0 : Int32), .int (-1 : Int32), .int x3, .int (0 : Int32), .int (1 : Int32)] h) fun v20 h19 =>
    if jx_bool v20 = true then some (some (.int v20), h19) else none
  else 
    jx_cI (jx_C rc d 284 [.ref a0, .ref a1, .int (0 : Int32), .int (-1 : Int32), .int x3, .int (0 : Int32), .int (2 : Int32)] h) fun v22 h21 =>
    if jx_bool v22 = true then some (some (.int v22), h21) else none :=
  sorry
theorem je_223 (rc : Nat → Nat × (Nat → Int32)) (d : Nat) (a0 : Nat) (h : jxH) : jx_C rc (d + 1) 223 [.ref a0] h =
  if jx_is (jx_at h a0) 1 = true then
  if (12 : Int32) < 0 ∨ 5000 < (12 : Int32) then none else
  (jx_pF (jx_at (jx_new h ((12 : Int32)).toNatClampNeg (jx_arr 0 ((12 : Int32)).toNatClampNeg)) a0) 1 0 (.ref h.1)).bind fun e1 =>
  if (12 : Int32) < 0 ∨ 5000 < (12 : Int32) then none else
  (jx_pF (jx_at (jx_new (jx_set (jx_new h ((12 : Int32)).toNatClampNeg (jx_arr 0 ((12 : Int32)).toNatClampNeg)) a0 e1) ((12 : Int32)).toNatClampNeg (jx_arr 0 ((12 : Int32)).toNatClampNeg)) a0) 1 1 (.ref (jx_set (jx_new h ((12 : Int32)).toNatClampNeg (jx_arr 0 ((12 : Int32)).toNatClampNeg)) a0 e1).1)).bind fun e2 =>
  some (none, (jx_set (jx_new (jx_set (jx_new h ((12 : Int32)).toNatClampNeg (jx_arr 0 ((12 : Int32)).toNatClampNeg)) a0 e1) ((12 : Int32)).toNatClampNeg (jx_arr 0 ((12 : Int32)).toNatClampNeg)) a0 e2))
  else none :=
  sorry
theorem je_224 (rc : Nat → Nat × (Nat → Int32)) (d : Nat) (a0 : Nat) (h : jxH) : jx_C rc (d + 1) 224 [.ref a0] h =
  if jx_is (jx_at h a0) 1 = true then
  (jx_gR (jx_at h a0) 1 0).bind fun b1 =>
  jx_cV (jx_C rc d 332 [.ref b1, .int (0 : Int32)] h) fun h2 =>
  (jx_gR (jx_at h2 a0) 1 1).bind fun b3 =>
  jx_cV (jx_C rc d 332 [.ref b3, .int (0 : Int32)] h2) fun h4 =>
  (jx_pF (jx_at h4 a0) 1 2 (.int (0 : Int32))).bind fun e5 =>
  some (none, (jx_set h4 a0 e5))
  else none :=
  sorry
theorem je_225 (rc : Nat → Nat × (Nat → Int32)) (d : Nat) (a0 : Nat) (a1 : Nat) (h : jxH) : jx_C rc (d + 1) 225 [.ref a0, .ref a1] h =
  if jx_is (jx_at h a0) 1 = true then
  (jx_gR (jx_at h a1) 1 0).bind fun b1 =>
  (jx_gR (jx_at h a0) 1 0).bind fun b2 =>
  (jx_cp (jx_at h b1) (jx_at h b2) 0 (0 : Int32) (0 : Int32) (12 : Int32)).bind fun e3 =>
  (jx_gR (jx_at (jx_set h b2 e3) a1) 1 1).bind fun b4 =>
  (jx_gR (jx_at (jx_set h b2 e3) a0) 1 1).bind fun b5 =>
  (jx_cp (jx_at (jx_set h b2 e3) b4) (jx_at (jx_set h b2 e3) b5) 0 (0 : Int32) (0 : Int32) (12 : Int32)).bind fun e6 =>
  (jx_gI (jx_at (jx_set (jx_set h b2 e3) b5 e6) a1) 1 2).bind fun v7 =>
  (jx_pF (jx_at (jx_set (jx_set h b2 e3) b5 e6) a0) 1 2 (.int v7)).bind fun e8 =>
  some (none, (jx_set (jx_set (jx_set h b2 e3) b5 e6) a0 e8))
  else none :=
  sorry
theorem je_226 (rc : Nat → Nat × (Nat → Int32)) (d : Nat) (a0 : Nat) (x1 : Int32) (h : jxH) : jx_C rc (d + 1) 226 [.ref a0, .int x1] h =
  if jx_is (jx_at h a0) 1 = true then
  if x1 < 0 then
    if jx_bool (0 : Int32) = true then some (some (.int (0 : Int32)), h) else none
  else
    if (12 : Int32) ≤ x1 then
      if jx_bool (0 : Int32) = true then some (some (.int (0 : Int32)), h) else none
    else
      (jx_gI (jx_at h a0) 1 2).bind fun v1 =>
      if ((v1 >>> (x1 &&& 31)) &&& (1 : Int32)) = 0 then
        if jx_bool (0 : Int32) = true then some (some (.int (0 : Int32)), h) else none
      else
        if jx_bool (1 : Int32) = true then some (some (.int (1 : Int32)), h) else none
  else none :=
  sorry
theorem je_227 (rc : Nat → Nat × (Nat → Int32)) (d : Nat) (a0 : Nat) (h : jxH) : jx_C rc (d + 1) 227 [.ref a0] h =
  if jx_is (jx_at h a0) 1 = true then
  (jx_gI (jx_at h a0) 1 2).bind fun v1 =>
  jx_cI (jx_C rc d 328 [.int v1] h) fun v3 h2 =>
  some (some (.int v3), h2)
  else none :=
  sorry
theorem je_228 (rc : Nat → Nat × (Nat → Int32)) (d : Nat) (a0 : Nat) (x1 : Int32) (h : jxH) : jx_C rc (d + 1) 228 [.ref a0, .int x1] h =
  if jx_is (jx_at h a0) 1 = true then
  if x1 < 0 then
    some (some (.int (0 : Int32)), h)
  else
    if (12 : Int32) ≤ x1 then
      some (some (.int (0 : Int32)), h)
    else
      (jx_gR (jx_at h a0) 1 0).bind fun b1 =>
      (jx_aI (jx_at h b1) 0 x1).bind fun v2 =>
      some (some (.int v2), h)
  else none :=
  sorry
theorem je_229 (rc : Nat → Nat × (Nat → Int32)) (d : Nat) (a0 : Nat) (x1 : Int32) (h : jxH) : jx_C rc (d + 1) 229 [.ref a0, .int x1] h =
  if jx_is (jx_at h a0) 1 = true then
  if x1 < 0 then
    some (some (.int (0 : Int32)), h)
  else
    if (12 : Int32) ≤ x1 then
      some (some (.int (0 : Int32)), h)
    else
      (jx_gR (jx_at h a0) 1 1).bind fun b1 =>
      (jx_aI (jx_at h b1) 0 x1).bind fun v2 =>
      some (some (.int v2), h)
  else none :=
  sorry
end
section
theorem je_230 (rc : Nat → Nat × (Nat → Int32)) (d : Nat) (a0 : Nat) (x1 : Int32) (h : jxH) : jx_C rc (d + 1) 230 [.ref a0, .int x1] h =
  if jx_is (jx_at h a0) 1 = true then
  if x1 < 0 then
    some (some (.int (0 : Int32)), h)
  else
    if (12 : Int32) ≤ x1 then
      some (some (.int (0 : Int32)), h)
    else
      (jx_gR (jx_at h a0) 1 1).bind fun b1 =>
      (jx_aI (jx_at h b1) 0 x1).bind fun v2 =>
      jx_cI (jx_C rc d 328 [.int v2] h) fun v4 h3 =>
      some (some (.int v4), h3)
  else none :=
  sorry
theorem je_231 (rc : Nat → Nat × (Nat → Int32)) (d : Nat) (a0 : Nat) (x1 : Int32) (x2 : Int32) (h : jxH) : jx_C rc (d + 1) 231 [.ref a0, .int x1, .int x2] h =
  if jx_is (jx_at h a0) 1 = true then
  if x1 < 0 then
    if jx_bool (0 : Int32) = true then some (some (.int (0 : Int32)), h) else none
  else
    if (12 : Int32) ≤ x1 then
      if jx_bool (0 : Int32) = true then some (some (.int (0 : Int32)), h) else none
    else
      if x2 < 0 then
        if jx_bool (0 : Int32) = true then some (some (.int (0 : Int32)), h) else none
      else
        if (12 : Int32) ≤ x2 then
          if jx_bool (0 : Int32) = true then some (some (.int (0 : Int32)), h) else none
        else
          (jx_gR (jx_at h a0) 1 1).bind fun b1 =>
          (jx_aI (jx_at h b1) 0 x1).bind fun v2 =>
          if ((v2 >>> (x2 &&& 31)) &&& (1 : Int32)) = 0 then
            if jx_bool (0 : Int32) = true then some (some (.int (0 : Int32)), h) else none
          else
            if jx_bool (1 : Int32) = true then some (some (.int (1 : Int32)), h) else none
  else none :=
  sorry
noncomputable def jb_232 (rc : Nat → Nat × (Nat → Int32)) (d : Nat) (i : Nat) (ls : List (Nat × Value)) (st : List Value) (h : jxH) : jxR := none
theorem je_232 (rc : Nat → Nat × (Nat → Int32)) (d : Nat) (a0 : Nat) (h : jxH) : jx_C rc (d + 1) 232 [.ref a0] h =
  if jx_is (jx_at h a0) 1 = true then
  jb_232 rc d 4 [(0, .ref a0), (1, .int (0 : Int32)), (2, .int (0 : Int32))] [] h
  else none :=
  sorry
theorem je_232_4 (rc : Nat → Nat × (Nat → Int32)) (d : Nat) (a0 : Nat) (x1 : Int32) (x2 : Int32) (h : jxH) : jb_232 rc d 4 [(0, .ref a0), (1, .int x1), (2, .int x2)] [] h =
  if (12 : Int32) ≤ x2 then
    if (2 : Int32) = 0 then none else some (some (.int (x1 / (2 : Int32))), h)
  else
    (jx_gR (jx_at h a0) 1 1).bind fun b1 =>
    (jx_aI (jx_at h b1) 0 x2).bind fun v2 =>
    jx_cI (jx_C rc d 328 [.int v2] h) fun v4 h3 =>
    jb_232 rc d 4 [(0, .ref a0), (1, .int (x1 + v4)), (2, .int (x2 + (1 : Int32)))] [] h3 :=
  sorry
theorem je_233 (rc : Nat → Nat × (Nat → Int32)) (d : Nat) (a0 : Nat) (h : jxH) : jx_C rc (d + 1) 233 [.ref a0] h =
  if jx_is (jx_at h a0) 1 = true then
  jx_cI (jx_C rc d 227 [.ref a0] h) fun v2 h1 =>
  jx_cI (jx_C rc d 232 [.ref a0] h1) fun v4 h3 =>
  some (some (.int (v2 - v4)), h3)
  else none :=
  sorry
noncomputable def jb_234 (rc : Nat → Nat × (Nat → Int32)) (d : Nat) (i : Nat) (ls : List (Nat × Value)) (st : List Value) (h : jxH) : jxR := none
theorem je_234 (rc : Nat → Nat × (Nat → Int32)) (d : Nat) (a0 : Nat) (h : jxH) : jx_C rc (d + 1) 234 [.ref a0] h =
  if jx_is (jx_at h a0) 1 = true then
  jb_234 rc d 4 [(0, .ref a0), (1, .int (0 : Int32)), (2, .int (0 : Int32))] [] h
  else none :=
  sorry
theorem je_234_4 (rc : Nat → Nat × (Nat → Int32)) (d : Nat) (a0 : Nat) (x1 : Int32) (x2 : Int32) (h : jxH) : jb_234 rc d 4 [(0, .ref a0), (1, .int x1), (2, .int x2)] [] h =
  if (12 : Int32) ≤ x2 then
    some (some (.int x1), h)
  else
    (jx_gR (jx_at h a0) 1 0).bind fun b1 =>
    (jx_aI (jx_at h b1) 0 x2).bind fun v2 =>
    jb_234 rc d 4 [(0, .ref a0), (1, .int (x1 + v2)), (2, .int (x2 + (1 : Int32)))] [] h :=
  sorry
noncomputable def jb_235 (rc : Nat → Nat × (Nat → Int32)) (d : Nat) (i : Nat) (ls : List (Nat × Value)) (st : List Value) (h : jxH) : jxR := none
theorem je_235 (rc : Nat → Nat × (Nat → Int32)) (d : Nat) (a0 : Nat) (x1 : Int32) (h : jxH) : jx_C rc (d + 1) 235 [.ref a0, .int x1] h =
  if jx_is (jx_at h a0) 1 = true then
  jb_235 rc d 2 [(0, .ref a0), (1, .int x1), (2, .int (0 : Int32))] [] h
  else none :=
  sorry
theorem je_235_2 (rc : Nat → Nat × (Nat → Int32)) (d : Nat) (a0 : Nat) (x1 : Int32) (x2 : Int32) (h : jxH) : jb_235 rc d 2 [(0, .ref a0), (1, .int x1), (2, .int x2)] [] h =
  if (12 : Int32) ≤ x2 then
    if jx_bool (1 : Int32) = true then some (some (.int (1 : Int32)), h) else none
  else
    jx_cI (jx_C rc d 60 [.int x2, .int x1] h) fun v2 h1 =>
    if v2 = 0 then
      jb_235 rc d 2 [(0, .ref a0), (1, .int x1), (2, .int (x2 + (1 : Int32)))] [] h1
    else
      jx_cI (jx_C rc d 230 [.ref a0, .int x2] h1) fun v4 h3 =>
      if v4 ≤ (2 : Int32) then
        jb_235 rc d 2 [(0, .ref a0), (1, .int x1), (2, .int (x2 + (1 : Int32)))] [] h3
      else
        if jx_bool (0 : Int32) = true then some (some (.int (0 : Int32)), h3) else none :=
  sorry
noncomputable def jb_236 (rc : Nat → Nat × (Nat → Int32)) (d : Nat) (i : Nat) (ls : List (Nat × Value)) (st : List Value) (h : jxH) : jxR := none
theorem je_236 (rc : Nat → Nat × (Nat → Int32)) (d : Nat) (a0 : Nat) (x1 : Int32) (h : jxH) : jx_C rc (d + 1) 236 [.ref a0, .int x1] h =
  if jx_is (jx_at h a0) 1 = true then
  jb_236 rc d 4 [(0, .ref a0), (1, .int x1), (2, .int (0 : Int32)), (3, .int (0 : Int32))] [] h
  else none :=
  sorry
theorem je_236_4 (rc : Nat → Nat × (Nat → Int32)) (d : Nat) (a0 : Nat) (x1 : Int32) (x2 : Int32) (x3 : Int32) (h : jxH) : jb_236 rc d 4 [(0, .ref a0), (1, .int x1), (2, .int x2), (3, .int x3)] [] h =
  if (12 : Int32) ≤ x3 then
    some (some (.int x2), h)
  else
    jx_cI (jx_C rc d 60 [.int x3, .int x1] h) fun v2 h1 =>
    if v2 = 0 then
      jb_236 rc d 4 [(0, .ref a0), (1, .int x1), (2, .int x2), (3, .int (x3 + (1 : Int32)))] [] h1
    else
      (jx_gR (jx_at h1 a0) 1 0).bind fun b3 =>
      (jx_aI (jx_at h1 b3) 0 x3).bind fun v4 =>
      (jx_gR (jx_at h1 a0) 1 1).bind fun b5 =>
      (jx_aI (jx_at h1 b5) 0 x3).bind fun v6 =>
      jx_cI (jx_C rc d 328 [.int (v6 &&& x1)] h1) fun v8 h7 =>
      jb_236 rc d 4 [(0, .ref a0), (1, .int x1), (2, .int (x2 + (v4 + v8))), (3, .int (x3 + (1 : Int32)))] [] h7 :=
  sorry
theorem je_237 (rc : Nat → Nat × (Nat → Int32)) (d : Nat) (a0 : Nat) (x1 : Int32) (x2 : Int32) (h : jxH) : jx_C rc (d + 1) 237 [.ref a0, .int x1, .int x2] h =
  if jx_is (jx_at h a0) 1 = true then
  jx_cI (jx_C rc d 226 [.ref a0, .int x1] h) fun v2 h1 =>
  if v2 = 0 then
    some (none, h1)
  else
    (jx_gR (jx_at h1 a0) 1 0).bind fun b3 =>
    (jx_sI (jx_at h1 b3) 0 x1 x2).bind fun e4 =>
    some (none, (jx_set h1 b3 e4))
  else none :=
  sorry
theorem je_238 (rc : Nat → Nat × (Nat → Int32)) (d : Nat) (a0 : Nat) (x1 : Int32) (x2 : Int32) (h : jxH) : jx_C rc (d + 1) 238 [.ref a0, .int x1, .int x2] h =
  if jx_is (jx_at h a0) 1 = true then
  jx_cI (jx_C rc d 226 [.ref a0, .int x1] h) fun v2 h1 =>
  if v2 = 0 then
    some (none, h1)
  else
    (jx_gR (jx_at h1 a0) 1 0).bind fun b3 =>
    (jx_aI (jx_at h1 b3) 0 x1).bind fun v4 =>
    (jx_sI (jx_at h1 b3) 0 x1 (v4 + x2)).bind fun e5 =>
    some (none, (jx_set h1 b3 e5))
  else none :=
  sorry
noncomputable def jb_239 (rc : Nat → Nat × (Nat → Int32)) (d : Nat) (i : Nat) (ls : List (Nat × Value)) (st : List Value) (h : jxH) : jxR := none
theorem je_239 (rc : Nat → Nat × (Nat → Int32)) (d : Nat) (a0 : Nat) (h : jxH) : jx_C rc (d + 1) 239 [.ref a0] h =
  if jx_is (jx_at h a0) 1 = true then
  jb_239 rc d 2 [(0, .ref a0), (1, .int (0 : Int32))] [] h
  else none :=
  sorry
theorem je_239_2 (rc : Nat → Nat × (Nat → Int32)) (d : Nat) (a0 : Nat) (x1 : Int32) (h : jxH) : jb_239 rc d 2 [(0, .ref a0), (1, .int x1)] [] h =
  if (12 : Int32) ≤ x1 then
    some (none, h)
  else
    (jx_gR (jx_at h a0) 1 0).bind fun b1 =>
    (jx_gR (jx_at h a0) 1 0).bind fun b2 =>
    (jx_aI (jx_at h b2) 0 x1).bind fun v3 =>
    (jx_sI (jx_at h b1) 0 x1 (-v3)).bind fun e4 =>
    jb_239 rc d 2 [(0, .ref a0), (1, .int (x1 + (1 : Int32)))] [] (jx_set h b1 e4) :=
  sorry
theorem je_240 (rc : Nat → Nat × (Nat → Int32)) (d : Nat) (a0 : Nat) (x1 : Int32) (h : jxH) : jx_C rc (d + 1) 240 [.ref a0, .int x1] h =
  if jx_is (jx_at h a0) 1 = true then
  (jx_gI (jx_at h a0) 1 2).bind fun v1 =>
  jx_cI (jx_C rc d 67 [.int (v1 ^^^ (-1 : Int32))] h) fun v3 h2 =>
  jx_cI (jx_C rc d 59 [.int v3] h2) fun v5 h4 =>
  if v5 = 0 then
    some (some (.int v3), h4)
  else
    (jx_gI (jx_at h4 a0) 1 2).bind fun v6 =>
    (jx_pF (jx_at h4 a0) 1 2 (.int (v6 ||| ((1 : Int32) <<< (v3 &&& 31))))).bind fun e7 =>
    (jx_gR (jx_at (jx_set h4 a0 e7) a0) 1 0).bind fun b8 =>
    (jx_sI (jx_at (jx_set h4 a0 e7) b8) 0 v3 x1).bind fun e9 =>
    some (some (.int v3), (jx_set (jx_set h4 a0 e7) b8 e9))
  else none :=
  sorry
theorem je_241 (rc : Nat → Nat × (Nat → Int32)) (d : Nat) (a0 : Nat) (x1 : Int32) (x2 : Int32) (h : jxH) : jx_C rc (d + 1) 241 [.ref a0, .int x1, .int x2] h =
  if jx_is (jx_at h a0) 1 = true then
  if x1 < 0 then
    some (none, h)
  else
    if (12 : Int32) ≤ x1 then
      some (none, h)
    else
      if x2 < 0 then
        some (none, h)
      else
        if (12 : Int32) ≤ x2 then
          some (none, h)
        else
          (jx_gR (jx_at h a0) 1 1).bind fun b1 =>
          (jx_aI (jx_at h b1) 0 x1).bind fun v2 =>
          (jx_sI (jx_at h b1) 0 x1 (v2 ||| ((1 : Int32) <<< (x2 &&& 31)))).bind fun e3 =>
          (jx_gR (jx_at (jx_set h b1 e3) a0) 1 1).bind fun b4 =>
          (jx_aI (jx_at (jx_set h b1 e3) b4) 0 x2).bind fun v5 =>
          (jx_sI (jx_at (jx_set h b1 e3) b4) 0 x2 (v5 ||| ((1 : Int32) <<< (x1 &&& 31)))).bind fun e6 =>
          some (none, (jx_set (jx_set h b1 e3) b4 e6))
  else none :=
  sorry
noncomputable def jb_242 (rc : Nat → Nat × (Nat → Int32)) (d : Nat) (i : Nat) (ls : List (Nat × Value)) (st : List Value) (h : jxH) : jxR := none
theorem je_242 (rc : Nat → Nat × (Nat → Int32)) (d : Nat) (a0 : Nat) (x1 : Int32) (x2 : Int32) (h : jxH) : jx_C rc (d + 1) 242 [.ref a0, .int x1, .int x2] h =
  if jx_is (jx_at h a0) 1 = true then
  jb_242 rc d 2 [(0, .ref a0), (1, .int x1), (2, .int x2), (3, .int (0 : Int32))] [] h
  else none :=
  sorry
theorem je_242_2 (rc : Nat → Nat × (Nat → Int32)) (d : Nat) (a0 : Nat) (x1 : Int32) (x2 : Int32) (x3 : Int32) (h : jxH) : jb_242 rc d 2 [(0, .ref a0), (1, .int x1), (2, .int x2), (3, .int x3)] [] h =
  if (12 : Int32) ≤ x3 then
    some (none, h)
  else
    if ((x2 >>> (x3 &&& 31)) &&& (1 : Int32)) = 0 then
      jb_242 rc d 2 [(0, .ref a0), (1, .int x1), (2, .int x2), (3, .int (x3 + (1 : Int32)))] [] h
    else
      jx_cV (jx_C rc d 241 [.ref a0, .int x1, .int x3] h) fun h1 =>
      jb_242 rc d 2 [(0, .ref a0), (1, .int x1), (2, .int x2), (3, .int (x3 + (1 : Int32)))] [] h1 :=
  sorry
theorem je_243 (rc : Nat → Nat × (Nat → Int32)) (d : Nat) (a0 : Nat) (x1 : Int32) (x2 : Int32) (h : jxH) : jx_C rc (d + 1) 243 [.ref a0, .int x1, .int x2] h =
  if jx_is (jx_at h a0) 1 = true then
  if x1 < 0 then
    some (none, h)
  else
    if (12 : Int32) ≤ x1 then
      some (none, h)
    else
      if x2 < 0 then
        some (none, h)
      else
        if (12 : Int32) ≤ x2 then
          some (none, h)
        else
          (jx_gR (jx_at h a0) 1 1).bind fun b1 =>
          (jx_aI (jx_at h b1) 0 x1).bind fun v2 =>
          (jx_sI (jx_at h b1) 0 x1 (v2 &&& (((1 : Int32) <<< (x2 &&& 31)) ^^^ (-1 : Int32)))).bind fun e3 =>
          (jx_gR (jx_at (jx_set h b1 e3) a0) 1 1).bind fun b4 =>
          (jx_aI (jx_at (jx_set h b1 e3) b4) 0 x2).bind fun v5 =>
          (jx_sI (jx_at (jx_set h b1 e3) b4) 0 x2 (v5 &&& (((1 : Int32) <<< (x1 &&& 31)) ^^^ (-1 : Int32)))).bind fun e6 =>
          some (none, (jx_set (jx_set h b1 e3) b4 e6))
  else none :=
  sorry
noncomputable def jb_244 (rc : Nat → Nat × (Nat → Int32)) (d : Nat) (i : Nat) (ls : List (Nat × Value)) (st : List Value) (h : jxH) : jxR := none
theorem je_244 (rc : Nat → Nat × (Nat → Int32)) (d : Nat) (a0 : Nat) (x1 : Int32) (x2 : Int32) (h : jxH) : jx_C rc (d + 1) 244 [.ref a0, .int x1, .int x2] h =
  if jx_is (jx_at h a0) 1 = true then
  jb_244 rc d 2 [(0, .ref a0), (1, .int x1), (2, .int x2), (3, .int (0 : Int32))] [] h
  else none :=
  sorry
theorem je_244_2 (rc : Nat → Nat × (Nat → Int32)) (d : Nat) (a0 : Nat) (x1 : Int32) (x2 : Int32) (x3 : Int32) (h : jxH) : jb_244 rc d 2 [(0, .ref a0), (1, .int x1), (2, .int x2), (3, .int x3)] [] h =
  if (12 : Int32) ≤ x3 then
    some (none, h)
  else
    if ((x2 >>> (x3 &&& 31)) &&& (1 : Int32)) = 0 then
      jb_244 rc d 2 [(0, .ref a0), (1, .int x1), (2, .int x2), (3, .int (x3 + (1 : Int32)))] [] h
    else
      jx_cV (jx_C rc d 243 [.ref a0, .int x1, .int x3] h) fun h1 =>
      jb_244 rc d 2 [(0, .ref a0), (1, .int x1), (2, .int x2), (3, .int (x3 + (1 : Int32)))] [] h1 :=
  sorry
noncomputable def jb_245 (rc : Nat → Nat × (Nat → Int32)) (d : Nat) (i : Nat) (ls : List (Nat × Value)) (st : List Value) (h : jxH) : jxR := none
theorem je_245 (rc : Nat → Nat × (Nat → Int32)) (d : Nat) (a0 : Nat) (x1 : Int32) (h : jxH) : jx_C rc (d + 1) 245 [.ref a0, .int x1] h =
  if jx_is (jx_at h a0) 1 = true then
  jx_cI (jx_C rc d 226 [.ref a0, .int x1] h) fun v2 h1 =>
  if v2 = 0 then
    some (none, h1)
  else
    jb_245 rc d 6 [(0, .ref a0), (1, .int x1), (2, .int (0 : Int32))] [] h1
  else none :=
  sorry
theorem je_245_6 (rc : Nat → Nat × (Nat → Int32)) (d : Nat) (a0 : Nat) (x1 : Int32) (x2 : Int32) (h : jxH) : jb_245 rc d 6 [(0, .ref a0), (1, .int x1), (2, .int x2)] [] h =
  if (12 : Int32) ≤ x2 then
    (jx_gR (jx_at h a0) 1 1).bind fun b1 =>
    (jx_sI (jx_at h b1) 0 x1 (0 : Int32)).bind fun e2 =>
    (jx_gR (jx_at (jx_set h b1 e2) a0) 1 0).bind fun b3 =>
    (jx_sI (jx_at (jx_set h b1 e2) b3) 0 x1 (0 : Int32)).bind fun e4 =>
    (jx_gI (jx_at (jx_set (jx_set h b1 e2) b3 e4) a0) 1 2).bind fun v5 =>
    (jx_pF (jx_at (jx_set (jx_set h b1 e2) b3 e4) a0) 1 2 (.int (v5 &&& (((1 : Int32) <<< (x1 &&& 31)) ^^^ (-1 : Int32))))).bind fun e6 =>
    some (none, (jx_set (jx_set (jx_set h b1 e2) b3 e4) a0 e6))
  else
    (jx_gR (jx_at h a0) 1 1).bind fun b7 =>
    (jx_aI (jx_at h b7) 0 x2).bind fun v8 =>
    (jx_sI (jx_at h b7) 0 x2 (v8 &&& (((1 : Int32) <<< (x1 &&& 31)) ^^^ (-1 : Int32)))).bind fun e9 =>
    jb_245 rc d 6 [(0, .ref a0), (1, .int x1), (2, .int (x2 + (1 : Int32)))] [] (jx_set h b7 e9) :=
  sorry
noncomputable def jb_246 (rc : Nat → Nat × (Nat → Int32)) (d : Nat) (i : Nat) (ls : List (Nat × Value)) (st : List Value) (h : jxH) : jxR := none
theorem je_246 (rc : Nat → Nat × (Nat → Int32)) (d : Nat) (a0 : Nat) (h : jxH) : jx_C rc (d + 1) 246 [.ref a0] h =
  if jx_is (jx_at h a0) 1 = true then
  jb_246 rc d 4 [(0, .ref a0), (1, .int (0 : Int32)), (2, .int (0 : Int32))] [] h
  else none :=
  sorry
theorem je_246_4 (rc : Nat → Nat × (Nat → Int32)) (d : Nat) (a0 : Nat) (x1 : Int32) (x2 : Int32) (h : jxH) : jb_246 rc d 4 [(0, .ref a0), (1, .int x1), (2, .int x2)] [] h =
  if (12 : Int32) ≤ x2 then
    some (some (.int x1), h)
  else
    jx_cI (jx_C rc d 226 [.ref a0, .int x2] h) fun v2 h1 =>
    if v2 = 0 then
      jb_246 rc d 4 [(0, .ref a0), (1, .int x1), (2, .int (x2 + (1 : Int32)))] [] h1
    else
      (jx_gR (jx_at h1 a0) 1 0).bind fun b3 =>
      (jx_aI (jx_at h1 b3) 0 x2).bind fun v4 =>
      jx_cI (jx_C rc d 230 [.ref a0, .int x2] h1) fun v6 h5 =>
      jx_cI (jx_C rc d 247 [.ref a0, .int x2] h5) fun v8 h7 =>
      jb_246 rc d 4 [(0, .ref a0), (1, .int (x1 + (((((((v4 * (31 : Int32)) + v6) * (1009 : Int32)) + v8) + (77777 : Int32)) * (((((v4 * (31 : Int32)) + v6) * (1009 : Int32)) + v8) + (77777 : Int32))) * (((((v4 * (31 : Int32)) + v6) * (1009 : Int32)) + v8) + (77777 : Int32))))), (2, .int (x2 + (1 : Int32)))] [] h7 :=
  sorry
noncomputable def jb_247 (rc : Nat → Nat × (Nat → Int32)) (d : Nat) (i : Nat) (ls : List (Nat × Value)) (st : List Value) (h : jxH) : jxR := none
theorem je_247 (rc : Nat → Nat × (Nat → Int32)) (d : Nat) (a0 : Nat) (x1 : Int32) (h : jxH) : jx_C rc (d + 1) 247 [.ref a0, .int x1] h =
  if jx_is (jx_at h a0) 1 = true then
  jb_247 rc d 4 [(0, .ref a0), (1, .int x1), (2, .int (0 : Int32)), (3, .int (0 : Int32))] [] h
  else none :=
  sorry
theorem je_247_4 (rc : Nat → Nat × (Nat → Int32)) (d : Nat) (a0 : Nat) (x1 : Int32) (x2 : Int32) (x3 : Int32) (h : jxH) : jb_247 rc d 4 [(0, .ref a0), (1, .int x1), (2, .int x2), (3, .int x3)] [] h =
  if (12 : Int32) ≤ x3 then
    some (some (.int x2), h)
  else
    jx_cI (jx_C rc d 231 [.ref a0, .int x1, .int x3] h) fun v2 h1 =>
    if v2 = 0 then
      jb_247 rc d 4 [(0, .ref a0), (1, .int x1), (2, .int (x2 + (0 : Int32))), (3, .int (x3 + (1 : Int32)))] [] h1
    else
      (jx_gR (jx_at h1 a0) 1 0).bind fun b3 =>
      (jx_aI (jx_at h1 b3) 0 x3).bind fun v4 =>
      jb_247 rc d 4 [(0, .ref a0), (1, .int x1), (2, .int (x2 + v4)), (3, .int (x3 + (1 : Int32)))] [] h1 :=
  sorry
theorem je_248 (rc : Nat → Nat × (Nat → Int32)) (d : Nat) (a0 : Nat) (h : jxH) : jx_C rc (d + 1) 248 [.ref a0] h =
  if jx_is (jx_at h a0) 2 = true then
  jx_cV (jx_C rc d 318 [.ref h.1] (jx_new h 5 (.inl (10, jx_dflt 10)))) fun h1 =>
  (jx_pF (jx_at h1 a0) 2 0 (.ref h.1)).bind fun e2 =>
  if (12 : Int32) < 0 ∨ 5000 < (12 : Int32) then none else
  (jx_pF (jx_at (jx_new (jx_set h1 a0 e2) ((12 : Int32)).toNatClampNeg (jx_arr 1 ((12 : Int32)).toNatClampNeg)) a0) 2 1 (.ref (jx_set h1 a0 e2).1)).bind fun e3 =>
  if (12 : Int32) < 0 ∨ 5000 < (12 : Int32) then none else
  (jx_pF (jx_at (jx_new (jx_set (jx_new (jx_set h1 a0 e2) ((12 : Int32)).toNatClampNeg (jx_arr 1 ((12 : Int32)).toNatClampNeg)) a0 e3) ((12 : Int32)).toNatClampNeg (jx_arr 1 ((12 : Int32)).toNatClampNeg)) a0) 2 2 (.ref (jx_set (jx_new (jx_set h1 a0 e2) ((12 : Int32)).toNatClampNeg (jx_arr 1 ((12 : Int32)).toNatClampNeg)) a0 e3).1)).bind fun e4 =>
  if (12 : Int32) < 0 ∨ 5000 < (12 : Int32) then none else
  (jx_pF (jx_at (jx_new (jx_set (jx_new (jx_set (jx_new (jx_set h1 a0 e2) ((12 : Int32)).toNatClampNeg (jx_arr 1 ((12 : Int32)).toNatClampNeg)) a0 e3) ((12 : Int32)).toNatClampNeg (jx_arr 1 ((12 : Int32)).toNatClampNeg)) a0 e4) ((12 : Int32)).toNatClampNeg (jx_arr 0 ((12 : Int32)).toNatClampNeg)) a0) 2 3 (.ref (jx_set (jx_new (jx_set (jx_new (jx_set h1 a0 e2) ((12 : Int32)).toNatClampNeg (jx_arr 1 ((12 : Int32)).toNatClampNeg)) a0 e3) ((12 : Int32)).toNatClampNeg (jx_arr 1 ((12 : Int32)).toNatClampNeg)) a0 e4).1)).bind fun e5 =>
  some (none, (jx_set (jx_new (jx_set (jx_new (jx_set (jx_new (jx_set h1 a0 e2) ((12 : Int32)).toNatClampNeg (jx_arr 1 ((12 : Int32)).toNatClampNeg)) a0 e3) ((12 : Int32)).toNatClampNeg (jx_arr 1 ((12 : Int32)).toNatClampNeg)) a0 e4) ((12 : Int32)).toNatClampNeg (jx_arr 0 ((12 : Int32)).toNatClampNeg)) a0 e5))
  else none :=
  sorry
noncomputable def jb_249 (rc : Nat → Nat × (Nat → Int32)) (d : Nat) (i : Nat) (ls : List (Nat × Value)) (st : List Value) (h : jxH) : jxR := none
theorem je_249 (rc : Nat → Nat × (Nat → Int32)) (d : Nat) (a0 : Nat) (a1 : Nat) (x2 : Int32) (h : jxH) : jx_C rc (d + 1) 249 [.ref a0, .ref a1, .int x2] h =
  if jx_is (jx_at h a0) 2 = true then
  (jx_gR (jx_at h a0) 2 0).bind fun b1 =>
  jx_cV (jx_C rc d 319 [.ref b1, .ref a1, .int x2] h) fun h2 =>
  jx_cV (jx_C rc d 250 [.ref a0, .ref a1, .int (0 : Int32)] h2) fun h3 =>
  jb_249 rc d 13 [(0, .ref a0), (3, .long (1 : Int64)), (5, .int (11 : Int32))] [] h3
  else none :=
  sorry
theorem je_249_13 (rc : Nat → Nat × (Nat → Int32)) (d : Nat) (a0 : Nat) (x3 : Int64) (x5 : Int32) (h : jxH) : jb_249 rc d 13 [(0, .ref a0), (3, .long x3), (5, .int x5)] [] h =
  if x5 < 0 then
    some (some (.long x3), h)
  else
    (jx_gR (jx_at h a0) 2 0).bind fun b1 =>
    jx_cI (jx_C rc d 323 [.ref b1, .int x5] h) fun v3 h2 =>
    (jx_gR (jx_at h2 a0) 2 0).bind fun b4 =>
    jx_cI (jx_C rc d 324 [.ref b4, .int v3] h2) fun v6 h5 =>
    jx_cI (jx_C rc d 59 [.int v3] h5) fun v8 h7 =>
    if v8 = 0 then
      jx_cI (jx_C rc d 59 [.int v3] h7) fun v10 h9 =>
      if v10 = 0 then
        jb_249 rc d 13 [(0, .ref a0), (3, .long x3), (5, .int (x5 + (-1 : Int32)))] [] h9
      else
        (jx_gR (jx_at h9 a0) 2 1).bind fun b11 =>
        (jx_aL (jx_at h9 b11) v3).bind fun v12 =>
        jb_249 rc d 13 [(0, .ref a0), (3, .long (x3 * v12)), (5, .int (x5 + (-1 : Int32)))] [] h9
    else
      jx_cI (jx_C rc d 59 [.int v6] h7) fun v14 h13 =>
      if v14 = 0 then
        jx_cI (jx_C rc d 59 [.int v3] h13) fun v16 h15 =>
        if v16 = 0 then
          jb_249 rc d 13 [(0, .ref a0), (3, .long x3), (5, .int (x5 + (-1 : Int32)))] [] h15
        else
          (jx_gR (jx_at h15 a0) 2 1).bind fun b17 =>
          (jx_aL (jx_at h15 b17) v3).bind fun v18 =>
          jb_249 rc d 13 [(0, .ref a0), (3, .long (x3 * v18)), (5, .int (x5 + (-1 : Int32)))] [] h15
      else
        jx_cV (jx_C rc d 251 [.ref a0, .int v3, .int v6, .int (0 : Int32)] h13) fun h19 =>
        jb_249 rc d 13 [(0, .ref a0), (3, .long x3), (5, .int (x5 + (-1 : Int32)))] [] h19 :=
  sorry
noncomputable def jb_250 (rc : Nat → Nat × (Nat → Int32)) (d : Nat) (i : Nat) (ls : List (Nat × Value)) (st : List Value) (h : jxH) : jxR := none
theorem je_250 (rc : Nat → Nat × (Nat → Int32)) (d : Nat) (a0 : Nat) (a1 : Nat) (x2 : Int32) (h : jxH) : jx_C rc (d + 1) 250 [.ref a0, .ref a1, .int x2] h =
  if jx_is (jx_at h a0) 2 = true then
  jb_250 rc d 2 [(0, .ref a0), (1, .ref a1), (2, .int x2), (3, .int (0 : Int32))] [] h
  else none :=
  sorry
theorem je_250_2 (rc : Nat → Nat × (Nat → Int32)) (d : Nat) (a0 : Nat) (a1 : Nat) (x2 : Int32) (x3 : Int32) (h : jxH) : jb_250 rc d 2 [(0, .ref a0), (1, .ref a1), (2, .int x2), (3, .int x3)] [] h =
  if (12 : Int32) ≤ x3 then
    some (none, h)
  else
    (jx_gR (jx_at h a0) 2 1).bind fun b1 =>
    jx_cI (jx_C rc d 228 [.ref a1, .int x3] h) fun v3 h2 =>
    jx_cL (jx_C rc d 252 [.long (v3).toInt64, .int x2] h2) fun v5 h4 =>
    (jx_sL (jx_at h4 b1) x3 v5).bind fun e6 =>
    (jx_gR (jx_at (jx_set h4 b1 e6) a0) 2 2).bind fun b7 =>
    (jx_sL (jx_at (jx_set h4 b1 e6) b7) x3 (1 : Int64)).bind fun e8 =>
    jb_250 rc d 2 [(0, .ref a0), (1, .ref a1), (2, .int x2), (3, .int (x3 + (1 : Int32)))] [] (jx_set (jx_set h4 b1 e6) b7 e8) :=
  sorry
theorem je_251 (rc : Nat → Nat × (Nat → Int32)) (d : Nat) (a0 : Nat) (x1 : Int32) (x2 : Int32) (x3 : Int32) (h : jxH) : jx_C rc (d + 1) 251 [.ref a0, .int x1, .int x2, .int x3] h =
  if jx_is (jx_at h a0) 2 = true then
  jx_cI (jx_C rc d 59 [.int x1] h) fun v2 h1 =>
  if v2 = 0 then
    some (none, h1)
  else
    jx_cI (jx_C rc d 59 [.int x2] h1) fun v4 h3 =>
    if v4 = 0 then
      some (none, h3)
    else
      (jx_gR (jx_at h3 a0) 2 1).bind fun b5 =>
      (jx_gR (jx_at h3 a0) 2 1).bind fun b6 =>
      (jx_aL (jx_at h3 b6) x2).bind fun v7 =>
      (jx_gR (jx_at h3 a0) 2 1).bind fun b8 =>
      (jx_aL (jx_at h3 b8) x1).bind fun v9 =>
      (jx_gR (jx_at h3 a0) 2 2).bind fun b10 =>
      (jx_aL (jx_at h3 b10) x2).bind fun v11 =>
      (jx_gR (jx_at h3 a0) 2 2).bind fun b12 =>
      (jx_aL (jx_at h3 b12) x1).bind fun v13 =>
      jx_cL (jx_C rc d 252 [.long ((v7 * v9) - (v11 * v13)), .int x3] h3) fun v15 h14 =>
      (jx_sL (jx_at h14 b5) x2 v15).bind fun e16 =>
      (jx_gR (jx_at (jx_set h14 b5 e16) a0) 2 2).bind fun b17 =>
      (jx_gR (jx_at (jx_set h14 b5 e16) a0) 2 2).bind fun b18 =>
      (jx_aL (jx_at (jx_set h14 b5 e16) b18) x2).bind fun v19 =>
      (jx_gR (jx_at (jx_set h14 b5 e16) a0) 2 1).bind fun b20 =>
      (jx_aL (jx_at (jx_set h14 b5 e16) b20) x1).bind fun v21 =>
      jx_cL (jx_C rc d 252 [.long (v19 * v21), .int x3] (jx_set h14 b5 e16)) fun v23 h22 =>
      (jx_sL (jx_at h22 b17) x2 v23).bind fun e24 =>
      some (none, (jx_set h22 b17 e24))
  else none :=
  sorry
theorem je_252 (rc : Nat → Nat × (Nat → Int32)) (d : Nat) (x0 : Int64) (x2 : Int32) (h : jxH) : jx_C rc (d + 1) 252 [.long x0, .int x2] h =
  if x2 ≤ 0 then
    some (some (.long x0), h)
  else
    jx_cL (jx_C rc d 329 [.long x0, .long (x2).toInt64] h) fun v2 h1 =>
    some (some (.long v2), h1) :=
  sorry
noncomputable def jb_253 (rc : Nat → Nat × (Nat → Int32)) (d : Nat) (i : Nat) (ls : List (Nat × Value)) (st : List Value) (h : jxH) : jxR := none
theorem je_253 (rc : Nat → Nat × (Nat → Int32)) (d : Nat) (a0 : Nat) (a1 : Nat) (x2 : Int32) (x3 : Int32) (h : jxH) : jx_C rc (d + 1) 253 [.ref a0, .ref a1, .int x2, .int x3] h =
  if jx_is (jx_at h a0) 2 = true then
  (jx_gI (jx_at h a1) 1 2).bind fun v1 =>
  jx_cL (jx_C rc d 249 [.ref a0, .ref a1, .int v1] h) fun v3 h2 =>
  if (lg_cmp v3 (0 : Int64)) = 0 then
    if jx_bool (0 : Int32) = true then some (some (.int (0 : Int32)), h2) else none
  else
    (jx_gR (jx_at h2 a0) 2 0).bind fun b4 =>
    jx_cI (jx_C rc d 327 [.ref b4, .ref a1, .int x2, .int x3] h2) fun v6 h5 =>
    if v6 = 0 then
      jx_cI (jx_C rc d 328 [.int v6] h5) fun v8 h7 =>
      if (v8 &&& (1 : Int32)) = 0 then
        jb_253 rc d 42 [(0, .ref a0), (4, .long v3)] [.long (-(0 : Int64))] h7
      else
        jb_253 rc d 42 [(0, .ref a0), (4, .long v3)] [.long (0 : Int64)] h7
    else
      (jx_gI (jx_at h5 a1) 1 2).bind fun v9 =>
      jx_cL (jx_C rc d 249 [.ref a0, .ref a1, .int (v9 &&& (v6 ^^^ (-1 : Int32)))] h5) fun v11 h10 =>
      jx_cI (jx_C rc d 328 [.int v6] h10) fun v13 h12 =>
      if (v13 &&& (1 : Int32)) = 0 then
        jb_253 rc d 42 [(0, .ref a0), (4, .long v3)] [.long (-v11)] h12
      else
        jb_253 rc d 42 [(0, .ref a0), (4, .long v3)] [.long v11] h12
  else none :=
  sorry
theorem je_253_42 (rc : Nat → Nat × (Nat → Int32)) (d : Nat) (a0 : Nat) (x4 : Int64) (s0 : Int64) (h : jxH) : jb_253 rc d 42 [(0, .ref a0), (4, .long x4)] [.long s0] h =
  jx_cL (jx_C rc d 69 [.long s0, .long x4] h) fun v2 h1 =>
  if (lg_cmp v2 (0 : Int64)) = 0 then
    if jx_bool (0 : Int32) = true then some (some (.int (0 : Int32)), h1) else none
  else
    if v2 = 0 then none else (jx_pF (jx_at h1 a0) 2 4 (.long (s0 / v2))).bind fun e3 =>
    if v2 = 0 then none else (jx_pF (jx_at (jx_set h1 a0 e3) a0) 2 5 (.long (x4 / v2))).bind fun e4 =>
    (jx_gL (jx_at (jx_set (jx_set h1 a0 e3) a0 e4) a0) 2 5).bind fun v5 =>
    if 0 ≤ (lg_cmp v5 (0 : Int64)) then
      if jx_bool (1 : Int32) = true then some (some (.int (1 : Int32)), (jx_set (jx_set h1 a0 e3) a0 e4)) else none
    else
      (jx_gL (jx_at (jx_set (jx_set h1 a0 e3) a0 e4) a0) 2 4).bind fun v6 =>
      (jx_pF (jx_at (jx_set (jx_set h1 a0 e3) a0 e4) a0) 2 4 (.long (-v6))).bind fun e7 =>
      (jx_gL (jx_at (jx_set (jx_set (jx_set h1 a0 e3) a0 e4) a0 e7) a0) 2 5).bind fun v8 =>
      (jx_pF (jx_at (jx_set (jx_set (jx_set h1 a0 e3) a0 e4) a0 e7) a0) 2 5 (.long (-v8))).bind fun e9 =>
      if jx_bool (1 : Int32) = true then some (some (.int (1 : Int32)), (jx_set (jx_set (jx_set (jx_set h1 a0 e3) a0 e4) a0 e7) a0 e9)) else none :=
  sorry
theorem je_254 (rc : Nat → Nat × (Nat → Int32)) (d : Nat) (a0 : Nat) (a1 : Nat) (x2 : Int32) (x3 : Int32) (h : jxH) : jx_C rc (d + 1) 254 [.ref a0, .ref a1, .int x2, .int x3] h =
  if jx_is (jx_at h a0) 2 = true then
  (jx_gR (jx_at h a0) 2 0).bind fun b1 =>
  jx_cI (jx_C rc d 327 [.ref b1, .ref a1, .int x2, .int x3] h) fun v3 h2 =>
  if v3 = 0 then
    if jx_bool (0 : Int32) = true then some (some (.int (0 : Int32)), h2) else none
  else
    jx_cL (jx_C rc d 249 [.ref a0, .ref a1, .int v3] h2) fun v5 h4 =>
    (jx_pF (jx_at h4 a0) 2 4 (.long v5)).bind fun e6 =>
    jx_cL (jx_C rc d 249 [.ref a0, .ref a1, .int (v3 &&& (((1 : Int32) <<< (x2 &&& 31)) ^^^ (-1 : Int32)))] (jx_set h4 a0 e6)) fun v8 h7 =>
    (jx_pF (jx_at h7 a0) 2 5 (.long v8)).bind fun e9 =>
    (jx_gL (jx_at (jx_set h7 a0 e9) a0) 2 5).bind fun v10 =>
    if 0 ≤ (lg_cmp v10 (0 : Int64)) then
      (jx_gL (jx_at (jx_set h7 a0 e9) a0) 2 5).bind fun v11 =>
      if (lg_cmp v11 (0 : Int64)) = 0 then
        (jx_pF (jx_at (jx_set h7 a0 e9) a0) 2 4 (.long (1 : Int64))).bind fun e12 =>
        if jx_bool (1 : Int32) = true then some (some (.int (1 : Int32)), (jx_set (jx_set h7 a0 e9) a0 e12)) else none
      else
        if jx_bool (1 : Int32) = true then some (some (.int (1 : Int32)), (jx_set h7 a0 e9)) else none
    else
      (jx_gL (jx_at (jx_set h7 a0 e9) a0) 2 4).bind fun v13 =>
      (jx_pF (jx_at (jx_set h7 a0 e9) a0) 2 4 (.long (-v13))).bind fun e14 =>
      (jx_gL (jx_at (jx_set (jx_set h7 a0 e9) a0 e14) a0) 2 5).bind fun v15 =>
      (jx_pF (jx_at (jx_set (jx_set h7 a0 e9) a0 e14) a0) 2 5 (.long (-v15))).bind fun e16 =>
      if jx_bool (1 : Int32) = true then some (some (.int (1 : Int32)), (jx_set (jx_set (jx_set h7 a0 e9) a0 e14) a0 e16)) else none
  else none :=
  sorry
noncomputable def jb_255 (rc : Nat → Nat × (Nat → Int32)) (d : Nat) (i : Nat) (ls : List (Nat × Value)) (st : List Value) (h : jxH) : jxR := none
theorem je_255 (rc : Nat → Nat × (Nat → Int32)) (d : Nat) (a0 : Nat) (a1 : Nat) (x2 : Int32) (h : jxH) : jx_C rc (d + 1) 255 [.ref a0, .ref a1, .int x2] h =
  if jx_is (jx_at h a0) 2 = true then
  jb_255 rc d 4 [(0, .ref a0), (1, .ref a1), (2, .int x2), (3, .int (-1 : Int32)), (4, .int (11 : Int32))] [] h
  else none :=
  sorry
theorem je_255_4 (rc : Nat → Nat × (Nat → Int32)) (d : Nat) (a0 : Nat) (a1 : Nat) (x2 : Int32) (x3 : Int32) (x4 : Int32) (h : jxH) : jb_255 rc d 4 [(0, .ref a0), (1, .ref a1), (2, .int x2), (3, .int x3), (4, .int x4)] [] h =
  if x4 < 0 then
    jx_cI (jx_C rc d 59 [.int x3] h) fun v2 h1 =>
    if v2 = 0 then
      jx_cL (jx_C rc d 249 [.ref a0, .ref a1, .int x2] h1) fun v4 h3 =>
      jx_cL (jx_C rc d 249 [.ref a0, .ref a1, .int x2] h3) fun v6 h5 =>
      if 0 ≤ (lg_cmp v4 (0 : Int64)) then
        jb_255 rc d 51 [(0, .ref a0), (5, .long v4), (7, .long v6)] [.long v4, .ref a0] h5
      else
        jb_255 rc d 51 [(0, .ref a0), (5, .long v4), (7, .long v6)] [.long (-v4), .ref a0] h5
    else
      jx_cL (jx_C rc d 249 [.ref a0, .ref a1, .int x2] h1) fun v8 h7 =>
      jx_cL (jx_C rc d 249 [.ref a0, .ref a1, .int (x2 &&& (((1 : Int32) <<< (x3 &&& 31)) ^^^ (-1 : Int32)))] h7) fun v10 h9 =>
      if 0 ≤ (lg_cmp v8 (0 : Int64)) then
        jb_255 rc d 51 [(0, .ref a0), (5, .long v8), (7, .long v10)] [.long v8, .ref a0] h9
      else
        jb_255 rc d 51 [(0, .ref a0), (5, .long v8), (7, .long v10)] [.long (-v8), .ref a0] h9
  else
    jx_cI (jx_C rc d 60 [.int x4, .int x2] h) fun v12 h11 =>
    if v12 = 0 then
      jb_255 rc d 4 [(0, .ref a0), (1, .ref a1), (2, .int x2), (3, .int x3), (4, .int (x4 + (-1 : Int32)))] [] h11
    else
      jx_cI (jx_C rc d 230 [.ref a1, .int x4] h11) fun v14 h13 =>
      if (1 : Int32) < v14 then
        jb_255 rc d 4 [(0, .ref a0), (1, .ref a1), (2, .int x2), (3, .int x3), (4, .int (x4 + (-1 : Int32)))] [] h13
      else
        jb_255 rc d 4 [(0, .ref a0), (1, .ref a1), (2, .int x2), (3, .int x4), (4, .int (x4 + (-1 : Int32)))] [] h13 :=
  sorry
theorem je_255_51 (rc : Nat → Nat × (Nat → Int32)) (d : Nat) (a0 : Nat) (x5 : Int64) (x7 : Int64) (s0 : Nat) (s1 : Int64) (h : jxH) : jb_255 rc d 51 [(0, .ref a0), (5, .long x5), (7, .long x7)] [.long s1, .ref s0] h =
  (jx_pF (jx_at h s0) 2 4 (.long s1)).bind fun e1 =>
  (jx_gL (jx_at (jx_set h s0 e1) a0) 2 4).bind fun v2 =>
  if 0 < (lg_cmp v2 (0 : Int64)) then
    if (lg_cmp x5 (0 : Int64)) ≤ 0 then
      (jx_gL (jx_at (jx_set h s0 e1) a0) 2 4).bind fun v3 =>
      jx_cL (jx_C rc d 329 [.long x7, .long v3] (jx_set h s0 e1)) fun v5 h4 =>
      (jx_pF (jx_at h4 a0) 2 5 (.long v5)).bind fun e6 =>
      some (none, (jx_set h4 a0 e6))
    else
      (jx_gL (jx_at (jx_set h s0 e1) a0) 2 4).bind fun v7 =>
      jx_cL (jx_C rc d 329 [.long (-x7), .long v7] (jx_set h s0 e1)) fun v9 h8 =>
      (jx_pF (jx_at h8 a0) 2 5 (.long v9)).bind fun e10 =>
      some (none, (jx_set h8 a0 e10))
  else
    (jx_pF (jx_at (jx_set h s0 e1) a0) 2 5 (.long (1 : Int64))).bind fun e11 =>
    some (none, (jx_set (jx_set h s0 e1) a0 e11)) :=
  sorry
noncomputable def jb_256 (rc : Nat → Nat × (Nat → Int32)) (d : Nat) (i : Nat) (ls : List (Nat × Value)) (st : List Value) (h : jxH) : jxR := none
theorem je_256 (rc : Nat → Nat × (Nat → Int32)) (d : Nat) (a0 : Nat) (a1 : Nat) (x2 : Int32) (h : jxH) : jx_C rc (d + 1) 256 [.ref a0, .ref a1, .int x2] h =
  if jx_is (jx_at h a0) 2 = true then
  (jx_gR (jx_at h a0) 2 0).bind fun b1 =>
  (jx_gI (jx_at h a1) 1 2).bind fun v2 =>
  jx_cV (jx_C rc d 319 [.ref b1, .ref a1, .int v2] h) fun h3 =>
  jx_cV (jx_C rc d 250 [.ref a0, .ref a1, .int x2] h3) fun h4 =>
  (jx_pF (jx_at h4 a0) 2 6 (.int (0 : Int32))).bind fun e5 =>
  (jx_pF (jx_at (jx_set h4 a0 e5) a0) 2 7 (.int (0 : Int32))).bind fun e6 =>
  (jx_pF (jx_at (jx_set (jx_set h4 a0 e5) a0 e6) a0) 2 8 (.int (0 : Int32))).bind fun e7 =>
  (jx_pF (jx_at (jx_set (jx_set (jx_set h4 a0 e5) a0 e6) a0 e7) a0) 2 9 (.int (0 : Int32))).bind fun e8 =>
  jb_256 rc d 24 [(0, .ref a0), (2, .int x2), (3, .int (11 : Int32))] [] (jx_set (jx_set (jx_set (jx_set h4 a0 e5) a0 e6) a0 e7) a0 e8)
  else none :=
  sorry
theorem je_256_24 (rc : Nat → Nat × (Nat → Int32)) (d : Nat) (a0 : Nat) (x2 : Int32) (x3 : Int32) (h : jxH) : jb_256 rc d 24 [(0, .ref a0), (2, .int x2), (3, .int x3)] [] h =
  if x3 < 0 then
    some (none, h)
  else
    (jx_gR (jx_at h a0) 2 0).bind fun b1 =>
    jx_cI (jx_C rc d 323 [.ref b1, .int x3] h) fun v3 h2 =>
    jx_cI (jx_C rc d 59 [.int v3] h2) fun v5 h4 =>
    if v5 = 0 then
      jb_256 rc d 24 [(0, .ref a0), (2, .int x2), (3, .int (x3 + (-1 : Int32)))] [] h4
    else
      (jx_gR (jx_at h4 a0) 2 0).bind fun b6 =>
      jx_cI (jx_C rc d 324 [.ref b6, .int v3] h4) fun v8 h7 =>
      jx_cV (jx_C rc d 257 [.ref a0, .int v3, .int v8, .int x2] h7) fun h9 =>
      jb_256 rc d 24 [(0, .ref a0), (2, .int x2), (3, .int (x3 + (-1 : Int32)))] [] h9 :=
  sorry
noncomputable def jb_257 (rc : Nat → Nat × (Nat → Int32)) (d : Nat) (i : Nat) (ls : List (Nat × Value)) (st : List Value) (h : jxH) : jxR := none
theorem je_257 (rc : Nat → Nat × (Nat → Int32)) (d : Nat) (a0 : Nat) (x1 : Int32) (x2 : Int32) (x3 : Int32) (h : jxH) : jx_C rc (d + 1) 257 [.ref a0, .int x1, .int x2, .int x3] h =
  if jx_is (jx_at h a0) 2 = true then
  (jx_gI (jx_at h a0) 2 6).bind fun v1 =>
  jx_cI (jx_C rc d 60 [.int x1, .int v1] h) fun v3 h2 =>
  if v3 = 0 then
    jx_cI (jx_C rc d 59 [.int x1] h2) fun v5 h4 =>
    if v5 = 0 then
      jb_257 rc d 79 [(0, .ref a0), (2, .int x2)] [] h4
    else
      (jx_gR (jx_at h4 a0) 2 1).bind fun b6 =>
      (jx_aL (jx_at h4 b6) x1).bind fun v7 =>
      if (lg_cmp v7 (0 : Int64)) = 0 then
        jb_257 rc d 79 [(0, .ref a0), (2, .int x2)] [] h4
      else
        (jx_gR (jx_at h4 a0) 2 1).bind fun b8 =>
        (jx_aL (jx_at h4 b8) x1).bind fun v9 =>
        if (lg_cmp v9 (0 : Int64)) ≤ 0 then
          jb_257 rc d 38 [(0, .ref a0), (1, .int x1), (2, .int x2), (3, .int x3)] [.int (0 : Int32)] h4
        else
          jb_257 rc d 38 [(0, .ref a0), (1, .int x1), (2, .int x2), (3, .int x3)] [.int (1 : Int32)] h4
  else
    (jx_gI (jx_at h2 a0) 2 7).bind fun v10 =>
    (jx_pF (jx_at h2 a0) 2 7 (.int (v10 + (1 : Int32)))).bind fun e11 =>
    (jx_gI (jx_at (jx_set h2 a0 e11) a0) 2 8).bind fun v12 =>
    (jx_pF (jx_at (jx_set h2 a0 e11) a0) 2 8 (.int (v12 + (1 : Int32)))).bind fun e13 =>
    some (none, (jx_set (jx_set h2 a0 e11) a0 e13))
  else none :=
  sorry
theorem je_257_38 (rc : Nat → Nat × (Nat → Int32)) (d : Nat) (a0 : Nat) (x1 : Int32) (x2 : Int32) (x3 : Int32) (s0 : Int32) (h : jxH) : jb_257 rc d 38 [(0, .ref a0), (1, .int x1), (2, .int x2), (3, .int x3)] [.int s0] h =
  (jx_gR (jx_at h a0) 2 2).bind fun b1 =>
  (jx_aL (jx_at h b1) x1).bind fun v2 =>
  if (lg_cmp v2 (0 : Int64)) ≤ 0 then
    if s0 = (0 : Int32) then
      (jx_gI (jx_at h a0) 2 7).bind fun v3 =>
      if (1 : Int32) = 0 then
        jb_257 rc d 61 [(0, .ref a0), (1, .int x1), (2, .int x2), (3, .int x3), (4, .int (1 : Int32))] [.int (0 : Int32), .int v3, .ref a0] h
      else
        jb_257 rc d 61 [(0, .ref a0), (1, .int x1), (2, .int x2), (3, .int x3), (4, .int (1 : Int32))] [.int (1 : Int32), .int v3, .ref a0] h
    else
      (jx_gI (jx_at h a0) 2 7).bind fun v4 =>
      if (0 : Int32) = 0 then
        jb_257 rc d 61 [(0, .ref a0), (1, .int x1), (2, .int x2), (3, .int x3), (4, .int (0 : Int32))] [.int (0 : Int32), .int v4, .ref a0] h
      else
        jb_257 rc d 61 [(0, .ref a0), (1, .int x1), (2, .int x2), (3, .int x3), (4, .int (0 : Int32))] [.int (1 : Int32), .int v4, .ref a0] h
  else
    if s0 = (1 : Int32) then
      (jx_gI (jx_at h a0) 2 7).bind fun v5 =>
      if (1 : Int32) = 0 then
        jb_257 rc d 61 [(0, .ref a0), (1, .int x1), (2, .int x2), (3, .int x3), (4, .int (1 : Int32))] [.int (0 : Int32), .int v5, .ref a0] h
      else
        jb_257 rc d 61 [(0, .ref a0), (1, .int x1), (2, .int x2), (3, .int x3), (4, .int (1 : Int32))] [.int (1 : Int32), .int v5, .ref a0] h
    else
      (jx_gI (jx_at h a0) 2 7).bind fun v6 =>
      if (0 : Int32) = 0 then
        jb_257 rc d 61 [(0, .ref a0), (1, .int x1), (2, .int x2), (3, .int x3), (4, .int (0 : Int32))] [.int (0 : Int32), .int v6, .ref a0] h
      else
        jb_257 rc d 61 [(0, .ref a0), (1, .int x1), (2, .int x2), (3, .int x3), (4, .int (0 : Int32))] [.int (1 : Int32), .int v6, .ref a0] h :=
  sorry
theorem je_257_61 (rc : Nat → Nat × (Nat → Int32)) (d : Nat) (a0 : Nat) (x1 : Int32) (x2 : Int32) (x3 : Int32) (x4 : Int32) (s0 : Nat) (s1 : Int32) (s2 : Int32) (h : jxH) : jb_257 rc d 61 [(0, .ref a0), (1, .int x1), (2, .int x2), (3, .int x3), (4, .int x4)] [.int s2, .int s1, .ref s0] h =
  (jx_pF (jx_at h s0) 2 7 (.int (s1 + s2))).bind fun e1 =>
  (jx_gI (jx_at (jx_set h s0 e1) a0) 2 8).bind fun v2 =>
  if x4 = 0 then
    (jx_pF (jx_at (jx_set h s0 e1) a0) 2 8 (.int (v2 + (1 : Int32)))).bind fun e3 =>
    jx_cV (jx_C rc d 251 [.ref a0, .int x1, .int x2, .int x3] (jx_set (jx_set h s0 e1) a0 e3)) fun h4 =>
    some (none, h4)
  else
    (jx_pF (jx_at (jx_set h s0 e1) a0) 2 8 (.int (v2 + (0 : Int32)))).bind fun e5 =>
    jx_cV (jx_C rc d 251 [.ref a0, .int x1, .int x2, .int x3] (jx_set (jx_set h s0 e1) a0 e5)) fun h6 =>
    some (none, h6) :=
  sorry
theorem je_257_79 (rc : Nat → Nat × (Nat → Int32)) (d : Nat) (a0 : Nat) (x2 : Int32) (h : jxH) : jb_257 rc d 79 [(0, .ref a0), (2, .int x2)] [] h =
  jx_cI (jx_C rc d 59 [.int x2] h) fun v2 h1 =>
  if v2 = 0 then
    (jx_gI (jx_at h1 a0) 2 9).bind fun v3 =>
    (jx_pF (jx_at h1 a0) 2 9 (.int (v3 + (1 : Int32)))).bind fun e4 =>
    some (none, (jx_set h1 a0 e4))
  else
    (jx_gI (jx_at h1 a0) 2 6).bind fun v5 =>
    jx_cI (jx_C rc d 60 [.int x2, .int v5] h1) fun v7 h6 =>
    if v7 = 0 then
      (jx_gI (jx_at h6 a0) 2 6).bind fun v8 =>
      (jx_pF (jx_at h6 a0) 2 6 (.int (v8 ||| ((1 : Int32) <<< (x2 &&& 31))))).bind fun e9 =>
      some (none, (jx_set h6 a0 e9))
    else
      (jx_gI (jx_at h6 a0) 2 9).bind fun v10 =>
      (jx_pF (jx_at h6 a0) 2 9 (.int (v10 + (1 : Int32)))).bind fun e11 =>
      some (none, (jx_set h6 a0 e11)) :=
  sorry
noncomputable def jb_258 (rc : Nat → Nat × (Nat → Int32)) (d : Nat) (i : Nat) (ls : List (Nat × Value)) (st : List Value) (h : jxH) : jxR := none
theorem je_258 (rc : Nat → Nat × (Nat → Int32)) (d : Nat) (a0 : Nat) (a1 : Nat) (h : jxH) : jx_C rc (d + 1) 258 [.ref a0, .ref a1] h =
  if jx_is (jx_at h a0) 2 = true then
  jb_258 rc d 2 [(0, .ref a0), (1, .ref a1), (2, .int (0 : Int32))] [] h
  else none :=
  sorry
theorem je_258_2 (rc : Nat → Nat × (Nat → Int32)) (d : Nat) (a0 : Nat) (a1 : Nat) (x2 : Int32) (h : jxH) : jb_258 rc d 2 [(0, .ref a0), (1, .ref a1), (2, .int x2)] [] h =
  if (12 : Int32) ≤ x2 then
    (jx_pF (jx_at h a0) 2 11 (.int (0 : Int32))).bind fun e1 =>
    jb_258 rc d 35 [(0, .ref a0), (1, .ref a1), (2, .int (0 : Int32)), (3, .int (0 : Int32))] [] (jx_set h a0 e1)
  else
    jx_cI (jx_C rc d 228 [.ref a1, .int x2] h) fun v3 h2 =>
    (jx_gR (jx_at h2 a0) 2 3).bind fun b4 =>
    jx_cI (jx_C rc d 229 [.ref a1, .int x2] h2) fun v6 h5 =>
    (jx_sI (jx_at h5 b4) 0 x2 ((v6 ||| ((v3 &&& (1 : Int32)) <<< (x2 &&& 31))) ||| ((v3 &&& (1 : Int32)) <<< ((12 : Int32) &&& 31)))).bind fun e7 =>
    jb_258 rc d 2 [(0, .ref a0), (1, .ref a1), (2, .int (x2 + (1 : Int32)))] [] (jx_set h5 b4 e7) :=
  sorry
theorem je_258_35 (rc : Nat → Nat × (Nat → Int32)) (d : Nat) (a0 : Nat) (a1 : Nat) (x2 : Int32) (x3 : Int32) (h : jxH) : jb_258 rc d 35 [(0, .ref a0), (1, .ref a1), (2, .int x2), (3, .int x3)] [] h =
  if (12 : Int32) ≤ x3 then
    jx_cI (jx_C rc d 227 [.ref a1] h) fun v2 h1 =>
    jx_cI (jx_C rc d 330 [.int (0 : Int32), .int (v2 - x2)] h1) fun v4 h3 =>
    (jx_pF (jx_at h3 a0) 2 10 (.int v4)).bind fun e5 =>
    jx_cV (jx_C rc d 261 [.ref a0, .int x2] (jx_set h3 a0 e5)) fun h6 =>
    some (none, h6)
  else
    jx_cI (jx_C rc d 259 [.ref a0, .int x3, .int x2] h) fun v8 h7 =>
    jx_cI (jx_C rc d 59 [.int v8] h7) fun v10 h9 =>
    if v10 = 0 then
      jb_258 rc d 35 [(0, .ref a0), (1, .ref a1), (2, .int x2), (3, .int (x3 + (1 : Int32)))] [] h9
    else
      jx_cI (jx_C rc d 59 [.int x2] h9) fun v12 h11 =>
      if v12 = 0 then
        jb_258 rc d 35 [(0, .ref a0), (1, .ref a1), (2, .int x2), (3, .int (x3 + (1 : Int32)))] [] h11
      else
        (jx_gR (jx_at h11 a0) 2 3).bind fun b13 =>
        (jx_aI (jx_at h11 b13) 0 v8).bind fun v14 =>
        (jx_gR (jx_at h11 a0) 2 3).bind fun b15 =>
        (jx_gR (jx_at h11 a0) 2 3).bind fun b16 =>
        (jx_aI (jx_at h11 b16) 0 x2).bind fun v17 =>
        (jx_sI (jx_at h11 b15) 0 v8 v17).bind fun e18 =>
        (jx_gR (jx_at (jx_set h11 b15 e18) a0) 2 3).bind fun b19 =>
        (jx_sI (jx_at (jx_set h11 b15 e18) b19) 0 x2 v14).bind fun e20 =>
        jx_cV (jx_C rc d 260 [.ref a0, .int x3, .int x2] (jx_set (jx_set h11 b15 e18) b19 e20)) fun h21 =>
        jb_258 rc d 35 [(0, .ref a0), (1, .ref a1), (2, .int (x2 + (1 : Int32))), (3, .int (x3 + (1 : Int32)))] [] h21 :=
  sorry
noncomputable def jb_259 (rc : Nat → Nat × (Nat → Int32)) (d : Nat) (i : Nat) (ls : List (Nat × Value)) (st : List Value) (h : jxH) : jxR := none
theorem je_259 (rc : Nat → Nat × (Nat → Int32)) (d : Nat) (a0 : Nat) (x1 : Int32) (x2 : Int32) (h : jxH) : jx_C rc (d + 1) 259 [.ref a0, .int x1, .int x2] h =
  if jx_is (jx_at h a0) 2 = true then
  jb_259 rc d 2 [(0, .ref a0), (1, .int x1), (2, .int x2), (3, .int (0 : Int32))] [] h
  else none :=
  sorry
theorem je_259_2 (rc : Nat → Nat × (Nat → Int32)) (d : Nat) (a0 : Nat) (x1 : Int32) (x2 : Int32) (x3 : Int32) (h : jxH) : jb_259 rc d 2 [(0, .ref a0), (1, .int x1), (2, .int x2), (3, .int x3)] [] h =
  if (12 : Int32) ≤ x3 then
    some (some (.int (-1 : Int32)), h)
  else
    if x3 < x2 then
      jb_259 rc d 2 [(0, .ref a0), (1, .int x1), (2, .int x2), (3, .int (x3 + (1 : Int32)))] [] h
    else
      (jx_gR (jx_at h a0) 2 3).bind fun b1 =>
      (jx_aI (jx_at h b1) 0 x3).bind fun v2 =>
      jx_cI (jx_C rc d 60 [.int x1, .int v2] h) fun v4 h3 =>
      if v4 = 0 then
        jb_259 rc d 2 [(0, .ref a0), (1, .int x1), (2, .int x2), (3, .int (x3 + (1 : Int32)))] [] h3
      else
        some (some (.int x3), h3) :=
  sorry
noncomputable def jb_260 (rc : Nat → Nat × (Nat → Int32)) (d : Nat) (i : Nat) (ls : List (Nat × Value)) (st : List Value) (h : jxH) : jxR := none
theorem je_260 (rc : Nat → Nat × (Nat → Int32)) (d : Nat) (a0 : Nat) (x1 : Int32) (x2 : Int32) (h : jxH) : jx_C rc (d + 1) 260 [.ref a0, .int x1, .int x2] h =
  if jx_is (jx_at h a0) 2 = true then
  jb_260 rc d 2 [(0, .ref a0), (1, .int x1), (2, .int x2), (3, .int (0 : Int32))] [] h
  else none :=
  sorry
theorem je_260_2 (rc : Nat → Nat × (Nat → Int32)) (d : Nat) (a0 : Nat) (x1 : Int32) (x2 : Int32) (x3 : Int32) (h : jxH) : jb_260 rc d 2 [(0, .ref a0), (1, .int x1), (2, .int x2), (3, .int x3)] [] h =
  if (12 : Int32) ≤ x3 then
    some (none, h)
  else
    if x3 = x2 then
      jb_260 rc d 2 [(0, .ref a0), (1, .int x1), (2, .int x2), (3, .int (x3 + (1 : Int32)))] [] h
    else
      jx_cI (jx_C rc d 59 [.int x2] h) fun v2 h1 =>
      if v2 = 0 then
        jb_260 rc d 2 [(0, .ref a0), (1, .int x1), (2, .int x2), (3, .int (x3 + (1 : Int32)))] [] h1
      else
        (jx_gR (jx_at h1 a0) 2 3).bind fun b3 =>
        (jx_aI (jx_at h1 b3) 0 x3).bind fun v4 =>
        jx_cI (jx_C rc d 60 [.int x1, .int v4] h1) fun v6 h5 =>
        if v6 = 0 then
          jb_260 rc d 2 [(0, .ref a0), (1, .int x1), (2, .int x2), (3, .int (x3 + (1 : Int32)))] [] h5
        else
          (jx_gR (jx_at h5 a0) 2 3).bind fun b7 =>
          (jx_aI (jx_at h5 b7) 0 x3).bind fun v8 =>
          (jx_gR (jx_at h5 a0) 2 3).bind fun b9 =>
          (jx_aI (jx_at h5 b9) 0 x2).bind fun v10 =>
          (jx_sI (jx_at h5 b7) 0 x3 (v8 ^^^ v10)).bind fun e11 =>
          jb_260 rc d 2 [(0, .ref a0), (1, .int x1), (2, .int x2), (3, .int (x3 + (1 : Int32)))] [] (jx_set h5 b7 e11) :=
  sorry
noncomputable def jb_261 (rc : Nat → Nat × (Nat → Int32)) (d : Nat) (i : Nat) (ls : List (Nat × Value)) (st : List Value) (h : jxH) : jxR := none
theorem je_261 (rc : Nat → Nat × (Nat → Int32)) (d : Nat) (a0 : Nat) (x1 : Int32) (h : jxH) : jx_C rc (d + 1) 261 [.ref a0, .int x1] h =
  if jx_is (jx_at h a0) 2 = true then
  jb_261 rc d 2 [(0, .ref a0), (1, .int x1), (2, .int (0 : Int32))] [] h
  else none :=
  sorry
theorem je_261_2 (rc : Nat → Nat × (Nat → Int32)) (d : Nat) (a0 : Nat) (x1 : Int32) (x2 : Int32) (h : jxH) : jb_261 rc d 2 [(0, .ref a0), (1, .int x1), (2, .int x2)] [] h =
  if x1 ≤ x2 then
    some (none, h)
  else
    if (12 : Int32) ≤ x2 then
      some (none, h)
    else
      (jx_gR (jx_at h a0) 2 3).bind fun b1 =>
      (jx_aI (jx_at h b1) 0 x2).bind fun v2 =>
      if ((v2 >>> ((12 : Int32) &&& 31)) &&& (1 : Int32)) = 0 then
        jb_261 rc d 2 [(0, .ref a0), (1, .int x1), (2, .int (x2 + (1 : Int32)))] [] h
      else
        (jx_gI (jx_at h a0) 2 11).bind fun v3 =>
        (jx_gR (jx_at h a0) 2 3).bind fun b4 =>
        (jx_aI (jx_at h b4) 0 x2).bind fun v5 =>
        jx_cI (jx_C rc d 67 [.int v5] h) fun v7 h6 =>
        jx_cI (jx_C rc d 330 [.int (0 : Int32), .int v7] h6) fun v9 h8 =>
        (jx_pF (jx_at h8 a0) 2 11 (.int (v3 ||| ((1 : Int32) <<< (v9 &&& 31))))).bind fun e10 =>
        jb_261 rc d 2 [(0, .ref a0), (1, .int x1), (2, .int (x2 + (1 : Int32)))] [] (jx_set h8 a0 e10) :=
  sorry
noncomputable def jb_262 (rc : Nat → Nat × (Nat → Int32)) (d : Nat) (i : Nat) (ls : List (Nat × Value)) (st : List Value) (h : jxH) : jxR := none
theorem je_262 (rc : Nat → Nat × (Nat → Int32)) (d : Nat) (a0 : Nat) (h : jxH) : jx_C rc (d + 1) 262 [.ref a0] h =
  if jx_is (jx_at h a0) 3 = true then
  if (4 : Int32) < 0 ∨ 5000 < (4 : Int32) then none else
  (jx_pF (jx_at (jx_new h ((4 : Int32)).toNatClampNeg (jxQ 4 ((4 : Int32)).toNatClampNeg (fun _ => none))) a0) 3 0 (.ref h.1)).bind fun e1 =>
  jx_cV (jx_C rc d 280 [.ref (jx_set (jx_new h ((4 : Int32)).toNatClampNeg (jxQ 4 ((4 : Int32)).toNatClampNeg (fun _ => none))) a0 e1).1] (jx_new (jx_set (jx_new h ((4 : Int32)).toNatClampNeg (jxQ 4 ((4 : Int32)).toNatClampNeg (fun _ => none))) a0 e1) 7 (.inl (6, jx_dflt 6)))) fun h2 =>
  (jx_pF (jx_at h2 a0) 3 1 (.ref (jx_set (jx_new h ((4 : Int32)).toNatClampNeg (jxQ 4 ((4 : Int32)).toNatClampNeg (fun _ => none))) a0 e1).1)).bind fun e3 =>
  jx_cV (jx_C rc d 276 [.ref (jx_set h2 a0 e3).1] (jx_new (jx_set h2 a0 e3) 3 (.inl (5, jx_dflt 5)))) fun h4 =>
  (jx_pF (jx_at h4 a0) 3 2 (.ref (jx_set h2 a0 e3).1)).bind fun e5 =>
  jx_cV (jx_C rc d 304 [.ref (jx_set h4 a0 e5).1] (jx_new (jx_set h4 a0 e5) 2 (.inl (8, jx_dflt 8)))) fun h6 =>
  (jx_pF (jx_at h6 a0) 3 3 (.ref (jx_set h4 a0 e5).1)).bind fun e7 =>
  jx_cV (jx_C rc d 304 [.ref (jx_set h6 a0 e7).1] (jx_new (jx_set h6 a0 e7) 2 (.inl (8, jx_dflt 8)))) fun h8 =>
  (jx_pF (jx_at h8 a0) 3 4 (.ref (jx_set h6 a0 e7).1)).bind fun e9 =>
  jb_262 rc d 28 [(0, .ref a0), (1, .int (0 : Int32))] [] (jx_set h8 a0 e9)
  else none :=
  sorry
theorem je_262_28 (rc : Nat → Nat × (Nat → Int32)) (d : Nat) (a0 : Nat) (x1 : Int32) (h : jxH) : jb_262 rc d 28 [(0, .ref a0), (1, .int x1)] [] h =
  (jx_gR (jx_at h a0) 3 0).bind fun b1 =>
  (jx_len (jx_at h b1)).bind fun n2 =>
  if (Int32.ofNat n2) ≤ x1 then
    some (none, h)
  else
    (jx_gR (jx_at h a0) 3 0).bind fun b3 =>
    jx_cV (jx_C rc d 223 [.ref h.1] (jx_new h 3 (.inl (1, jx_dflt 1)))) fun h4 =>
    if jx_is (jx_at h4 h.1) 1 = true then (jx_sQ (jx_at h4 b3) 4 x1 (some h.1)).bind fun e5 =>
    jb_262 rc d 28 [(0, .ref a0), (1, .int (x1 + (1 : Int32)))] [] (jx_set h4 b3 e5) else none :=
  sorry
theorem je_263 (rc : Nat → Nat × (Nat → Int32)) (d : Nat) (a0 : Nat) (x1 : Int32) (h : jxH) : jx_C rc (d + 1) 263 [.ref a0, .int x1] h =
  if jx_is (jx_at h a0) 3 = true then
  if x1 < 0 then
    some (some (.null), h)
  else
    (jx_gR (jx_at h a0) 3 0).bind fun b1 =>
    (jx_len (jx_at h b1)).bind fun n2 =>
    if (Int32.ofNat n2) ≤ x1 then
      some (some (.null), h)
    else
      (jx_gR (jx_at h a0) 3 0).bind fun b3 =>
      (jx_aQ (jx_at h b3) 4 x1).bind fun o4 =>
      jx_mo o4 (fun b5 => some (some (.ref b5), h))
      (some (some (.null), h))
  else none :=
  sorry
theorem je_264 (rc : Nat → Nat × (Nat → Int32)) (d : Nat) (a0 : Nat) (a1 : Nat) (h : jxH) : jx_C rc (d + 1) 264 [.ref a0, .ref a1] h =
  if jx_is (jx_at h a0) 3 = true then
  jx_cR (jx_C rc d 263 [.ref a0, .int (0 : Int32)] h) fun o2 h1 =>
  jx_mo o2 (fun b3 => jx_cV (jx_C rc d 225 [.ref b3, .ref a1] h1) fun h4 =>
    some (none, h4))
  (some (none, h1))
  else none :=
  sorry
theorem je_265 (rc : Nat → Nat × (Nat → Int32)) (d : Nat) (a0 : Nat) (a1 : Nat) (x2 : Int32) (h : jxH) : jx_C rc (d + 1) 265 [.ref a0, .ref a1, .int x2] h =
  if jx_is (jx_at h a0) 3 = true then
  jx_cV (jx_C rc d 264 [.ref a0, .ref a1] h) fun h1 =>
  jx_cI (jx_C rc d 227 [.ref a1] h1) fun v3 h2 =>
  (jx_pF (jx_at h2 a0) 3 7 (.int v3)).bind fun e4 =>
  (jx_pF (jx_at (jx_set h2 a0 e4) a0) 3 8 (.int (0 : Int32))).bind fun e5 =>
  (jx_pF (jx_at (jx_set (jx_set h2 a0 e4) a0 e5) a0) 3 9 (.int (-1 : Int32))).bind fun e6 =>
  jx_cV (jx_C rc d 266 [.ref a0, .int (0 : Int32), .int x2, .int (-1 : Int32)] (jx_set (jx_set (jx_set h2 a0 e4) a0 e5) a0 e6)) fun h7 =>
  some (none, h7)
  else none :=
  sorry
noncomputable def jb_266 (rc : Nat → Nat × (Nat → Int32)) (d : Nat) (i : Nat) (ls : List (Nat × Value)) (st : List Value) (h : jxH) : jxR := none
theorem je_266 (rc : Nat → Nat × (Nat → Int32)) (d : Nat) (a0 : Nat) (x1 : Int32) (x2 : Int32) (x3 : Int32) (h : jxH) : jx_C rc (d + 1) 266 [.ref a0, .int x1, .int x2, .int x3] h =
  if jx_is (jx_at h a0) 3 = true then
  jx_cR (jx_C rc d 263 [.ref a0, .int x1] h) fun o2 h1 =>
  jx_mo o2 (fun b3 => if x2 ≤ x1 then
      some (none, h1)
    else
      jx_cI (jx_C rc d 227 [.ref b3] h1) fun v5 h4 =>
      (jx_gI (jx_at h4 a0) 3 7).bind fun v6 =>
      if (v5 - ((2 : Int32) * (x2 - x1))) < v6 then
        jx_cR (jx_C rc d 263 [.ref a0, .int (x1 + (1 : Int32))] h4) fun o8 h7 =>
        jx_mo o8 (fun b9 => jb_266 rc d 29 [(0, .ref a0), (1, .int x1), (2, .int x2), (3, .int x3), (4, .ref b3), (5, .ref b9), (6, .int (0 : Int32))] [] h7)
        (jb_266 rc d 29 [(0, .ref a0), (1, .int x1), (2, .int x2), (3, .int x3), (4, .ref b3), (5, .null), (6, .int (0 : Int32))] [] h7)
      else
        some (none, h4))
  (some (none, h1))
  else none :=
  sorry
theorem je_266_29 (rc : Nat → Nat × (Nat → Int32)) (d : Nat) (a0 : Nat) (x1 : Int32) (x2 : Int32) (x3 : Int32) (a4 : Nat) (a5 : Nat) (x6 : Int32) (h : jxH) : jb_266 rc d 29 [(0, .ref a0), (1, .int x1), (2, .int x2), (3, .int x3), (4, .ref a4), (5, .ref a5), (6, .int x6)] [] h =
  if (12 : Int32) ≤ x6 then
    some (none, h)
  else
    jx_cI (jx_C rc d 226 [.ref a4, .int x6] h) fun v2 h1 =>
    if v2 = 0 then
      jb_266 rc d 29 [(0, .ref a0), (1, .int x1), (2, .int x2), (3, .int x3), (4, .ref a4), (5, .ref a5), (6, .int (x6 + (1 : Int32)))] [] h1
    else
      (jx_gR (jx_at h1 a0) 3 1).bind fun b3 =>
      jx_cI (jx_C rc d 283 [.ref b3, .ref a4, .int x6] h1) fun v5 h4 =>
      if v5 = 0 then
        jb_266 rc d 29 [(0, .ref a0), (1, .int x1), (2, .int x2), (3, .int x3), (4, .ref a4), (5, .ref a5), (6, .int (x6 + (1 : Int32)))] [] h4
      else
        if x1 = 0 then
          jx_cI (jx_C rc d 227 [.ref a4] h4) fun v7 h6 =>
          (jx_gR (jx_at h6 a0) 3 1).bind fun b8 =>
          (jx_gI (jx_at h6 b8) 6 0).bind fun v9 =>
          if v9 = 0 then
            jb_266 rc d 58 [(0, .ref a0), (1, .int x1), (2, .int x2), (3, .int x3), (4, .ref a4), (5, .ref a5), (6, .int x6), (7, .int x6)] [.int (1 : Int32), .int v7, .ref a0] h6
          else
            jb_266 rc d 58 [(0, .ref a0), (1, .int x1), (2, .int x2), (3, .int x3), (4, .ref a4), (5, .ref a5), (6, .int x6), (7, .int x6)] [.int (2 : Int32), .int v7, .ref a0] h6
        else
          jx_cI (jx_C rc d 227 [.ref a4] h4) fun v11 h10 =>
          (jx_gR (jx_at h10 a0) 3 1).bind fun b12 =>
          (jx_gI (jx_at h10 b12) 6 0).bind fun v13 =>
          if v13 = 0 then
            jb_266 rc d 58 [(0, .ref a0), (1, .int x1), (2, .int x2), (3, .int x3), (4, .ref a4), (5, .ref a5), (6, .int x6), (7, .int x3)] [.int (1 : Int32), .int v11, .ref a0] h10
          else
            jb_266 rc d 58 [(0, .ref a0), (1, .int x1), (2, .int x2), (3, .int x3), (4, .ref a4), (5, .ref a5), (6, .int x6), (7, .int x3)] [.int (2 : Int32), .int v11, .ref a0] h10 :=
  sorry
theorem je_266_29b (rc : Nat → Nat × (Nat → Int32)) (d : Nat) (a0 : Nat) (x1 : Int32) (x2 : Int32) (x3 : Int32) (a4 : Nat) (x6 : Int32) (h : jxH) : jb_266 rc d 29 [(0, .ref a0), (1, .int x1), (2, .int x2), (3, .int x3), (4, .ref a4), (5, .null), (6, .int x6)] [] h =
  if (12 : Int32) ≤ x6 then
    some (none, h)
  else
    jx_cI (jx_C rc d 226 [.ref a4, .int x6] h) fun v2 h1 =>
    if v2 = 0 then
      jb_266 rc d 29 [(0, .ref a0), (1, .int x1), (2, .int x2), (3, .int x3), (4, .ref a4), (5, .null), (6, .int (x6 + (1 : Int32)))] [] h1
    else
      (jx_gR (jx_at h1 a0) 3 1).bind fun b3 =>
      jx_cI (jx_C rc d 283 [.ref b3, .ref a4, .int x6] h1) fun v5 h4 =>
      if v5 = 0 then
        jb_266 rc d 29 [(0, .ref a0), (1, .int x1), (2, .int x2), (3, .int x3), (4, .ref a4), (5, .null), (6, .int (x6 + (1 : Int32)))] [] h4
      else
        if x1 = 0 then
          jx_cI (jx_C rc d 227 [.ref a4] h4) fun v7 h6 =>
          (jx_gR (jx_at h6 a0) 3 1).bind fun b8 =>
          (jx_gI (jx_at h6 b8) 6 0).bind fun v9 =>
          if v9 = 0 then
            jb_266 rc d 58 [(0, .ref a0), (1, .int x1), (2, .int x2), (3, .int x3), (4, .ref a4), (5, .null), (6, .int x6), (7, .int x6)] [.int (1 : Int32), .int v7, .ref a0] h6
          else
            jb_266 rc d 58 [(0, .ref a0), (1, .int x1), (2, .int x2), (3, .int x3), (4, .ref a4), (5, .null), (6, .int x6), (7, .int x6)] [.int (2 : Int32), .int v7, .ref a0] h6
        else
          jx_cI (jx_C rc d 227 [.ref a4] h4) fun v11 h10 =>
          (jx_gR (jx_at h10 a0) 3 1).bind fun b12 =>
          (jx_gI (jx_at h10 b12) 6 0).bind fun v13 =>
          if v13 = 0 then
            jb_266 rc d 58 [(0, .ref a0), (1, .int x1), (2, .int x2), (3, .int x3), (4, .ref a4), (5, .null), (6, .int x6), (7, .int x3)] [.int (1 : Int32), .int v11, .ref a0] h10
          else
            jb_266 rc d 58 [(0, .ref a0), (1, .int x1), (2, .int x2), (3, .int x3), (4, .ref a4), (5, .null), (6, .int x6), (7, .int x3)] [.int (2 : Int32), .int v11, .ref a0] h10 :=
  sorry
theorem je_266_58 (rc : Nat → Nat × (Nat → Int32)) (d : Nat) (a0 : Nat) (x1 : Int32) (x2 : Int32) (x3 : Int32) (a4 : Nat) (a5 : Nat) (x6 : Int32) (x7 : Int32) (s0 : Nat) (s1 : Int32) (s2 : Int32) (h : jxH) : jb_266 rc d 58 [(0, .ref a0), (1, .int x1), (2, .int x2), (3, .int x3), (4, .ref a4), (5, .ref a5), (6, .int x6), (7, .int x7)] [.int s2, .int s1, .ref s0] h =
  jx_cV (jx_C rc d 267 [.ref s0, .int (s1 - s2), .int (x1 + (1 : Int32)), .int x7] h) fun h1 =>
  if x2 ≤ (x1 + (1 : Int32)) then
    jb_266 rc d 29 [(0, .ref a0), (1, .int x1), (2, .int x2), (3, .int x3), (4, .ref a4), (5, .ref a5), (6, .int (x6 + (1 : Int32)))] [] h1
  else
    jx_cV (jx_C rc d 225 [.ref a5, .ref a4] h1) fun h2 =>
    (jx_gR (jx_at h2 a0) 3 1).bind fun b3 =>
    jx_cV (jx_C rc d 290 [.ref b3, .ref a5] h2) fun h4 =>
    jx_cV (jx_C rc d 266 [.ref a0, .int (x1 + (1 : Int32)), .int x2, .int x7] h4) fun h5 =>
    jb_266 rc d 29 [(0, .ref a0), (1, .int x1), (2, .int x2), (3, .int x3), (4, .ref a4), (5, .ref a5), (6, .int (x6 + (1 : Int32)))] [] h5 :=
  sorry
theorem je_266_58b (rc : Nat → Nat × (Nat → Int32)) (d : Nat) (a0 : Nat) (x1 : Int32) (x2 : Int32) (x3 : Int32) (a4 : Nat) (x6 : Int32) (x7 : Int32) (s0 : Nat) (s1 : Int32) (s2 : Int32) (h : jxH) : jb_266 rc d 58 [(0, .ref a0), (1, .int x1), (2, .int x2), (3, .int x3), (4, .ref a4), (5, .null), (6, .int x6), (7, .int x7)] [.int s2, .int s1, .ref s0] h =
  jx_cV (jx_C rc d 267 [.ref s0, .int (s1 - s2), .int (x1 + (1 : Int32)), .int x7] h) fun h1 =>
  jb_266 rc d 29 [(0, .ref a0), (1, .int x1), (2, .int x2), (3, .int x3), (4, .ref a4), (5, .null), (6, .int (x6 + (1 : Int32)))] [] h1 :=
  sorry
theorem je_267 (rc : Nat → Nat × (Nat → Int32)) (d : Nat) (a0 : Nat) (x1 : Int32) (x2 : Int32) (x3 : Int32) (h : jxH) : jx_C rc (d + 1) 267 [.ref a0, .int x1, .int x2, .int x3] h =
  if jx_is (jx_at h a0) 3 = true then
  (jx_gI (jx_at h a0) 3 7).bind fun v1 =>
  if x1 < v1 then
    (jx_pF (jx_at h a0) 3 7 (.int x1)).bind fun e2 =>
    (jx_pF (jx_at (jx_set h a0 e2) a0) 3 8 (.int x2)).bind fun e3 =>
    (jx_pF (jx_at (jx_set (jx_set h a0 e2) a0 e3) a0) 3 9 (.int x3)).bind fun e4 =>
    some (none, (jx_set (jx_set (jx_set h a0 e2) a0 e3) a0 e4))
  else
    (jx_gI (jx_at h a0) 3 7).bind fun v5 =>
    if x1 = v5 then
      (jx_gI (jx_at h a0) 3 8).bind fun v6 =>
      if v6 ≤ x2 then
        some (none, h)
      else
        (jx_pF (jx_at h a0) 3 7 (.int x1)).bind fun e7 =>
        (jx_pF (jx_at (jx_set h a0 e7) a0) 3 8 (.int x2)).bind fun e8 =>
        (jx_pF (jx_at (jx_set (jx_set h a0 e7) a0 e8) a0) 3 9 (.int x3)).bind fun e9 =>
        some (none, (jx_set (jx_set (jx_set h a0 e7) a0 e8) a0 e9))
    else
      some (none, h)
  else none :=
  sorry
theorem je_268 (rc : Nat → Nat × (Nat → Int32)) (d : Nat) (a0 : Nat) (a1 : Nat) (h : jxH) : jx_C rc (d + 1) 268 [.ref a0, .ref a1] h =
  if jx_is (jx_at h a0) 3 = true then
  jx_cI (jx_C rc d 227 [.ref a1] h) fun v2 h1 =>
  (jx_pF (jx_at h1 a0) 3 5 (.int v2)).bind fun e3 =>
  jx_cI (jx_C rc d 246 [.ref a1] (jx_set h1 a0 e3)) fun v5 h4 =>
  (jx_pF (jx_at h4 a0) 3 6 (.int v5)).bind fun e6 =>
  (jx_gR (jx_at (jx_set h4 a0 e6) a0) 3 2).bind fun b7 =>
  (jx_gR (jx_at (jx_set h4 a0 e6) a0) 3 4).bind fun b8 =>
  jx_cV (jx_C rc d 277 [.ref b7, .ref a1, .ref b8] (jx_set h4 a0 e6)) fun h9 =>
  some (none, h9)
  else none :=
  sorry
theorem je_269 (rc : Nat → Nat × (Nat → Int32)) (d : Nat) (a0 : Nat) (a1 : Nat) (h : jxH) : jx_C rc (d + 1) 269 [.ref a0, .ref a1] h =
  if jx_is (jx_at h a0) 3 = true then
  jx_cI (jx_C rc d 227 [.ref a1] h) fun v2 h1 =>
  (jx_gI (jx_at h1 a0) 3 5).bind fun v3 =>
  if v2 = v3 then
    jx_cI (jx_C rc d 246 [.ref a1] h1) fun v5 h4 =>
    (jx_gI (jx_at h4 a0) 3 6).bind fun v6 =>
    if v5 = v6 then
      (jx_gR (jx_at h4 a0) 3 2).bind fun b7 =>
      (jx_gR (jx_at h4 a0) 3 3).bind fun b8 =>
      jx_cV (jx_C rc d 277 [.ref b7, .ref a1, .ref b8] h4) fun h9 =>
      (jx_gR (jx_at h9 a0) 3 3).bind fun b10 =>
      (jx_gR (jx_at h9 a0) 3 4).bind fun b11 =>
      jx_cI (jx_C rc d 310 [.ref b10, .ref b11] h9) fun v13 h12 =>
      if jx_bool v13 = true then some (some (.int v13), h12) else none
    else
      if jx_bool (0 : Int32) = true then some (some (.int (0 : Int32)), h4) else none
  else
    if jx_bool (0 : Int32) = true then some (some (.int (0 : Int32)), h1) else none
  else none :=
  sorry
noncomputable def jb_270 (rc : Nat → Nat × (Nat → Int32)) (d : Nat) (i : Nat) (ls : List (Nat × Value)) (st : List Value) (h : jxH) : jxR := none
theorem je_270 (rc : Nat → Nat × (Nat → Int32)) (d : Nat) (a0 : Nat) (x1 : Int32) (x2 : Int32) (h : jxH) : jx_C rc (d + 1) 270 [.ref a0, .int x1, .int x2] h =
  if jx_is (jx_at h a0) 3 = true then
  jx_cR (jx_C rc d 263 [.ref a0, .int x1] h) fun o2 h1 =>
  jx_mo o2 (fun b3 => jx_cI (jx_C rc d 227 [.ref b3] h1) fun v5 h4 =>
    (jx_gI (jx_at h4 a0) 3 5).bind fun v6 =>
    if (v5 - v6) < 0 then
      if jx_bool (0 : Int32) = true then some (some (.int (0 : Int32)), h4) else none
    else
      if (v5 - v6) ≤ ((2 : Int32) * (x2 - x1)) then
        if x1 < x2 then
          jx_cR (jx_C rc d 263 [.ref a0, .int (x1 + (1 : Int32))] h4) fun o8 h7 =>
          jx_mo o8 (fun b9 => jb_270 rc d 44 [(0, .ref a0), (1, .int x1), (2, .int x2), (3, .ref b3), (5, .ref b9), (6, .int (0 : Int32))] [] h7)
          (if jx_bool (0 : Int32) = true then some (some (.int (0 : Int32)), h7) else none)
        else
          jx_cI (jx_C rc d 269 [.ref a0, .ref b3] h4) fun v11 h10 =>
          if jx_bool v11 = true then some (some (.int v11), h10) else none
      else
        if jx_bool (0 : Int32) = true then some (some (.int (0 : Int32)), h4) else none)
  (if jx_bool (0 : Int32) = true then some (some (.int (0 : Int32)), h1) else none)
  else none :=
  sorry
theorem je_270_44 (rc : Nat → Nat × (Nat → Int32)) (d : Nat) (a0 : Nat) (x1 : Int32) (x2 : Int32) (a3 : Nat) (a5 : Nat) (x6 : Int32) (h : jxH) : jb_270 rc d 44 [(0, .ref a0), (1, .int x1), (2, .int x2), (3, .ref a3), (5, .ref a5), (6, .int x6)] [] h =
  if (12 : Int32) ≤ x6 then
    jx_cV (jx_C rc d 225 [.ref a5, .ref a3] h) fun h1 =>
    jx_cV (jx_C rc d 239 [.ref a5] h1) fun h2 =>
    jx_cI (jx_C rc d 270 [.ref a0, .int (x1 + (1 : Int32)), .int x2] h2) fun v4 h3 =>
    if jx_bool v4 = true then some (some (.int v4), h3) else none
  else
    jx_cI (jx_C rc d 226 [.ref a3, .int x6] h) fun v6 h5 =>
    if v6 = 0 then
      jb_270 rc d 44 [(0, .ref a0), (1, .int x1), (2, .int x2), (3, .ref a3), (5, .ref a5), (6, .int (x6 + (1 : Int32)))] [] h5
    else
      (jx_gR (jx_at h5 a0) 3 1).bind fun b7 =>
      jx_cI (jx_C rc d 283 [.ref b7, .ref a3, .int x6] h5) fun v9 h8 =>
      if v9 = 0 then
        jb_270 rc d 44 [(0, .ref a0), (1, .int x1), (2, .int x2), (3, .ref a3), (5, .ref a5), (6, .int (x6 + (1 : Int32)))] [] h8
      else
        jx_cV (jx_C rc d 225 [.ref a5, .ref a3] h8) fun h10 =>
        (jx_gR (jx_at h10 a0) 3 1).bind fun b11 =>
        jx_cV (jx_C rc d 290 [.ref b11, .ref a5] h10) fun h12 =>
        jx_cI (jx_C rc d 270 [.ref a0, .int (x1 + (1 : Int32)), .int x2] h12) fun v14 h13 =>
        if v14 = 0 then
          jb_270 rc d 44 [(0, .ref a0), (1, .int x1), (2, .int x2), (3, .ref a3), (5, .ref a5), (6, .int (x6 + (1 : Int32)))] [] h13
        else
          if jx_bool (1 : Int32) = true then some (some (.int (1 : Int32)), h13) else none :=
  sorry
theorem je_271 (rc : Nat → Nat × (Nat → Int32)) (d : Nat) (a0 : Nat) (x1 : Int32) (x2 : Int32) (h : jxH) : jx_C rc (d + 1) 271 [.ref a0, .int x1, .int x2] h =
  if jx_is (jx_at h a0) 4 = true then
  (jx_pF (jx_at h a0) 4 0 (.int x1)).bind fun e1 =>
  jx_cI (jx_C rc d 331 [.int x2, .int (24 : Int32)] (jx_set h a0 e1)) fun v3 h2 =>
  jx_cI (jx_C rc d 330 [.int (0 : Int32), .int v3] h2) fun v5 h4 =>
  if v5 < 0 ∨ 5000 < v5 then none else
  (jx_pF (jx_at (jx_new h4 (v5).toNatClampNeg (jx_arr 0 (v5).toNatClampNeg)) a0) 4 1 (.ref h4.1)).bind fun e6 =>
  some (none, (jx_set (jx_new h4 (v5).toNatClampNeg (jx_arr 0 (v5).toNatClampNeg)) a0 e6))
  else none :=
  sorry
theorem je_272 (rc : Nat → Nat × (Nat → Int32)) (d : Nat) (a0 : Nat) (x1 : Int32) (h : jxH) : jx_C rc (d + 1) 272 [.ref a0, .int x1] h =
  if jx_is (jx_at h a0) 4 = true then
  if x1 < 0 then
    if jx_bool (0 : Int32) = true then some (some (.int (0 : Int32)), h) else none
  else
    (jx_gR (jx_at h a0) 4 1).bind fun b1 =>
    (jx_len (jx_at h b1)).bind fun n2 =>
    if (Int32.ofNat n2) ≤ x1 then
      if jx_bool (0 : Int32) = true then some (some (.int (0 : Int32)), h) else none
    else
      if jx_bool (1 : Int32) = true then some (some (.int (1 : Int32)), h) else none
  else none :=
  sorry
theorem je_273 (rc : Nat → Nat × (Nat → Int32)) (d : Nat) (a0 : Nat) (x1 : Int32) (x2 : Int32) (h : jxH) : jx_C rc (d + 1) 273 [.ref a0, .int x1, .int x2] h =
  if jx_is (jx_at h a0) 4 = true then
  if x1 < 0 then
    if jx_bool (0 : Int32) = true then some (some (.int (0 : Int32)), h) else none
  else
    if x2 < 0 then
      if jx_bool (0 : Int32) = true then some (some (.int (0 : Int32)), h) else none
    else
      (jx_gR (jx_at h a0) 4 1).bind fun b1 =>
      (jx_len (jx_at h b1)).bind fun n2 =>
      if ((Int32.ofNat n2) - x2) < x1 then
        if jx_bool (0 : Int32) = true then some (some (.int (0 : Int32)), h) else none
      else
        if jx_bool (1 : Int32) = true then some (some (.int (1 : Int32)), h) else none
  else none :=
  sorry
theorem je_274 (rc : Nat → Nat × (Nat → Int32)) (d : Nat) (a0 : Nat) (x1 : Int32) (h : jxH) : jx_C rc (d + 1) 274 [.ref a0, .int x1] h =
  if jx_is (jx_at h a0) 4 = true then
  jx_cI (jx_C rc d 272 [.ref a0, .int x1] h) fun v2 h1 =>
  if v2 = 0 then
    some (some (.int (0 : Int32)), h1)
  else
    (jx_gR (jx_at h1 a0) 4 1).bind fun b3 =>
    (jx_aI (jx_at h1 b3) 0 x1).bind fun v4 =>
    some (some (.int v4), h1)
  else none :=
  sorry
theorem je_275 (rc : Nat → Nat × (Nat → Int32)) (d : Nat) (a0 : Nat) (x1 : Int32) (x2 : Int32) (h : jxH) : jx_C rc (d + 1) 275 [.ref a0, .int x1, .int x2] h =
  if jx_is (jx_at h a0) 4 = true then
  jx_cI (jx_C rc d 272 [.ref a0, .int x1] h) fun v2 h1 =>
  if v2 = 0 then
    some (none, h1)
  else
    (jx_gR (jx_at h1 a0) 4 1).bind fun b3 =>
    (jx_gI (jx_at h1 a0) 4 0).bind fun v4 =>
    if v4 = (8 : Int32) then
      (jx_sI (jx_at h1 b3) 0 x1 ((x2).toInt8.toInt32)).bind fun e5 =>
      some (none, (jx_set h1 b3 e5))
    else
      (jx_gI (jx_at h1 a0) 4 0).bind fun v6 =>
      if v6 = (16 : Int32) then
        (jx_sI (jx_at h1 b3) 0 x1 ((x2).toInt16.toInt32)).bind fun e7 =>
        some (none, (jx_set h1 b3 e7))
      else
        (jx_sI (jx_at h1 b3) 0 x1 x2).bind fun e8 =>
        some (none, (jx_set h1 b3 e8))
  else none :=
  sorry
noncomputable def jb_276 (rc : Nat → Nat × (Nat → Int32)) (d : Nat) (i : Nat) (ls : List (Nat × Value)) (st : List Value) (h : jxH) : jxR := none
theorem je_276 (rc : Nat → Nat × (Nat → Int32)) (d : Nat) (a0 : Nat) (h : jxH) : jx_C rc (d + 1) 276 [.ref a0] h =
  if jx_is (jx_at h a0) 5 = true then
  jx_cV (jx_C rc d 318 [.ref h.1] (jx_new h 5 (.inl (10, jx_dflt 10)))) fun h1 =>
  (jx_pF (jx_at h1 a0) 5 0 (.ref h.1)).bind fun e2 =>
  if (12 : Int32) < 0 ∨ 5000 < (12 : Int32) then none else
  (jx_pF (jx_at (jx_new (jx_set h1 a0 e2) ((12 : Int32)).toNatClampNeg (jxQ 7 ((12 : Int32)).toNatClampNeg (fun _ => none))) a0) 5 1 (.ref (jx_set h1 a0 e2).1)).bind fun e3 =>
  if (12 : Int32) < 0 ∨ 5000 < (12 : Int32) then none else
  (jx_pF (jx_at (jx_new (jx_set (jx_new (jx_set h1 a0 e2) ((12 : Int32)).toNatClampNeg (jxQ 7 ((12 : Int32)).toNatClampNeg (fun _ => none))) a0 e3) ((12 : Int32)).toNatClampNeg (jxQ 7 ((12 : Int32)).toNatClampNeg (fun _ => none))) a0) 5 2 (.ref (jx_set (jx_new (jx_set h1 a0 e2) ((12 : Int32)).toNatClampNeg (jxQ 7 ((12 : Int32)).toNatClampNeg (fun _ => none))) a0 e3).1)).bind fun e4 =>
  jb_276 rc d 17 [(0, .ref a0), (1, .int (0 : Int32))] [] (jx_set (jx_new (jx_set (jx_new (jx_set h1 a0 e2) ((12 : Int32)).toNatClampNeg (jxQ 7 ((12 : Int32)).toNatClampNeg (fun _ => none))) a0 e3) ((12 : Int32)).toNatClampNeg (jxQ 7 ((12 : Int32)).toNatClampNeg (fun _ => none))) a0 e4)
  else none :=
  sorry
theorem je_276_17 (rc : Nat → Nat × (Nat → Int32)) (d : Nat) (a0 : Nat) (x1 : Int32) (h : jxH) : jb_276 rc d 17 [(0, .ref a0), (1, .int x1)] [] h =
  if (12 : Int32) ≤ x1 then
    some (none, h)
  else
    (jx_gR (jx_at h a0) 5 1).bind fun b1 =>
    jx_cV (jx_C rc d 304 [.ref h.1] (jx_new h 2 (.inl (8, jx_dflt 8)))) fun h2 =>
    if jx_is (jx_at h2 h.1) 8 = true then (jx_sQ (jx_at h2 b1) 7 x1 (some h.1)).bind fun e3 =>
    (jx_gR (jx_at (jx_set h2 b1 e3) a0) 5 2).bind fun b4 =>
    jx_cV (jx_C rc d 304 [.ref (jx_set h2 b1 e3).1] (jx_new (jx_set h2 b1 e3) 2 (.inl (8, jx_dflt 8)))) fun h5 =>
    if jx_is (jx_at h5 ((jx_set h2 b1 e3).1)) 8 = true then (jx_sQ (jx_at h5 b4) 7 x1 (some (jx_set h2 b1 e3).1)).bind fun e6 =>
    jb_276 rc d 17 [(0, .ref a0), (1, .int (x1 + (1 : Int32)))] [] (jx_set h5 b4 e6) else none else none :=
  sorry
noncomputable def jb_277 (rc : Nat → Nat × (Nat → Int32)) (d : Nat) (i : Nat) (ls : List (Nat × Value)) (st : List Value) (h : jxH) : jxR := none
theorem je_277 (rc : Nat → Nat × (Nat → Int32)) (d : Nat) (a0 : Nat) (a1 : Nat) (a2 : Nat) (h : jxH) : jx_C rc (d + 1) 277 [.ref a0, .ref a1, .ref a2] h =
  if jx_is (jx_at h a0) 5 = true then
  jb_277 rc d 4 [(0, .ref a0), (1, .ref a1), (2, .ref a2), (3, .int (0 : Int32)), (4, .int (0 : Int32))] [] h
  else none :=
  sorry
theorem je_277_4 (rc : Nat → Nat × (Nat → Int32)) (d : Nat) (a0 : Nat) (a1 : Nat) (a2 : Nat) (x3 : Int32) (x4 : Int32) (h : jxH) : jb_277 rc d 4 [(0, .ref a0), (1, .ref a1), (2, .ref a2), (3, .int x3), (4, .int x4)] [] h =
  if (12 : Int32) ≤ x4 then
    (jx_pF (jx_at h a2) 8 1 (.int (0 : Int32))).bind fun e1 =>
    (jx_gR (jx_at (jx_set h a2 e1) a0) 5 2).bind fun b2 =>
    jx_cV (jx_C rc d 279 [.ref a2, .ref b2, .int x3] (jx_set h a2 e1)) fun h3 =>
    some (none, h3)
  else
    (jx_gR (jx_at h a0) 5 0).bind fun b4 =>
    jx_cV (jx_C rc d 320 [.ref b4, .ref a1, .int x4] h) fun h5 =>
    (jx_gR (jx_at h5 a0) 5 0).bind fun b6 =>
    (jx_gI (jx_at h5 b6) 10 4).bind fun v7 =>
    jx_cI (jx_C rc d 67 [.int v7] h5) fun v9 h8 =>
    jx_cI (jx_C rc d 59 [.int v9] h8) fun v11 h10 =>
    if v11 = 0 then
      jb_277 rc d 4 [(0, .ref a0), (1, .ref a1), (2, .ref a2), (3, .int x3), (4, .int (x4 + (1 : Int32)))] [] h10
    else
      (jx_gR (jx_at h10 a0) 5 2).bind fun b12 =>
      (jx_aQ (jx_at h10 b12) 7 v9).bind fun o13 =>
      jx_mo o13 (fun b14 => jb_277 rc d 37 [(0, .ref a0), (1, .ref a1), (2, .ref a2), (3, .int (x3 ||| ((1 : Int32) <<< (v9 &&& 31)))), (4, .int x4), (5, .int v9), (6, .ref b14), (7, .int (11 : Int32))] [] h10)
      (jb_277 rc d 4 [(0, .ref a0), (1, .ref a1), (2, .ref a2), (3, .int x3), (4, .int (x4 + (1 : Int32)))] [] h10) :=
  sorry
theorem je_277_37 (rc : Nat → Nat × (Nat → Int32)) (d : Nat) (a0 : Nat) (a1 : Nat) (a2 : Nat) (x3 : Int32) (x4 : Int32) (x5 : Int32) (a6 : Nat) (x7 : Int32) (h : jxH) : jb_277 rc d 37 [(0, .ref a0), (1, .ref a1), (2, .ref a2), (3, .int x3), (4, .int x4), (5, .int x5), (6, .ref a6), (7, .int x7)] [] h =
  if x7 < 0 then
    (jx_gR (jx_at h a0) 5 1).bind fun b1 =>
    (jx_aQ (jx_at h b1) 7 x4).bind fun o2 =>
    jx_mo o2 (fun b3 => if x4 = x5 then
        (jx_pF (jx_at h a6) 8 1 (.int (0 : Int32))).bind fun e4 =>
        jx_cV (jx_C rc d 307 [.ref a6, .ref b3] (jx_set h a6 e4)) fun h5 =>
        jb_277 rc d 4 [(0, .ref a0), (1, .ref a1), (2, .ref a2), (3, .int x3), (4, .int (x4 + (1 : Int32)))] [] h5
      else
        jx_cI (jx_C rc d 309 [.ref b3, .ref a6] h) fun v7 h6 =>
        if v7 = 0 then
          jb_277 rc d 4 [(0, .ref a0), (1, .ref a1), (2, .ref a2), (3, .int x3), (4, .int (x4 + (1 : Int32)))] [] h6
        else
          (jx_pF (jx_at h6 a6) 8 1 (.int (0 : Int32))).bind fun e8 =>
          jx_cV (jx_C rc d 307 [.ref a6, .ref b3] (jx_set h6 a6 e8)) fun h9 =>
          jb_277 rc d 4 [(0, .ref a0), (1, .ref a1), (2, .ref a2), (3, .int x3), (4, .int (x4 + (1 : Int32)))] [] h9)
    (jb_277 rc d 4 [(0, .ref a0), (1, .ref a1), (2, .ref a2), (3, .int x3), (4, .int (x4 + (1 : Int32)))] [] h)
  else
    (jx_gR (jx_at h a0) 5 0).bind fun b10 =>
    jx_cI (jx_C rc d 323 [.ref b10, .int x7] h) fun v12 h11 =>
    jx_cV (jx_C rc d 278 [.ref a0, .ref a1, .int v12] h11) fun h13 =>
    jb_277 rc d 37 [(0, .ref a0), (1, .ref a1), (2, .ref a2), (3, .int x3), (4, .int x4), (5, .int x5), (6, .ref a6), (7, .int (x7 + (-1 : Int32)))] [] h13 :=
  sorry
noncomputable def jb_278 (rc : Nat → Nat × (Nat → Int32)) (d : Nat) (i : Nat) (ls : List (Nat × Value)) (st : List Value) (h : jxH) : jxR := none
theorem je_278 (rc : Nat → Nat × (Nat → Int32)) (d : Nat) (a0 : Nat) (a1 : Nat) (x2 : Int32) (h : jxH) : jx_C rc (d + 1) 278 [.ref a0, .ref a1, .int x2] h =
  if jx_is (jx_at h a0) 5 = true then
  jx_cI (jx_C rc d 59 [.int x2] h) fun v2 h1 =>
  if v2 = 0 then
    jb_278 rc d 9 [(0, .ref a0), (1, .ref a1), (2, .int x2)] [.null] h1
  else
    (jx_gR (jx_at h1 a0) 5 1).bind fun b3 =>
    (jx_aQ (jx_at h1 b3) 7 x2).bind fun o4 =>
    jx_mo o4 (fun b5 => jb_278 rc d 9 [(0, .ref a0), (1, .ref a1), (2, .int x2)] [.ref b5] h1)
    (jb_278 rc d 9 [(0, .ref a0), (1, .ref a1), (2, .int x2)] [.null] h1)
  else none :=
  sorry
theorem je_278_9 (rc : Nat → Nat × (Nat → Int32)) (d : Nat) (a0 : Nat) (a1 : Nat) (x2 : Int32) (s0 : Nat) (h : jxH) : jb_278 rc d 9 [(0, .ref a0), (1, .ref a1), (2, .int x2)] [.ref s0] h =
  (jx_gR (jx_at h a0) 5 0).bind fun b1 =>
  jx_cI (jx_C rc d 324 [.ref b1, .int x2] h) fun v3 h2 =>
  jx_cI (jx_C rc d 59 [.int v3] h2) fun v5 h4 =>
  if v5 = 0 then
    jx_cI (jx_C rc d 229 [.ref a1, .int x2] h4) fun v7 h6 =>
    (jx_pF (jx_at h6 s0) 8 1 (.int (0 : Int32))).bind fun e8 =>
    jx_cV (jx_C rc d 305 [.ref s0, .int (40 : Int32)] (jx_set h6 s0 e8)) fun h9 =>
    jx_cI (jx_C rc d 228 [.ref a1, .int x2] h9) fun v11 h10 =>
    jx_cV (jx_C rc d 306 [.ref s0, .int v11] h10) fun h12 =>
    (jx_gR (jx_at h12 a0) 5 1).bind fun b13 =>
    jx_cV (jx_C rc d 279 [.ref s0, .ref b13, .int v7] h12) fun h14 =>
    jx_cV (jx_C rc d 305 [.ref s0, .int (41 : Int32)] h14) fun h15 =>
    some (none, h15)
  else
    jx_cI (jx_C rc d 229 [.ref a1, .int x2] h4) fun v17 h16 =>
    (jx_pF (jx_at h16 s0) 8 1 (.int (0 : Int32))).bind fun e18 =>
    jx_cV (jx_C rc d 305 [.ref s0, .int (40 : Int32)] (jx_set h16 s0 e18)) fun h19 =>
    jx_cI (jx_C rc d 228 [.ref a1, .int x2] h19) fun v21 h20 =>
    jx_cV (jx_C rc d 306 [.ref s0, .int v21] h20) fun h22 =>
    (jx_gR (jx_at h22 a0) 5 1).bind fun b23 =>
    jx_cV (jx_C rc d 279 [.ref s0, .ref b23, .int (v17 &&& (((1 : Int32) <<< (v3 &&& 31)) ^^^ (-1 : Int32)))] h22) fun h24 =>
    jx_cV (jx_C rc d 305 [.ref s0, .int (41 : Int32)] h24) fun h25 =>
    some (none, h25) :=
  sorry
theorem je_278_9b (rc : Nat → Nat × (Nat → Int32)) (d : Nat) (a0 : Nat) (a1 : Nat) (x2 : Int32) (h : jxH) : jb_278 rc d 9 [(0, .ref a0), (1, .ref a1), (2, .int x2)] [.null] h =
  some (none, h) :=
  sorry
noncomputable def jb_279 (rc : Nat → Nat × (Nat → Int32)) (d : Nat) (i : Nat) (ls : List (Nat × Value)) (st : List Value) (h : jxH) : jxR := none
theorem je_279 (rc : Nat → Nat × (Nat → Int32)) (d : Nat) (a0 : Nat) (a1 : Nat) (x2 : Int32) (h : jxH) : jx_C rc (d + 1) 279 [.ref a0, .ref a1, .int x2] h =
  jb_279 rc d 4 [(0, .ref a0), (1, .ref a1), (3, .int x2), (4, .int (0 : Int32))] [] h :=
  sorry
theorem je_279_4 (rc : Nat → Nat × (Nat → Int32)) (d : Nat) (a0 : Nat) (a1 : Nat) (x3 : Int32) (x4 : Int32) (h : jxH) : jb_279 rc d 4 [(0, .ref a0), (1, .ref a1), (3, .int x3), (4, .int x4)] [] h =
  if (12 : Int32) ≤ x4 then
    some (none, h)
  else
    if x3 = 0 then
      some (none, h)
    else
      jb_279 rc d 15 [(0, .ref a0), (1, .ref a1), (3, .int x3), (4, .int x4), (5, .null), (6, .int (0 : Int32)), (7, .int (0 : Int32))] [] h :=
  sorry
theorem je_279_15 (rc : Nat → Nat × (Nat → Int32)) (d : Nat) (a0 : Nat) (a1 : Nat) (x3 : Int32) (x4 : Int32) (a5 : Nat) (x6 : Int32) (x7 : Int32) (h : jxH) : jb_279 rc d 15 [(0, .ref a0), (1, .ref a1), (3, .int x3), (4, .int x4), (5, .ref a5), (6, .int x6), (7, .int x7)] [] h =
  if (12 : Int32) ≤ x7 then
    jb_279 rc d 46 [(0, .ref a0), (1, .ref a1), (3, .int x3), (4, .int x4), (5, .ref a5), (6, .int x6)] [] h
  else
    (jx_len (jx_at h a1)).bind fun n1 =>
    if (Int32.ofNat n1) ≤ x7 then
      jb_279 rc d 46 [(0, .ref a0), (1, .ref a1), (3, .int x3), (4, .int x4), (5, .ref a5), (6, .int x6)] [] h
    else
      jx_cI (jx_C rc d 60 [.int x7, .int x3] h) fun v3 h2 =>
      if v3 = 0 then
        jb_279 rc d 31 [(0, .ref a0), (1, .ref a1), (3, .int x3), (4, .int x4), (5, .ref a5), (6, .int x6), (7, .int x7)] [.null] h2
      else
        (jx_aQ (jx_at h2 a1) 7 x7).bind fun o4 =>
        jx_mo o4 (fun b5 => jb_279 rc d 31 [(0, .ref a0), (1, .ref a1), (3, .int x3), (4, .int x4), (5, .ref a5), (6, .int x6), (7, .int x7)] [.ref b5] h2)
        (jb_279 rc d 31 [(0, .ref a0), (1, .ref a1), (3, .int x3), (4, .int x4), (5, .ref a5), (6, .int x6), (7, .int x7)] [.null] h2) :=
  sorry
theorem je_279_15b (rc : Nat → Nat × (Nat → Int32)) (d : Nat) (a0 : Nat) (a1 : Nat) (x3 : Int32) (x4 : Int32) (x6 : Int32) (x7 : Int32) (h : jxH) : jb_279 rc d 15 [(0, .ref a0), (1, .ref a1), (3, .int x3), (4, .int x4), (5, .null), (6, .int x6), (7, .int x7)] [] h =
  if (12 : Int32) ≤ x7 then
    jb_279 rc d 46 [(0, .ref a0), (1, .ref a1), (3, .int x3), (4, .int x4), (5, .null), (6, .int x6)] [] h
  else
    (jx_len (jx_at h a1)).bind fun n1 =>
    if (Int32.ofNat n1) ≤ x7 then
      jb_279 rc d 46 [(0, .ref a0), (1, .ref a1), (3, .int x3), (4, .int x4), (5, .null), (6, .int x6)] [] h
    else
      jx_cI (jx_C rc d 60 [.int x7, .int x3] h) fun v3 h2 =>
      if v3 = 0 then
        jb_279 rc d 31 [(0, .ref a0), (1, .ref a1), (3, .int x3), (4, .int x4), (5, .null), (6, .int x6), (7, .int x7)] [.null] h2
      else
        (jx_aQ (jx_at h2 a1) 7 x7).bind fun o4 =>
        jx_mo o4 (fun b5 => jb_279 rc d 31 [(0, .ref a0), (1, .ref a1), (3, .int x3), (4, .int x4), (5, .null), (6, .int x6), (7, .int x7)] [.ref b5] h2)
        (jb_279 rc d 31 [(0, .ref a0), (1, .ref a1), (3, .int x3), (4, .int x4), (5, .null), (6, .int x6), (7, .int x7)] [.null] h2) :=
  sorry
theorem je_279_31 (rc : Nat → Nat × (Nat → Int32)) (d : Nat) (a0 : Nat) (a1 : Nat) (x3 : Int32) (x4 : Int32) (a5 : Nat) (x6 : Int32) (x7 : Int32) (s0 : Nat) (h : jxH) : jb_279 rc d 31 [(0, .ref a0), (1, .ref a1), (3, .int x3), (4, .int x4), (5, .ref a5), (6, .int x6), (7, .int x7)] [.ref s0] h =
  jx_cI (jx_C rc d 309 [.ref s0, .ref a5] h) fun v2 h1 =>
  if v2 = 0 then
    jb_279 rc d 15 [(0, .ref a0), (1, .ref a1), (3, .int x3), (4, .int x4), (5, .ref a5), (6, .int x6), (7, .int (x7 + (1 : Int32)))] [] h1
  else
    jb_279 rc d 15 [(0, .ref a0), (1, .ref a1), (3, .int x3), (4, .int x4), (5, .ref s0), (6, .int x7), (7, .int (x7 + (1 : Int32)))] [] h1 :=
  sorry
theorem je_279_31b (rc : Nat → Nat × (Nat → Int32)) (d : Nat) (a0 : Nat) (a1 : Nat) (x3 : Int32) (x4 : Int32) (a5 : Nat) (x6 : Int32) (x7 : Int32) (h : jxH) : jb_279 rc d 31 [(0, .ref a0), (1, .ref a1), (3, .int x3), (4, .int x4), (5, .ref a5), (6, .int x6), (7, .int x7)] [.null] h =
  jb_279 rc d 15 [(0, .ref a0), (1, .ref a1), (3, .int x3), (4, .int x4), (5, .ref a5), (6, .int x6), (7, .int (x7 + (1 : Int32)))] [] h :=
  sorry
theorem je_279_31c (rc : Nat → Nat × (Nat → Int32)) (d : Nat) (a0 : Nat) (a1 : Nat) (x3 : Int32) (x4 : Int32) (x6 : Int32) (x7 : Int32) (s0 : Nat) (h : jxH) : jb_279 rc d 31 [(0, .ref a0), (1, .ref a1), (3, .int x3), (4, .int x4), (5, .null), (6, .int x6), (7, .int x7)] [.ref s0] h =
  jb_279 rc d 15 [(0, .ref a0), (1, .ref a1), (3, .int x3), (4, .int x4), (5, .ref s0), (6, .int x7), (7, .int (x7 + (1 : Int32)))] [] h :=
  sorry
theorem je_279_31d (rc : Nat → Nat × (Nat → Int32)) (d : Nat) (a0 : Nat) (a1 : Nat) (x3 : Int32) (x4 : Int32) (x6 : Int32) (x7 : Int32) (h : jxH) : jb_279 rc d 31 [(0, .ref a0), (1, .ref a1), (3, .int x3), (4, .int x4), (5, .null), (6, .int x6), (7, .int x7)] [.null] h =
  jb_279 rc d 15 [(0, .ref a0), (1, .ref a1), (3, .int x3), (4, .int x4), (5, .null), (6, .int x6), (7, .int (x7 + (1 : Int32)))] [] h :=
  sorry
theorem je_279_46 (rc : Nat → Nat × (Nat → Int32)) (d : Nat) (a0 : Nat) (a1 : Nat) (x3 : Int32) (x4 : Int32) (a5 : Nat) (x6 : Int32) (h : jxH) : jb_279 rc d 46 [(0, .ref a0), (1, .ref a1), (3, .int x3), (4, .int x4), (5, .ref a5), (6, .int x6)] [] h =
  jx_cV (jx_C rc d 307 [.ref a0, .ref a5] h) fun h1 =>
  jb_279 rc d 4 [(0, .ref a0), (1, .ref a1), (3, .int (x3 &&& (((1 : Int32) <<< (x6 &&& 31)) ^^^ (-1 : Int32)))), (4, .int (x4 + (1 : Int32)))] [] h1 :=
  sorry
theorem je_279_46b (rc : Nat → Nat × (Nat → Int32)) (d : Nat) (a0 : Nat) (a1 : Nat) (x3 : Int32) (x4 : Int32) (x6 : Int32) (h : jxH) : jb_279 rc d 46 [(0, .ref a0), (1, .ref a1), (3, .int x3), (4, .int x4), (5, .null), (6, .int x6)] [] h =
  jb_279 rc d 4 [(0, .ref a0), (1, .ref a1), (3, .int (x3 &&& (((1 : Int32) <<< (x6 &&& 31)) ^^^ (-1 : Int32)))), (4, .int (x4 + (1 : Int32)))] [] h :=
  sorry
theorem je_280 (rc : Nat → Nat × (Nat → Int32)) (d : Nat) (a0 : Nat) (h : jxH) : jx_C rc (d + 1) 280 [.ref a0] h =
  if jx_is (jx_at h a0) 6 = true then
  jx_cV (jx_C rc d 223 [.ref h.1] (jx_new h 3 (.inl (1, jx_dflt 1)))) fun h1 =>
  (jx_pF (jx_at h1 a0) 6 6 (.ref h.1)).bind fun e2 =>
  some (none, (jx_set h1 a0 e2))
  else none :=
  sorry
noncomputable def jb_281 (rc : Nat → Nat × (Nat → Int32)) (d : Nat) (i : Nat) (ls : List (Nat × Value)) (st : List Value) (h : jxH) : jxR := none
theorem je_281 (rc : Nat → Nat × (Nat → Int32)) (d : Nat) (a0 : Nat) (x1 : Int32) (x2 : Int32) (x3 : Int32) (x4 : Int32) (x5 : Int32) (h : jxH) : jx_C rc (d + 1) 281 [.ref a0, .int x1, .int x2, .int x3, .int x4, .int x5] h =
  if jx_is (jx_at h a0) 6 = true then
  if x1 < 0 then
    jb_281 rc d 11 [(0, .ref a0), (1, .int x1), (2, .int x2), (3, .int x3), (4, .int x4), (5, .int x5)] [.int (0 : Int32)] h
  else
    if (Int32.ofNat (rc 1).1) ≤ x1 then
      jb_281 rc d 11 [(0, .ref a0), (1, .int x1), (2, .int x2), (3, .int x3), (4, .int x4), (5, .int x5)] [.int (0 : Int32)] h
    else
      if jx_out x1 (rc 1).1 = true then none else
      jb_281 rc d 11 [(0, .ref a0), (1, .int x1), (2, .int x2), (3, .int x3), (4, .int x4), (5, .int x5)] [.int ((rc 1).2 (x1).toNatClampNeg)] h
  else none :=
  sorry
theorem je_281_11 (rc : Nat → Nat × (Nat → Int32)) (d : Nat) (a0 : Nat) (x1 : Int32) (x2 : Int32) (x3 : Int32) (x4 : Int32) (x5 : Int32) (s0 : Int32) (h : jxH) : jb_281 rc d 11 [(0, .ref a0), (1, .int x1), (2, .int x2), (3, .int x3), (4, .int x4), (5, .int x5)] [.int s0] h =
  (jx_pF (jx_at h a0) 6 0 (.int x1)).bind fun e1 =>
  if (s0 &&& (1 : Int32)) = 0 then
    (jx_pF (jx_at (jx_set h a0 e1) a0) 6 1 (.int (0 : Int32))).bind fun e2 =>
    if (s0 &&& (2 : Int32)) = 0 then
      jb_281 rc d 32 [(0, .ref a0), (4, .int x4), (5, .int x5), (6, .int s0)] [.int (0 : Int32), .ref a0] (jx_set (jx_set h a0 e1) a0 e2)
    else
      jb_281 rc d 32 [(0, .ref a0), (4, .int x4), (5, .int x5), (6, .int s0)] [.int x3, .ref a0] (jx_set (jx_set h a0 e1) a0 e2)
  else
    (jx_pF (jx_at (jx_set h a0 e1) a0) 6 1 (.int x2)).bind fun e3 =>
    if (s0 &&& (2 : Int32)) = 0 then
      jb_281 rc d 32 [(0, .ref a0), (4, .int x4), (5, .int x5), (6, .int s0)] [.int (0 : Int32), .ref a0] (jx_set (jx_set h a0 e1) a0 e3)
    else
      jb_281 rc d 32 [(0, .ref a0), (4, .int x4), (5, .int x5), (6, .int s0)] [.int x3, .ref a0] (jx_set (jx_set h a0 e1) a0 e3) :=
  sorry
theorem je_281_32 (rc : Nat → Nat × (Nat → Int32)) (d : Nat) (a0 : Nat) (x4 : Int32) (x5 : Int32) (x6 : Int32) (s0 : Nat) (s1 : Int32) (h : jxH) : jb_281 rc d 32 [(0, .ref a0), (4, .int x4), (5, .int x5), (6, .int x6)] [.int s1, .ref s0] h =
  (jx_pF (jx_at h s0) 6 2 (.int s1)).bind fun e1 =>
  if (x6 &&& (4 : Int32)) = 0 then
    (jx_pF (jx_at (jx_set h s0 e1) a0) 6 3 (.int (0 : Int32))).bind fun e2 =>
    if (x6 &&& (8 : Int32)) = 0 then
      (jx_pF (jx_at (jx_set (jx_set h s0 e1) a0 e2) a0) 6 4 (.int (0 : Int32))).bind fun e3 =>
      some (none, (jx_set (jx_set (jx_set h s0 e1) a0 e2) a0 e3))
    else
      (jx_pF (jx_at (jx_set (jx_set h s0 e1) a0 e2) a0) 6 4 (.int x5)).bind fun e4 =>
      some (none, (jx_set (jx_set (jx_set h s0 e1) a0 e2) a0 e4))
  else
    (jx_pF (jx_at (jx_set h s0 e1) a0) 6 3 (.int x4)).bind fun e5 =>
    if (x6 &&& (8 : Int32)) = 0 then
      (jx_pF (jx_at (jx_set (jx_set h s0 e1) a0 e5) a0) 6 4 (.int (0 : Int32))).bind fun e6 =>
      some (none, (jx_set (jx_set (jx_set h s0 e1) a0 e5) a0 e6))
    else
      (jx_pF (jx_at (jx_set (jx_set h s0 e1) a0 e5) a0) 6 4 (.int x5)).bind fun e7 =>
      some (none, (jx_set (jx_set (jx_set h s0 e1) a0 e5) a0 e7)) :=
  sorry
theorem je_282 (rc : Nat → Nat × (Nat → Int32)) (d : Nat) (a0 : Nat) (x1 : Int32) (h : jxH) : jx_C rc (d + 1) 282 [.ref a0, .int x1] h =
  if jx_is (jx_at h a0) 6 = true then
  if x1 = (600 : Int32) then
    jx_cV (jx_C rc d 281 [.ref a0, .int (6 : Int32), .int (0 : Int32), .int (0 : Int32), .int (0 : Int32), .int (0 : Int32)] h) fun h1 =>
    if jx_bool (1 : Int32) = true then some (some (.int (1 : Int32)), h1) else none
  else
    if 0 ≤ x1 then
      if (100 : Int32) = 0 then none else if (100 : Int32) = 0 then none else jx_cV (jx_C rc d 281 [.ref a0, .int (x1 / (100 : Int32)), .int (x1 - x1 / (100 : Int32) * (100 : Int32)), .int (0 : Int32), .int (0 : Int32), .int (0 : Int32)] h) fun h2 =>
      (jx_gI (jx_at h2 a0) 6 0).bind fun v3 =>
      if v3 = 0 then
        if jx_bool (1 : Int32) = true then some (some (.int (1 : Int32)), h2) else none
      else
        (jx_gI (jx_at h2 a0) 6 0).bind fun v4 =>
        if v4 = (4 : Int32) then
          if jx_bool (1 : Int32) = true then some (some (.int (1 : Int32)), h2) else none
        else
          (jx_gI (jx_at h2 a0) 6 0).bind fun v5 =>
          if v5 = (5 : Int32) then
            if jx_bool (1 : Int32) = true then some (some (.int (1 : Int32)), h2) else none
          else
            if jx_bool (0 : Int32) = true then some (some (.int (0 : Int32)), h2) else none
    else
      if jx_bool (0 : Int32) = true then some (some (.int (0 : Int32)), h) else none
  else none :=
  sorry
theorem je_283 (rc : Nat → Nat × (Nat → Int32)) (d : Nat) (a0 : Nat) (a1 : Nat) (x2 : Int32) (h : jxH) : jx_C rc (d + 1) 283 [.ref a0, .ref a1, .int x2] h =
  if jx_is (jx_at h a0) 6 = true then
  jx_cI (jx_C rc d 228 [.ref a1, .int x2] h) fun v2 h1 =>
  if v2 = 0 then
    jx_cI (jx_C rc d 230 [.ref a1, .int x2] h1) fun v4 h3 =>
    if v4 = (1 : Int32) then
      jx_cV (jx_C rc d 281 [.ref a0, .int (5 : Int32), .int x2, .int (0 : Int32), .int (0 : Int32), .int (0 : Int32)] h3) fun h5 =>
      jx_cI (jx_C rc d 285 [.ref a0, .ref a1, .int (0 : Int32)] h5) fun v7 h6 =>
      if v7 = 0 then
        if jx_bool (1 : Int32) = true then some (some (.int (1 : Int32)), h6) else none
      else
        if jx_bool (0 : Int32) = true then some (some (.int (0 : Int32)), h6) else none
    else
      jx_cV (jx_C rc d 281 [.ref a0, .int (4 : Int32), .int x2, .int (0 : Int32), .int (0 : Int32), .int (0 : Int32)] h3) fun h8 =>
      jx_cI (jx_C rc d 285 [.ref a0, .ref a1, .int (0 : Int32)] h8) fun v10 h9 =>
      if v10 = 0 then
        if jx_bool (1 : Int32) = true then some (some (.int (1 : Int32)), h9) else none
      else
        if jx_bool (0 : Int32) = true then some (some (.int (0 : Int32)), h9) else none
  else
    jx_cV (jx_C rc d 281 [.ref a0, .int (0 : Int32), .int x2, .int (0 : Int32), .int (0 : Int32), .int (0 : Int32)] h1) fun h11 =>
    jx_cI (jx_C rc d 285 [.ref a0, .ref a1, .int (0 : Int32)] h11) fun v13 h12 =>
    if v13 = 0 then
      if jx_bool (1 : Int32) = true then some (some (.int (1 : Int32)), h12) else none
    else
      if jx_bool (0 : Int32) = true then some (some (.int (0 : Int32)), h12) else none
  else none :=
  sorry
noncomputable def jb_284 (rc : Nat → Nat × (Nat → Int32)) (d : Nat) (i : Nat) (ls : List (Nat × Value)) (st : List Value) (h : jxH) : jxR := none
theorem je_284 (rc : Nat → Nat × (Nat → Int32)) (d : Nat) (a0 : Nat) (a1 : Nat) (x2 : Int32) (x3 : Int32) (x4 : Int32) (x5 : Int32) (x6 : Int32) (h : jxH) : jx_C rc (d + 1) 284 [.ref a0, .ref a1, .int x2, .int x3, .int x4, .int x5, .int x6] h =
  if jx_is (jx_at h a0) 6 = true then
  jb_284 rc d 2 [(0, .ref a0), (1, .ref a1), (2, .int x2), (3, .int x3), (4, .int x4), (5, .int x5), (6, .int x6), (7, .int (0 : Int32))] [] h
  else none :=
  sorry
theorem je_284_2 (rc : Nat → Nat × (Nat → Int32)) (d : Nat) (a0 : Nat) (a1 : Nat) (x2 : Int32) (x3 : Int32) (x4 : Int32) (x5 : Int32) (x6 : Int32) (x7 : Int32) (h : jxH) : jb_284 rc d 2 [(0, .ref a0), (1, .ref a1), (2, .int x2), (3, .int x3), (4, .int x4), (5, .int x5), (6, .int x6), (7, .int x7)] [] h =
  if (12 : Int32) ≤ x7 then
    if jx_bool (0 : Int32) = true then some (some (.int (0 : Int32)), h) else none
  else
    if x5 = 0 then
      jb_284 rc d 12 [(0, .ref a0), (1, .ref a1), (2, .int x2), (3, .int x3), (4, .int x4), (5, .int x5), (6, .int x6), (7, .int x7)] [.int x7] h
    else
      jb_284 rc d 12 [(0, .ref a0), (1, .ref a1), (2, .int x2), (3, .int x3), (4, .int x4), (5, .int x5), (6, .int x6), (7, .int x7)] [.int ((11 : Int32) - x7)] h :=
  sorry
theorem je_284_12 (rc : Nat → Nat × (Nat → Int32)) (d : Nat) (a0 : Nat) (a1 : Nat) (x2 : Int32) (x3 : Int32) (x4 : Int32) (x5 : Int32) (x6 : Int32) (x7 : Int32) (s0 : Int32) (h : jxH) : jb_284 rc d 12 [(0, .ref a0), (1, .ref a1), (2, .int x2), (3, .int x3), (4, .int x4), (5, .int x5), (6, .int x6), (7, .int x7)] [.int s0] h =
  if s0 < x4 then
    jb_284 rc d 2 [(0, .ref a0), (1, .ref a1), (2, .int x2), (3, .int x3), (4, .int x4), (5, .int x5), (6, .int x6), (7, .int (x7 + (1 : Int32)))] [] h
  else
    jx_cI (jx_C rc d 228 [.ref a1, .int s0] h) fun v2 h1 =>
    if v2 = x3 then
      jx_cI (jx_C rc d 230 [.ref a1, .int s0] h1) fun v4 h3 =>
      if x6 < v4 then
        jb_284 rc d 2 [(0, .ref a0), (1, .ref a1), (2, .int x2), (3, .int x3), (4, .int x4), (5, .int x5), (6, .int x6), (7, .int (x7 + (1 : Int32)))] [] h3
      else
        jx_cV (jx_C rc d 281 [.ref a0, .int x2, .int s0, .int (0 : Int32), .int (0 : Int32), .int (0 : Int32)] h3) fun h5 =>
        jx_cI (jx_C rc d 285 [.ref a0, .ref a1, .int (0 : Int32)] h5) fun v7 h6 =>
        if v7 = 0 then
          if jx_bool (1 : Int32) = true then some (some (.int (1 : Int32)), h6) else none
        else
          jb_284 rc d 2 [(0, .ref a0), (1, .ref a1), (2, .int x2), (3, .int x3), (4, .int x4), (5, .int x5), (6, .int x6), (7, .int (x7 + (1 : Int32)))] [] h6
    else
      jb_284 rc d 2 [(0, .ref a0), (1, .ref a1), (2, .int x2), (3, .int x3), (4, .int x4), (5, .int x5), (6, .int x6), (7, .int (x7 + (1 : Int32)))] [] h1 :=
  sorry
theorem je_285 (rc : Nat → Nat × (Nat → Int32)) (d : Nat) (a0 : Nat) (a1 : Nat) (x2 : Int32) (h : jxH) : jx_C rc (d + 1) 285 [.ref a0, .ref a1, .int x2] h =
  if jx_is (jx_at h a0) 6 = true then
  jx_cI (jx_C rc d 286 [.ref a0, .ref a1] h) fun v2 h1 =>
  if v2 = 0 then
    some (some (.int (1 : Int32)), h1)
  else
    jx_cI (jx_C rc d 287 [.ref a0, .ref a1] h1) fun v4 h3 =>
    if v4 = 0 then
      some (some (.int (3 : Int32)), h3)
    else
      (jx_gI (jx_at h3 a0) 6 0).bind fun v5 =>
      if v5 < 0 then
        if x2 = 0 then
          jx_cI (jx_C rc d 227 [.ref a1] h3) fun v7 h6 =>
          if (0 : Int32) ≤ ((12 : Int32) - v7) then
            jx_cI (jx_C rc d 288 [.ref a0, .ref a1] h6) fun v9 h8 =>
            if v9 = 0 then
              some (some (.int (0 : Int32)), h8)
            else
              some (some (.int (5 : Int32)), h8)
          else
            some (some (.int (4 : Int32)), h6)
        else
          some (some (.int (4 : Int32)), h3)
      else
        (jx_gI (jx_at h3 a0) 6 0).bind fun v10 =>
        if (Int32.ofNat (rc 2).1) ≤ v10 then
          if x2 = 0 then
            jx_cI (jx_C rc d 227 [.ref a1] h3) fun v12 h11 =>
            if (0 : Int32) ≤ ((12 : Int32) - v12) then
              jx_cI (jx_C rc d 288 [.ref a0, .ref a1] h11) fun v14 h13 =>
              if v14 = 0 then
                some (some (.int (0 : Int32)), h13)
              else
                some (some (.int (5 : Int32)), h13)
            else
              some (some (.int (4 : Int32)), h11)
          else
            some (some (.int (4 : Int32)), h3)
        else
          (jx_gI (jx_at h3 a0) 6 0).bind fun v15 =>
          if jx_out v15 (rc 2).1 = true then none else
          if x2 = 0 then
            jx_cI (jx_C rc d 227 [.ref a1] h3) fun v17 h16 =>
            if ((rc 2).2 (v15).toNatClampNeg) ≤ ((12 : Int32) - v17) then
              jx_cI (jx_C rc d 288 [.ref a0, .ref a1] h16) fun v19 h18 =>
              if v19 = 0 then
                some (some (.int (0 : Int32)), h18)
              else
                some (some (.int (5 : Int32)), h18)
            else
              some (some (.int (4 : Int32)), h16)
          else
            some (some (.int (4 : Int32)), h3)
  else none :=
  sorry
noncomputable def jb_286 (rc : Nat → Nat × (Nat → Int32)) (d : Nat) (i : Nat) (ls : List (Nat × Value)) (st : List Value) (h : jxH) : jxR := none
theorem je_286 (rc : Nat → Nat × (Nat → Int32)) (d : Nat) (a0 : Nat) (a1 : Nat) (h : jxH) : jx_C rc (d + 1) 286 [.ref a0, .ref a1] h =
  if jx_is (jx_at h a0) 6 = true then
  (jx_gI (jx_at h a0) 6 0).bind fun v1 =>
  if v1 < 0 then
    if jx_bool (0 : Int32) = true then some (some (.int (0 : Int32)), h) else none
  else
    (jx_gI (jx_at h a0) 6 0).bind fun v2 =>
    if v2 < (Int32.ofNat (rc 1).1) then
      (jx_gI (jx_at h a0) 6 0).bind fun v3 =>
      if jx_out v3 (rc 1).1 = true then none else
      if (((rc 1).2 (v3).toNatClampNeg) &&& (1 : Int32)) = 0 then
        if (((rc 1).2 (v3).toNatClampNeg) &&& (2 : Int32)) = 0 then
          jb_286 rc d 35 [(0, .ref a0), (1, .ref a1), (2, .int ((rc 1).2 (v3).toNatClampNeg))] [] h
        else
          (jx_gI (jx_at h a0) 6 2).bind fun v4 =>
          jx_cI (jx_C rc d 226 [.ref a1, .int v4] h) fun v6 h5 =>
          if v6 = 0 then
            if jx_bool (0 : Int32) = true then some (some (.int (0 : Int32)), h5) else none
          else
            jb_286 rc d 35 [(0, .ref a0), (1, .ref a1), (2, .int ((rc 1).2 (v3).toNatClampNeg))] [] h5
      else
        (jx_gI (jx_at h a0) 6 1).bind fun v7 =>
        jx_cI (jx_C rc d 226 [.ref a1, .int v7] h) fun v9 h8 =>
        if v9 = 0 then
          if jx_bool (0 : Int32) = true then some (some (.int (0 : Int32)), h8) else none
        else
          if (((rc 1).2 (v3).toNatClampNeg) &&& (2 : Int32)) = 0 then
            jb_286 rc d 35 [(0, .ref a0), (1, .ref a1), (2, .int ((rc 1).2 (v3).toNatClampNeg))] [] h8
          else
            (jx_gI (jx_at h8 a0) 6 2).bind fun v10 =>
            jx_cI (jx_C rc d 226 [.ref a1, .int v10] h8) fun v12 h11 =>
            if v12 = 0 then
              if jx_bool (0 : Int32) = true then some (some (.int (0 : Int32)), h11) else none
            else
              jb_286 rc d 35 [(0, .ref a0), (1, .ref a1), (2, .int ((rc 1).2 (v3).toNatClampNeg))] [] h11
    else
      if jx_bool (0 : Int32) = true then some (some (.int (0 : Int32)), h) else none
  else none :=
  sorry
theorem je_286_35 (rc : Nat → Nat × (Nat → Int32)) (d : Nat) (a0 : Nat) (a1 : Nat) (x2 : Int32) (h : jxH) : jb_286 rc d 35 [(0, .ref a0), (1, .ref a1), (2, .int x2)] [] h =
  (jx_gI (jx_at h a0) 6 0).bind fun v1 =>
  if v1 = (7 : Int32) then
    (jx_gI (jx_at h a0) 6 3).bind fun v2 =>
    jx_cI (jx_C rc d 61 [.int v2] h) fun v4 h3 =>
    if v4 = 0 then
      if jx_bool (0 : Int32) = true then some (some (.int (0 : Int32)), h3) else none
    else
      (jx_gI (jx_at h3 a0) 6 4).bind fun v5 =>
      (jx_gI (jx_at h3 a0) 6 1).bind fun v6 =>
      jx_cI (jx_C rc d 229 [.ref a1, .int v6] h3) fun v8 h7 =>
      if (v5 &&& (v8 ^^^ (-1 : Int32))) = 0 then
        if jx_bool (1 : Int32) = true then some (some (.int (1 : Int32)), h7) else none
      else
        if jx_bool (0 : Int32) = true then some (some (.int (0 : Int32)), h7) else none
  else
    if (x2 &&& (4 : Int32)) = 0 then
      if jx_bool (1 : Int32) = true then some (some (.int (1 : Int32)), h) else none
    else
      (jx_gI (jx_at h a0) 6 3).bind fun v9 =>
      if v9 = (1 : Int32) then
        if jx_bool (1 : Int32) = true then some (some (.int (1 : Int32)), h) else none
      else
        (jx_gI (jx_at h a0) 6 3).bind fun v10 =>
        if v10 = (-1 : Int32) then
          if jx_bool (1 : Int32) = true then some (some (.int (1 : Int32)), h) else none
        else
          if jx_bool (0 : Int32) = true then some (some (.int (0 : Int32)), h) else none :=
  sorry
theorem je_287 (rc : Nat → Nat × (Nat → Int32)) (d : Nat) (a0 : Nat) (a1 : Nat) (h : jxH) : jx_C rc (d + 1) 287 [.ref a0, .ref a1] h =
  if jx_is (jx_at h a0) 6 = true then
  (jx_gI (jx_at h a0) 6 1).bind fun v1 =>
  jx_cI (jx_C rc d 228 [.ref a1, .int v1] h) fun v3 h2 =>
  (jx_gI (jx_at h2 a0) 6 0).bind fun v4 =>
  if v4 = (0 : Int32) then
    if v3 = (1 : Int32) then
      (jx_gI (jx_at h2 a0) 6 1).bind fun v5 =>
      jx_cI (jx_C rc d 230 [.ref a1, .int v5] h2) fun v7 h6 =>
      if (2 : Int32) < v7 then
        if jx_bool (0 : Int32) = true then some (some (.int (0 : Int32)), h6) else none
      else
        if jx_bool (1 : Int32) = true then some (some (.int (1 : Int32)), h6) else none
    else
      if v3 = (-1 : Int32) then
        (jx_gI (jx_at h2 a0) 6 1).bind fun v8 =>
        jx_cI (jx_C rc d 230 [.ref a1, .int v8] h2) fun v10 h9 =>
        if (2 : Int32) < v10 then
          if jx_bool (0 : Int32) = true then some (some (.int (0 : Int32)), h9) else none
        else
          if jx_bool (1 : Int32) = true then some (some (.int (1 : Int32)), h9) else none
      else
        if jx_bool (0 : Int32) = true then some (some (.int (0 : Int32)), h2) else none
  else if v4 = ((0 : Int32) + 1) then
    (jx_gI (jx_at h2 a0) 6 1).bind fun v11 =>
    (jx_gI (jx_at h2 a0) 6 2).bind fun v12 =>
    jx_cI (jx_C rc d 231 [.ref a1, .int v11, .int v12] h2) fun v14 h13 =>
    if jx_bool v14 = true then some (some (.int v14), h13) else none
  else if v4 = (((0 : Int32) + 1) + 1) then
    if jx_bool (1 : Int32) = true then some (some (.int (1 : Int32)), h2) else none
  else if v4 = ((((0 : Int32) + 1) + 1) + 1) then
    if jx_bool (1 : Int32) = true then some (some (.int (1 : Int32)), h2) else none
  else if v4 = (((((0 : Int32) + 1) + 1) + 1) + 1) then
    if v3 = 0 then
      (jx_gI (jx_at h2 a0) 6 1).bind fun v15 =>
      jx_cI (jx_C rc d 230 [.ref a1, .int v15] h2) fun v17 h16 =>
      if v17 = (2 : Int32) then
        if jx_bool (1 : Int32) = true then some (some (.int (1 : Int32)), h16) else none
      else
        if jx_bool (0 : Int32) = true then some (some (.int (0 : Int32)), h16) else none
    else
      if jx_bool (0 : Int32) = true then some (some (.int (0 : Int32)), h2) else none
  else if v4 = ((((((0 : Int32) + 1) + 1) + 1) + 1) + 1) then
    if v3 = 0 then
      (jx_gI (jx_at h2 a0) 6 1).bind fun v18 =>
      jx_cI (jx_C rc d 230 [.ref a1, .int v18] h2) fun v20 h19 =>
      if v20 = (1 : Int32) then
        if jx_bool (1 : Int32) = true then some (some (.int (1 : Int32)), h19) else none
      else
        if jx_bool (0 : Int32) = true then some (some (.int (0 : Int32)), h19) else none
    else
      if jx_bool (0 : Int32) = true then some (some (.int (0 : Int32)), h2) else none
  else 
    if jx_bool (1 : Int32) = true then some (some (.int (1 : Int32)), h2) else none
  else none :=
  sorry
theorem je_288 (rc : Nat → Nat × (Nat → Int32)) (d : Nat) (a0 : Nat) (a1 : Nat) (h : jxH) : jx_C rc (d + 1) 288 [.ref a0, .ref a1] h =
  if jx_is (jx_at h a0) 6 = true then
  (jx_gI (jx_at h a0) 6 1).bind fun v1 =>
  jx_cI (jx_C rc d 228 [.ref a1, .int v1] h) fun v3 h2 =>
  (jx_gI (jx_at h2 a0) 6 1).bind fun v4 =>
  jx_cI (jx_C rc d 229 [.ref a1, .int v4] h2) fun v6 h5 =>
  jx_cI (jx_C rc d 67 [.int v6] h5) fun v8 h7 =>
  jx_cI (jx_C rc d 68 [.int v6] h7) fun v10 h9 =>
  (jx_gI (jx_at h9 a0) 6 0).bind fun v11 =>
  if v11 = (0 : Int32) then
    if v6 = 0 then
      if jx_bool (0 : Int32) = true then some (some (.int (0 : Int32)), h9) else none
    else
      jx_cI (jx_C rc d 228 [.ref a1, .int v8] h9) fun v13 h12 =>
      jx_cI (jx_C rc d 61 [.int (v13 - v3)] h12) fun v15 h14 =>
      if v15 = 0 then
        if jx_bool (1 : Int32) = true then some (some (.int (1 : Int32)), h14) else none
      else
        jx_cI (jx_C rc d 228 [.ref a1, .int v10] h14) fun v17 h16 =>
        jx_cI (jx_C rc d 61 [.int (v17 - v3)] h16) fun v19 h18 =>
        if v19 = 0 then
          if jx_bool (1 : Int32) = true then some (some (.int (1 : Int32)), h18) else none
        else
          if jx_bool (0 : Int32) = true then some (some (.int (0 : Int32)), h18) else none
  else if v11 = ((0 : Int32) + 1) then
    (jx_gI (jx_at h9 a0) 6 3).bind fun v20 =>
    jx_cI (jx_C rc d 61 [.int (v3 + v20)] h9) fun v22 h21 =>
    if v22 = 0 then
      if jx_bool (1 : Int32) = true then some (some (.int (1 : Int32)), h21) else none
    else
      (jx_gI (jx_at h21 a0) 6 2).bind fun v23 =>
      jx_cI (jx_C rc d 228 [.ref a1, .int v23] h21) fun v25 h24 =>
      (jx_gI (jx_at h24 a0) 6 3).bind fun v26 =>
      jx_cI (jx_C rc d 61 [.int (v25 + v26)] h24) fun v28 h27 =>
      if v28 = 0 then
        if jx_bool (1 : Int32) = true then some (some (.int (1 : Int32)), h27) else none
      else
        if jx_bool (0 : Int32) = true then some (some (.int (0 : Int32)), h27) else none
  else if v11 = (((0 : Int32) + 1) + 1) then
    (jx_gI (jx_at h9 a0) 6 3).bind fun v29 =>
    jx_cI (jx_C rc d 61 [.int (v3 + v29)] h9) fun v31 h30 =>
    if v31 = 0 then
      if jx_bool (1 : Int32) = true then some (some (.int (1 : Int32)), h30) else none
    else
      if jx_bool (0 : Int32) = true then some (some (.int (0 : Int32)), h30) else none
  else if v11 = ((((0 : Int32) + 1) + 1) + 1) then
    if jx_bool (0 : Int32) = true then some (some (.int (0 : Int32)), h9) else none
  else if v11 = (((((0 : Int32) + 1) + 1) + 1) + 1) then
    jx_cI (jx_C rc d 228 [.ref a1, .int v8] h9) fun v33 h32 =>
    jx_cI (jx_C rc d 228 [.ref a1, .int v10] h32) fun v35 h34 =>
    jx_cI (jx_C rc d 61 [.int (v33 + v35)] h34) fun v37 h36 =>
    if v37 = 0 then
      if jx_bool (1 : Int32) = true then some (some (.int (1 : Int32)), h36) else none
    else
      if jx_bool (0 : Int32) = true then some (some (.int (0 : Int32)), h36) else none
  else if v11 = ((((((0 : Int32) + 1) + 1) + 1) + 1) + 1) then
    if jx_bool (0 : Int32) = true then some (some (.int (0 : Int32)), h9) else none
  else if v11 = (((((((0 : Int32) + 1) + 1) + 1) + 1) + 1) + 1) then
    if jx_bool (0 : Int32) = true then some (some (.int (0 : Int32)), h9) else none
  else if v11 = ((((((((0 : Int32) + 1) + 1) + 1) + 1) + 1) + 1) + 1) then
    (jx_gI (jx_at h9 a0) 6 3).bind fun v38 =>
    jx_cI (jx_C rc d 61 [.int (v3 - v38)] h9) fun v40 h39 =>
    if v40 = 0 then
      if jx_bool (1 : Int32) = true then some (some (.int (1 : Int32)), h39) else none
    else
      if jx_bool (0 : Int32) = true then some (some (.int (0 : Int32)), h39) else none
  else 
    if jx_bool (0 : Int32) = true then some (some (.int (0 : Int32)), h9) else none
  else none :=
  sorry
theorem je_289 (rc : Nat → Nat × (Nat → Int32)) (d : Nat) (a0 : Nat) (a1 : Nat) (h : jxH) : jx_C rc (d + 1) 289 [.ref a0, .ref a1] h =
  if jx_is (jx_at h a0) 6 = true then
  (jx_gI (jx_at h a0) 6 0).bind fun v1 =>
  if v1 = (0 : Int32) then
    (jx_gI (jx_at h a0) 6 1).bind fun v2 =>
    jx_cI (jx_C rc d 228 [.ref a1, .int v2] h) fun v4 h3 =>
    some (some (.int v4), h3)
  else if v1 = ((0 : Int32) + 1) then
    (jx_gI (jx_at h a0) 6 3).bind fun v5 =>
    some (some (.int v5), h)
  else if v1 = (((0 : Int32) + 1) + 1) then
    (jx_gI (jx_at h a0) 6 3).bind fun v6 =>
    some (some (.int v6), h)
  else if v1 = ((((0 : Int32) + 1) + 1) + 1) then
    (jx_gI (jx_at h a0) 6 3).bind fun v7 =>
    some (some (.int v7), h)
  else if v1 = (((((0 : Int32) + 1) + 1) + 1) + 1) then
    some (some (.int (-1 : Int32)), h)
  else if v1 = ((((((0 : Int32) + 1) + 1) + 1) + 1) + 1) then
    some (some (.int (-1 : Int32)), h)
  else if v1 = (((((((0 : Int32) + 1) + 1) + 1) + 1) + 1) + 1) then
    jx_cI (jx_C rc d 227 [.ref a1] h) fun v9 h8 =>
    if (v9 &&& (1 : Int32)) = 0 then
      some (some (.int (1 : Int32)), h8)
    else
      some (some (.int (-1 : Int32)), h8)
  else 
    some (some (.int (-1 : Int32)), h)
  else none :=
  sorry
theorem je_290 (rc : Nat → Nat × (Nat → Int32)) (d : Nat) (a0 : Nat) (a1 : Nat) (h : jxH) : jx_C rc (d + 1) 290 [.ref a0, .ref a1] h =
  if jx_is (jx_at h a0) 6 = true then
  (jx_gI (jx_at h a0) 6 0).bind fun v1 =>
  if v1 = (0 : Int32) then
    jx_cV (jx_C rc d 291 [.ref a0, .ref a1] h) fun h2 =>
    some (none, h2)
  else if v1 = ((0 : Int32) + 1) then
    (jx_gI (jx_at h a0) 6 1).bind fun v3 =>
    (jx_gI (jx_at h a0) 6 2).bind fun v4 =>
    jx_cV (jx_C rc d 243 [.ref a1, .int v3, .int v4] h) fun h5 =>
    (jx_gI (jx_at h5 a0) 6 2).bind fun v6 =>
    (jx_gI (jx_at h5 a0) 6 3).bind fun v7 =>
    jx_cV (jx_C rc d 238 [.ref a1, .int v6, .int v7] h5) fun h8 =>
    jx_cI (jx_C rc d 292 [.ref a0, .ref a1] h8) fun v10 h9 =>
    (jx_gI (jx_at h9 a0) 6 2).bind fun v11 =>
    jx_cV (jx_C rc d 241 [.ref a1, .int v10, .int v11] h9) fun h12 =>
    some (none, h12)
  else if v1 = (((0 : Int32) + 1) + 1) then
    jx_cI (jx_C rc d 292 [.ref a0, .ref a1] h) fun v14 h13 =>
    some (none, h13)
  else if v1 = ((((0 : Int32) + 1) + 1) + 1) then
    (jx_gI (jx_at h a0) 6 3).bind fun v15 =>
    jx_cI (jx_C rc d 240 [.ref a1, .int v15] h) fun v17 h16 =>
    some (none, h16)
  else if v1 = (((((0 : Int32) + 1) + 1) + 1) + 1) then
    jx_cV (jx_C rc d 293 [.ref a0, .ref a1] h) fun h18 =>
    some (none, h18)
  else if v1 = ((((((0 : Int32) + 1) + 1) + 1) + 1) + 1) then
    (jx_gI (jx_at h a0) 6 1).bind fun v19 =>
    jx_cI (jx_C rc d 229 [.ref a1, .int v19] h) fun v21 h20 =>
    jx_cI (jx_C rc d 67 [.int v21] h20) fun v23 h22 =>
    jx_cV (jx_C rc d 245 [.ref a1, .int v23] h22) fun h24 =>
    (jx_gI (jx_at h24 a0) 6 1).bind fun v25 =>
    jx_cV (jx_C rc d 245 [.ref a1, .int v25] h24) fun h26 =>
    some (none, h26)
  else if v1 = (((((((0 : Int32) + 1) + 1) + 1) + 1) + 1) + 1) then
    jx_cV (jx_C rc d 239 [.ref a1] h) fun h27 =>
    some (none, h27)
  else if v1 = ((((((((0 : Int32) + 1) + 1) + 1) + 1) + 1) + 1) + 1) then
    jx_cV (jx_C rc d 294 [.ref a0, .ref a1] h) fun h28 =>
    some (none, h28)
  else 
    some (none, h)
  else none :=
  sorry
theorem je_291 (rc : Nat → Nat × (Nat → Int32)) (d : Nat) (a0 : Nat) (a1 : Nat) (h : jxH) : jx_C rc (d + 1) 291 [.ref a0, .ref a1] h =
  if jx_is (jx_at h a0) 6 = true then
  (jx_gI (jx_at h a0) 6 1).bind fun v1 =>
  jx_cI (jx_C rc d 228 [.ref a1, .int v1] h) fun v3 h2 =>
  (jx_gI (jx_at h2 a0) 6 1).bind fun v4 =>
  jx_cI (jx_C rc d 229 [.ref a1, .int v4] h2) fun v6 h5 =>
  jx_cI (jx_C rc d 67 [.int v6] h5) fun v8 h7 =>
  jx_cI (jx_C rc d 68 [.int v6] h7) fun v10 h9 =>
  (jx_gI (jx_at h9 a0) 6 1).bind fun v11 =>
  jx_cV (jx_C rc d 245 [.ref a1, .int v11] h9) fun h12 =>
  jx_cV (jx_C rc d 238 [.ref a1, .int v8, .int (-v3)] h12) fun h13 =>
  if v8 = v10 then
    some (none, h13)
  else
    jx_cV (jx_C rc d 238 [.ref a1, .int v10, .int (-v3)] h13) fun h14 =>
    jx_cV (jx_C rc d 241 [.ref a1, .int v8, .int v10] h14) fun h15 =>
    some (none, h15)
  else none :=
  sorry
theorem je_292 (rc : Nat → Nat × (Nat → Int32)) (d : Nat) (a0 : Nat) (a1 : Nat) (h : jxH) : jx_C rc (d + 1) 292 [.ref a0, .ref a1] h =
  if jx_is (jx_at h a0) 6 = true then
  (jx_gI (jx_at h a0) 6 3).bind fun v1 =>
  jx_cI (jx_C rc d 240 [.ref a1, .int v1] h) fun v3 h2 =>
  (jx_gI (jx_at h2 a0) 6 1).bind fun v4 =>
  (jx_gI (jx_at h2 a0) 6 3).bind fun v5 =>
  jx_cV (jx_C rc d 238 [.ref a1, .int v4, .int v5] h2) fun h6 =>
  (jx_gI (jx_at h6 a0) 6 1).bind fun v7 =>
  jx_cV (jx_C rc d 241 [.ref a1, .int v3, .int v7] h6) fun h8 =>
  some (some (.int v3), h8)
  else none :=
  sorry
theorem je_293 (rc : Nat → Nat × (Nat → Int32)) (d : Nat) (a0 : Nat) (a1 : Nat) (h : jxH) : jx_C rc (d + 1) 293 [.ref a0, .ref a1] h =
  if jx_is (jx_at h a0) 6 = true then
  (jx_gI (jx_at h a0) 6 1).bind fun v1 =>
  jx_cI (jx_C rc d 229 [.ref a1, .int v1] h) fun v3 h2 =>
  jx_cI (jx_C rc d 67 [.int v3] h2) fun v5 h4 =>
  (jx_gI (jx_at h4 a0) 6 1).bind fun v6 =>
  jx_cI (jx_C rc d 229 [.ref a1, .int v6] h4) fun v8 h7 =>
  jx_cI (jx_C rc d 68 [.int v8] h7) fun v10 h9 =>
  (jx_gI (jx_at h9 a0) 6 1).bind fun v11 =>
  jx_cV (jx_C rc d 245 [.ref a1, .int v11] h9) fun h12 =>
  jx_cI (jx_C rc d 229 [.ref a1, .int v10] h12) fun v14 h13 =>
  jx_cI (jx_C rc d 228 [.ref a1, .int v10] h13) fun v16 h15 =>
  jx_cV (jx_C rc d 238 [.ref a1, .int v5, .int v16] h15) fun h17 =>
  jx_cV (jx_C rc d 245 [.ref a1, .int v10] h17) fun h18 =>
  jx_cV (jx_C rc d 242 [.ref a1, .int v5, .int v14] h18) fun h19 =>
  some (none, h19)
  else none :=
  sorry
theorem je_294 (rc : Nat → Nat × (Nat → Int32)) (d : Nat) (a0 : Nat) (a1 : Nat) (h : jxH) : jx_C rc (d + 1) 294 [.ref a0, .ref a1] h =
  if jx_is (jx_at h a0) 6 = true then
  jx_cI (jx_C rc d 240 [.ref a1, .int (0 : Int32)] h) fun v2 h1 =>
  (jx_gI (jx_at h1 a0) 6 3).bind fun v3 =>
  jx_cI (jx_C rc d 240 [.ref a1, .int v3] h1) fun v5 h4 =>
  (jx_gI (jx_at h4 a0) 6 1).bind fun v6 =>
  (jx_gI (jx_at h4 a0) 6 3).bind fun v7 =>
  jx_cV (jx_C rc d 238 [.ref a1, .int v6, .int (-v7)] h4) fun h8 =>
  (jx_gI (jx_at h8 a0) 6 1).bind fun v9 =>
  (jx_gI (jx_at h8 a0) 6 4).bind fun v10 =>
  jx_cV (jx_C rc d 244 [.ref a1, .int v9, .int v10] h8) fun h11 =>
  (jx_gI (jx_at h11 a0) 6 4).bind fun v12 =>
  jx_cV (jx_C rc d 242 [.ref a1, .int v5, .int v12] h11) fun h13 =>
  (jx_gI (jx_at h13 a0) 6 1).bind fun v14 =>
  jx_cV (jx_C rc d 241 [.ref a1, .int v14, .int v2] h13) fun h15 =>
  jx_cV (jx_C rc d 241 [.ref a1, .int v2, .int v5] h15) fun h16 =>
  some (none, h16)
  else none :=
  sorry
theorem je_295 (rc : Nat → Nat × (Nat → Int32)) (d : Nat) (a0 : Nat) (h : jxH) : jx_C rc (d + 1) 295 [.ref a0] h =
  if jx_is (jx_at h a0) 7 = true then
  if (120 : Int32) < 0 ∨ 5000 < (120 : Int32) then none else
  (jx_pF (jx_at (jx_new h ((120 : Int32)).toNatClampNeg (jx_arr 0 ((120 : Int32)).toNatClampNeg)) a0) 7 0 (.ref h.1)).bind fun e1 =>
  if (12 : Int32) < 0 ∨ 5000 < (12 : Int32) then none else
  (jx_pF (jx_at (jx_new (jx_set (jx_new h ((120 : Int32)).toNatClampNeg (jx_arr 0 ((120 : Int32)).toNatClampNeg)) a0 e1) ((12 : Int32)).toNatClampNeg (jx_arr 0 ((12 : Int32)).toNatClampNeg)) a0) 7 1 (.ref (jx_set (jx_new h ((120 : Int32)).toNatClampNeg (jx_arr 0 ((120 : Int32)).toNatClampNeg)) a0 e1).1)).bind fun e2 =>
  some (none, (jx_set (jx_new (jx_set (jx_new h ((120 : Int32)).toNatClampNeg (jx_arr 0 ((120 : Int32)).toNatClampNeg)) a0 e1) ((12 : Int32)).toNatClampNeg (jx_arr 0 ((12 : Int32)).toNatClampNeg)) a0 e2))
  else none :=
  sorry
theorem je_296 (rc : Nat → Nat × (Nat → Int32)) (d : Nat) (a0 : Nat) (x1 : Int32) (h : jxH) : jx_C rc (d + 1) 296 [.ref a0, .int x1] h =
  if jx_is (jx_at h a0) 7 = true then
  (jx_gI (jx_at h a0) 7 2).bind fun v1 =>
  if v1 < 0 then
    some (none, h)
  else
    (jx_gI (jx_at h a0) 7 2).bind fun v2 =>
    if (120 : Int32) ≤ v2 then
      some (none, h)
    else
      (jx_gR (jx_at h a0) 7 0).bind fun b3 =>
      (jx_gI (jx_at h a0) 7 2).bind fun v4 =>
      (jx_sI (jx_at h b3) 0 v4 x1).bind fun e5 =>
      (jx_gI (jx_at (jx_set h b3 e5) a0) 7 2).bind fun v6 =>
      (jx_pF (jx_at (jx_set h b3 e5) a0) 7 2 (.int (v6 + (1 : Int32)))).bind fun e7 =>
      some (none, (jx_set (jx_set h b3 e5) a0 e7))
  else none :=
  sorry
noncomputable def jb_297 (rc : Nat → Nat × (Nat → Int32)) (d : Nat) (i : Nat) (ls : List (Nat × Value)) (st : List Value) (h : jxH) : jxR := none
theorem je_297 (rc : Nat → Nat × (Nat → Int32)) (d : Nat) (a0 : Nat) (a1 : Nat) (h : jxH) : jx_C rc (d + 1) 297 [.ref a0, .ref a1] h =
  if jx_is (jx_at h a0) 7 = true then
  jx_cV (jx_C rc d 224 [.ref a1] h) fun h1 =>
  jx_cI (jx_C rc d 301 [.ref a0, .int (0 : Int32)] h1) fun v3 h2 =>
  jb_297 rc d 12 [(0, .ref a0), (1, .ref a1), (2, .int (-1 : Int32)), (3, .int (0 : Int32)), (4, .int v3), (5, .int (0 : Int32))] [] h2
  else none :=
  sorry
theorem je_297_12 (rc : Nat → Nat × (Nat → Int32)) (d : Nat) (a0 : Nat) (a1 : Nat) (x2 : Int32) (x3 : Int32) (x4 : Int32) (x5 : Int32) (h : jxH) : jb_297 rc d 12 [(0, .ref a0), (1, .ref a1), (2, .int x2), (3, .int x3), (4, .int x4), (5, .int x5)] [] h =
  if (120 : Int32) ≤ x5 then
    if 0 ≤ x2 then
      (jx_gI (jx_at h a0) 7 2).bind fun v1 =>
      some (some (.int v1), h)
    else
      jx_cI (jx_C rc d 227 [.ref a1] h) fun v3 h2 =>
      if v3 = 0 then
        (jx_gI (jx_at h2 a0) 7 2).bind fun v4 =>
        some (some (.int v4), h2)
      else
        some (some (.int (-1 : Int32)), h2)
  else
    (jx_gI (jx_at h a0) 7 2).bind fun v5 =>
    if v5 ≤ x4 then
      if 0 ≤ x2 then
        (jx_gI (jx_at h a0) 7 2).bind fun v6 =>
        some (some (.int v6), h)
      else
        jx_cI (jx_C rc d 227 [.ref a1] h) fun v8 h7 =>
        if v8 = 0 then
          (jx_gI (jx_at h7 a0) 7 2).bind fun v9 =>
          some (some (.int v9), h7)
        else
          some (some (.int (-1 : Int32)), h7)
    else
      jx_cI (jx_C rc d 299 [.ref a0, .int x4] h) fun v11 h10 =>
      if x3 = 0 then
        if v11 = (40 : Int32) then
          jx_cI (jx_C rc d 227 [.ref a1] h10) fun v13 h12 =>
          if (12 : Int32) ≤ v13 then
            if v11 = (41 : Int32) then
              jx_cI (jx_C rc d 59 [.int x2] h12) fun v15 h14 =>
              if v15 = 0 then
                some (some (.int x4), h14)
              else
                (jx_gR (jx_at h14 a0) 7 1).bind fun b16 =>
                (jx_aI (jx_at h14 b16) 0 x2).bind fun v17 =>
                jx_cI (jx_C rc d 301 [.ref a0, .int (x4 + (1 : Int32))] h14) fun v19 h18 =>
                jb_297 rc d 12 [(0, .ref a0), (1, .ref a1), (2, .int v17), (3, .int x3), (4, .int v19), (5, .int (x5 + (1 : Int32)))] [] h18
            else
              some (some (.int x4), h12)
          else
            jx_cI (jx_C rc d 298 [.ref a0, .ref a1, .int x2] h12) fun v21 h20 =>
            jx_cI (jx_C rc d 301 [.ref a0, .int (x4 + (1 : Int32))] h20) fun v23 h22 =>
            jb_297 rc d 12 [(0, .ref a0), (1, .ref a1), (2, .int v21), (3, .int (1 : Int32)), (4, .int v23), (5, .int (x5 + (1 : Int32)))] [] h22
        else
          if v11 = (41 : Int32) then
            jx_cI (jx_C rc d 59 [.int x2] h10) fun v25 h24 =>
            if v25 = 0 then
              some (some (.int x4), h24)
            else
              (jx_gR (jx_at h24 a0) 7 1).bind fun b26 =>
              (jx_aI (jx_at h24 b26) 0 x2).bind fun v27 =>
              jx_cI (jx_C rc d 301 [.ref a0, .int (x4 + (1 : Int32))] h24) fun v29 h28 =>
              jb_297 rc d 12 [(0, .ref a0), (1, .ref a1), (2, .int v27), (3, .int x3), (4, .int v29), (5, .int (x5 + (1 : Int32)))] [] h28
          else
            some (some (.int x4), h10)
      else
        jx_cI (jx_C rc d 302 [.ref a0, .int x4] h10) fun v31 h30 =>
        if v31 = 0 then
          some (some (.int x4), h30)
        else
          jx_cI (jx_C rc d 303 [.ref a0, .int x4, .int v31] h30) fun v33 h32 =>
          jx_cV (jx_C rc d 237 [.ref a1, .int x2, .int v33] h32) fun h34 =>
          jx_cI (jx_C rc d 301 [.ref a0, .int (x4 + v31)] h34) fun v36 h35 =>
          jb_297 rc d 12 [(0, .ref a0), (1, .ref a1), (2, .int x2), (3, .int (0 : Int32)), (4, .int v36), (5, .int (x5 + (1 : Int32)))] [] h35 :=
  sorry
theorem je_298 (rc : Nat → Nat × (Nat → Int32)) (d : Nat) (a0 : Nat) (a1 : Nat) (x2 : Int32) (h : jxH) : jx_C rc (d + 1) 298 [.ref a0, .ref a1, .int x2] h =
  if jx_is (jx_at h a0) 7 = true then
  jx_cI (jx_C rc d 240 [.ref a1, .int (0 : Int32)] h) fun v2 h1 =>
  jx_cV (jx_C rc d 241 [.ref a1, .int v2, .int x2] h1) fun h3 =>
  jx_cI (jx_C rc d 59 [.int v2] h3) fun v5 h4 =>
  if v5 = 0 then
    some (some (.int v2), h4)
  else
    (jx_gR (jx_at h4 a0) 7 1).bind fun b6 =>
    (jx_sI (jx_at h4 b6) 0 v2 x2).bind fun e7 =>
    some (some (.int v2), (jx_set h4 b6 e7))
  else none :=
  sorry
theorem je_299 (rc : Nat → Nat × (Nat → Int32)) (d : Nat) (a0 : Nat) (x1 : Int32) (h : jxH) : jx_C rc (d + 1) 299 [.ref a0, .int x1] h =
  if jx_is (jx_at h a0) 7 = true then
  if x1 < 0 then
    some (some (.int (0 : Int32)), h)
  else
    (jx_gI (jx_at h a0) 7 2).bind fun v1 =>
    if v1 ≤ x1 then
      some (some (.int (0 : Int32)), h)
    else
      if (120 : Int32) ≤ x1 then
        some (some (.int (0 : Int32)), h)
      else
        (jx_gR (jx_at h a0) 7 0).bind fun b2 =>
        (jx_aI (jx_at h b2) 0 x1).bind fun v3 =>
        some (some (.int v3), h)
  else none :=
  sorry
theorem je_300 (rc : Nat → Nat × (Nat → Int32)) (d : Nat) (a0 : Nat) (x1 : Int32) (h : jxH) : jx_C rc (d + 1) 300 [.ref a0, .int x1] h =
  if jx_is (jx_at h a0) 7 = true then
  jx_cI (jx_C rc d 299 [.ref a0, .int x1] h) fun v2 h1 =>
  if v2 < (48 : Int32) then
    if jx_bool (0 : Int32) = true then some (some (.int (0 : Int32)), h1) else none
  else
    jx_cI (jx_C rc d 299 [.ref a0, .int x1] h1) fun v4 h3 =>
    if (57 : Int32) < v4 then
      if jx_bool (0 : Int32) = true then some (some (.int (0 : Int32)), h3) else none
    else
      if jx_bool (1 : Int32) = true then some (some (.int (1 : Int32)), h3) else none
  else none :=
  sorry
noncomputable def jb_301 (rc : Nat → Nat × (Nat → Int32)) (d : Nat) (i : Nat) (ls : List (Nat × Value)) (st : List Value) (h : jxH) : jxR := none
theorem je_301 (rc : Nat → Nat × (Nat → Int32)) (d : Nat) (a0 : Nat) (x1 : Int32) (h : jxH) : jx_C rc (d + 1) 301 [.ref a0, .int x1] h =
  if jx_is (jx_at h a0) 7 = true then
  jb_301 rc d 2 [(0, .ref a0), (2, .int x1)] [] h
  else none :=
  sorry
theorem je_301_2 (rc : Nat → Nat × (Nat → Int32)) (d : Nat) (a0 : Nat) (x2 : Int32) (h : jxH) : jb_301 rc d 2 [(0, .ref a0), (2, .int x2)] [] h =
  (jx_gI (jx_at h a0) 7 2).bind fun v1 =>
  if v1 ≤ x2 then
    some (some (.int x2), h)
  else
    jx_cI (jx_C rc d 299 [.ref a0, .int x2] h) fun v3 h2 =>
    if v3 = (32 : Int32) then
      jb_301 rc d 2 [(0, .ref a0), (2, .int (x2 + (1 : Int32)))] [] h2
    else
      some (some (.int x2), h2) :=
  sorry
noncomputable def jb_302 (rc : Nat → Nat × (Nat → Int32)) (d : Nat) (i : Nat) (ls : List (Nat × Value)) (st : List Value) (h : jxH) : jxR := none
theorem je_302 (rc : Nat → Nat × (Nat → Int32)) (d : Nat) (a0 : Nat) (x1 : Int32) (h : jxH) : jx_C rc (d + 1) 302 [.ref a0, .int x1] h =
  if jx_is (jx_at h a0) 7 = true then
  jx_cI (jx_C rc d 299 [.ref a0, .int x1] h) fun v2 h1 =>
  if v2 = (45 : Int32) then
    jb_302 rc d 13 [(0, .ref a0), (1, .int x1), (2, .int (x1 + (1 : Int32))), (3, .int (0 : Int32))] [] h1
  else
    jb_302 rc d 13 [(0, .ref a0), (1, .int x1), (2, .int x1), (3, .int (0 : Int32))] [] h1
  else none :=
  sorry
theorem je_302_13 (rc : Nat → Nat × (Nat → Int32)) (d : Nat) (a0 : Nat) (x1 : Int32) (x2 : Int32) (x3 : Int32) (h : jxH) : jb_302 rc d 13 [(0, .ref a0), (1, .int x1), (2, .int x2), (3, .int x3)] [] h =
  if (3 : Int32) ≤ x3 then
    jb_302 rc d 24 [(0, .ref a0), (1, .int x1), (2, .int x2), (3, .int x3)] [] h
  else
    jx_cI (jx_C rc d 300 [.ref a0, .int (x2 + x3)] h) fun v2 h1 =>
    if v2 = 0 then
      jb_302 rc d 24 [(0, .ref a0), (1, .int x1), (2, .int x2), (3, .int x3)] [] h1
    else
      jb_302 rc d 13 [(0, .ref a0), (1, .int x1), (2, .int x2), (3, .int (x3 + (1 : Int32)))] [] h1 :=
  sorry
theorem je_302_24 (rc : Nat → Nat × (Nat → Int32)) (d : Nat) (a0 : Nat) (x1 : Int32) (x2 : Int32) (x3 : Int32) (h : jxH) : jb_302 rc d 24 [(0, .ref a0), (1, .int x1), (2, .int x2), (3, .int x3)] [] h =
  if x3 = 0 then
    some (some (.int (0 : Int32)), h)
  else
    if (2 : Int32) < x3 then
      some (some (.int (0 : Int32)), h)
    else
      jx_cI (jx_C rc d 303 [.ref a0, .int x1, .int ((x2 - x1) + x3)] h) fun v2 h1 =>
      jx_cI (jx_C rc d 61 [.int v2] h1) fun v4 h3 =>
      if v4 = 0 then
        some (some (.int (0 : Int32)), h3)
      else
        some (some (.int ((x2 - x1) + x3)), h3) :=
  sorry
noncomputable def jb_303 (rc : Nat → Nat × (Nat → Int32)) (d : Nat) (i : Nat) (ls : List (Nat × Value)) (st : List Value) (h : jxH) : jxR := none
theorem je_303 (rc : Nat → Nat × (Nat → Int32)) (d : Nat) (a0 : Nat) (x1 : Int32) (x2 : Int32) (h : jxH) : jx_C rc (d + 1) 303 [.ref a0, .int x1, .int x2] h =
  if jx_is (jx_at h a0) 7 = true then
  jb_303 rc d 4 [(0, .ref a0), (1, .int x1), (2, .int x2), (3, .int (0 : Int32)), (4, .int x1)] [] h
  else none :=
  sorry
theorem je_303_4 (rc : Nat → Nat × (Nat → Int32)) (d : Nat) (a0 : Nat) (x1 : Int32) (x2 : Int32) (x3 : Int32) (x4 : Int32) (h : jxH) : jb_303 rc d 4 [(0, .ref a0), (1, .int x1), (2, .int x2), (3, .int x3), (4, .int x4)] [] h =
  if (x1 + x2) ≤ x4 then
    jx_cI (jx_C rc d 299 [.ref a0, .int x1] h) fun v2 h1 =>
    if v2 = (45 : Int32) then
      some (some (.int (-x3)), h1)
    else
      some (some (.int x3), h1)
  else
    jx_cI (jx_C rc d 300 [.ref a0, .int x4] h) fun v4 h3 =>
    if v4 = 0 then
      jb_303 rc d 4 [(0, .ref a0), (1, .int x1), (2, .int x2), (3, .int x3), (4, .int (x4 + (1 : Int32)))] [] h3
    else
      jx_cI (jx_C rc d 299 [.ref a0, .int x4] h3) fun v6 h5 =>
      jb_303 rc d 4 [(0, .ref a0), (1, .int x1), (2, .int x2), (3, .int (((x3 * (10 : Int32)) + v6) - (48 : Int32))), (4, .int (x4 + (1 : Int32)))] [] h5 :=
  sorry
theorem je_304 (rc : Nat → Nat × (Nat → Int32)) (d : Nat) (a0 : Nat) (h : jxH) : jx_C rc (d + 1) 304 [.ref a0] h =
  if jx_is (jx_at h a0) 8 = true then
  if (60 : Int32) < 0 ∨ 5000 < (60 : Int32) then none else
  (jx_pF (jx_at (jx_new h ((60 : Int32)).toNatClampNeg (jx_arr 2 ((60 : Int32)).toNatClampNeg)) a0) 8 0 (.ref h.1)).bind fun e1 =>
  some (none, (jx_set (jx_new h ((60 : Int32)).toNatClampNeg (jx_arr 2 ((60 : Int32)).toNatClampNeg)) a0 e1))
  else none :=
  sorry
theorem je_305 (rc : Nat → Nat × (Nat → Int32)) (d : Nat) (a0 : Nat) (x1 : Int32) (h : jxH) : jx_C rc (d + 1) 305 [.ref a0, .int x1] h =
  if jx_is (jx_at h a0) 8 = true then
  (jx_gI (jx_at h a0) 8 1).bind fun v1 =>
  if v1 < 0 then
    some (none, h)
  else
    (jx_gI (jx_at h a0) 8 1).bind fun v2 =>
    if (60 : Int32) ≤ v2 then
      some (none, h)
    else
      (jx_gR (jx_at h a0) 8 0).bind fun b3 =>
      (jx_gI (jx_at h a0) 8 1).bind fun v4 =>
      (jx_sI (jx_at h b3) 2 v4 ((x1).toInt8.toInt32).toInt8.toInt32).bind fun e5 =>
      (jx_gI (jx_at (jx_set h b3 e5) a0) 8 1).bind fun v6 =>
      (jx_pF (jx_at (jx_set h b3 e5) a0) 8 1 (.int (v6 + (1 : Int32)))).bind fun e7 =>
      some (none, (jx_set (jx_set h b3 e5) a0 e7))
  else none :=
  sorry
noncomputable def jb_306 (rc : Nat → Nat × (Nat → Int32)) (d : Nat) (i : Nat) (ls : List (Nat × Value)) (st : List Value) (h : jxH) : jxR := none
theorem je_306 (rc : Nat → Nat × (Nat → Int32)) (d : Nat) (a0 : Nat) (x1 : Int32) (h : jxH) : jx_C rc (d + 1) 306 [.ref a0, .int x1] h =
  if jx_is (jx_at h a0) 8 = true then
  if 0 ≤ x1 then
    jb_306 rc d 6 [(0, .ref a0), (1, .int x1)] [.int x1] h
  else
    jb_306 rc d 6 [(0, .ref a0), (1, .int x1)] [.int (-x1)] h
  else none :=
  sorry
theorem je_306_6 (rc : Nat → Nat × (Nat → Int32)) (d : Nat) (a0 : Nat) (x1 : Int32) (s0 : Int32) (h : jxH) : jb_306 rc d 6 [(0, .ref a0), (1, .int x1)] [.int s0] h =
  if 0 ≤ x1 then
    if s0 < (10 : Int32) then
      if (10 : Int32) = 0 then none else jx_cV (jx_C rc d 305 [.ref a0, .int ((48 : Int32) + (s0 - s0 / (10 : Int32) * (10 : Int32)))] h) fun h1 =>
      some (none, h1)
    else
      if (10 : Int32) = 0 then none else jx_cV (jx_C rc d 305 [.ref a0, .int ((48 : Int32) + (s0 / (10 : Int32)))] h) fun h2 =>
      if (10 : Int32) = 0 then none else jx_cV (jx_C rc d 305 [.ref a0, .int ((48 : Int32) + (s0 - s0 / (10 : Int32) * (10 : Int32)))] h2) fun h3 =>
      some (none, h3)
  else
    jx_cV (jx_C rc d 305 [.ref a0, .int (45 : Int32)] h) fun h4 =>
    if s0 < (10 : Int32) then
      if (10 : Int32) = 0 then none else jx_cV (jx_C rc d 305 [.ref a0, .int ((48 : Int32) + (s0 - s0 / (10 : Int32) * (10 : Int32)))] h4) fun h5 =>
      some (none, h5)
    else
      if (10 : Int32) = 0 then none else jx_cV (jx_C rc d 305 [.ref a0, .int ((48 : Int32) + (s0 / (10 : Int32)))] h4) fun h6 =>
      if (10 : Int32) = 0 then none else jx_cV (jx_C rc d 305 [.ref a0, .int ((48 : Int32) + (s0 - s0 / (10 : Int32) * (10 : Int32)))] h6) fun h7 =>
      some (none, h7) :=
  sorry
theorem je_307 (rc : Nat → Nat × (Nat → Int32)) (d : Nat) (a0 : Nat) (a1 : Nat) (h : jxH) : jx_C rc (d + 1) 307 [.ref a0, .ref a1] h =
  if jx_is (jx_at h a0) 8 = true then
  (jx_gI (jx_at h a1) 8 1).bind fun v1 =>
  (jx_gI (jx_at h a0) 8 1).bind fun v2 =>
  jx_cI (jx_C rc d 331 [.int v1, .int ((60 : Int32) - v2)] h) fun v4 h3 =>
  jx_cI (jx_C rc d 330 [.int (0 : Int32), .int v4] h3) fun v6 h5 =>
  (jx_gI (jx_at h5 a0) 8 1).bind fun v7 =>
  if v7 < 0 then
    some (none, h5)
  else
    (jx_gR (jx_at h5 a1) 8 0).bind fun b8 =>
    (jx_gR (jx_at h5 a0) 8 0).bind fun b9 =>
    (jx_gI (jx_at h5 a0) 8 1).bind fun v10 =>
    (jx_cp (jx_at h5 b8) (jx_at h5 b9) 2 (0 : Int32) v10 v6).bind fun e11 =>
    (jx_gI (jx_at (jx_set h5 b9 e11) a0) 8 1).bind fun v12 =>
    (jx_pF (jx_at (jx_set h5 b9 e11) a0) 8 1 (.int (v12 + v6))).bind fun e13 =>
    some (none, (jx_set (jx_set h5 b9 e11) a0 e13))
  else none :=
  sorry
theorem je_308 (rc : Nat → Nat × (Nat → Int32)) (d : Nat) (a0 : Nat) (x1 : Int32) (h : jxH) : jx_C rc (d + 1) 308 [.ref a0, .int x1] h =
  if jx_is (jx_at h a0) 8 = true then
  if x1 < 0 then
    some (some (.int (0 : Int32)), h)
  else
    if (60 : Int32) ≤ x1 then
      some (some (.int (0 : Int32)), h)
    else
      (jx_gR (jx_at h a0) 8 0).bind fun b1 =>
      (jx_aI (jx_at h b1) 2 x1).bind fun v2 =>
      some (some (.int v2.toInt8.toInt32), h)
  else none :=
  sorry
noncomputable def jb_309 (rc : Nat → Nat × (Nat → Int32)) (d : Nat) (i : Nat) (ls : List (Nat × Value)) (st : List Value) (h : jxH) : jxR := none
theorem je_309 (rc : Nat → Nat × (Nat → Int32)) (d : Nat) (a0 : Nat) (a1 : Nat) (h : jxH) : jx_C rc (d + 1) 309 [.ref a0, .ref a1] h =
  if jx_is (jx_at h a0) 8 = true then
  (jx_gI (jx_at h a0) 8 1).bind fun v1 =>
  (jx_gI (jx_at h a1) 8 1).bind fun v2 =>
  jx_cI (jx_C rc d 331 [.int v1, .int v2] h) fun v4 h3 =>
  jb_309 rc d 8 [(0, .ref a0), (1, .ref a1), (2, .int v4), (3, .int (0 : Int32))] [] h3
  else none :=
  sorry
theorem je_309_8 (rc : Nat → Nat × (Nat → Int32)) (d : Nat) (a0 : Nat) (a1 : Nat) (x2 : Int32) (x3 : Int32) (h : jxH) : jb_309 rc d 8 [(0, .ref a0), (1, .ref a1), (2, .int x2), (3, .int x3)] [] h =
  if x2 ≤ x3 then
    (jx_gI (jx_at h a0) 8 1).bind fun v1 =>
    (jx_gI (jx_at h a1) 8 1).bind fun v2 =>
    if v2 ≤ v1 then
      if jx_bool (0 : Int32) = true then some (some (.int (0 : Int32)), h) else none
    else
      if jx_bool (1 : Int32) = true then some (some (.int (1 : Int32)), h) else none
  else
    if (60 : Int32) ≤ x3 then
      (jx_gI (jx_at h a0) 8 1).bind fun v3 =>
      (jx_gI (jx_at h a1) 8 1).bind fun v4 =>
      if v4 ≤ v3 then
        if jx_bool (0 : Int32) = true then some (some (.int (0 : Int32)), h) else none
      else
        if jx_bool (1 : Int32) = true then some (some (.int (1 : Int32)), h) else none
    else
      (jx_gR (jx_at h a0) 8 0).bind fun b5 =>
      (jx_aI (jx_at h b5) 2 x3).bind fun v6 =>
      (jx_gR (jx_at h a1) 8 0).bind fun b7 =>
      (jx_aI (jx_at h b7) 2 x3).bind fun v8 =>
      if v6.toInt8.toInt32 = v8.toInt8.toInt32 then
        jb_309 rc d 8 [(0, .ref a0), (1, .ref a1), (2, .int x2), (3, .int (x3 + (1 : Int32)))] [] h
      else
        (jx_gR (jx_at h a0) 8 0).bind fun b9 =>
        (jx_aI (jx_at h b9) 2 x3).bind fun v10 =>
        (jx_gR (jx_at h a1) 8 0).bind fun b11 =>
        (jx_aI (jx_at h b11) 2 x3).bind fun v12 =>
        if v12.toInt8.toInt32 ≤ v10.toInt8.toInt32 then
          if jx_bool (0 : Int32) = true then some (some (.int (0 : Int32)), h) else none
        else
          if jx_bool (1 : Int32) = true then some (some (.int (1 : Int32)), h) else none :=
  sorry
theorem je_310 (rc : Nat → Nat × (Nat → Int32)) (d : Nat) (a0 : Nat) (a1 : Nat) (h : jxH) : jx_C rc (d + 1) 310 [.ref a0, .ref a1] h =
  if jx_is (jx_at h a0) 8 = true then
  jx_cI (jx_C rc d 309 [.ref a0, .ref a1] h) fun v2 h1 =>
  if v2 = 0 then
    jx_cI (jx_C rc d 309 [.ref a1, .ref a0] h1) fun v4 h3 =>
    if v4 = 0 then
      if jx_bool (1 : Int32) = true then some (some (.int (1 : Int32)), h3) else none
    else
      if jx_bool (0 : Int32) = true then some (some (.int (0 : Int32)), h3) else none
  else
    if jx_bool (0 : Int32) = true then some (some (.int (0 : Int32)), h1) else none
  else none :=
  sorry
noncomputable def jb_311 (rc : Nat → Nat × (Nat → Int32)) (d : Nat) (i : Nat) (ls : List (Nat × Value)) (st : List Value) (h : jxH) : jxR := none
theorem je_311 (rc : Nat → Nat × (Nat → Int32)) (d : Nat) (a0 : Nat) (h : jxH) : jx_C rc (d + 1) 311 [.ref a0] h =
  if jx_is (jx_at h a0) 9 = true then
  if (40 : Int32) < 0 ∨ 5000 < (40 : Int32) then none else
  (jx_pF (jx_at (jx_new h ((40 : Int32)).toNatClampNeg (jxQ 6 ((40 : Int32)).toNatClampNeg (fun _ => none))) a0) 9 0 (.ref h.1)).bind fun e1 =>
  jb_311 rc d 8 [(0, .ref a0), (1, .int (0 : Int32))] [] (jx_set (jx_new h ((40 : Int32)).toNatClampNeg (jxQ 6 ((40 : Int32)).toNatClampNeg (fun _ => none))) a0 e1)
  else none :=
  sorry
theorem je_311_8 (rc : Nat → Nat × (Nat → Int32)) (d : Nat) (a0 : Nat) (x1 : Int32) (h : jxH) : jb_311 rc d 8 [(0, .ref a0), (1, .int x1)] [] h =
  if (40 : Int32) ≤ x1 then
    some (none, h)
  else
    (jx_gR (jx_at h a0) 9 0).bind fun b1 =>
    jx_cV (jx_C rc d 280 [.ref h.1] (jx_new h 7 (.inl (6, jx_dflt 6)))) fun h2 =>
    if jx_is (jx_at h2 h.1) 6 = true then (jx_sQ (jx_at h2 b1) 6 x1 (some h.1)).bind fun e3 =>
    jb_311 rc d 8 [(0, .ref a0), (1, .int (x1 + (1 : Int32)))] [] (jx_set h2 b1 e3) else none :=
  sorry
theorem je_312 (rc : Nat → Nat × (Nat → Int32)) (d : Nat) (a0 : Nat) (x1 : Int32) (h : jxH) : jx_C rc (d + 1) 312 [.ref a0, .int x1] h =
  if jx_is (jx_at h a0) 9 = true then
  if x1 < 0 then
    some (some (.null), h)
  else
    if (40 : Int32) ≤ x1 then
      some (some (.null), h)
    else
      (jx_gR (jx_at h a0) 9 0).bind fun b1 =>
      (jx_aQ (jx_at h b1) 6 x1).bind fun o2 =>
      jx_mo o2 (fun b3 => some (some (.ref b3), h))
      (some (some (.null), h))
  else none :=
  sorry
theorem je_313 (rc : Nat → Nat × (Nat → Int32)) (d : Nat) (a0 : Nat) (h : jxH) : jx_C rc (d + 1) 313 [.ref a0] h =
  if jx_is (jx_at h a0) 9 = true then
  (jx_pF (jx_at h a0) 9 1 (.int (0 : Int32))).bind fun e1 =>
  (jx_pF (jx_at (jx_set h a0 e1) a0) 9 2 (.int (0 : Int32))).bind fun e2 =>
  some (none, (jx_set (jx_set h a0 e1) a0 e2))
  else none :=
  sorry
theorem je_314 (rc : Nat → Nat × (Nat → Int32)) (d : Nat) (a0 : Nat) (a1 : Nat) (a2 : Nat) (h : jxH) : jx_C rc (d + 1) 314 [.ref a0, .ref a1, .ref a2] h =
  if jx_is (jx_at h a0) 9 = true then
  (jx_gI (jx_at h a0) 9 1).bind fun v1 =>
  jx_cR (jx_C rc d 312 [.ref a0, .int v1] h) fun o3 h2 =>
  jx_mo o3 (fun b4 => (jx_gI (jx_at h2 a1) 6 0).bind fun v5 =>
    (jx_gI (jx_at h2 a1) 6 1).bind fun v6 =>
    (jx_gI (jx_at h2 a1) 6 2).bind fun v7 =>
    (jx_gI (jx_at h2 a1) 6 3).bind fun v8 =>
    (jx_gI (jx_at h2 a1) 6 4).bind fun v9 =>
    jx_cV (jx_C rc d 281 [.ref b4, .int v5, .int v6, .int v7, .int v8, .int v9] h2) fun h10 =>
    jx_cI (jx_C rc d 289 [.ref b4, .ref a2] h10) fun v12 h11 =>
    (jx_pF (jx_at h11 b4) 6 5 (.int v12)).bind fun e13 =>
    (jx_gR (jx_at (jx_set h11 b4 e13) b4) 6 6).bind fun b14 =>
    jx_cV (jx_C rc d 225 [.ref b14, .ref a2] (jx_set h11 b4 e13)) fun h15 =>
    jx_cV (jx_C rc d 290 [.ref b4, .ref a2] h15) fun h16 =>
    (jx_gI (jx_at h16 a0) 9 1).bind fun v17 =>
    (jx_pF (jx_at h16 a0) 9 1 (.int (v17 + (1 : Int32)))).bind fun e18 =>
    (jx_gI (jx_at (jx_set h16 a0 e18) a0) 9 1).bind fun v19 =>
    (jx_pF (jx_at (jx_set h16 a0 e18) a0) 9 2 (.int v19)).bind fun e20 =>
    some (none, (jx_set (jx_set h16 a0 e18) a0 e20)))
  (some (none, h2))
  else none :=
  sorry
theorem je_315 (rc : Nat → Nat × (Nat → Int32)) (d : Nat) (a0 : Nat) (a1 : Nat) (h : jxH) : jx_C rc (d + 1) 315 [.ref a0, .ref a1] h =
  if jx_is (jx_at h a0) 9 = true then
  (jx_gI (jx_at h a0) 9 1).bind fun v1 =>
  if v1 ≤ 0 then
    if jx_bool (0 : Int32) = true then some (some (.int (0 : Int32)), h) else none
  else
    (jx_gI (jx_at h a0) 9 1).bind fun v2 =>
    jx_cR (jx_C rc d 312 [.ref a0, .int (v2 - (1 : Int32))] h) fun o4 h3 =>
    jx_mo o4 (fun b5 => (jx_gR (jx_at h3 b5) 6 6).bind fun b6 =>
      jx_cV (jx_C rc d 225 [.ref a1, .ref b6] h3) fun h7 =>
      (jx_gI (jx_at h7 a0) 9 1).bind fun v8 =>
      (jx_pF (jx_at h7 a0) 9 1 (.int (v8 - (1 : Int32)))).bind fun e9 =>
      if jx_bool (1 : Int32) = true then some (some (.int (1 : Int32)), (jx_set h7 a0 e9)) else none)
    (if jx_bool (0 : Int32) = true then some (some (.int (0 : Int32)), h3) else none)
  else none :=
  sorry
theorem je_316 (rc : Nat → Nat × (Nat → Int32)) (d : Nat) (a0 : Nat) (a1 : Nat) (h : jxH) : jx_C rc (d + 1) 316 [.ref a0, .ref a1] h =
  if jx_is (jx_at h a0) 9 = true then
  (jx_gI (jx_at h a0) 9 1).bind fun v1 =>
  (jx_gI (jx_at h a0) 9 2).bind fun v2 =>
  if v2 ≤ v1 then
    if jx_bool (0 : Int32) = true then some (some (.int (0 : Int32)), h) else none
  else
    (jx_gI (jx_at h a0) 9 1).bind fun v3 =>
    jx_cR (jx_C rc d 312 [.ref a0, .int v3] h) fun o5 h4 =>
    jx_mo o5 (fun b6 => jx_cV (jx_C rc d 290 [.ref b6, .ref a1] h4) fun h7 =>
      (jx_gI (jx_at h7 a0) 9 1).bind fun v8 =>
      (jx_pF (jx_at h7 a0) 9 1 (.int (v8 + (1 : Int32)))).bind fun e9 =>
      if jx_bool (1 : Int32) = true then some (some (.int (1 : Int32)), (jx_set h7 a0 e9)) else none)
    (if jx_bool (0 : Int32) = true then some (some (.int (0 : Int32)), h4) else none)
  else none :=
  sorry
noncomputable def jb_317 (rc : Nat → Nat × (Nat → Int32)) (d : Nat) (i : Nat) (ls : List (Nat × Value)) (st : List Value) (h : jxH) : jxR := none
theorem je_317 (rc : Nat → Nat × (Nat → Int32)) (d : Nat) (a0 : Nat) (h : jxH) : jx_C rc (d + 1) 317 [.ref a0] h =
  if jx_is (jx_at h a0) 9 = true then
  jb_317 rc d 4 [(0, .ref a0), (1, .int (1 : Int32)), (2, .int (0 : Int32))] [] h
  else none :=
  sorry
theorem je_317_4 (rc : Nat → Nat × (Nat → Int32)) (d : Nat) (a0 : Nat) (x1 : Int32) (x2 : Int32) (h : jxH) : jb_317 rc d 4 [(0, .ref a0), (1, .int x1), (2, .int x2)] [] h =
  (jx_gI (jx_at h a0) 9 1).bind fun v1 =>
  if v1 ≤ x2 then
    some (some (.int x1), h)
  else
    if (40 : Int32) ≤ x2 then
      some (some (.int x1), h)
    else
      (jx_gR (jx_at h a0) 9 0).bind fun b2 =>
      (jx_aQ (jx_at h b2) 6 x2).bind fun o3 =>
      jx_mo o3 (fun b4 => (jx_gI (jx_at h b4) 6 5).bind fun v5 =>
        jb_317 rc d 4 [(0, .ref a0), (1, .int (x1 * v5)), (2, .int (x2 + (1 : Int32)))] [] h)
      (jb_317 rc d 4 [(0, .ref a0), (1, .int (x1 * (1 : Int32))), (2, .int (x2 + (1 : Int32)))] [] h) :=
  sorry
theorem je_318 (rc : Nat → Nat × (Nat → Int32)) (d : Nat) (a0 : Nat) (h : jxH) : jx_C rc (d + 1) 318 [.ref a0] h =
  if jx_is (jx_at h a0) 10 = true then
  if (12 : Int32) < 0 ∨ 5000 < (12 : Int32) then none else
  (jx_pF (jx_at (jx_new h ((12 : Int32)).toNatClampNeg (jx_arr 0 ((12 : Int32)).toNatClampNeg)) a0) 10 0 (.ref h.1)).bind fun e1 =>
  if (12 : Int32) < 0 ∨ 5000 < (12 : Int32) then none else
  (jx_pF (jx_at (jx_new (jx_set (jx_new h ((12 : Int32)).toNatClampNeg (jx_arr 0 ((12 : Int32)).toNatClampNeg)) a0 e1) ((12 : Int32)).toNatClampNeg (jx_arr 0 ((12 : Int32)).toNatClampNeg)) a0) 10 1 (.ref (jx_set (jx_new h ((12 : Int32)).toNatClampNeg (jx_arr 0 ((12 : Int32)).toNatClampNeg)) a0 e1).1)).bind fun e2 =>
  if (12 : Int32) < 0 ∨ 5000 < (12 : Int32) then none else
  (jx_pF (jx_at (jx_new (jx_set (jx_new (jx_set (jx_new h ((12 : Int32)).toNatClampNeg (jx_arr 0 ((12 : Int32)).toNatClampNeg)) a0 e1) ((12 : Int32)).toNatClampNeg (jx_arr 0 ((12 : Int32)).toNatClampNeg)) a0 e2) ((12 : Int32)).toNatClampNeg (jx_arr 0 ((12 : Int32)).toNatClampNeg)) a0) 10 2 (.ref (jx_set (jx_new (jx_set (jx_new h ((12 : Int32)).toNatClampNeg (jx_arr 0 ((12 : Int32)).toNatClampNeg)) a0 e1) ((12 : Int32)).toNatClampNeg (jx_arr 0 ((12 : Int32)).toNatClampNeg)) a0 e2).1)).bind fun e3 =>
  some (none, (jx_set (jx_new (jx_set (jx_new (jx_set (jx_new h ((12 : Int32)).toNatClampNeg (jx_arr 0 ((12 : Int32)).toNatClampNeg)) a0 e1) ((12 : Int32)).toNatClampNeg (jx_arr 0 ((12 : Int32)).toNatClampNeg)) a0 e2) ((12 : Int32)).toNatClampNeg (jx_arr 0 ((12 : Int32)).toNatClampNeg)) a0 e3))
  else none :=
  sorry
noncomputable def jb_319 (rc : Nat → Nat × (Nat → Int32)) (d : Nat) (i : Nat) (ls : List (Nat × Value)) (st : List Value) (h : jxH) : jxR := none
theorem je_319 (rc : Nat → Nat × (Nat → Int32)) (d : Nat) (a0 : Nat) (a1 : Nat) (x2 : Int32) (h : jxH) : jx_C rc (d + 1) 319 [.ref a0, .ref a1, .int x2] h =
  if jx_is (jx_at h a0) 10 = true then
  (jx_pF (jx_at h a0) 10 3 (.int (0 : Int32))).bind fun e1 =>
  (jx_pF (jx_at (jx_set h a0 e1) a0) 10 4 (.int (0 : Int32))).bind fun e2 =>
  jb_319 rc d 8 [(0, .ref a0), (1, .ref a1), (2, .int x2), (3, .int (0 : Int32))] [] (jx_set (jx_set h a0 e1) a0 e2)
  else none :=
  sorry
theorem je_319_8 (rc : Nat → Nat × (Nat → Int32)) (d : Nat) (a0 : Nat) (a1 : Nat) (x2 : Int32) (x3 : Int32) (h : jxH) : jb_319 rc d 8 [(0, .ref a0), (1, .ref a1), (2, .int x2), (3, .int x3)] [] h =
  if (12 : Int32) ≤ x3 then
    some (none, h)
  else
    jx_cI (jx_C rc d 60 [.int x3, .int x2] h) fun v2 h1 =>
    if v2 = 0 then
      jb_319 rc d 8 [(0, .ref a0), (1, .ref a1), (2, .int x2), (3, .int (x3 + (1 : Int32)))] [] h1
    else
      (jx_gI (jx_at h1 a0) 10 4).bind fun v3 =>
      jx_cI (jx_C rc d 60 [.int x3, .int v3] h1) fun v5 h4 =>
      if v5 = 0 then
        jx_cV (jx_C rc d 321 [.ref a0, .ref a1, .int x2, .int x3] h4) fun h6 =>
        jb_319 rc d 8 [(0, .ref a0), (1, .ref a1), (2, .int x2), (3, .int (x3 + (1 : Int32)))] [] h6
      else
        jb_319 rc d 8 [(0, .ref a0), (1, .ref a1), (2, .int x2), (3, .int (x3 + (1 : Int32)))] [] h4 :=
  sorry
theorem je_320 (rc : Nat → Nat × (Nat → Int32)) (d : Nat) (a0 : Nat) (a1 : Nat) (x2 : Int32) (h : jxH) : jx_C rc (d + 1) 320 [.ref a0, .ref a1, .int x2] h =
  if jx_is (jx_at h a0) 10 = true then
  (jx_pF (jx_at h a0) 10 3 (.int (0 : Int32))).bind fun e1 =>
  (jx_pF (jx_at (jx_set h a0 e1) a0) 10 4 (.int (0 : Int32))).bind fun e2 =>
  jx_cI (jx_C rc d 226 [.ref a1, .int x2] (jx_set (jx_set h a0 e1) a0 e2)) fun v4 h3 =>
  if v4 = 0 then
    some (none, h3)
  else
    (jx_gI (jx_at h3 a1) 1 2).bind fun v5 =>
    jx_cV (jx_C rc d 321 [.ref a0, .ref a1, .int v5, .int x2] h3) fun h6 =>
    some (none, h6)
  else none :=
  sorry
noncomputable def jb_321 (rc : Nat → Nat × (Nat → Int32)) (d : Nat) (i : Nat) (ls : List (Nat × Value)) (st : List Value) (h : jxH) : jxR := none
theorem je_321 (rc : Nat → Nat × (Nat → Int32)) (d : Nat) (a0 : Nat) (a1 : Nat) (x2 : Int32) (x3 : Int32) (h : jxH) : jx_C rc (d + 1) 321 [.ref a0, .ref a1, .int x2, .int x3] h =
  if jx_is (jx_at h a0) 10 = true then
  (jx_gI (jx_at h a0) 10 3).bind fun v1 =>
  jx_cV (jx_C rc d 322 [.ref a0, .int x3, .int (-1 : Int32), .int (0 : Int32)] h) fun h2 =>
  jb_321 rc d 10 [(0, .ref a0), (1, .ref a1), (2, .int x2), (5, .int v1)] [] h2
  else none :=
  sorry
theorem je_321_10 (rc : Nat → Nat × (Nat → Int32)) (d : Nat) (a0 : Nat) (a1 : Nat) (x2 : Int32) (x5 : Int32) (h : jxH) : jb_321 rc d 10 [(0, .ref a0), (1, .ref a1), (2, .int x2), (5, .int x5)] [] h =
  (jx_gI (jx_at h a0) 10 3).bind fun v1 =>
  if v1 ≤ x5 then
    some (none, h)
  else
    if (12 : Int32) ≤ x5 then
      some (none, h)
    else
      (jx_gR (jx_at h a0) 10 0).bind fun b2 =>
      (jx_aI (jx_at h b2) 0 x5).bind fun v3 =>
      jx_cI (jx_C rc d 229 [.ref a1, .int v3] h) fun v5 h4 =>
      (jx_gI (jx_at h4 a0) 10 4).bind fun v6 =>
      jb_321 rc d 35 [(0, .ref a0), (1, .ref a1), (2, .int x2), (5, .int x5), (6, .int v3), (7, .int ((v5 &&& x2) &&& (v6 ^^^ (-1 : Int32)))), (8, .int (0 : Int32))] [] h4 :=
  sorry
theorem je_321_35 (rc : Nat → Nat × (Nat → Int32)) (d : Nat) (a0 : Nat) (a1 : Nat) (x2 : Int32) (x5 : Int32) (x6 : Int32) (x7 : Int32) (x8 : Int32) (h : jxH) : jb_321 rc d 35 [(0, .ref a0), (1, .ref a1), (2, .int x2), (5, .int x5), (6, .int x6), (7, .int x7), (8, .int x8)] [] h =
  if (12 : Int32) ≤ x8 then
    jb_321 rc d 10 [(0, .ref a0), (1, .ref a1), (2, .int x2), (5, .int (x5 + (1 : Int32)))] [] h
  else
    jx_cI (jx_C rc d 60 [.int x8, .int x7] h) fun v2 h1 =>
    if v2 = 0 then
      jb_321 rc d 35 [(0, .ref a0), (1, .ref a1), (2, .int x2), (5, .int x5), (6, .int x6), (7, .int x7), (8, .int (x8 + (1 : Int32)))] [] h1
    else
      jx_cI (jx_C rc d 325 [.ref a0, .int x6] h1) fun v4 h3 =>
      jx_cV (jx_C rc d 322 [.ref a0, .int x8, .int x6, .int (v4 + (1 : Int32))] h3) fun h5 =>
      jb_321 rc d 35 [(0, .ref a0), (1, .ref a1), (2, .int x2), (5, .int x5), (6, .int x6), (7, .int x7), (8, .int (x8 + (1 : Int32)))] [] h5 :=
  sorry
theorem je_322 (rc : Nat → Nat × (Nat → Int32)) (d : Nat) (a0 : Nat) (x1 : Int32) (x2 : Int32) (x3 : Int32) (h : jxH) : jx_C rc (d + 1) 322 [.ref a0, .int x1, .int x2, .int x3] h =
  if jx_is (jx_at h a0) 10 = true then
  if x1 < 0 then
    some (none, h)
  else
    if (12 : Int32) ≤ x1 then
      some (none, h)
    else
      (jx_gI (jx_at h a0) 10 3).bind fun v1 =>
      if v1 < 0 then
        some (none, h)
      else
        (jx_gI (jx_at h a0) 10 3).bind fun v2 =>
        if (12 : Int32) ≤ v2 then
          some (none, h)
        else
          (jx_gR (jx_at h a0) 10 0).bind fun b3 =>
          (jx_gI (jx_at h a0) 10 3).bind fun v4 =>
          (jx_sI (jx_at h b3) 0 v4 x1).bind fun e5 =>
          (jx_gI (jx_at (jx_set h b3 e5) a0) 10 3).bind fun v6 =>
          (jx_pF (jx_at (jx_set h b3 e5) a0) 10 3 (.int (v6 + (1 : Int32)))).bind fun e7 =>
          (jx_gR (jx_at (jx_set (jx_set h b3 e5) a0 e7) a0) 10 1).bind fun b8 =>
          (jx_sI (jx_at (jx_set (jx_set h b3 e5) a0 e7) b8) 0 x1 x2).bind fun e9 =>
          (jx_gR (jx_at (jx_set (jx_set (jx_set h b3 e5) a0 e7) b8 e9) a0) 10 2).bind fun b10 =>
          (jx_sI (jx_at (jx_set (jx_set (jx_set h b3 e5) a0 e7) b8 e9) b10) 0 x1 x3).bind fun e11 =>
          (jx_gI (jx_at (jx_set (jx_set (jx_set (jx_set h b3 e5) a0 e7) b8 e9) b10 e11) a0) 10 4).bind fun v12 =>
          (jx_pF (jx_at (jx_set (jx_set (jx_set (jx_set h b3 e5) a0 e7) b8 e9) b10 e11) a0) 10 4 (.int (v12 ||| ((1 : Int32) <<< (x1 &&& 31))))).bind fun e13 =>
          some (none, (jx_set (jx_set (jx_set (jx_set (jx_set h b3 e5) a0 e7) b8 e9) b10 e11) a0 e13))
  else none :=
  sorry
theorem je_323 (rc : Nat → Nat × (Nat → Int32)) (d : Nat) (a0 : Nat) (x1 : Int32) (h : jxH) : jx_C rc (d + 1) 323 [.ref a0, .int x1] h =
  if jx_is (jx_at h a0) 10 = true then
  if x1 < 0 then
    some (some (.int (-1 : Int32)), h)
  else
    (jx_gI (jx_at h a0) 10 3).bind fun v1 =>
    if v1 ≤ x1 then
      some (some (.int (-1 : Int32)), h)
    else
      if (12 : Int32) ≤ x1 then
        some (some (.int (-1 : Int32)), h)
      else
        (jx_gR (jx_at h a0) 10 0).bind fun b2 =>
        (jx_aI (jx_at h b2) 0 x1).bind fun v3 =>
        some (some (.int v3), h)
  else none :=
  sorry
theorem je_324 (rc : Nat → Nat × (Nat → Int32)) (d : Nat) (a0 : Nat) (x1 : Int32) (h : jxH) : jx_C rc (d + 1) 324 [.ref a0, .int x1] h =
  if jx_is (jx_at h a0) 10 = true then
  if x1 < 0 then
    some (some (.int (-1 : Int32)), h)
  else
    if (12 : Int32) ≤ x1 then
      some (some (.int (-1 : Int32)), h)
    else
      (jx_gR (jx_at h a0) 10 1).bind fun b1 =>
      (jx_aI (jx_at h b1) 0 x1).bind fun v2 =>
      some (some (.int v2), h)
  else none :=
  sorry
theorem je_325 (rc : Nat → Nat × (Nat → Int32)) (d : Nat) (a0 : Nat) (x1 : Int32) (h : jxH) : jx_C rc (d + 1) 325 [.ref a0, .int x1] h =
  if jx_is (jx_at h a0) 10 = true then
  if x1 < 0 then
    some (some (.int (0 : Int32)), h)
  else
    if (12 : Int32) ≤ x1 then
      some (some (.int (0 : Int32)), h)
    else
      (jx_gR (jx_at h a0) 10 2).bind fun b1 =>
      (jx_aI (jx_at h b1) 0 x1).bind fun v2 =>
      some (some (.int v2), h)
  else none :=
  sorry
theorem je_326 (rc : Nat → Nat × (Nat → Int32)) (d : Nat) (a0 : Nat) (h : jxH) : jx_C rc (d + 1) 326 [.ref a0] h =
  if jx_is (jx_at h a0) 10 = true then
  (jx_gI (jx_at h a0) 10 3).bind fun v1 =>
  jx_cI (jx_C rc d 323 [.ref a0, .int (v1 - (1 : Int32))] h) fun v3 h2 =>
  jx_cI (jx_C rc d 325 [.ref a0, .int v3] h2) fun v5 h4 =>
  some (some (.int v5), h4)
  else none :=
  sorry
noncomputable def jb_327 (rc : Nat → Nat × (Nat → Int32)) (d : Nat) (i : Nat) (ls : List (Nat × Value)) (st : List Value) (h : jxH) : jxR := none
theorem je_327 (rc : Nat → Nat × (Nat → Int32)) (d : Nat) (a0 : Nat) (a1 : Nat) (x2 : Int32) (x3 : Int32) (h : jxH) : jx_C rc (d + 1) 327 [.ref a0, .ref a1, .int x2, .int x3] h =
  if jx_is (jx_at h a0) 10 = true then
  jx_cV (jx_C rc d 320 [.ref a0, .ref a1, .int x3] h) fun h1 =>
  (jx_gI (jx_at h1 a0) 10 4).bind fun v2 =>
  jx_cI (jx_C rc d 60 [.int x2, .int v2] h1) fun v4 h3 =>
  if v4 = 0 then
    some (some (.int (0 : Int32)), h3)
  else
    jb_327 rc d 17 [(0, .ref a0), (4, .int (0 : Int32)), (5, .int x2), (6, .int (0 : Int32))] [] h3
  else none :=
  sorry
theorem je_327_17 (rc : Nat → Nat × (Nat → Int32)) (d : Nat) (a0 : Nat) (x4 : Int32) (x5 : Int32) (x6 : Int32) (h : jxH) : jb_327 rc d 17 [(0, .ref a0), (4, .int x4), (5, .int x5), (6, .int x6)] [] h =
  if (12 : Int32) ≤ x6 then
    some (some (.int x4), h)
  else
    jx_cI (jx_C rc d 59 [.int x5] h) fun v2 h1 =>
    if v2 = 0 then
      some (some (.int x4), h1)
    else
      jx_cI (jx_C rc d 324 [.ref a0, .int x5] h1) fun v4 h3 =>
      jb_327 rc d 17 [(0, .ref a0), (4, .int (x4 ||| ((1 : Int32) <<< (x5 &&& 31)))), (5, .int v4), (6, .int (x6 + (1 : Int32)))] [] h3 :=
  sorry
theorem je_328 (rc : Nat → Nat × (Nat → Int32)) (d : Nat) (x0 : Int32) (h : jxH) : jx_C rc (d + 1) 328 [.int x0] h =
  some (some (.int ((((((((x0 - (((x0).toUInt32 >>> (((1 : Int32)).toUInt32 &&& Int32.toUInt32 31)).toInt32 &&& (1431655765 : Int32))) &&& (858993459 : Int32)) + ((((x0 - (((x0).toUInt32 >>> (((1 : Int32)).toUInt32 &&& Int32.toUInt32 31)).toInt32 &&& (1431655765 : Int32)))).toUInt32 >>> (((2 : Int32)).toUInt32 &&& Int32.toUInt32 31)).toInt32 &&& (858993459 : Int32))) + (((((x0 - (((x0).toUInt32 >>> (((1 : Int32)).toUInt32 &&& Int32.toUInt32 31)).toInt32 &&& (1431655765 : Int32))) &&& (858993459 : Int32)) + ((((x0 - (((x0).toUInt32 >>> (((1 : Int32)).toUInt32 &&& Int32.toUInt32 31)).toInt32 &&& (1431655765 : Int32)))).toUInt32 >>> (((2 : Int32)).toUInt32 &&& Int32.toUInt32 31)).toInt32 &&& (858993459 : Int32)))).toUInt32 >>> (((4 : Int32)).toUInt32 &&& Int32.toUInt32 31)).toInt32) &&& (252645135 : Int32)) + (((((((x0 - (((x0).toUInt32 >>> (((1 : Int32)).toUInt32 &&& Int32.toUInt32 31)).toInt32 &&& (1431655765 : Int32))) &&& (858993459 : Int32)) + ((((x0 - (((x0).toUInt32 >>> (((1 : Int32)).toUInt32 &&& Int32.toUInt32 31)).toInt32 &&& (1431655765 : Int32)))).toUInt32 >>> (((2 : Int32)).toUInt32 &&& Int32.toUInt32 31)).toInt32 &&& (858993459 : Int32))) + (((((x0 - (((x0).toUInt32 >>> (((1 : Int32)).toUInt32 &&& Int32.toUInt32 31)).toInt32 &&& (1431655765 : Int32))) &&& (858993459 : Int32)) + ((((x0 - (((x0).toUInt32 >>> (((1 : Int32)).toUInt32 &&& Int32.toUInt32 31)).toInt32 &&& (1431655765 : Int32)))).toUInt32 >>> (((2 : Int32)).toUInt32 &&& Int32.toUInt32 31)).toInt32 &&& (858993459 : Int32)))).toUInt32 >>> (((4 : Int32)).toUInt32 &&& Int32.toUInt32 31)).toInt32) &&& (252645135 : Int32))).toUInt32 >>> (((8 : Int32)).toUInt32 &&& Int32.toUInt32 31)).toInt32) + ((((((((x0 - (((x0).toUInt32 >>> (((1 : Int32)).toUInt32 &&& Int32.toUInt32 31)).toInt32 &&& (1431655765 : Int32))) &&& (858993459 : Int32)) + ((((x0 - (((x0).toUInt32 >>> (((1 : Int32)).toUInt32 &&& Int32.toUInt32 31)).toInt32 &&& (1431655765 : Int32)))).toUInt32 >>> (((2 : Int32)).toUInt32 &&& Int32.toUInt32 31)).toInt32 &&& (858993459 : Int32))) + (((((x0 - (((x0).toUInt32 >>> (((1 : Int32)).toUInt32 &&& Int32.toUInt32 31)).toInt32 &&& (1431655765 : Int32))) &&& (858993459 : Int32)) + ((((x0 - (((x0).toUInt32 >>> (((1 : Int32)).toUInt32 &&& Int32.toUInt32 31)).toInt32 &&& (1431655765 : Int32)))).toUInt32 >>> (((2 : Int32)).toUInt32 &&& Int32.toUInt32 31)).toInt32 &&& (858993459 : Int32)))).toUInt32 >>> (((4 : Int32)).toUInt32 &&& Int32.toUInt32 31)).toInt32) &&& (252645135 : Int32)) + (((((((x0 - (((x0).toUInt32 >>> (((1 : Int32)).toUInt32 &&& Int32.toUInt32 31)).toInt32 &&& (1431655765 : Int32))) &&& (858993459 : Int32)) + ((((x0 - (((x0).toUInt32 >>> (((1 : Int32)).toUInt32 &&& Int32.toUInt32 31)).toInt32 &&& (1431655765 : Int32)))).toUInt32 >>> (((2 : Int32)).toUInt32 &&& Int32.toUInt32 31)).toInt32 &&& (858993459 : Int32))) + (((((x0 - (((x0).toUInt32 >>> (((1 : Int32)).toUInt32 &&& Int32.toUInt32 31)).toInt32 &&& (1431655765 : Int32))) &&& (858993459 : Int32)) + ((((x0 - (((x0).toUInt32 >>> (((1 : Int32)).toUInt32 &&& Int32.toUInt32 31)).toInt32 &&& (1431655765 : Int32)))).toUInt32 >>> (((2 : Int32)).toUInt32 &&& Int32.toUInt32 31)).toInt32 &&& (858993459 : Int32)))).toUInt32 >>> (((4 : Int32)).toUInt32 &&& Int32.toUInt32 31)).toInt32) &&& (252645135 : Int32))).toUInt32 >>> (((8 : Int32)).toUInt32 &&& Int32.toUInt32 31)).toInt32)).toUInt32 >>> (((16 : Int32)).toUInt32 &&& Int32.toUInt32 31)).toInt32) &&& (63 : Int32))), h) :=
  sorry
theorem je_329 (rc : Nat → Nat × (Nat → Int32)) (d : Nat) (x0 : Int64) (x2 : Int64) (h : jxH) : jx_C rc (d + 1) 329 [.long x0, .long x2] h =
  if x2 = 0 then none else if 0 ≤ (lg_cmp (x0 ^^^ x2) (0 : Int64)) then
    some (some (.long (x0 - x0 / x2 * x2)), h)
  else
    if (lg_cmp (x0 - x0 / x2 * x2) (0 : Int64)) = 0 then
      some (some (.long (x0 - x0 / x2 * x2)), h)
    else
      some (some (.long ((x0 - x0 / x2 * x2) + x2)), h) :=
  sorry
theorem je_330 (rc : Nat → Nat × (Nat → Int32)) (d : Nat) (x0 : Int32) (x1 : Int32) (h : jxH) : jx_C rc (d + 1) 330 [.int x0, .int x1] h =
  if x0 < x1 then
    some (some (.int x1), h)
  else
    some (some (.int x0), h) :=
  sorry
theorem je_331 (rc : Nat → Nat × (Nat → Int32)) (d : Nat) (x0 : Int32) (x1 : Int32) (h : jxH) : jx_C rc (d + 1) 331 [.int x0, .int x1] h =
  if x1 < x0 then
    some (some (.int x1), h)
  else
    some (some (.int x0), h) :=
  sorry
noncomputable def jb_332 (rc : Nat → Nat × (Nat → Int32)) (d : Nat) (i : Nat) (ls : List (Nat × Value)) (st : List Value) (h : jxH) : jxR := none
theorem je_332 (rc : Nat → Nat × (Nat → Int32)) (d : Nat) (a0 : Nat) (x1 : Int32) (h : jxH) : jx_C rc (d + 1) 332 [.ref a0, .int x1] h =
  (jx_len (jx_at h a0)).bind fun n1 =>
  jb_332 rc d 5 [(0, .ref a0), (1, .int x1), (2, .int (0 : Int32)), (3, .int (Int32.ofNat n1))] [] h :=
  sorry
theorem je_332_5 (rc : Nat → Nat × (Nat → Int32)) (d : Nat) (a0 : Nat) (x1 : Int32) (x2 : Int32) (x3 : Int32) (h : jxH) : jb_332 rc d 5 [(0, .ref a0), (1, .int x1), (2, .int x2), (3, .int x3)] [] h =
  if x3 ≤ x2 then
    some (none, h)
  else
    (jx_sI (jx_at h a0) 0 x2 x1).bind fun e1 =>
    jb_332 rc d 5 [(0, .ref a0), (1, .int x1), (2, .int (x2 + (1 : Int32))), (3, .int x3)] [] (jx_set h a0 e1) :=
  sorry
noncomputable def jb_333 (rc : Nat → Nat × (Nat → Int32)) (d : Nat) (i : Nat) (ls : List (Nat × Value)) (st : List Value) (h : jxH) : jxR := none
theorem je_333 (rc : Nat → Nat × (Nat → Int32)) (d : Nat) (h : jxH) : jb_333 rc d 0 [(0, .retAddr 0)] [] h =
  jx_cV (jx_C rc d 0 [.ref h.1] (jx_new h 17 (.inl (11, jx_dflt 11)))) fun h1 =>
  jx_cV (jx_C rc d 71 [.ref h1.1] (jx_new h1 40 (.inl (12, jx_dflt 12)))) fun h2 =>
  jb_333 rc d 10 [(0, .retAddr 0), (1, .ref h.1), (2, .ref h1.1), (3, .int (0 : Int32))] [] h2 :=
  sorry
theorem je_333_10 (rc : Nat → Nat × (Nat → Int32)) (d : Nat) (a1 : Nat) (a2 : Nat) (x3 : Int32) (h : jxH) : jb_333 rc d 10 [(0, .retAddr 0), (1, .ref a1), (2, .ref a2), (3, .int x3)] [] h =
  if ((Int32.ofNat (rc 0).1) - (6 : Int32)) < x3 then
    if jx_bool (1 : Int32) = true then some (some (.int (1 : Int32)), h) else none
  else
    if jx_out x3 (rc 0).1 = true then none else
    if (((rc 0).2 (x3).toNatClampNeg) &&& (63 : Int32)) = (0 : Int32) then
      jb_333 rc d 22 [(0, .retAddr 0), (1, .ref a1), (2, .ref a2), (3, .int x3)] [] h
    else if (((rc 0).2 (x3).toNatClampNeg) &&& (63 : Int32)) = ((0 : Int32) + 1) then
      jb_333 rc d 39 [(0, .retAddr 0), (1, .ref a1), (2, .ref a2), (3, .int x3)] [] h
    else if (((rc 0).2 (x3).toNatClampNeg) &&& (63 : Int32)) = (((0 : Int32) + 1) + 1) then
      jb_333 rc d 66 [(0, .retAddr 0), (1, .ref a1), (2, .ref a2), (3, .int x3)] [] h
    else if (((rc 0).2 (x3).toNatClampNeg) &&& (63 : Int32)) = ((((0 : Int32) + 1) + 1) + 1) then
      jb_333 rc d 93 [(0, .retAddr 0), (1, .ref a1), (2, .ref a2), (3, .int x3)] [] h
    else if (((rc 0).2 (x3).toNatClampNeg) &&& (63 : Int32)) = (((((0 : Int32) + 1) + 1) + 1) + 1) then
      jb_333 rc d 120 [(0, .retAddr 0), (1, .ref a1), (2, .ref a2), (3, .int x3)] [] h
    else if (((rc 0).2 (x3).toNatClampNeg) &&& (63 : Int32)) = ((((((0 : Int32) + 1) + 1) + 1) + 1) + 1) then
      jb_333 rc d 137 [(0, .retAddr 0), (1, .ref a1), (2, .ref a2), (3, .int x3)] [] h
    else if (((rc 0).2 (x3).toNatClampNeg) &&& (63 : Int32)) = (((((((0 : Int32) + 1) + 1) + 1) + 1) + 1) + 1) then
      jb_333 rc d 164 [(0, .retAddr 0), (1, .ref a1), (2, .ref a2), (3, .int x3)] [] h
    else if (((rc 0).2 (x3).toNatClampNeg) &&& (63 : Int32)) = ((((((((0 : Int32) + 1) + 1) + 1) + 1) + 1) + 1) + 1) then
      jb_333 rc d 191 [(0, .retAddr 0), (1, .ref a1), (2, .ref a2), (3, .int x3)] [] h
    else if (((rc 0).2 (x3).toNatClampNeg) &&& (63 : Int32)) = (((((((((0 : Int32) + 1) + 1) + 1) + 1) + 1) + 1) + 1) + 1) then
      jb_333 rc d 248 [(0, .retAddr 0), (1, .ref a1), (2, .ref a2), (3, .int x3)] [] h
    else if (((rc 0).2 (x3).toNatClampNeg) &&& (63 : Int32)) = ((((((((((0 : Int32) + 1) + 1) + 1) + 1) + 1) + 1) + 1) + 1) + 1) then
      jb_333 rc d 255 [(0, .retAddr 0), (1, .ref a1), (2, .ref a2), (3, .int x3)] [] h
    else if (((rc 0).2 (x3).toNatClampNeg) &&& (63 : Int32)) = (((((((((((0 : Int32) + 1) + 1) + 1) + 1) + 1) + 1) + 1) + 1) + 1) + 1) then
      jb_333 rc d 262 [(0, .retAddr 0), (1, .ref a1), (2, .ref a2), (3, .int x3)] [] h
    else if (((rc 0).2 (x3).toNatClampNeg) &&& (63 : Int32)) = ((((((((((((0 : Int32) + 1) + 1) + 1) + 1) + 1) + 1) + 1) + 1) + 1) + 1) + 1) then
      jb_333 rc d 289 [(0, .retAddr 0), (1, .ref a1), (2, .ref a2), (3, .int x3)] [] h
    else if (((rc 0).2 (x3).toNatClampNeg) &&& (63 : Int32)) = (((((((((((((0 : Int32) + 1) + 1) + 1) + 1) + 1) + 1) + 1) + 1) + 1) + 1) + 1) + 1) then
      jb_333 rc d 296 [(0, .retAddr 0), (1, .ref a1), (2, .ref a2), (3, .int x3)] [] h
    else if (((rc 0).2 (x3).toNatClampNeg) &&& (63 : Int32)) = ((((((((((((((0 : Int32) + 1) + 1) + 1) + 1) + 1) + 1) + 1) + 1) + 1) + 1) + 1) + 1) + 1) then
      jb_333 rc d 313 [(0, .retAddr 0), (1, .ref a1), (2, .ref a2), (3, .int x3)] [] h
    else if (((rc 0).2 (x3).toNatClampNeg) &&& (63 : Int32)) = (((((((((((((((0 : Int32) + 1) + 1) + 1) + 1) + 1) + 1) + 1) + 1) + 1) + 1) + 1) + 1) + 1) + 1) then
      jb_333 rc d 320 [(0, .retAddr 0), (1, .ref a1), (2, .ref a2), (3, .int x3)] [] h
    else if (((rc 0).2 (x3).toNatClampNeg) &&& (63 : Int32)) = ((((((((((((((((0 : Int32) + 1) + 1) + 1) + 1) + 1) + 1) + 1) + 1) + 1) + 1) + 1) + 1) + 1) + 1) + 1) then
      jb_333 rc d 357 [(0, .retAddr 0), (1, .ref a1), (2, .ref a2), (3, .int x3)] [] h
    else if (((rc 0).2 (x3).toNatClampNeg) &&& (63 : Int32)) = (((((((((((((((((0 : Int32) + 1) + 1) + 1) + 1) + 1) + 1) + 1) + 1) + 1) + 1) + 1) + 1) + 1) + 1) + 1) + 1) then
      jb_333 rc d 374 [(0, .retAddr 0), (1, .ref a1), (2, .ref a2), (3, .int x3)] [] h
    else if (((rc 0).2 (x3).toNatClampNeg) &&& (63 : Int32)) = ((((((((((((((((((0 : Int32) + 1) + 1) + 1) + 1) + 1) + 1) + 1) + 1) + 1) + 1) + 1) + 1) + 1) + 1) + 1) + 1) + 1) then
      jb_333 rc d 391 [(0, .retAddr 0), (1, .ref a1), (2, .ref a2), (3, .int x3)] [] h
    else if (((rc 0).2 (x3).toNatClampNeg) &&& (63 : Int32)) = (((((((((((((((((((0 : Int32) + 1) + 1) + 1) + 1) + 1) + 1) + 1) + 1) + 1) + 1) + 1) + 1) + 1) + 1) + 1) + 1) + 1) + 1) then
      jb_333 rc d 408 [(0, .retAddr 0), (1, .ref a1), (2, .ref a2), (3, .int x3)] [] h
    else if (((rc 0).2 (x3).toNatClampNeg) &&& (63 : Int32)) = ((((((((((((((((((((0 : Int32) + 1) + 1) + 1) + 1) + 1) + 1) + 1) + 1) + 1) + 1) + 1) + 1) + 1) + 1) + 1) + 1) + 1) + 1) + 1) then
      jb_333 rc d 415 [(0, .retAddr 0), (1, .ref a1), (2, .ref a2), (3, .int x3)] [] h
    else if (((rc 0).2 (x3).toNatClampNeg) &&& (63 : Int32)) = (((((((((((((((((((((0 : Int32) + 1) + 1) + 1) + 1) + 1) + 1) + 1) + 1) + 1) + 1) + 1) + 1) + 1) + 1) + 1) + 1) + 1) + 1) + 1) + 1) then
      jb_333 rc d 452 [(0, .retAddr 0), (1, .ref a1), (2, .ref a2), (3, .int x3)] [] h
    else if (((rc 0).2 (x3).toNatClampNeg) &&& (63 : Int32)) = ((((((((((((((((((((((0 : Int32) + 1) + 1) + 1) + 1) + 1) + 1) + 1) + 1) + 1) + 1) + 1) + 1) + 1) + 1) + 1) + 1) + 1) + 1) + 1) + 1) + 1) then
      jb_333 rc d 479 [(0, .retAddr 0), (1, .ref a1), (2, .ref a2), (3, .int x3)] [] h
    else if (((rc 0).2 (x3).toNatClampNeg) &&& (63 : Int32)) = (((((((((((((((((((((((0 : Int32) + 1) + 1) + 1) + 1) + 1) + 1) + 1) + 1) + 1) + 1) + 1) + 1) + 1) + 1) + 1) + 1) + 1) + 1) + 1) + 1) + 1) + 1) then
      jb_333 rc d 506 [(0, .retAddr 0), (1, .ref a1), (2, .ref a2), (3, .int x3)] [] h
    else if (((rc 0).2 (x3).toNatClampNeg) &&& (63 : Int32)) = ((((((((((((((((((((((((0 : Int32) + 1) + 1) + 1) + 1) + 1) + 1) + 1) + 1) + 1) + 1) + 1) + 1) + 1) + 1) + 1) + 1) + 1) + 1) + 1) + 1) + 1) + 1) + 1) then
      jb_333 rc d 543 [(0, .retAddr 0), (1, .ref a1), (2, .ref a2), (3, .int x3)] [] h
    else if (((rc 0).2 (x3).toNatClampNeg) &&& (63 : Int32)) = (((((((((((((((((((((((((0 : Int32) + 1) + 1) + 1) + 1) + 1) + 1) + 1) + 1) + 1) + 1) + 1) + 1) + 1) + 1) + 1) + 1) + 1) + 1) + 1) + 1) + 1) + 1) + 1) + 1) then
      jb_333 rc d 570 [(0, .retAddr 0), (1, .ref a1), (2, .ref a2), (3, .int x3)] [] h
    else if (((rc 0).2 (x3).toNatClampNeg) &&& (63 : Int32)) = ((((((((((((((((((((((((((0 : Int32) + 1) + 1) + 1) + 1) + 1) + 1) + 1) + 1) + 1) + 1) + 1) + 1) + 1) + 1) + 1) + 1) + 1) + 1) + 1) + 1) + 1) + 1) + 1) + 1) + 1) then
      jb_333 rc d 621 [(0, .retAddr 0), (1, .ref a1), (2, .ref a2), (3, .int x3)] [] h
    else if (((rc 0).2 (x3).toNatClampNeg) &&& (63 : Int32)) = (((((((((((((((((((((((((((0 : Int32) + 1) + 1) + 1) + 1) + 1) + 1) + 1) + 1) + 1) + 1) + 1) + 1) + 1) + 1) + 1) + 1) + 1) + 1) + 1) + 1) + 1) + 1) + 1) + 1) + 1) + 1) then
      jb_333 rc d 628 [(0, .retAddr 0), (1, .ref a1), (2, .ref a2), (3, .int x3)] [] h
    else if (((rc 0).2 (x3).toNatClampNeg) &&& (63 : Int32)) = ((((((((((((((((((((((((((((0 : Int32) + 1) + 1) + 1) + 1) + 1) + 1) + 1) + 1) + 1) + 1) + 1) + 1) + 1) + 1) + 1) + 1) + 1) + 1) + 1) + 1) + 1) + 1) + 1) + 1) + 1) + 1) + 1) then
      jb_333 rc d 645 [(0, .retAddr 0), (1, .ref a1), (2, .ref a2), (3, .int x3)] [] h
    else if (((rc 0).2 (x3).toNatClampNeg) &&& (63 : Int32)) = (((((((((((((((((((((((((((((0 : Int32) + 1) + 1) + 1) + 1) + 1) + 1) + 1) + 1) + 1) + 1) + 1) + 1) + 1) + 1) + 1) + 1) + 1) + 1) + 1) + 1) + 1) + 1) + 1) + 1) + 1) + 1) + 1) + 1) then
      jb_333 rc d 662 [(0, .retAddr 0), (1, .ref a1), (2, .ref a2), (3, .int x3)] [] h
    else if (((rc 0).2 (x3).toNatClampNeg) &&& (63 : Int32)) = ((((((((((((((((((((((((((((((0 : Int32) + 1) + 1) + 1) + 1) + 1) + 1) + 1) + 1) + 1) + 1) + 1) + 1) + 1) + 1) + 1) + 1) + 1) + 1) + 1) + 1) + 1) + 1) + 1) + 1) + 1) + 1) + 1) + 1) + 1) then
      jb_333 rc d 679 [(0, .retAddr 0), (1, .ref a1), (2, .ref a2), (3, .int x3)] [] h
    else if (((rc 0).2 (x3).toNatClampNeg) &&& (63 : Int32)) = (((((((((((((((((((((((((((((((0 : Int32) + 1) + 1) + 1) + 1) + 1) + 1) + 1) + 1) + 1) + 1) + 1) + 1) + 1) + 1) + 1) + 1) + 1) + 1) + 1) + 1) + 1) + 1) + 1) + 1) + 1) + 1) + 1) + 1) + 1) + 1) then
      jb_333 rc d 696 [(0, .retAddr 0), (1, .ref a1), (2, .ref a2), (3, .int x3)] [] h
    else if (((rc 0).2 (x3).toNatClampNeg) &&& (63 : Int32)) = ((((((((((((((((((((((((((((((((0 : Int32) + 1) + 1) + 1) + 1) + 1) + 1) + 1) + 1) + 1) + 1) + 1) + 1) + 1) + 1) + 1) + 1) + 1) + 1) + 1) + 1) + 1) + 1) + 1) + 1) + 1) + 1) + 1) + 1) + 1) + 1) + 1) then
      jb_333 rc d 713 [(0, .retAddr 0), (1, .ref a1), (2, .ref a2), (3, .int x3)] [] h
    else if (((rc 0).2 (x3).toNatClampNeg) &&& (63 : Int32)) = (((((((((((((((((((((((((((((((((0 : Int32) + 1) + 1) + 1) + 1) + 1) + 1) + 1) + 1) + 1) + 1) + 1) + 1) + 1) + 1) + 1) + 1) + 1) + 1) + 1) + 1) + 1) + 1) + 1) + 1) + 1) + 1) + 1) + 1) + 1) + 1) + 1) + 1) then
      jb_333 rc d 740 [(0, .retAddr 0), (1, .ref a1), (2, .ref a2), (3, .int x3)] [] h
    else if (((rc 0).2 (x3).toNatClampNeg) &&& (63 : Int32)) = ((((((((((((((((((((((((((((((((((0 : Int32) + 1) + 1) + 1) + 1) + 1) + 1) + 1) + 1) + 1) + 1) + 1) + 1) + 1) + 1) + 1) + 1) + 1) + 1) + 1) + 1) + 1) + 1) + 1) + 1) + 1) + 1) + 1) + 1) + 1) + 1) + 1) + 1) + 1) then
      jb_333 rc d 767 [(0, .retAddr 0), (1, .ref a1), (2, .ref a2), (3, .int x3)] [] h
    else if (((rc 0).2 (x3).toNatClampNeg) &&& (63 : Int32)) = (((((((((((((((((((((((((((((((((((0 : Int32) + 1) + 1) + 1) + 1) + 1) + 1) + 1) + 1) + 1) + 1) + 1) + 1) + 1) + 1) + 1) + 1) + 1) + 1) + 1) + 1) + 1) + 1) + 1) + 1) + 1) + 1) + 1) + 1) + 1) + 1) + 1) + 1) + 1) + 1) then
      jb_333 rc d 794 [(0, .retAddr 0), (1, .ref a1), (2, .ref a2), (3, .int x3)] [] h
    else if (((rc 0).2 (x3).toNatClampNeg) &&& (63 : Int32)) = ((((((((((((((((((((((((((((((((((((0 : Int32) + 1) + 1) + 1) + 1) + 1) + 1) + 1) + 1) + 1) + 1) + 1) + 1) + 1) + 1) + 1) + 1) + 1) + 1) + 1) + 1) + 1) + 1) + 1) + 1) + 1) + 1) + 1) + 1) + 1) + 1) + 1) + 1) + 1) + 1) + 1) then
      jb_333 rc d 821 [(0, .retAddr 0), (1, .ref a1), (2, .ref a2), (3, .int x3)] [] h
    else if (((rc 0).2 (x3).toNatClampNeg) &&& (63 : Int32)) = (((((((((((((((((((((((((((((((((((((0 : Int32) + 1) + 1) + 1) + 1) + 1) + 1) + 1) + 1) + 1) + 1) + 1) + 1) + 1) + 1) + 1) + 1) + 1) + 1) + 1) + 1) + 1) + 1) + 1) + 1) + 1) + 1) + 1) + 1) + 1) + 1) + 1) + 1) + 1) + 1) + 1) + 1) then
      jb_333 rc d 848 [(0, .retAddr 0), (1, .ref a1), (2, .ref a2), (3, .int x3)] [] h
    else if (((rc 0).2 (x3).toNatClampNeg) &&& (63 : Int32)) = ((((((((((((((((((((((((((((((((((((((0 : Int32) + 1) + 1) + 1) + 1) + 1) + 1) + 1) + 1) + 1) + 1) + 1) + 1) + 1) + 1) + 1) + 1) + 1) + 1) + 1) + 1) + 1) + 1) + 1) + 1) + 1) + 1) + 1) + 1) + 1) + 1) + 1) + 1) + 1) + 1) + 1) + 1) + 1) then
      jb_333 rc d 875 [(0, .retAddr 0), (1, .ref a1), (2, .ref a2), (3, .int x3)] [] h
    else if (((rc 0).2 (x3).toNatClampNeg) &&& (63 : Int32)) = (((((((((((((((((((((((((((((((((((((((0 : Int32) + 1) + 1) + 1) + 1) + 1) + 1) + 1) + 1) + 1) + 1) + 1) + 1) + 1) + 1) + 1) + 1) + 1) + 1) + 1) + 1) + 1) + 1) + 1) + 1) + 1) + 1) + 1) + 1) + 1) + 1) + 1) + 1) + 1) + 1) + 1) + 1) + 1) + 1) then
      jb_333 rc d 902 [(0, .retAddr 0), (1, .ref a1), (2, .ref a2), (3, .int x3)] [] h
    else if (((rc 0).2 (x3).toNatClampNeg) &&& (63 : Int32)) = ((((((((((((((((((((((((((((((((((((((((0 : Int32) + 1) + 1) + 1) + 1) + 1) + 1) + 1) + 1) + 1) + 1) + 1) + 1) + 1) + 1) + 1) + 1) + 1) + 1) + 1) + 1) + 1) + 1) + 1) + 1) + 1) + 1) + 1) + 1) + 1) + 1) + 1) + 1) + 1) + 1) + 1) + 1) + 1) + 1) + 1) then
      jb_333 rc d 919 [(0, .retAddr 0), (1, .ref a1), (2, .ref a2), (3, .int x3)] [] h
    else if (((rc 0).2 (x3).toNatClampNeg) &&& (63 : Int32)) = (((((((((((((((((((((((((((((((((((((((((0 : Int32) + 1) + 1) + 1) + 1) + 1) + 1) + 1) + 1) + 1) + 1) + 1) + 1) + 1) + 1) + 1) + 1) + 1) + 1) + 1) + 1) + 1) + 1) + 1) + 1) + 1) + 1) + 1) + 1) + 1) + 1) + 1) + 1) + 1) + 1) + 1) + 1) + 1) + 1) + 1) + 1) then
      jb_333 rc d 946 [(0, .retAddr 0), (1, .ref a1), (2, .ref a2), (3, .int x3)] [] h
    else if (((rc 0).2 (x3).toNatClampNeg) &&& (63 : Int32)) = ((((((((((((((((((((((((((((((((((((((((((0 : Int32) + 1) + 1) + 1) + 1) + 1) + 1) + 1) + 1) + 1) + 1) + 1) + 1) + 1) + 1) + 1) + 1) + 1) + 1) + 1) + 1) + 1) + 1) + 1) + 1) + 1) + 1) + 1) + 1) + 1) + 1) + 1) + 1) + 1) + 1) + 1) + 1) + 1) + 1) + 1) + 1) + 1) then
      jb_333 rc d 973 [(0, .retAddr 0), (1, .ref a1), (2, .ref a2), (3, .int x3)] [] h
    else if (((rc 0).2 (x3).toNatClampNeg) &&& (63 : Int32)) = (((((((((((((((((((((((((((((((((((((((((((0 : Int32) + 1) + 1) + 1) + 1) + 1) + 1) + 1) + 1) + 1) + 1) + 1) + 1) + 1) + 1) + 1) + 1) + 1) + 1) + 1) + 1) + 1) + 1) + 1) + 1) + 1) + 1) + 1) + 1) + 1) + 1) + 1) + 1) + 1) + 1) + 1) + 1) + 1) + 1) + 1) + 1) + 1) + 1) then
      jb_333 rc d 1010 [(0, .retAddr 0), (1, .ref a1), (2, .ref a2), (3, .int x3)] [] h
    else if (((rc 0).2 (x3).toNatClampNeg) &&& (63 : Int32)) = ((((((((((((((((((((((((((((((((((((((((((((0 : Int32) + 1) + 1) + 1) + 1) + 1) + 1) + 1) + 1) + 1) + 1) + 1) + 1) + 1) + 1) + 1) + 1) + 1) + 1) + 1) + 1) + 1) + 1) + 1) + 1) + 1) + 1) + 1) + 1) + 1) + 1) + 1) + 1) + 1) + 1) + 1) + 1) + 1) + 1) + 1) + 1) + 1) + 1) + 1) then
      jb_333 rc d 1047 [(0, .retAddr 0), (1, .ref a1), (2, .ref a2), (3, .int x3)] [] h
    else if (((rc 0).2 (x3).toNatClampNeg) &&& (63 : Int32)) = (((((((((((((((((((((((((((((((((((((((((((((0 : Int32) + 1) + 1) + 1) + 1) + 1) + 1) + 1) + 1) + 1) + 1) + 1) + 1) + 1) + 1) + 1) + 1) + 1) + 1) + 1) + 1) + 1) + 1) + 1) + 1) + 1) + 1) + 1) + 1) + 1) + 1) + 1) + 1) + 1) + 1) + 1) + 1) + 1) + 1) + 1) + 1) + 1) + 1) + 1) + 1) then
      jb_333 rc d 1074 [(0, .retAddr 0), (1, .ref a1), (2, .ref a2), (3, .int x3)] [] h
    else if (((rc 0).2 (x3).toNatClampNeg) &&& (63 : Int32)) = ((((((((((((((((((((((((((((((((((((((((((((((0 : Int32) + 1) + 1) + 1) + 1) + 1) + 1) + 1) + 1) + 1) + 1) + 1) + 1) + 1) + 1) + 1) + 1) + 1) + 1) + 1) + 1) + 1) + 1) + 1) + 1) + 1) + 1) + 1) + 1) + 1) + 1) + 1) + 1) + 1) + 1) + 1) + 1) + 1) + 1) + 1) + 1) + 1) + 1) + 1) + 1) + 1) then
      jb_333 rc d 1131 [(0, .retAddr 0), (1, .ref a1), (2, .ref a2), (3, .int x3)] [] h
    else if (((rc 0).2 (x3).toNatClampNeg) &&& (63 : Int32)) = (((((((((((((((((((((((((((((((((((((((((((((((0 : Int32) + 1) + 1) + 1) + 1) + 1) + 1) + 1) + 1) + 1) + 1) + 1) + 1) + 1) + 1) + 1) + 1) + 1) + 1) + 1) + 1) + 1) + 1) + 1) + 1) + 1) + 1) + 1) + 1) + 1) + 1) + 1) + 1) + 1) + 1) + 1) + 1) + 1) + 1) + 1) + 1) + 1) + 1) + 1) + 1) + 1) + 1) then
      jb_333 rc d 1148 [(0, .retAddr 0), (1, .ref a1), (2, .ref a2), (3, .int x3)] [] h
    else if (((rc 0).2 (x3).toNatClampNeg) &&& (63 : Int32)) = ((((((((((((((((((((((((((((((((((((((((((((((((0 : Int32) + 1) + 1) + 1) + 1) + 1) + 1) + 1) + 1) + 1) + 1) + 1) + 1) + 1) + 1) + 1) + 1) + 1) + 1) + 1) + 1) + 1) + 1) + 1) + 1) + 1) + 1) + 1) + 1) + 1) + 1) + 1) + 1) + 1) + 1) + 1) + 1) + 1) + 1) + 1) + 1) + 1) + 1) + 1) + 1) + 1) + 1) + 1) then
      jb_333 rc d 1165 [(0, .retAddr 0), (1, .ref a1), (2, .ref a2), (3, .int x3)] [] h
    else if (((rc 0).2 (x3).toNatClampNeg) &&& (63 : Int32)) = (((((((((((((((((((((((((((((((((((((((((((((((((0 : Int32) + 1) + 1) + 1) + 1) + 1) + 1) + 1) + 1) + 1) + 1) + 1) + 1) + 1) + 1) + 1) + 1) + 1) + 1) + 1) + 1) + 1) + 1) + 1) + 1) + 1) + 1) + 1) + 1) + 1) + 1) + 1) + 1) + 1) + 1) + 1) + 1) + 1) + 1) + 1) + 1) + 1) + 1) + 1) + 1) + 1) + 1) + 1) + 1) then
      jb_333 rc d 1192 [(0, .retAddr 0), (1, .ref a1), (2, .ref a2), (3, .int x3)] [] h
    else if (((rc 0).2 (x3).toNatClampNeg) &&& (63 : Int32)) = ((((((((((((((((((((((((((((((((((((((((((((((((((0 : Int32) + 1) + 1) + 1) + 1) + 1) + 1) + 1) + 1) + 1) + 1) + 1) + 1) + 1) + 1) + 1) + 1) + 1) + 1) + 1) + 1) + 1) + 1) + 1) + 1) + 1) + 1) + 1) + 1) + 1) + 1) + 1) + 1) + 1) + 1) + 1) + 1) + 1) + 1) + 1) + 1) + 1) + 1) + 1) + 1) + 1) + 1) + 1) + 1) + 1) then
      jb_333 rc d 1199 [(0, .retAddr 0), (1, .ref a1), (2, .ref a2), (3, .int x3)] [] h
    else if (((rc 0).2 (x3).toNatClampNeg) &&& (63 : Int32)) = (((((((((((((((((((((((((((((((((((((((((((((((((((0 : Int32) + 1) + 1) + 1) + 1) + 1) + 1) + 1) + 1) + 1) + 1) + 1) + 1) + 1) + 1) + 1) + 1) + 1) + 1) + 1) + 1) + 1) + 1) + 1) + 1) + 1) + 1) + 1) + 1) + 1) + 1) + 1) + 1) + 1) + 1) + 1) + 1) + 1) + 1) + 1) + 1) + 1) + 1) + 1) + 1) + 1) + 1) + 1) + 1) + 1) + 1) then
      jb_333 rc d 1206 [(0, .retAddr 0), (1, .ref a1), (2, .ref a2), (3, .int x3)] [] h
    else if (((rc 0).2 (x3).toNatClampNeg) &&& (63 : Int32)) = ((((((((((((((((((((((((((((((((((((((((((((((((((((0 : Int32) + 1) + 1) + 1) + 1) + 1) + 1) + 1) + 1) + 1) + 1) + 1) + 1) + 1) + 1) + 1) + 1) + 1) + 1) + 1) + 1) + 1) + 1) + 1) + 1) + 1) + 1) + 1) + 1) + 1) + 1) + 1) + 1) + 1) + 1) + 1) + 1) + 1) + 1) + 1) + 1) + 1) + 1) + 1) + 1) + 1) + 1) + 1) + 1) + 1) + 1) + 1) then
      jb_333 rc d 1223 [(0, .retAddr 0), (1, .ref a1), (2, .ref a2), (3, .int x3)] [] h
    else 
      jb_333 rc d 10 [(0, .retAddr 0), (1, .ref a1), (2, .ref a2), (3, .int (x3 + (6 : Int32)))] [] h :=
  sorry
theorem je_333_22 (rc : Nat → Nat × (Nat → Int32)) (d : Nat) (a1 : Nat) (a2 : Nat) (x3 : Int32) (h : jxH) : jb_333 rc d 22 [(0, .retAddr 0), (1, .ref a1), (2, .ref a2), (3, .int x3)] [] h =
  if jx_out (x3 + (1 : Int32)) (rc 0).1 = true then none else
  jx_cI (jx_C rc d 1 [.ref a1, .int ((rc 0).2 ((x3 + (1 : Int32))).toNatClampNeg)] h) fun v2 h1 =>
  if jx_out (x3 + (1 : Int32)) (rc 0).1 = true then none else
  jx_cI (jx_C rc d 107 [.ref a2, .int ((rc 0).2 ((x3 + (1 : Int32))).toNatClampNeg)] h1) fun v4 h3 =>
  if v2 = v4 then
    jb_333 rc d 10 [(0, .retAddr 0), (1, .ref a1), (2, .ref a2), (3, .int (x3 + (6 : Int32)))] [] h3
  else
    if jx_bool (0 : Int32) = true then some (some (.int (0 : Int32)), h3) else none :=
  sorry
theorem je_333_39 (rc : Nat → Nat × (Nat → Int32)) (d : Nat) (a1 : Nat) (a2 : Nat) (x3 : Int32) (h : jxH) : jb_333 rc d 39 [(0, .retAddr 0), (1, .ref a1), (2, .ref a2), (3, .int x3)] [] h =
  if jx_out (x3 + (1 : Int32)) (rc 0).1 = true then none else
  if jx_out (x3 + (2 : Int32)) (rc 0).1 = true then none else
  jx_cI (jx_C rc d 2 [.ref a1, .int ((rc 0).2 ((x3 + (1 : Int32))).toNatClampNeg), .int ((rc 0).2 ((x3 + (2 : Int32))).toNatClampNeg)] h) fun v2 h1 =>
  if jx_out (x3 + (1 : Int32)) (rc 0).1 = true then none else
  if jx_out (x3 + (2 : Int32)) (rc 0).1 = true then none else
  jx_cI (jx_C rc d 108 [.ref a2, .int ((rc 0).2 ((x3 + (1 : Int32))).toNatClampNeg), .int ((rc 0).2 ((x3 + (2 : Int32))).toNatClampNeg)] h1) fun v4 h3 =>
  if v2 = v4 then
    jb_333 rc d 10 [(0, .retAddr 0), (1, .ref a1), (2, .ref a2), (3, .int (x3 + (6 : Int32)))] [] h3
  else
    if jx_bool (0 : Int32) = true then some (some (.int (0 : Int32)), h3) else none :=
  sorry
theorem je_333_66 (rc : Nat → Nat × (Nat → Int32)) (d : Nat) (a1 : Nat) (a2 : Nat) (x3 : Int32) (h : jxH) : jb_333 rc d 66 [(0, .retAddr 0), (1, .ref a1), (2, .ref a2), (3, .int x3)] [] h =
  if jx_out (x3 + (1 : Int32)) (rc 0).1 = true then none else
  if jx_out (x3 + (2 : Int32)) (rc 0).1 = true then none else
  jx_cI (jx_C rc d 3 [.ref a1, .int ((rc 0).2 ((x3 + (1 : Int32))).toNatClampNeg), .int ((rc 0).2 ((x3 + (2 : Int32))).toNatClampNeg)] h) fun v2 h1 =>
  if jx_out (x3 + (1 : Int32)) (rc 0).1 = true then none else
  if jx_out (x3 + (2 : Int32)) (rc 0).1 = true then none else
  jx_cI (jx_C rc d 109 [.ref a2, .int ((rc 0).2 ((x3 + (1 : Int32))).toNatClampNeg), .int ((rc 0).2 ((x3 + (2 : Int32))).toNatClampNeg)] h1) fun v4 h3 =>
  if v2 = v4 then
    jb_333 rc d 10 [(0, .retAddr 0), (1, .ref a1), (2, .ref a2), (3, .int (x3 + (6 : Int32)))] [] h3
  else
    if jx_bool (0 : Int32) = true then some (some (.int (0 : Int32)), h3) else none :=
  sorry
theorem je_333_93 (rc : Nat → Nat × (Nat → Int32)) (d : Nat) (a1 : Nat) (a2 : Nat) (x3 : Int32) (h : jxH) : jb_333 rc d 93 [(0, .retAddr 0), (1, .ref a1), (2, .ref a2), (3, .int x3)] [] h =
  if jx_out (x3 + (1 : Int32)) (rc 0).1 = true then none else
  if jx_out (x3 + (2 : Int32)) (rc 0).1 = true then none else
  jx_cI (jx_C rc d 4 [.ref a1, .int ((rc 0).2 ((x3 + (1 : Int32))).toNatClampNeg), .int ((rc 0).2 ((x3 + (2 : Int32))).toNatClampNeg)] h) fun v2 h1 =>
  if jx_out (x3 + (1 : Int32)) (rc 0).1 = true then none else
  if jx_out (x3 + (2 : Int32)) (rc 0).1 = true then none else
  jx_cI (jx_C rc d 110 [.ref a2, .int ((rc 0).2 ((x3 + (1 : Int32))).toNatClampNeg), .int ((rc 0).2 ((x3 + (2 : Int32))).toNatClampNeg)] h1) fun v4 h3 =>
  if v2 = v4 then
    jb_333 rc d 10 [(0, .retAddr 0), (1, .ref a1), (2, .ref a2), (3, .int (x3 + (6 : Int32)))] [] h3
  else
    if jx_bool (0 : Int32) = true then some (some (.int (0 : Int32)), h3) else none :=
  sorry
theorem je_333_120 (rc : Nat → Nat × (Nat → Int32)) (d : Nat) (a1 : Nat) (a2 : Nat) (x3 : Int32) (h : jxH) : jb_333 rc d 120 [(0, .retAddr 0), (1, .ref a1), (2, .ref a2), (3, .int x3)] [] h =
  if jx_out (x3 + (1 : Int32)) (rc 0).1 = true then none else
  jx_cI (jx_C rc d 5 [.ref a1, .int ((rc 0).2 ((x3 + (1 : Int32))).toNatClampNeg)] h) fun v2 h1 =>
  if jx_out (x3 + (1 : Int32)) (rc 0).1 = true then none else
  jx_cI (jx_C rc d 111 [.ref a2, .int ((rc 0).2 ((x3 + (1 : Int32))).toNatClampNeg)] h1) fun v4 h3 =>
  if v2 = v4 then
    jb_333 rc d 10 [(0, .retAddr 0), (1, .ref a1), (2, .ref a2), (3, .int (x3 + (6 : Int32)))] [] h3
  else
    if jx_bool (0 : Int32) = true then some (some (.int (0 : Int32)), h3) else none :=
  sorry
theorem je_333_137 (rc : Nat → Nat × (Nat → Int32)) (d : Nat) (a1 : Nat) (a2 : Nat) (x3 : Int32) (h : jxH) : jb_333 rc d 137 [(0, .retAddr 0), (1, .ref a1), (2, .ref a2), (3, .int x3)] [] h =
  if jx_out (x3 + (1 : Int32)) (rc 0).1 = true then none else
  if jx_out (x3 + (2 : Int32)) (rc 0).1 = true then none else
  jx_cI (jx_C rc d 6 [.ref a1, .int ((rc 0).2 ((x3 + (1 : Int32))).toNatClampNeg), .int ((rc 0).2 ((x3 + (2 : Int32))).toNatClampNeg)] h) fun v2 h1 =>
  if jx_out (x3 + (1 : Int32)) (rc 0).1 = true then none else
  if jx_out (x3 + (2 : Int32)) (rc 0).1 = true then none else
  jx_cI (jx_C rc d 114 [.ref a2, .int ((rc 0).2 ((x3 + (1 : Int32))).toNatClampNeg), .int ((rc 0).2 ((x3 + (2 : Int32))).toNatClampNeg)] h1) fun v4 h3 =>
  if v2 = v4 then
    jb_333 rc d 10 [(0, .retAddr 0), (1, .ref a1), (2, .ref a2), (3, .int (x3 + (6 : Int32)))] [] h3
  else
    if jx_bool (0 : Int32) = true then some (some (.int (0 : Int32)), h3) else none :=
  sorry
theorem je_333_164 (rc : Nat → Nat × (Nat → Int32)) (d : Nat) (a1 : Nat) (a2 : Nat) (x3 : Int32) (h : jxH) : jb_333 rc d 164 [(0, .retAddr 0), (1, .ref a1), (2, .ref a2), (3, .int x3)] [] h =
  if jx_out (x3 + (1 : Int32)) (rc 0).1 = true then none else
  if jx_out (x3 + (2 : Int32)) (rc 0).1 = true then none else
  jx_cI (jx_C rc d 7 [.ref a1, .int ((rc 0).2 ((x3 + (1 : Int32))).toNatClampNeg), .int ((rc 0).2 ((x3 + (2 : Int32))).toNatClampNeg)] h) fun v2 h1 =>
  if jx_out (x3 + (1 : Int32)) (rc 0).1 = true then none else
  if jx_out (x3 + (2 : Int32)) (rc 0).1 = true then none else
  jx_cI (jx_C rc d 116 [.ref a2, .int ((rc 0).2 ((x3 + (1 : Int32))).toNatClampNeg), .int ((rc 0).2 ((x3 + (2 : Int32))).toNatClampNeg)] h1) fun v4 h3 =>
  if v2 = v4 then
    jb_333 rc d 10 [(0, .retAddr 0), (1, .ref a1), (2, .ref a2), (3, .int (x3 + (6 : Int32)))] [] h3
  else
    if jx_bool (0 : Int32) = true then some (some (.int (0 : Int32)), h3) else none :=
  sorry
theorem je_333_191 (rc : Nat → Nat × (Nat → Int32)) (d : Nat) (a1 : Nat) (a2 : Nat) (x3 : Int32) (h : jxH) : jb_333 rc d 191 [(0, .retAddr 0), (1, .ref a1), (2, .ref a2), (3, .int x3)] [] h =
  if jx_out (x3 + (1 : Int32)) (rc 0).1 = true then none else
  if jx_out (x3 + (2 : Int32)) (rc 0).1 = true then none else
  if jx_out (x3 + (3 : Int32)) (rc 0).1 = true then none else
  if jx_out (x3 + (4 : Int32)) (rc 0).1 = true then none else
  if jx_out (x3 + (5 : Int32)) (rc 0).1 = true then none else
  jx_cI (jx_C rc d 8 [.ref a1, .int ((rc 0).2 ((x3 + (1 : Int32))).toNatClampNeg), .int ((rc 0).2 ((x3 + (2 : Int32))).toNatClampNeg), .int ((rc 0).2 ((x3 + (3 : Int32))).toNatClampNeg), .int ((rc 0).2 ((x3 + (4 : Int32))).toNatClampNeg), .int ((rc 0).2 ((x3 + (5 : Int32))).toNatClampNeg)] h) fun v2 h1 =>
  if jx_out (x3 + (1 : Int32)) (rc 0).1 = true then none else
  if jx_out (x3 + (2 : Int32)) (rc 0).1 = true then none else
  if jx_out (x3 + (3 : Int32)) (rc 0).1 = true then none else
  if jx_out (x3 + (4 : Int32)) (rc 0).1 = true then none else
  if jx_out (x3 + (5 : Int32)) (rc 0).1 = true then none else
  jx_cI (jx_C rc d 102 [.ref a2, .int ((rc 0).2 ((x3 + (1 : Int32))).toNatClampNeg), .int ((rc 0).2 ((x3 + (2 : Int32))).toNatClampNeg), .int ((rc 0).2 ((x3 + (3 : Int32))).toNatClampNeg), .int ((rc 0).2 ((x3 + (4 : Int32))).toNatClampNeg), .int ((rc 0).2 ((x3 + (5 : Int32))).toNatClampNeg)] h1) fun v4 h3 =>
  if v2 = v4 then
    jb_333 rc d 10 [(0, .retAddr 0), (1, .ref a1), (2, .ref a2), (3, .int (x3 + (6 : Int32)))] [] h3
  else
    if jx_bool (0 : Int32) = true then some (some (.int (0 : Int32)), h3) else none :=
  sorry
theorem je_333_248 (rc : Nat → Nat × (Nat → Int32)) (d : Nat) (a1 : Nat) (a2 : Nat) (x3 : Int32) (h : jxH) : jb_333 rc d 248 [(0, .retAddr 0), (1, .ref a1), (2, .ref a2), (3, .int x3)] [] h =
  jx_cI (jx_C rc d 9 [.ref a1] h) fun v2 h1 =>
  jx_cI (jx_C rc d 103 [.ref a2] h1) fun v4 h3 =>
  if v2 = v4 then
    jb_333 rc d 10 [(0, .retAddr 0), (1, .ref a1), (2, .ref a2), (3, .int (x3 + (6 : Int32)))] [] h3
  else
    if jx_bool (0 : Int32) = true then some (some (.int (0 : Int32)), h3) else none :=
  sorry
theorem je_333_255 (rc : Nat → Nat × (Nat → Int32)) (d : Nat) (a1 : Nat) (a2 : Nat) (x3 : Int32) (h : jxH) : jb_333 rc d 255 [(0, .retAddr 0), (1, .ref a1), (2, .ref a2), (3, .int x3)] [] h =
  jx_cI (jx_C rc d 10 [.ref a1] h) fun v2 h1 =>
  jx_cI (jx_C rc d 104 [.ref a2] h1) fun v4 h3 =>
  if v2 = v4 then
    jb_333 rc d 10 [(0, .retAddr 0), (1, .ref a1), (2, .ref a2), (3, .int (x3 + (6 : Int32)))] [] h3
  else
    if jx_bool (0 : Int32) = true then some (some (.int (0 : Int32)), h3) else none :=
  sorry
theorem je_333_262 (rc : Nat → Nat × (Nat → Int32)) (d : Nat) (a1 : Nat) (a2 : Nat) (x3 : Int32) (h : jxH) : jb_333 rc d 262 [(0, .retAddr 0), (1, .ref a1), (2, .ref a2), (3, .int x3)] [] h =
  if jx_out (x3 + (1 : Int32)) (rc 0).1 = true then none else
  if jx_out (x3 + (2 : Int32)) (rc 0).1 = true then none else
  jx_cI (jx_C rc d 11 [.ref a1, .int ((rc 0).2 ((x3 + (1 : Int32))).toNatClampNeg), .int ((rc 0).2 ((x3 + (2 : Int32))).toNatClampNeg)] h) fun v2 h1 =>
  if jx_out (x3 + (1 : Int32)) (rc 0).1 = true then none else
  if jx_out (x3 + (2 : Int32)) (rc 0).1 = true then none else
  jx_cI (jx_C rc d 105 [.ref a2, .int ((rc 0).2 ((x3 + (1 : Int32))).toNatClampNeg), .int ((rc 0).2 ((x3 + (2 : Int32))).toNatClampNeg)] h1) fun v4 h3 =>
  if v2 = v4 then
    jb_333 rc d 10 [(0, .retAddr 0), (1, .ref a1), (2, .ref a2), (3, .int (x3 + (6 : Int32)))] [] h3
  else
    if jx_bool (0 : Int32) = true then some (some (.int (0 : Int32)), h3) else none :=
  sorry
theorem je_333_289 (rc : Nat → Nat × (Nat → Int32)) (d : Nat) (a1 : Nat) (a2 : Nat) (x3 : Int32) (h : jxH) : jb_333 rc d 289 [(0, .retAddr 0), (1, .ref a1), (2, .ref a2), (3, .int x3)] [] h =
  jx_cI (jx_C rc d 12 [.ref a1] h) fun v2 h1 =>
  jx_cI (jx_C rc d 106 [.ref a2] h1) fun v4 h3 =>
  if v2 = v4 then
    jb_333 rc d 10 [(0, .retAddr 0), (1, .ref a1), (2, .ref a2), (3, .int (x3 + (6 : Int32)))] [] h3
  else
    if jx_bool (0 : Int32) = true then some (some (.int (0 : Int32)), h3) else none :=
  sorry
theorem je_333_296 (rc : Nat → Nat × (Nat → Int32)) (d : Nat) (a1 : Nat) (a2 : Nat) (x3 : Int32) (h : jxH) : jb_333 rc d 296 [(0, .retAddr 0), (1, .ref a1), (2, .ref a2), (3, .int x3)] [] h =
  if jx_out (x3 + (1 : Int32)) (rc 0).1 = true then none else
  jx_cI (jx_C rc d 13 [.ref a1, .int ((rc 0).2 ((x3 + (1 : Int32))).toNatClampNeg)] h) fun v2 h1 =>
  if jx_out (x3 + (1 : Int32)) (rc 0).1 = true then none else
  jx_cI (jx_C rc d 120 [.ref a2, .int ((rc 0).2 ((x3 + (1 : Int32))).toNatClampNeg)] h1) fun v4 h3 =>
  if v2 = v4 then
    jb_333 rc d 10 [(0, .retAddr 0), (1, .ref a1), (2, .ref a2), (3, .int (x3 + (6 : Int32)))] [] h3
  else
    if jx_bool (0 : Int32) = true then some (some (.int (0 : Int32)), h3) else none :=
  sorry
theorem je_333_313 (rc : Nat → Nat × (Nat → Int32)) (d : Nat) (a1 : Nat) (a2 : Nat) (x3 : Int32) (h : jxH) : jb_333 rc d 313 [(0, .retAddr 0), (1, .ref a1), (2, .ref a2), (3, .int x3)] [] h =
  jx_cI (jx_C rc d 14 [.ref a1] h) fun v2 h1 =>
  jx_cI (jx_C rc d 121 [.ref a2] h1) fun v4 h3 =>
  if v2 = v4 then
    jb_333 rc d 10 [(0, .retAddr 0), (1, .ref a1), (2, .ref a2), (3, .int (x3 + (6 : Int32)))] [] h3
  else
    if jx_bool (0 : Int32) = true then some (some (.int (0 : Int32)), h3) else none :=
  sorry
theorem je_333_320 (rc : Nat → Nat × (Nat → Int32)) (d : Nat) (a1 : Nat) (a2 : Nat) (x3 : Int32) (h : jxH) : jb_333 rc d 320 [(0, .retAddr 0), (1, .ref a1), (2, .ref a2), (3, .int x3)] [] h =
  if jx_out (x3 + (1 : Int32)) (rc 0).1 = true then none else
  if jx_out (x3 + (2 : Int32)) (rc 0).1 = true then none else
  if jx_out (x3 + (3 : Int32)) (rc 0).1 = true then none else
  jx_cI (jx_C rc d 15 [.ref a1, .int ((rc 0).2 ((x3 + (1 : Int32))).toNatClampNeg), .int ((rc 0).2 ((x3 + (2 : Int32))).toNatClampNeg), .int ((rc 0).2 ((x3 + (3 : Int32))).toNatClampNeg)] h) fun v2 h1 =>
  if jx_out (x3 + (1 : Int32)) (rc 0).1 = true then none else
  if jx_out (x3 + (2 : Int32)) (rc 0).1 = true then none else
  if jx_out (x3 + (3 : Int32)) (rc 0).1 = true then none else
  jx_cI (jx_C rc d 126 [.ref a2, .int ((rc 0).2 ((x3 + (1 : Int32))).toNatClampNeg), .int ((rc 0).2 ((x3 + (2 : Int32))).toNatClampNeg), .int ((rc 0).2 ((x3 + (3 : Int32))).toNatClampNeg)] h1) fun v4 h3 =>
  if v2 = v4 then
    jb_333 rc d 10 [(0, .retAddr 0), (1, .ref a1), (2, .ref a2), (3, .int (x3 + (6 : Int32)))] [] h3
  else
    if jx_bool (0 : Int32) = true then some (some (.int (0 : Int32)), h3) else none :=
  sorry
theorem je_333_357 (rc : Nat → Nat × (Nat → Int32)) (d : Nat) (a1 : Nat) (a2 : Nat) (x3 : Int32) (h : jxH) : jb_333 rc d 357 [(0, .retAddr 0), (1, .ref a1), (2, .ref a2), (3, .int x3)] [] h =
  if jx_out (x3 + (1 : Int32)) (rc 0).1 = true then none else
  jx_cI (jx_C rc d 16 [.ref a1, .int ((rc 0).2 ((x3 + (1 : Int32))).toNatClampNeg)] h) fun v2 h1 =>
  if jx_out (x3 + (1 : Int32)) (rc 0).1 = true then none else
  jx_cI (jx_C rc d 131 [.ref a2, .int ((rc 0).2 ((x3 + (1 : Int32))).toNatClampNeg)] h1) fun v4 h3 =>
  if v2 = v4 then
    jb_333 rc d 10 [(0, .retAddr 0), (1, .ref a1), (2, .ref a2), (3, .int (x3 + (6 : Int32)))] [] h3
  else
    if jx_bool (0 : Int32) = true then some (some (.int (0 : Int32)), h3) else none :=
  sorry
theorem je_333_374 (rc : Nat → Nat × (Nat → Int32)) (d : Nat) (a1 : Nat) (a2 : Nat) (x3 : Int32) (h : jxH) : jb_333 rc d 374 [(0, .retAddr 0), (1, .ref a1), (2, .ref a2), (3, .int x3)] [] h =
  if jx_out (x3 + (1 : Int32)) (rc 0).1 = true then none else
  jx_cI (jx_C rc d 17 [.ref a1, .int ((rc 0).2 ((x3 + (1 : Int32))).toNatClampNeg)] h) fun v2 h1 =>
  if jx_out (x3 + (1 : Int32)) (rc 0).1 = true then none else
  jx_cI (jx_C rc d 136 [.ref a2, .int ((rc 0).2 ((x3 + (1 : Int32))).toNatClampNeg)] h1) fun v4 h3 =>
  if v2 = v4 then
    jb_333 rc d 10 [(0, .retAddr 0), (1, .ref a1), (2, .ref a2), (3, .int (x3 + (6 : Int32)))] [] h3
  else
    if jx_bool (0 : Int32) = true then some (some (.int (0 : Int32)), h3) else none :=
  sorry
theorem je_333_391 (rc : Nat → Nat × (Nat → Int32)) (d : Nat) (a1 : Nat) (a2 : Nat) (x3 : Int32) (h : jxH) : jb_333 rc d 391 [(0, .retAddr 0), (1, .ref a1), (2, .ref a2), (3, .int x3)] [] h =
  if jx_out (x3 + (1 : Int32)) (rc 0).1 = true then none else
  jx_cI (jx_C rc d 18 [.ref a1, .int ((rc 0).2 ((x3 + (1 : Int32))).toNatClampNeg)] h) fun v2 h1 =>
  if jx_out (x3 + (1 : Int32)) (rc 0).1 = true then none else
  jx_cI (jx_C rc d 140 [.ref a2, .int ((rc 0).2 ((x3 + (1 : Int32))).toNatClampNeg)] h1) fun v4 h3 =>
  if v2 = v4 then
    jb_333 rc d 10 [(0, .retAddr 0), (1, .ref a1), (2, .ref a2), (3, .int (x3 + (6 : Int32)))] [] h3
  else
    if jx_bool (0 : Int32) = true then some (some (.int (0 : Int32)), h3) else none :=
  sorry
theorem je_333_408 (rc : Nat → Nat × (Nat → Int32)) (d : Nat) (a1 : Nat) (a2 : Nat) (x3 : Int32) (h : jxH) : jb_333 rc d 408 [(0, .retAddr 0), (1, .ref a1), (2, .ref a2), (3, .int x3)] [] h =
  jx_cI (jx_C rc d 19 [.ref a1] h) fun v2 h1 =>
  jx_cI (jx_C rc d 141 [.ref a2] h1) fun v4 h3 =>
  if v2 = v4 then
    jb_333 rc d 10 [(0, .retAddr 0), (1, .ref a1), (2, .ref a2), (3, .int (x3 + (6 : Int32)))] [] h3
  else
    if jx_bool (0 : Int32) = true then some (some (.int (0 : Int32)), h3) else none :=
  sorry
theorem je_333_415 (rc : Nat → Nat × (Nat → Int32)) (d : Nat) (a1 : Nat) (a2 : Nat) (x3 : Int32) (h : jxH) : jb_333 rc d 415 [(0, .retAddr 0), (1, .ref a1), (2, .ref a2), (3, .int x3)] [] h =
  if jx_out (x3 + (1 : Int32)) (rc 0).1 = true then none else
  if jx_out (x3 + (2 : Int32)) (rc 0).1 = true then none else
  if jx_out (x3 + (3 : Int32)) (rc 0).1 = true then none else
  jx_cI (jx_C rc d 20 [.ref a1, .int ((rc 0).2 ((x3 + (1 : Int32))).toNatClampNeg), .int ((rc 0).2 ((x3 + (2 : Int32))).toNatClampNeg), .int ((rc 0).2 ((x3 + (3 : Int32))).toNatClampNeg)] h) fun v2 h1 =>
  if jx_out (x3 + (1 : Int32)) (rc 0).1 = true then none else
  if jx_out (x3 + (2 : Int32)) (rc 0).1 = true then none else
  if jx_out (x3 + (3 : Int32)) (rc 0).1 = true then none else
  jx_cI (jx_C rc d 143 [.ref a2, .int ((rc 0).2 ((x3 + (1 : Int32))).toNatClampNeg), .int ((rc 0).2 ((x3 + (2 : Int32))).toNatClampNeg), .int ((rc 0).2 ((x3 + (3 : Int32))).toNatClampNeg)] h1) fun v4 h3 =>
  if v2 = v4 then
    jb_333 rc d 10 [(0, .retAddr 0), (1, .ref a1), (2, .ref a2), (3, .int (x3 + (6 : Int32)))] [] h3
  else
    if jx_bool (0 : Int32) = true then some (some (.int (0 : Int32)), h3) else none :=
  sorry
theorem je_333_452 (rc : Nat → Nat × (Nat → Int32)) (d : Nat) (a1 : Nat) (a2 : Nat) (x3 : Int32) (h : jxH) : jb_333 rc d 452 [(0, .retAddr 0), (1, .ref a1), (2, .ref a2), (3, .int x3)] [] h =
  if jx_out (x3 + (1 : Int32)) (rc 0).1 = true then none else
  if jx_out (x3 + (2 : Int32)) (rc 0).1 = true then none else
  jx_cI (jx_C rc d 21 [.ref a1, .int ((rc 0).2 ((x3 + (1 : Int32))).toNatClampNeg), .int ((rc 0).2 ((x3 + (2 : Int32))).toNatClampNeg)] h) fun v2 h1 =>
  if jx_out (x3 + (1 : Int32)) (rc 0).1 = true then none else
  if jx_out (x3 + (2 : Int32)) (rc 0).1 = true then none else
  jx_cI (jx_C rc d 148 [.ref a2, .int ((rc 0).2 ((x3 + (1 : Int32))).toNatClampNeg), .int ((rc 0).2 ((x3 + (2 : Int32))).toNatClampNeg)] h1) fun v4 h3 =>
  if v2 = v4 then
    jb_333 rc d 10 [(0, .retAddr 0), (1, .ref a1), (2, .ref a2), (3, .int (x3 + (6 : Int32)))] [] h3
  else
    if jx_bool (0 : Int32) = true then some (some (.int (0 : Int32)), h3) else none :=
  sorry
theorem je_333_479 (rc : Nat → Nat × (Nat → Int32)) (d : Nat) (a1 : Nat) (a2 : Nat) (x3 : Int32) (h : jxH) : jb_333 rc d 479 [(0, .retAddr 0), (1, .ref a1), (2, .ref a2), (3, .int x3)] [] h =
  if jx_out (x3 + (1 : Int32)) (rc 0).1 = true then none else
  if jx_out (x3 + (2 : Int32)) (rc 0).1 = true then none else
  jx_cI (jx_C rc d 22 [.ref a1, .int ((rc 0).2 ((x3 + (1 : Int32))).toNatClampNeg), .int ((rc 0).2 ((x3 + (2 : Int32))).toNatClampNeg)] h) fun v2 h1 =>
  if jx_out (x3 + (1 : Int32)) (rc 0).1 = true then none else
  if jx_out (x3 + (2 : Int32)) (rc 0).1 = true then none else
  jx_cI (jx_C rc d 149 [.ref a2, .int ((rc 0).2 ((x3 + (1 : Int32))).toNatClampNeg), .int ((rc 0).2 ((x3 + (2 : Int32))).toNatClampNeg)] h1) fun v4 h3 =>
  if v2 = v4 then
    jb_333 rc d 10 [(0, .retAddr 0), (1, .ref a1), (2, .ref a2), (3, .int (x3 + (6 : Int32)))] [] h3
  else
    if jx_bool (0 : Int32) = true then some (some (.int (0 : Int32)), h3) else none :=
  sorry
theorem je_333_506 (rc : Nat → Nat × (Nat → Int32)) (d : Nat) (a1 : Nat) (a2 : Nat) (x3 : Int32) (h : jxH) : jb_333 rc d 506 [(0, .retAddr 0), (1, .ref a1), (2, .ref a2), (3, .int x3)] [] h =
  if jx_out (x3 + (1 : Int32)) (rc 0).1 = true then none else
  if jx_out (x3 + (2 : Int32)) (rc 0).1 = true then none else
  if jx_out (x3 + (3 : Int32)) (rc 0).1 = true then none else
  jx_cI (jx_C rc d 23 [.ref a1, .int ((rc 0).2 ((x3 + (1 : Int32))).toNatClampNeg), .int ((rc 0).2 ((x3 + (2 : Int32))).toNatClampNeg), .int ((rc 0).2 ((x3 + (3 : Int32))).toNatClampNeg)] h) fun v2 h1 =>
  if jx_out (x3 + (1 : Int32)) (rc 0).1 = true then none else
  if jx_out (x3 + (2 : Int32)) (rc 0).1 = true then none else
  if jx_out (x3 + (3 : Int32)) (rc 0).1 = true then none else
  jx_cI (jx_C rc d 152 [.ref a2, .int ((rc 0).2 ((x3 + (1 : Int32))).toNatClampNeg), .int ((rc 0).2 ((x3 + (2 : Int32))).toNatClampNeg), .int ((rc 0).2 ((x3 + (3 : Int32))).toNatClampNeg)] h1) fun v4 h3 =>
  if v2 = v4 then
    jb_333 rc d 10 [(0, .retAddr 0), (1, .ref a1), (2, .ref a2), (3, .int (x3 + (6 : Int32)))] [] h3
  else
    if jx_bool (0 : Int32) = true then some (some (.int (0 : Int32)), h3) else none :=
  sorry
theorem je_333_543 (rc : Nat → Nat × (Nat → Int32)) (d : Nat) (a1 : Nat) (a2 : Nat) (x3 : Int32) (h : jxH) : jb_333 rc d 543 [(0, .retAddr 0), (1, .ref a1), (2, .ref a2), (3, .int x3)] [] h =
  if jx_out (x3 + (1 : Int32)) (rc 0).1 = true then none else
  if jx_out (x3 + (2 : Int32)) (rc 0).1 = true then none else
  jx_cI (jx_C rc d 24 [.ref a1, .int ((rc 0).2 ((x3 + (1 : Int32))).toNatClampNeg), .int ((rc 0).2 ((x3 + (2 : Int32))).toNatClampNeg)] h) fun v2 h1 =>
  if jx_out (x3 + (1 : Int32)) (rc 0).1 = true then none else
  if jx_out (x3 + (2 : Int32)) (rc 0).1 = true then none else
  jx_cI (jx_C rc d 153 [.ref a2, .int ((rc 0).2 ((x3 + (1 : Int32))).toNatClampNeg), .int ((rc 0).2 ((x3 + (2 : Int32))).toNatClampNeg)] h1) fun v4 h3 =>
  if v2 = v4 then
    jb_333 rc d 10 [(0, .retAddr 0), (1, .ref a1), (2, .ref a2), (3, .int (x3 + (6 : Int32)))] [] h3
  else
    if jx_bool (0 : Int32) = true then some (some (.int (0 : Int32)), h3) else none :=
  sorry
theorem je_333_570 (rc : Nat → Nat × (Nat → Int32)) (d : Nat) (a1 : Nat) (a2 : Nat) (x3 : Int32) (h : jxH) : jb_333 rc d 570 [(0, .retAddr 0), (1, .ref a1), (2, .ref a2), (3, .int x3)] [] h =
  if jx_out (x3 + (1 : Int32)) (rc 0).1 = true then none else
  if jx_out (x3 + (2 : Int32)) (rc 0).1 = true then none else
  if jx_out (x3 + (3 : Int32)) (rc 0).1 = true then none else
  jx_cI (jx_C rc d 25 [.ref a1, .long (((((rc 0).2 ((x3 + (1 : Int32))).toNatClampNeg)).toInt64 <<< (((32 : Int32)).toInt64 &&& 63)) ||| ((((rc 0).2 ((x3 + (2 : Int32))).toNatClampNeg)).toInt64 &&& (4294967295 : Int64))), .int ((rc 0).2 ((x3 + (3 : Int32))).toNatClampNeg)] h) fun v2 h1 =>
  if jx_out (x3 + (1 : Int32)) (rc 0).1 = true then none else
  if jx_out (x3 + (2 : Int32)) (rc 0).1 = true then none else
  if jx_out (x3 + (3 : Int32)) (rc 0).1 = true then none else
  jx_cI (jx_C rc d 154 [.ref a2, .long (((((rc 0).2 ((x3 + (1 : Int32))).toNatClampNeg)).toInt64 <<< (((32 : Int32)).toInt64 &&& 63)) ||| ((((rc 0).2 ((x3 + (2 : Int32))).toNatClampNeg)).toInt64 &&& (4294967295 : Int64))), .int ((rc 0).2 ((x3 + (3 : Int32))).toNatClampNeg)] h1) fun v4 h3 =>
  if v2 = v4 then
    jb_333 rc d 10 [(0, .retAddr 0), (1, .ref a1), (2, .ref a2), (3, .int (x3 + (6 : Int32)))] [] h3
  else
    if jx_bool (0 : Int32) = true then some (some (.int (0 : Int32)), h3) else none :=
  sorry
theorem je_333_621 (rc : Nat → Nat × (Nat → Int32)) (d : Nat) (a1 : Nat) (a2 : Nat) (x3 : Int32) (h : jxH) : jb_333 rc d 621 [(0, .retAddr 0), (1, .ref a1), (2, .ref a2), (3, .int x3)] [] h =
  jx_cI (jx_C rc d 26 [.ref a1] h) fun v2 h1 =>
  jx_cI (jx_C rc d 161 [.ref a2] h1) fun v4 h3 =>
  if v2 = v4 then
    jb_333 rc d 10 [(0, .retAddr 0), (1, .ref a1), (2, .ref a2), (3, .int (x3 + (6 : Int32)))] [] h3
  else
    if jx_bool (0 : Int32) = true then some (some (.int (0 : Int32)), h3) else none :=
  sorry
theorem je_333_628 (rc : Nat → Nat × (Nat → Int32)) (d : Nat) (a1 : Nat) (a2 : Nat) (x3 : Int32) (h : jxH) : jb_333 rc d 628 [(0, .retAddr 0), (1, .ref a1), (2, .ref a2), (3, .int x3)] [] h =
  if jx_out (x3 + (1 : Int32)) (rc 0).1 = true then none else
  jx_cI (jx_C rc d 27 [.ref a1, .int ((rc 0).2 ((x3 + (1 : Int32))).toNatClampNeg)] h) fun v2 h1 =>
  if jx_out (x3 + (1 : Int32)) (rc 0).1 = true then none else
  jx_cI (jx_C rc d 167 [.ref a2, .int ((rc 0).2 ((x3 + (1 : Int32))).toNatClampNeg)] h1) fun v4 h3 =>
  if v2 = v4 then
    jb_333 rc d 10 [(0, .retAddr 0), (1, .ref a1), (2, .ref a2), (3, .int (x3 + (6 : Int32)))] [] h3
  else
    if jx_bool (0 : Int32) = true then some (some (.int (0 : Int32)), h3) else none :=
  sorry
theorem je_333_645 (rc : Nat → Nat × (Nat → Int32)) (d : Nat) (a1 : Nat) (a2 : Nat) (x3 : Int32) (h : jxH) : jb_333 rc d 645 [(0, .retAddr 0), (1, .ref a1), (2, .ref a2), (3, .int x3)] [] h =
  if jx_out (x3 + (1 : Int32)) (rc 0).1 = true then none else
  jx_cI (jx_C rc d 28 [.ref a1, .int ((rc 0).2 ((x3 + (1 : Int32))).toNatClampNeg)] h) fun v2 h1 =>
  if jx_out (x3 + (1 : Int32)) (rc 0).1 = true then none else
  jx_cI (jx_C rc d 169 [.ref a2, .int ((rc 0).2 ((x3 + (1 : Int32))).toNatClampNeg)] h1) fun v4 h3 =>
  if v2 = v4 then
    jb_333 rc d 10 [(0, .retAddr 0), (1, .ref a1), (2, .ref a2), (3, .int (x3 + (6 : Int32)))] [] h3
  else
    if jx_bool (0 : Int32) = true then some (some (.int (0 : Int32)), h3) else none :=
  sorry
theorem je_333_662 (rc : Nat → Nat × (Nat → Int32)) (d : Nat) (a1 : Nat) (a2 : Nat) (x3 : Int32) (h : jxH) : jb_333 rc d 662 [(0, .retAddr 0), (1, .ref a1), (2, .ref a2), (3, .int x3)] [] h =
  if jx_out (x3 + (1 : Int32)) (rc 0).1 = true then none else
  jx_cI (jx_C rc d 29 [.ref a1, .int ((rc 0).2 ((x3 + (1 : Int32))).toNatClampNeg)] h) fun v2 h1 =>
  if jx_out (x3 + (1 : Int32)) (rc 0).1 = true then none else
  jx_cI (jx_C rc d 170 [.ref a2, .int ((rc 0).2 ((x3 + (1 : Int32))).toNatClampNeg)] h1) fun v4 h3 =>
  if v2 = v4 then
    jb_333 rc d 10 [(0, .retAddr 0), (1, .ref a1), (2, .ref a2), (3, .int (x3 + (6 : Int32)))] [] h3
  else
    if jx_bool (0 : Int32) = true then some (some (.int (0 : Int32)), h3) else none :=
  sorry
theorem je_333_679 (rc : Nat → Nat × (Nat → Int32)) (d : Nat) (a1 : Nat) (a2 : Nat) (x3 : Int32) (h : jxH) : jb_333 rc d 679 [(0, .retAddr 0), (1, .ref a1), (2, .ref a2), (3, .int x3)] [] h =
  if jx_out (x3 + (1 : Int32)) (rc 0).1 = true then none else
  jx_cI (jx_C rc d 30 [.ref a1, .int ((rc 0).2 ((x3 + (1 : Int32))).toNatClampNeg)] h) fun v2 h1 =>
  if jx_out (x3 + (1 : Int32)) (rc 0).1 = true then none else
  jx_cI (jx_C rc d 171 [.ref a2, .int ((rc 0).2 ((x3 + (1 : Int32))).toNatClampNeg)] h1) fun v4 h3 =>
  if v2 = v4 then
    jb_333 rc d 10 [(0, .retAddr 0), (1, .ref a1), (2, .ref a2), (3, .int (x3 + (6 : Int32)))] [] h3
  else
    if jx_bool (0 : Int32) = true then some (some (.int (0 : Int32)), h3) else none :=
  sorry
theorem je_333_696 (rc : Nat → Nat × (Nat → Int32)) (d : Nat) (a1 : Nat) (a2 : Nat) (x3 : Int32) (h : jxH) : jb_333 rc d 696 [(0, .retAddr 0), (1, .ref a1), (2, .ref a2), (3, .int x3)] [] h =
  if jx_out (x3 + (1 : Int32)) (rc 0).1 = true then none else
  jx_cI (jx_C rc d 31 [.ref a1, .int ((rc 0).2 ((x3 + (1 : Int32))).toNatClampNeg)] h) fun v2 h1 =>
  if jx_out (x3 + (1 : Int32)) (rc 0).1 = true then none else
  jx_cI (jx_C rc d 174 [.ref a2, .int ((rc 0).2 ((x3 + (1 : Int32))).toNatClampNeg)] h1) fun v4 h3 =>
  if v2 = v4 then
    jb_333 rc d 10 [(0, .retAddr 0), (1, .ref a1), (2, .ref a2), (3, .int (x3 + (6 : Int32)))] [] h3
  else
    if jx_bool (0 : Int32) = true then some (some (.int (0 : Int32)), h3) else none :=
  sorry
theorem je_333_713 (rc : Nat → Nat × (Nat → Int32)) (d : Nat) (a1 : Nat) (a2 : Nat) (x3 : Int32) (h : jxH) : jb_333 rc d 713 [(0, .retAddr 0), (1, .ref a1), (2, .ref a2), (3, .int x3)] [] h =
  if jx_out (x3 + (1 : Int32)) (rc 0).1 = true then none else
  if jx_out (x3 + (2 : Int32)) (rc 0).1 = true then none else
  jx_cI (jx_C rc d 32 [.ref a1, .int ((rc 0).2 ((x3 + (1 : Int32))).toNatClampNeg), .int ((rc 0).2 ((x3 + (2 : Int32))).toNatClampNeg)] h) fun v2 h1 =>
  if jx_out (x3 + (1 : Int32)) (rc 0).1 = true then none else
  if jx_out (x3 + (2 : Int32)) (rc 0).1 = true then none else
  jx_cI (jx_C rc d 176 [.ref a2, .int ((rc 0).2 ((x3 + (1 : Int32))).toNatClampNeg), .int ((rc 0).2 ((x3 + (2 : Int32))).toNatClampNeg)] h1) fun v4 h3 =>
  if v2 = v4 then
    jb_333 rc d 10 [(0, .retAddr 0), (1, .ref a1), (2, .ref a2), (3, .int (x3 + (6 : Int32)))] [] h3
  else
    if jx_bool (0 : Int32) = true then some (some (.int (0 : Int32)), h3) else none :=
  sorry
theorem je_333_740 (rc : Nat → Nat × (Nat → Int32)) (d : Nat) (a1 : Nat) (a2 : Nat) (x3 : Int32) (h : jxH) : jb_333 rc d 740 [(0, .retAddr 0), (1, .ref a1), (2, .ref a2), (3, .int x3)] [] h =
  if jx_out (x3 + (1 : Int32)) (rc 0).1 = true then none else
  if jx_out (x3 + (2 : Int32)) (rc 0).1 = true then none else
  jx_cI (jx_C rc d 33 [.ref a1, .int ((rc 0).2 ((x3 + (1 : Int32))).toNatClampNeg), .int ((rc 0).2 ((x3 + (2 : Int32))).toNatClampNeg)] h) fun v2 h1 =>
  if jx_out (x3 + (1 : Int32)) (rc 0).1 = true then none else
  if jx_out (x3 + (2 : Int32)) (rc 0).1 = true then none else
  jx_cI (jx_C rc d 178 [.ref a2, .int ((rc 0).2 ((x3 + (1 : Int32))).toNatClampNeg), .int ((rc 0).2 ((x3 + (2 : Int32))).toNatClampNeg)] h1) fun v4 h3 =>
  if v2 = v4 then
    jb_333 rc d 10 [(0, .retAddr 0), (1, .ref a1), (2, .ref a2), (3, .int (x3 + (6 : Int32)))] [] h3
  else
    if jx_bool (0 : Int32) = true then some (some (.int (0 : Int32)), h3) else none :=
  sorry
theorem je_333_767 (rc : Nat → Nat × (Nat → Int32)) (d : Nat) (a1 : Nat) (a2 : Nat) (x3 : Int32) (h : jxH) : jb_333 rc d 767 [(0, .retAddr 0), (1, .ref a1), (2, .ref a2), (3, .int x3)] [] h =
  if jx_out (x3 + (1 : Int32)) (rc 0).1 = true then none else
  if jx_out (x3 + (2 : Int32)) (rc 0).1 = true then none else
  jx_cI (jx_C rc d 34 [.ref a1, .int ((rc 0).2 ((x3 + (1 : Int32))).toNatClampNeg), .int ((rc 0).2 ((x3 + (2 : Int32))).toNatClampNeg)] h) fun v2 h1 =>
  if jx_out (x3 + (1 : Int32)) (rc 0).1 = true then none else
  if jx_out (x3 + (2 : Int32)) (rc 0).1 = true then none else
  jx_cI (jx_C rc d 179 [.ref a2, .int ((rc 0).2 ((x3 + (1 : Int32))).toNatClampNeg), .int ((rc 0).2 ((x3 + (2 : Int32))).toNatClampNeg)] h1) fun v4 h3 =>
  if v2 = v4 then
    jb_333 rc d 10 [(0, .retAddr 0), (1, .ref a1), (2, .ref a2), (3, .int (x3 + (6 : Int32)))] [] h3
  else
    if jx_bool (0 : Int32) = true then some (some (.int (0 : Int32)), h3) else none :=
  sorry
theorem je_333_794 (rc : Nat → Nat × (Nat → Int32)) (d : Nat) (a1 : Nat) (a2 : Nat) (x3 : Int32) (h : jxH) : jb_333 rc d 794 [(0, .retAddr 0), (1, .ref a1), (2, .ref a2), (3, .int x3)] [] h =
  if jx_out (x3 + (1 : Int32)) (rc 0).1 = true then none else
  if jx_out (x3 + (2 : Int32)) (rc 0).1 = true then none else
  jx_cI (jx_C rc d 35 [.ref a1, .int ((rc 0).2 ((x3 + (1 : Int32))).toNatClampNeg), .int ((rc 0).2 ((x3 + (2 : Int32))).toNatClampNeg)] h) fun v2 h1 =>
  if jx_out (x3 + (1 : Int32)) (rc 0).1 = true then none else
  if jx_out (x3 + (2 : Int32)) (rc 0).1 = true then none else
  jx_cI (jx_C rc d 180 [.ref a2, .int ((rc 0).2 ((x3 + (1 : Int32))).toNatClampNeg), .int ((rc 0).2 ((x3 + (2 : Int32))).toNatClampNeg)] h1) fun v4 h3 =>
  if v2 = v4 then
    jb_333 rc d 10 [(0, .retAddr 0), (1, .ref a1), (2, .ref a2), (3, .int (x3 + (6 : Int32)))] [] h3
  else
    if jx_bool (0 : Int32) = true then some (some (.int (0 : Int32)), h3) else none :=
  sorry
theorem je_333_821 (rc : Nat → Nat × (Nat → Int32)) (d : Nat) (a1 : Nat) (a2 : Nat) (x3 : Int32) (h : jxH) : jb_333 rc d 821 [(0, .retAddr 0), (1, .ref a1), (2, .ref a2), (3, .int x3)] [] h =
  if jx_out (x3 + (1 : Int32)) (rc 0).1 = true then none else
  if jx_out (x3 + (2 : Int32)) (rc 0).1 = true then none else
  jx_cI (jx_C rc d 36 [.ref a1, .int ((rc 0).2 ((x3 + (1 : Int32))).toNatClampNeg), .int ((rc 0).2 ((x3 + (2 : Int32))).toNatClampNeg)] h) fun v2 h1 =>
  if jx_out (x3 + (1 : Int32)) (rc 0).1 = true then none else
  if jx_out (x3 + (2 : Int32)) (rc 0).1 = true then none else
  jx_cI (jx_C rc d 183 [.ref a2, .int ((rc 0).2 ((x3 + (1 : Int32))).toNatClampNeg), .int ((rc 0).2 ((x3 + (2 : Int32))).toNatClampNeg)] h1) fun v4 h3 =>
  if v2 = v4 then
    jb_333 rc d 10 [(0, .retAddr 0), (1, .ref a1), (2, .ref a2), (3, .int (x3 + (6 : Int32)))] [] h3
  else
    if jx_bool (0 : Int32) = true then some (some (.int (0 : Int32)), h3) else none :=
  sorry
theorem je_333_848 (rc : Nat → Nat × (Nat → Int32)) (d : Nat) (a1 : Nat) (a2 : Nat) (x3 : Int32) (h : jxH) : jb_333 rc d 848 [(0, .retAddr 0), (1, .ref a1), (2, .ref a2), (3, .int x3)] [] h =
  if jx_out (x3 + (1 : Int32)) (rc 0).1 = true then none else
  if jx_out (x3 + (2 : Int32)) (rc 0).1 = true then none else
  jx_cI (jx_C rc d 37 [.ref a1, .int ((rc 0).2 ((x3 + (1 : Int32))).toNatClampNeg), .int ((rc 0).2 ((x3 + (2 : Int32))).toNatClampNeg)] h) fun v2 h1 =>
  if jx_out (x3 + (1 : Int32)) (rc 0).1 = true then none else
  if jx_out (x3 + (2 : Int32)) (rc 0).1 = true then none else
  jx_cI (jx_C rc d 184 [.ref a2, .int ((rc 0).2 ((x3 + (1 : Int32))).toNatClampNeg), .int ((rc 0).2 ((x3 + (2 : Int32))).toNatClampNeg)] h1) fun v4 h3 =>
  if v2 = v4 then
    jb_333 rc d 10 [(0, .retAddr 0), (1, .ref a1), (2, .ref a2), (3, .int (x3 + (6 : Int32)))] [] h3
  else
    if jx_bool (0 : Int32) = true then some (some (.int (0 : Int32)), h3) else none :=
  sorry
theorem je_333_875 (rc : Nat → Nat × (Nat → Int32)) (d : Nat) (a1 : Nat) (a2 : Nat) (x3 : Int32) (h : jxH) : jb_333 rc d 875 [(0, .retAddr 0), (1, .ref a1), (2, .ref a2), (3, .int x3)] [] h =
  if jx_out (x3 + (1 : Int32)) (rc 0).1 = true then none else
  if jx_out (x3 + (2 : Int32)) (rc 0).1 = true then none else
  jx_cI (jx_C rc d 38 [.ref a1, .int ((rc 0).2 ((x3 + (1 : Int32))).toNatClampNeg), .int ((rc 0).2 ((x3 + (2 : Int32))).toNatClampNeg)] h) fun v2 h1 =>
  if jx_out (x3 + (1 : Int32)) (rc 0).1 = true then none else
  if jx_out (x3 + (2 : Int32)) (rc 0).1 = true then none else
  jx_cI (jx_C rc d 187 [.ref a2, .int ((rc 0).2 ((x3 + (1 : Int32))).toNatClampNeg), .int ((rc 0).2 ((x3 + (2 : Int32))).toNatClampNeg)] h1) fun v4 h3 =>
  if v2 = v4 then
    jb_333 rc d 10 [(0, .retAddr 0), (1, .ref a1), (2, .ref a2), (3, .int (x3 + (6 : Int32)))] [] h3
  else
    if jx_bool (0 : Int32) = true then some (some (.int (0 : Int32)), h3) else none :=
  sorry
theorem je_333_902 (rc : Nat → Nat × (Nat → Int32)) (d : Nat) (a1 : Nat) (a2 : Nat) (x3 : Int32) (h : jxH) : jb_333 rc d 902 [(0, .retAddr 0), (1, .ref a1), (2, .ref a2), (3, .int x3)] [] h =
  if jx_out (x3 + (1 : Int32)) (rc 0).1 = true then none else
  jx_cI (jx_C rc d 39 [.ref a1, .int ((rc 0).2 ((x3 + (1 : Int32))).toNatClampNeg)] h) fun v2 h1 =>
  if jx_out (x3 + (1 : Int32)) (rc 0).1 = true then none else
  jx_cI (jx_C rc d 188 [.ref a2, .int ((rc 0).2 ((x3 + (1 : Int32))).toNatClampNeg)] h1) fun v4 h3 =>
  if v2 = v4 then
    jb_333 rc d 10 [(0, .retAddr 0), (1, .ref a1), (2, .ref a2), (3, .int (x3 + (6 : Int32)))] [] h3
  else
    if jx_bool (0 : Int32) = true then some (some (.int (0 : Int32)), h3) else none :=
  sorry
theorem je_333_919 (rc : Nat → Nat × (Nat → Int32)) (d : Nat) (a1 : Nat) (a2 : Nat) (x3 : Int32) (h : jxH) : jb_333 rc d 919 [(0, .retAddr 0), (1, .ref a1), (2, .ref a2), (3, .int x3)] [] h =
  if jx_out (x3 + (1 : Int32)) (rc 0).1 = true then none else
  if jx_out (x3 + (2 : Int32)) (rc 0).1 = true then none else
  jx_cI (jx_C rc d 40 [.ref a1, .int ((rc 0).2 ((x3 + (1 : Int32))).toNatClampNeg), .int ((rc 0).2 ((x3 + (2 : Int32))).toNatClampNeg)] h) fun v2 h1 =>
  if jx_out (x3 + (1 : Int32)) (rc 0).1 = true then none else
  if jx_out (x3 + (2 : Int32)) (rc 0).1 = true then none else
  jx_cI (jx_C rc d 190 [.ref a2, .int ((rc 0).2 ((x3 + (1 : Int32))).toNatClampNeg), .int ((rc 0).2 ((x3 + (2 : Int32))).toNatClampNeg)] h1) fun v4 h3 =>
  if v2 = v4 then
    jb_333 rc d 10 [(0, .retAddr 0), (1, .ref a1), (2, .ref a2), (3, .int (x3 + (6 : Int32)))] [] h3
  else
    if jx_bool (0 : Int32) = true then some (some (.int (0 : Int32)), h3) else none :=
  sorry
theorem je_333_946 (rc : Nat → Nat × (Nat → Int32)) (d : Nat) (a1 : Nat) (a2 : Nat) (x3 : Int32) (h : jxH) : jb_333 rc d 946 [(0, .retAddr 0), (1, .ref a1), (2, .ref a2), (3, .int x3)] [] h =
  if jx_out (x3 + (1 : Int32)) (rc 0).1 = true then none else
  if jx_out (x3 + (2 : Int32)) (rc 0).1 = true then none else
  jx_cI (jx_C rc d 41 [.ref a1, .int ((rc 0).2 ((x3 + (1 : Int32))).toNatClampNeg), .int ((rc 0).2 ((x3 + (2 : Int32))).toNatClampNeg)] h) fun v2 h1 =>
  if jx_out (x3 + (1 : Int32)) (rc 0).1 = true then none else
  if jx_out (x3 + (2 : Int32)) (rc 0).1 = true then none else
  jx_cI (jx_C rc d 192 [.ref a2, .int ((rc 0).2 ((x3 + (1 : Int32))).toNatClampNeg), .int ((rc 0).2 ((x3 + (2 : Int32))).toNatClampNeg)] h1) fun v4 h3 =>
  if v2 = v4 then
    jb_333 rc d 10 [(0, .retAddr 0), (1, .ref a1), (2, .ref a2), (3, .int (x3 + (6 : Int32)))] [] h3
  else
    if jx_bool (0 : Int32) = true then some (some (.int (0 : Int32)), h3) else none :=
  sorry
theorem je_333_973 (rc : Nat → Nat × (Nat → Int32)) (d : Nat) (a1 : Nat) (a2 : Nat) (x3 : Int32) (h : jxH) : jb_333 rc d 973 [(0, .retAddr 0), (1, .ref a1), (2, .ref a2), (3, .int x3)] [] h =
  if jx_out (x3 + (1 : Int32)) (rc 0).1 = true then none else
  if jx_out (x3 + (2 : Int32)) (rc 0).1 = true then none else
  if jx_out (x3 + (3 : Int32)) (rc 0).1 = true then none else
  jx_cI (jx_C rc d 42 [.ref a1, .int ((rc 0).2 ((x3 + (1 : Int32))).toNatClampNeg), .int ((rc 0).2 ((x3 + (2 : Int32))).toNatClampNeg), .int ((rc 0).2 ((x3 + (3 : Int32))).toNatClampNeg)] h) fun v2 h1 =>
  if jx_out (x3 + (1 : Int32)) (rc 0).1 = true then none else
  if jx_out (x3 + (2 : Int32)) (rc 0).1 = true then none else
  if jx_out (x3 + (3 : Int32)) (rc 0).1 = true then none else
  jx_cI (jx_C rc d 193 [.ref a2, .int ((rc 0).2 ((x3 + (1 : Int32))).toNatClampNeg), .int ((rc 0).2 ((x3 + (2 : Int32))).toNatClampNeg), .int ((rc 0).2 ((x3 + (3 : Int32))).toNatClampNeg)] h1) fun v4 h3 =>
  if v2 = v4 then
    jb_333 rc d 10 [(0, .retAddr 0), (1, .ref a1), (2, .ref a2), (3, .int (x3 + (6 : Int32)))] [] h3
  else
    if jx_bool (0 : Int32) = true then some (some (.int (0 : Int32)), h3) else none :=
  sorry
theorem je_333_1010 (rc : Nat → Nat × (Nat → Int32)) (d : Nat) (a1 : Nat) (a2 : Nat) (x3 : Int32) (h : jxH) : jb_333 rc d 1010 [(0, .retAddr 0), (1, .ref a1), (2, .ref a2), (3, .int x3)] [] h =
  if jx_out (x3 + (1 : Int32)) (rc 0).1 = true then none else
  if jx_out (x3 + (2 : Int32)) (rc 0).1 = true then none else
  if jx_out (x3 + (3 : Int32)) (rc 0).1 = true then none else
  jx_cI (jx_C rc d 43 [.ref a1, .int ((rc 0).2 ((x3 + (1 : Int32))).toNatClampNeg), .int ((rc 0).2 ((x3 + (2 : Int32))).toNatClampNeg), .int ((rc 0).2 ((x3 + (3 : Int32))).toNatClampNeg)] h) fun v2 h1 =>
  if jx_out (x3 + (1 : Int32)) (rc 0).1 = true then none else
  if jx_out (x3 + (2 : Int32)) (rc 0).1 = true then none else
  if jx_out (x3 + (3 : Int32)) (rc 0).1 = true then none else
  jx_cI (jx_C rc d 196 [.ref a2, .int ((rc 0).2 ((x3 + (1 : Int32))).toNatClampNeg), .int ((rc 0).2 ((x3 + (2 : Int32))).toNatClampNeg), .int ((rc 0).2 ((x3 + (3 : Int32))).toNatClampNeg)] h1) fun v4 h3 =>
  if v2 = v4 then
    jb_333 rc d 10 [(0, .retAddr 0), (1, .ref a1), (2, .ref a2), (3, .int (x3 + (6 : Int32)))] [] h3
  else
    if jx_bool (0 : Int32) = true then some (some (.int (0 : Int32)), h3) else none :=
  sorry
theorem je_333_1047 (rc : Nat → Nat × (Nat → Int32)) (d : Nat) (a1 : Nat) (a2 : Nat) (x3 : Int32) (h : jxH) : jb_333 rc d 1047 [(0, .retAddr 0), (1, .ref a1), (2, .ref a2), (3, .int x3)] [] h =
  if jx_out (x3 + (1 : Int32)) (rc 0).1 = true then none else
  if jx_out (x3 + (2 : Int32)) (rc 0).1 = true then none else
  jx_cI (jx_C rc d 44 [.ref a1, .int ((rc 0).2 ((x3 + (1 : Int32))).toNatClampNeg), .int ((rc 0).2 ((x3 + (2 : Int32))).toNatClampNeg)] h) fun v2 h1 =>
  if jx_out (x3 + (1 : Int32)) (rc 0).1 = true then none else
  if jx_out (x3 + (2 : Int32)) (rc 0).1 = true then none else
  jx_cI (jx_C rc d 197 [.ref a2, .int ((rc 0).2 ((x3 + (1 : Int32))).toNatClampNeg), .int ((rc 0).2 ((x3 + (2 : Int32))).toNatClampNeg)] h1) fun v4 h3 =>
  if v2 = v4 then
    jb_333 rc d 10 [(0, .retAddr 0), (1, .ref a1), (2, .ref a2), (3, .int (x3 + (6 : Int32)))] [] h3
  else
    if jx_bool (0 : Int32) = true then some (some (.int (0 : Int32)), h3) else none :=
  sorry
theorem je_333_1074 (rc : Nat → Nat × (Nat → Int32)) (d : Nat) (a1 : Nat) (a2 : Nat) (x3 : Int32) (h : jxH) : jb_333 rc d 1074 [(0, .retAddr 0), (1, .ref a1), (2, .ref a2), (3, .int x3)] [] h =
  if jx_out (x3 + (1 : Int32)) (rc 0).1 = true then none else
  if jx_out (x3 + (2 : Int32)) (rc 0).1 = true then none else
  if jx_out (x3 + (3 : Int32)) (rc 0).1 = true then none else
  if jx_out (x3 + (4 : Int32)) (rc 0).1 = true then none else
  if jx_out (x3 + (5 : Int32)) (rc 0).1 = true then none else
  jx_cI (jx_C rc d 45 [.ref a1, .int ((rc 0).2 ((x3 + (1 : Int32))).toNatClampNeg), .int ((rc 0).2 ((x3 + (2 : Int32))).toNatClampNeg), .int ((rc 0).2 ((x3 + (3 : Int32))).toNatClampNeg), .int ((rc 0).2 ((x3 + (4 : Int32))).toNatClampNeg), .int ((rc 0).2 ((x3 + (5 : Int32))).toNatClampNeg)] h) fun v2 h1 =>
  if jx_out (x3 + (1 : Int32)) (rc 0).1 = true then none else
  if jx_out (x3 + (2 : Int32)) (rc 0).1 = true then none else
  if jx_out (x3 + (3 : Int32)) (rc 0).1 = true then none else
  if jx_out (x3 + (4 : Int32)) (rc 0).1 = true then none else
  if jx_out (x3 + (5 : Int32)) (rc 0).1 = true then none else
  jx_cI (jx_C rc d 198 [.ref a2, .int ((rc 0).2 ((x3 + (1 : Int32))).toNatClampNeg), .int ((rc 0).2 ((x3 + (2 : Int32))).toNatClampNeg), .int ((rc 0).2 ((x3 + (3 : Int32))).toNatClampNeg), .int ((rc 0).2 ((x3 + (4 : Int32))).toNatClampNeg), .int ((rc 0).2 ((x3 + (5 : Int32))).toNatClampNeg)] h1) fun v4 h3 =>
  if v2 = v4 then
    jb_333 rc d 10 [(0, .retAddr 0), (1, .ref a1), (2, .ref a2), (3, .int (x3 + (6 : Int32)))] [] h3
  else
    if jx_bool (0 : Int32) = true then some (some (.int (0 : Int32)), h3) else none :=
  sorry
theorem je_333_1131 (rc : Nat → Nat × (Nat → Int32)) (d : Nat) (a1 : Nat) (a2 : Nat) (x3 : Int32) (h : jxH) : jb_333 rc d 1131 [(0, .retAddr 0), (1, .ref a1), (2, .ref a2), (3, .int x3)] [] h =
  if jx_out (x3 + (1 : Int32)) (rc 0).1 = true then none else
  jx_cI (jx_C rc d 46 [.ref a1, .int ((rc 0).2 ((x3 + (1 : Int32))).toNatClampNeg)] h) fun v2 h1 =>
  if jx_out (x3 + (1 : Int32)) (rc 0).1 = true then none else
  jx_cI (jx_C rc d 200 [.ref a2, .int ((rc 0).2 ((x3 + (1 : Int32))).toNatClampNeg)] h1) fun v4 h3 =>
  if v2 = v4 then
    jb_333 rc d 10 [(0, .retAddr 0), (1, .ref a1), (2, .ref a2), (3, .int (x3 + (6 : Int32)))] [] h3
  else
    if jx_bool (0 : Int32) = true then some (some (.int (0 : Int32)), h3) else none :=
  sorry
theorem je_333_1148 (rc : Nat → Nat × (Nat → Int32)) (d : Nat) (a1 : Nat) (a2 : Nat) (x3 : Int32) (h : jxH) : jb_333 rc d 1148 [(0, .retAddr 0), (1, .ref a1), (2, .ref a2), (3, .int x3)] [] h =
  if jx_out (x3 + (1 : Int32)) (rc 0).1 = true then none else
  jx_cI (jx_C rc d 47 [.ref a1, .int ((rc 0).2 ((x3 + (1 : Int32))).toNatClampNeg)] h) fun v2 h1 =>
  if jx_out (x3 + (1 : Int32)) (rc 0).1 = true then none else
  jx_cI (jx_C rc d 201 [.ref a2, .int ((rc 0).2 ((x3 + (1 : Int32))).toNatClampNeg)] h1) fun v4 h3 =>
  if v2 = v4 then
    jb_333 rc d 10 [(0, .retAddr 0), (1, .ref a1), (2, .ref a2), (3, .int (x3 + (6 : Int32)))] [] h3
  else
    if jx_bool (0 : Int32) = true then some (some (.int (0 : Int32)), h3) else none :=
  sorry
theorem je_333_1165 (rc : Nat → Nat × (Nat → Int32)) (d : Nat) (a1 : Nat) (a2 : Nat) (x3 : Int32) (h : jxH) : jb_333 rc d 1165 [(0, .retAddr 0), (1, .ref a1), (2, .ref a2), (3, .int x3)] [] h =
  if jx_out (x3 + (1 : Int32)) (rc 0).1 = true then none else
  if jx_out (x3 + (2 : Int32)) (rc 0).1 = true then none else
  jx_cI (jx_C rc d 48 [.ref a1, .int ((rc 0).2 ((x3 + (1 : Int32))).toNatClampNeg), .int ((rc 0).2 ((x3 + (2 : Int32))).toNatClampNeg)] h) fun v2 h1 =>
  if jx_out (x3 + (1 : Int32)) (rc 0).1 = true then none else
  if jx_out (x3 + (2 : Int32)) (rc 0).1 = true then none else
  jx_cI (jx_C rc d 202 [.ref a2, .int ((rc 0).2 ((x3 + (1 : Int32))).toNatClampNeg), .int ((rc 0).2 ((x3 + (2 : Int32))).toNatClampNeg)] h1) fun v4 h3 =>
  if v2 = v4 then
    jb_333 rc d 10 [(0, .retAddr 0), (1, .ref a1), (2, .ref a2), (3, .int (x3 + (6 : Int32)))] [] h3
  else
    if jx_bool (0 : Int32) = true then some (some (.int (0 : Int32)), h3) else none :=
  sorry
theorem je_333_1192 (rc : Nat → Nat × (Nat → Int32)) (d : Nat) (a1 : Nat) (a2 : Nat) (x3 : Int32) (h : jxH) : jb_333 rc d 1192 [(0, .retAddr 0), (1, .ref a1), (2, .ref a2), (3, .int x3)] [] h =
  jx_cI (jx_C rc d 49 [.ref a1] h) fun v2 h1 =>
  jx_cI (jx_C rc d 203 [.ref a2] h1) fun v4 h3 =>
  if v2 = v4 then
    jb_333 rc d 10 [(0, .retAddr 0), (1, .ref a1), (2, .ref a2), (3, .int (x3 + (6 : Int32)))] [] h3
  else
    if jx_bool (0 : Int32) = true then some (some (.int (0 : Int32)), h3) else none :=
  sorry
theorem je_333_1199 (rc : Nat → Nat × (Nat → Int32)) (d : Nat) (a1 : Nat) (a2 : Nat) (x3 : Int32) (h : jxH) : jb_333 rc d 1199 [(0, .retAddr 0), (1, .ref a1), (2, .ref a2), (3, .int x3)] [] h =
  jx_cI (jx_C rc d 50 [.ref a1] h) fun v2 h1 =>
  jx_cI (jx_C rc d 204 [.ref a2] h1) fun v4 h3 =>
  if v2 = v4 then
    jb_333 rc d 10 [(0, .retAddr 0), (1, .ref a1), (2, .ref a2), (3, .int (x3 + (6 : Int32)))] [] h3
  else
    if jx_bool (0 : Int32) = true then some (some (.int (0 : Int32)), h3) else none :=
  sorry
theorem je_333_1206 (rc : Nat → Nat × (Nat → Int32)) (d : Nat) (a1 : Nat) (a2 : Nat) (x3 : Int32) (h : jxH) : jb_333 rc d 1206 [(0, .retAddr 0), (1, .ref a1), (2, .ref a2), (3, .int x3)] [] h =
  if jx_out (x3 + (1 : Int32)) (rc 0).1 = true then none else
  jx_cI (jx_C rc d 51 [.ref a1, .int ((rc 0).2 ((x3 + (1 : Int32))).toNatClampNeg)] h) fun v2 h1 =>
  if jx_out (x3 + (1 : Int32)) (rc 0).1 = true then none else
  jx_cI (jx_C rc d 208 [.ref a2, .int ((rc 0).2 ((x3 + (1 : Int32))).toNatClampNeg)] h1) fun v4 h3 =>
  if v2 = v4 then
    jb_333 rc d 10 [(0, .retAddr 0), (1, .ref a1), (2, .ref a2), (3, .int (x3 + (6 : Int32)))] [] h3
  else
    if jx_bool (0 : Int32) = true then some (some (.int (0 : Int32)), h3) else none :=
  sorry
theorem je_333_1223 (rc : Nat → Nat × (Nat → Int32)) (d : Nat) (a1 : Nat) (a2 : Nat) (x3 : Int32) (h : jxH) : jb_333 rc d 1223 [(0, .retAddr 0), (1, .ref a1), (2, .ref a2), (3, .int x3)] [] h =
  if jx_out (x3 + (1 : Int32)) (rc 0).1 = true then none else
  jx_cI (jx_C rc d 52 [.ref a1, .int ((rc 0).2 ((x3 + (1 : Int32))).toNatClampNeg)] h) fun v2 h1 =>
  if jx_out (x3 + (1 : Int32)) (rc 0).1 = true then none else
  jx_cI (jx_C rc d 209 [.ref a2, .int ((rc 0).2 ((x3 + (1 : Int32))).toNatClampNeg)] h1) fun v4 h3 =>
  if v2 = v4 then
    jb_333 rc d 10 [(0, .retAddr 0), (1, .ref a1), (2, .ref a2), (3, .int (x3 + (6 : Int32)))] [] h3
  else
    if jx_bool (0 : Int32) = true then some (some (.int (0 : Int32)), h3) else none :=
  sorry
end
section
/-! Small facts: ints by Nats, bits, the heap, frames -/
theorem jk_at_set (h : jxH) (a b : Nat) (e : jxE) : jx_at (jx_set h a e) b = if b = a then e else jx_at h b := rfl
theorem jk_at_self (h : jxH) (a : Nat) (e : jxE) : jx_at (jx_set h a e) a = e := by rw [jk_at_set, if_pos rfl]
theorem jk_at_ne (h : jxH) {a b : Nat} (e : jxE) (hb : b ≠ a) : jx_at (jx_set h a e) b = jx_at h b := by rw [jk_at_set, if_neg hb]
theorem jk_set_1 (h : jxH) (a : Nat) (e : jxE) : (jx_set h a e).1 = h.1 := rfl
theorem jk_set_2 (h : jxH) (a : Nat) (e : jxE) : (jx_set h a e).2.1 = h.2.1 := rfl
theorem jk_at_new (h : jxH) (n b : Nat) (e : jxE) : jx_at (jx_new h n e) b = if b = h.1 then e else jx_at h b := rfl
theorem jk_new_1 (h : jxH) (n : Nat) (e : jxE) : (jx_new h n e).1 = h.1 + 1 := rfl
theorem jk_new_2 (h : jxH) (n : Nat) (e : jxE) : (jx_new h n e).2.1 = h.2.1 + n := rfl
theorem jk_cI (x : Int32) (h : jxH) (f : Int32 → jxH → jxR) : jx_cI (some (some (.int x), h)) f = f x h := rfl
theorem jk_cL (x : Int64) (h : jxH) (f : Int64 → jxH → jxR) : jx_cL (some (some (.long x), h)) f = f x h := rfl
theorem jk_cV (h : jxH) (f : jxH → jxR) : jx_cV (some (none, h)) f = f h := rfl
theorem jk_cRs (x : Nat) (h : jxH) (f : Option Nat → jxH → jxR) : jx_cR (some (some (.ref x), h)) f = f (some x) h := rfl
theorem jk_cRn (h : jxH) (f : Option Nat → jxH → jxR) : jx_cR (some (some .null, h)) f = f none h := rfl
theorem jk_mos (x : Nat) (f : Nat → jxR) (g : jxR) : jx_mo (some x) f g = f x := rfl
theorem jk_mon (f : Nat → jxR) (g : jxR) : jx_mo none f g = g := rfl
theorem jk_bs {α β : Type} (x : α) (f : α → Option β) : (some x).bind f = f x := rfl
-- ints by Nats
theorem jk_lt {k m : Nat} (hk : k < 2 ^ 31) (hm : m < 2 ^ 31) : (Int32.ofNat k < Int32.ofNat m) ↔ k < m := Int32.ofNat_lt_iff_lt hk hm
theorem jk_le {k m : Nat} (hk : k < 2 ^ 31) (hm : m < 2 ^ 31) : (Int32.ofNat k ≤ Int32.ofNat m) ↔ k ≤ m := Int32.ofNat_le_iff_le hk hm
theorem jk_cl {k : Nat} (hk : k < 2 ^ 31) : (Int32.ofNat k).toNatClampNeg = k := Int32.toNatClampNeg_ofNat_of_lt hk
theorem jk_inj {k m : Nat} (hk : k < 2 ^ 31) (hm : m < 2 ^ 31) : (Int32.ofNat k = Int32.ofNat m) ↔ k = m :=
  ⟨fun h => by rw [← jk_cl hk, ← jk_cl hm, h], fun h => by rw [h]⟩
theorem jk_nn {k : Nat} (hk : k < 2 ^ 31) : ¬ Int32.ofNat k < 0 := by
  rw [show (0 : Int32) = Int32.ofNat 0 from rfl, jk_lt hk (by decide)]
  omega
theorem jk_ge {k : Nat} (hk : k < 2 ^ 31) : (0 : Int32) ≤ Int32.ofNat k := by
  rw [show (0 : Int32) = Int32.ofNat 0 from rfl, jk_le (by decide) hk]
  omega
theorem jk_12 {k : Nat} (hk : k < 2 ^ 31) : ((12 : Int32) ≤ Int32.ofNat k) ↔ 12 ≤ k := by
  rw [show (12 : Int32) = Int32.ofNat 12 from rfl, jk_le (by decide) hk]
theorem jk_n12 {k : Nat} (hk : k < 12) : ¬ (12 : Int32) ≤ Int32.ofNat k := by
  rw [jk_12 (by omega)]
  omega
theorem jk_l12 {k : Nat} (hk : k < 12) : Int32.ofNat k < (12 : Int32) := by
  rw [show (12 : Int32) = Int32.ofNat 12 from rfl, jk_lt (by omega) (by decide)]
  exact hk
theorem jk_succ (k : Nat) : Int32.ofNat k + 1 = Int32.ofNat (k + 1) := by
  rw [Int32.ofNat_add]; rfl
theorem jk_pred (k : Nat) : Int32.ofNat (k + 1) - 1 = Int32.ofNat k := by
  rw [Int32.ofNat_add]
  exact Int32.add_sub_cancel ..
theorem jk_of {x : Int32} (h : ¬ x < 0) : x = Int32.ofNat x.toNatClampNeg := (Int32.ofNat_toNatClampNeg x (by rw [Int32.le_iff_toInt_le]; rw [Int32.lt_iff_toInt_lt] at h; omega)).symm
theorem jk_of_lt (x : Int32) : x.toNatClampNeg < 2 ^ 31 := x.toNatClampNeg_lt
theorem jk_place {x : Int32} (h0 : ¬ x < 0) (h1 : ¬ (12 : Int32) ≤ x) : ∃ k : Nat, k < 12 ∧ x = Int32.ofNat k := by
  refine ⟨x.toNatClampNeg, ?_, jk_of h0⟩
  rw [jk_of h0, jk_12 (jk_of_lt x)] at h1
  omega
theorem jk_out {k n : Nat} (hk : k < 2 ^ 31) : jx_out (Int32.ofNat k) n = decide (n ≤ k) := by
  unfold jx_out
  rw [jk_cl hk, decide_eq_false (jk_nn hk), Bool.false_or]
theorem jk_outf {k n : Nat} (hk : k < n) (hn : n < 2 ^ 31) : jx_out (Int32.ofNat k) n = false := by
  rw [jk_out (by omega)]
  simp; exact hk
-- arrays
theorem jk_aI {t n k : Nat} {g : Nat → Int32} (hk : k < n) (hn : n < 2 ^ 31) : jx_aI (jxI t n g) t (Int32.ofNat k) = some (g k) := by
  unfold jx_aI jxI
  simp only [jk_outf hk hn, jk_cl (show k < 2 ^ 31 by omega), and_self, if_true]
theorem jk_sI {t n k : Nat} {g : Nat → Int32} {x : Int32} (hk : k < n) (hn : n < 2 ^ 31) : jx_sI (jxI t n g) t (Int32.ofNat k) x = some (jxI t n (upd g k x)) := by
  unfold jx_sI jxI
  simp only [jk_outf hk hn, jk_cl (show k < 2 ^ 31 by omega), and_self, if_true]
theorem jk_aL {n k : Nat} {g : Nat → Int64} (hk : k < n) (hn : n < 2 ^ 31) : jx_aL (jxL n g) (Int32.ofNat k) = some (g k) := by
  unfold jx_aL jxL
  simp only [jk_outf hk hn, jk_cl (show k < 2 ^ 31 by omega), and_self, if_true]
theorem jk_sL {n k : Nat} {g : Nat → Int64} {x : Int64} (hk : k < n) (hn : n < 2 ^ 31) : jx_sL (jxL n g) (Int32.ofNat k) x = some (jxL n (vp_updL g k x)) := by
  unfold jx_sL jxL
  simp only [jk_outf hk hn, jk_cl (show k < 2 ^ 31 by omega), and_self, if_true]
theorem jk_aQ {t n k : Nat} {g : Nat → Option Nat} (hk : k < n) (hn : n < 2 ^ 31) : jx_aQ (jxQ t n g) t (Int32.ofNat k) = some (g k) := by
  unfold jx_aQ jxQ
  simp only [jk_outf hk hn, jk_cl (show k < 2 ^ 31 by omega), and_self, if_true]
theorem jk_sQ {t n k : Nat} {g : Nat → Option Nat} {x : Option Nat} (hk : k < n) (hn : n < 2 ^ 31) : jx_sQ (jxQ t n g) t (Int32.ofNat k) x = some (jxQ t n (va_up g k x)) := by
  unfold jx_sQ jxQ
  simp only [jk_outf hk hn, jk_cl (show k < 2 ^ 31 by omega), and_self, if_true]
-- truth values
def jk_b (b : Bool) : Int32 := if b then 1 else 0
theorem jk_b0 (b : Bool) : (jk_b b = 0) = (b = false) := by cases b <;> simp [jk_b]
theorem jk_bb (b : Bool) : jx_bool (jk_b b) = true := by cases b <;> rfl
theorem jk_bt : jk_b true = 1 := rfl
theorem jk_bf : jk_b false = 0 := rfl
theorem jk_ite (b : Bool) {α : Type} (x y : α) : (if jk_b b = 0 then x else y) = if b = true then y else x := by cases b <;> rfl
-- bits
def bt (x : Int32) (k : Nat) : Bool := x.toBitVec.getLsbD k
def jk_bit (k : Nat) : Int32 := (1 : Int32) <<< (Int32.ofNat k &&& 31)
theorem jk_m31 : ∀ k : Nat, k < 32 → (Int32.ofNat k &&& 31).toBitVec.smod 32 = BitVec.ofNat 32 k := by decide +kernel
theorem bt_sr (x : Int32) {k : Nat} (hk : k < 32) : ((x >>> (Int32.ofNat k &&& 31)) &&& 1) = jk_b (bt x k) := by
  have h1 : (x >>> (Int32.ofNat k &&& 31)).toBitVec = x.toBitVec.sshiftRight k := by
    rw [Int32.toBitVec_shiftRight, BitVec.sshiftRight_eq', jk_m31 k hk, BitVec.toNat_ofNat, Nat.mod_eq_of_lt (by omega)]
  apply Int32.toBitVec_inj.1
  rw [Int32.toBitVec_and, h1]
  apply BitVec.eq_of_getLsbD_eq
  intro i hi
  rw [BitVec.getLsbD_and, BitVec.getLsbD_sshiftRight]
  unfold jk_b bt
  rcases Nat.eq_zero_or_pos i with rfl | hp
  · cases hb : x.toBitVec.getLsbD k <;> simp [hb, hk, show k + 0 < 32 by omega] <;> decide
  · have h2 : (1 : Int32).toBitVec.getLsbD i = false := by
      rw [Int32.toBitVec_one]; simp; omega
    rw [h2, Bool.and_false]
    cases hb : x.toBitVec.getLsbD k
    · simp
    · simp; omega
theorem bt_bit {k j : Nat} (hk : k < 32) (hj : j < 32) : bt (jk_bit k) j = decide (j = k) := by
  have h : ∀ k : Nat, k < 32 → ∀ j : Nat, j < 32 → bt (jk_bit k) j = decide (j = k) := by decide +kernel
  exact h k hk j hj
theorem bt_and (x y : Int32) (k : Nat) : bt (x &&& y) k = (bt x k && bt y k) := by
  unfold bt; rw [Int32.toBitVec_and, BitVec.getLsbD_and]
theorem bt_or (x y : Int32) (k : Nat) : bt (x ||| y) k = (bt x k || bt y k) := by
  unfold bt; rw [Int32.toBitVec_or, BitVec.getLsbD_or]
theorem bt_not (x : Int32) {k : Nat} (hk : k < 32) : bt (x ^^^ (-1)) k = !bt x k := by
  unfold bt; rw [Int32.xor_neg_one, Int32.toBitVec_not, BitVec.getLsbD_not]; simp [hk]
theorem bt_xor (x y : Int32) (k : Nat) : bt (x ^^^ y) k = Bool.xor (bt x k) (bt y k) := by
  unfold bt; rw [Int32.toBitVec_xor, BitVec.getLsbD_xor]
theorem bt_0 (k : Nat) : bt 0 k = false := by
  unfold bt; rw [Int32.toBitVec_zero]; simp
theorem bt_big (x : Int32) {k : Nat} (hk : 32 ≤ k) : bt x k = false := by
  unfold bt; exact BitVec.getLsbD_of_ge _ _ hk
theorem bt_ext {x y : Int32} (h : ∀ k, k < 32 → bt x k = bt y k) : x = y :=
  Int32.toBitVec_inj.1 (BitVec.eq_of_getLsbD_eq fun k hk => h k hk)
def S12 (x : Int32) : Prop := ∀ k, 12 ≤ k → bt x k = false
theorem S12_ext {x y : Int32} (hx : S12 x) (hy : S12 y) (h : ∀ k, k < 12 → bt x k = bt y k) : x = y :=
  bt_ext fun k _ => by
    by_cases hk : k < 12
    · exact h k hk
    · rw [hx k (by omega), hy k (by omega)]
theorem S12_0 : S12 0 := fun k _ => bt_0 k
theorem S12_and {x y : Int32} (hx : S12 x) : S12 (x &&& y) := fun k hk => by rw [bt_and, hx k hk, Bool.false_and]
theorem S12_and' {x y : Int32} (hy : S12 y) : S12 (x &&& y) := fun k hk => by rw [bt_and, hy k hk, Bool.and_false]
theorem S12_or {x y : Int32} (hx : S12 x) (hy : S12 y) : S12 (x ||| y) := fun k hk => by rw [bt_or, hx k hk, hy k hk]; rfl
theorem S12_bit {p : Nat} (hp : p < 12) : S12 (jk_bit p) := fun k hk => by
  by_cases h : k < 32
  · rw [bt_bit (by omega) h]; simp; omega
  · exact bt_big _ (by omega)
/-- a set of places as a number below 4096 -/
theorem S12_nat {x : Int32} (hx : S12 x) : ∃ n : Nat, n < 4096 ∧ x = Int32.ofNat n := by
  refine ⟨x.toBitVec.toNat, ?_, ?_⟩
  · apply Nat.lt_pow_two_of_testBit (n := 12)
    intro i hi
    exact hx i hi
  · apply Int32.toBitVec_inj.1
    rw [Int32.toBitVec_ofNat']
    simp
theorem bt_ofNat {n : Nat} (hn : n < 4096) (k : Nat) : bt (Int32.ofNat n) k = n.testBit k := by
  unfold bt
  rw [Int32.toBitVec_ofNat', BitVec.getLsbD_ofNat]
  by_cases hk : k < 32
  · simp [hk]
  · rw [Nat.testBit_lt_two_pow (Nat.lt_of_lt_of_le hn (Nat.le_trans (show 4096 ≤ 2 ^ 32 by decide) (Nat.pow_le_pow_right (by decide) (by omega)))), Bool.and_false]
theorem S12_of {n : Nat} (hn : n < 4096) : S12 (Int32.ofNat n) := fun k hk => by
  rw [bt_ofNat hn]
  exact Nat.testBit_lt_two_pow (Nat.lt_of_lt_of_le hn (Nat.pow_le_pow_right (n := 2) (by decide) hk))
/-- how many are in a set -/
def bc (x : Int32) : Nat := (List.range 12).countP (bt x)
theorem bc_le (x : Int32) : bc x ≤ 12 := by
  have h := List.countP_le_length (p := bt x) (l := List.range 12)
  rwa [List.length_range] at h
-- frames: what a run may write
def Fr (P : Nat → Prop) (h h' : jxH) : Prop := h'.1 = h.1 ∧ h'.2.1 = h.2.1 ∧ ∀ x, ¬ P x → jx_at h' x = jx_at h x
theorem Fr.rfl {P : Nat → Prop} {h : jxH} : Fr P h h := ⟨Eq.refl _, Eq.refl _, fun _ _ => Eq.refl _⟩
theorem Fr.trans {P : Nat → Prop} {h h1 h2 : jxH} (a : Fr P h h1) (b : Fr P h1 h2) : Fr P h h2 :=
  ⟨b.1.trans a.1, b.2.1.trans a.2.1, fun x hx => (b.2.2 x hx).trans (a.2.2 x hx)⟩
theorem Fr.mono {P Q : Nat → Prop} {h h1 : jxH} (a : Fr P h h1) (k : ∀ x, P x → Q x) : Fr Q h h1 :=
  ⟨a.1, a.2.1, fun x hx => a.2.2 x fun hp => hx (k x hp)⟩
theorem Fr.set {P : Nat → Prop} {h : jxH} {a : Nat} {e : jxE} (k : P a) : Fr P h (jx_set h a e) :=
  ⟨Eq.refl _, Eq.refl _, fun x hx => jk_at_ne h e fun q => hx (q ▸ k)⟩
theorem Fr.cons {P : Nat → Prop} {h h1 : jxH} {a : Nat} {e : jxE} (f : Fr P h h1) (k : P a) : Fr P h (jx_set h1 a e) := f.trans (Fr.set k)
def jI (a n : Nat) : Nat → Prop := fun x => a ≤ x ∧ x < a + n
end
section
/-! The class's FOREST: what each of its methods answers and leaves -/
def jk_pc (x0 : Int32) : Int32 := ((((((((x0 - (((x0).toUInt32 >>> (((1 : Int32)).toUInt32 &&& Int32.toUInt32 31)).toInt32 &&& (1431655765 : Int32))) &&& (858993459 : Int32)) + ((((x0 - (((x0).toUInt32 >>> (((1 : Int32)).toUInt32 &&& Int32.toUInt32 31)).toInt32 &&& (1431655765 : Int32)))).toUInt32 >>> (((2 : Int32)).toUInt32 &&& Int32.toUInt32 31)).toInt32 &&& (858993459 : Int32))) + (((((x0 - (((x0).toUInt32 >>> (((1 : Int32)).toUInt32 &&& Int32.toUInt32 31)).toInt32 &&& (1431655765 : Int32))) &&& (858993459 : Int32)) + ((((x0 - (((x0).toUInt32 >>> (((1 : Int32)).toUInt32 &&& Int32.toUInt32 31)).toInt32 &&& (1431655765 : Int32)))).toUInt32 >>> (((2 : Int32)).toUInt32 &&& Int32.toUInt32 31)).toInt32 &&& (858993459 : Int32)))).toUInt32 >>> (((4 : Int32)).toUInt32 &&& Int32.toUInt32 31)).toInt32) &&& (252645135 : Int32)) + (((((((x0 - (((x0).toUInt32 >>> (((1 : Int32)).toUInt32 &&& Int32.toUInt32 31)).toInt32 &&& (1431655765 : Int32))) &&& (858993459 : Int32)) + ((((x0 - (((x0).toUInt32 >>> (((1 : Int32)).toUInt32 &&& Int32.toUInt32 31)).toInt32 &&& (1431655765 : Int32)))).toUInt32 >>> (((2 : Int32)).toUInt32 &&& Int32.toUInt32 31)).toInt32 &&& (858993459 : Int32))) + (((((x0 - (((x0).toUInt32 >>> (((1 : Int32)).toUInt32 &&& Int32.toUInt32 31)).toInt32 &&& (1431655765 : Int32))) &&& (858993459 : Int32)) + ((((x0 - (((x0).toUInt32 >>> (((1 : Int32)).toUInt32 &&& Int32.toUInt32 31)).toInt32 &&& (1431655765 : Int32)))).toUInt32 >>> (((2 : Int32)).toUInt32 &&& Int32.toUInt32 31)).toInt32 &&& (858993459 : Int32)))).toUInt32 >>> (((4 : Int32)).toUInt32 &&& Int32.toUInt32 31)).toInt32) &&& (252645135 : Int32))).toUInt32 >>> (((8 : Int32)).toUInt32 &&& Int32.toUInt32 31)).toInt32) + ((((((((x0 - (((x0).toUInt32 >>> (((1 : Int32)).toUInt32 &&& Int32.toUInt32 31)).toInt32 &&& (1431655765 : Int32))) &&& (858993459 : Int32)) + ((((x0 - (((x0).toUInt32 >>> (((1 : Int32)).toUInt32 &&& Int32.toUInt32 31)).toInt32 &&& (1431655765 : Int32)))).toUInt32 >>> (((2 : Int32)).toUInt32 &&& Int32.toUInt32 31)).toInt32 &&& (858993459 : Int32))) + (((((x0 - (((x0).toUInt32 >>> (((1 : Int32)).toUInt32 &&& Int32.toUInt32 31)).toInt32 &&& (1431655765 : Int32))) &&& (858993459 : Int32)) + ((((x0 - (((x0).toUInt32 >>> (((1 : Int32)).toUInt32 &&& Int32.toUInt32 31)).toInt32 &&& (1431655765 : Int32)))).toUInt32 >>> (((2 : Int32)).toUInt32 &&& Int32.toUInt32 31)).toInt32 &&& (858993459 : Int32)))).toUInt32 >>> (((4 : Int32)).toUInt32 &&& Int32.toUInt32 31)).toInt32) &&& (252645135 : Int32)) + (((((((x0 - (((x0).toUInt32 >>> (((1 : Int32)).toUInt32 &&& Int32.toUInt32 31)).toInt32 &&& (1431655765 : Int32))) &&& (858993459 : Int32)) + ((((x0 - (((x0).toUInt32 >>> (((1 : Int32)).toUInt32 &&& Int32.toUInt32 31)).toInt32 &&& (1431655765 : Int32)))).toUInt32 >>> (((2 : Int32)).toUInt32 &&& Int32.toUInt32 31)).toInt32 &&& (858993459 : Int32))) + (((((x0 - (((x0).toUInt32 >>> (((1 : Int32)).toUInt32 &&& Int32.toUInt32 31)).toInt32 &&& (1431655765 : Int32))) &&& (858993459 : Int32)) + ((((x0 - (((x0).toUInt32 >>> (((1 : Int32)).toUInt32 &&& Int32.toUInt32 31)).toInt32 &&& (1431655765 : Int32)))).toUInt32 >>> (((2 : Int32)).toUInt32 &&& Int32.toUInt32 31)).toInt32 &&& (858993459 : Int32)))).toUInt32 >>> (((4 : Int32)).toUInt32 &&& Int32.toUInt32 31)).toInt32) &&& (252645135 : Int32))).toUInt32 >>> (((8 : Int32)).toUInt32 &&& Int32.toUInt32 31)).toInt32)).toUInt32 >>> (((16 : Int32)).toUInt32 &&& Int32.toUInt32 31)).toInt32) &&& (63 : Int32))
set_option maxRecDepth 100000 in
theorem jk_pc_all : (List.range 4096).all (fun n => jk_pc (Int32.ofNat n) == Int32.ofNat ((List.range 12).countP fun k => n.testBit k)) = true := by decide +kernel
theorem jk_pc_bc {x : Int32} (hx : S12 x) : jk_pc x = Int32.ofNat (bc x) := by
  obtain ⟨n, hn, rfl⟩ := S12_nat hx
  have h := List.all_eq_true.mp jk_pc_all n (List.mem_range.mpr hn)
  rw [eq_of_beq h]
  unfold bc
  congr 1
  apply List.countP_congr
  intro k _
  rw [bt_ofNat hn]
section
variable {rc : Nat → Nat × (Nat → Int32)} {h : jxH} {a : Nat}
theorem jk_pop {x : Int32} (hx : S12 x) (d : Nat) : jx_C rc (d + 1) 328 [.int x] h = some (some (.int (Int32.ofNat (bc x))), h) := by
  rw [← jk_pc_bc hx, je_328]
  rfl
-- VERTICES with WEIGHTS, sets of NEIGHBOURS, the set of PLACES
abbrev jF := (Nat → Int32) × (Nat → Int32) × Int32
def fo_at (h : jxH) (a : Nat) (f : jF) : Prop := jx_at h a = jxO 1 [.ref (a + 1), .ref (a + 2), .int f.2.2] ∧ (∃ W : Nat → Int32, jx_at h (a + 1) = jxI 0 12 W ∧ ∀ k, k < 12 → W k = f.1 k) ∧ ∃ N : Nat → Int32, jx_at h (a + 2) = jxI 0 12 N ∧ ∀ k, k < 12 → N k = f.2.1 k
variable {f g : jF}
theorem fo_congr (H : fo_at h a f) (h1 : ∀ k, k < 12 → f.1 k = g.1 k) (h2 : ∀ k, k < 12 → f.2.1 k = g.2.1 k) (h3 : f.2.2 = g.2.2) : fo_at h a g := by
  obtain ⟨o, ⟨W, w1, w2⟩, N, n1, n2⟩ := H
  exact ⟨h3 ▸ o, ⟨W, w1, fun k hk => (w2 k hk).trans (h1 k hk)⟩, N, n1, fun k hk => (n2 k hk).trans (h2 k hk)⟩
theorem fo_fr {P : Nat → Prop} {h' : jxH} (F : Fr P h h') (hP : ∀ x, a ≤ x → x < a + 3 → ¬ P x) (H : fo_at h a f) : fo_at h' a f := by
  obtain ⟨o, ⟨W, w1, w2⟩, N, n1, n2⟩ := H
  exact ⟨(F.2.2 a (hP a (by omega) (by omega))).trans o, ⟨W, (F.2.2 _ (hP _ (by omega) (by omega))).trans w1, w2⟩, N, (F.2.2 _ (hP _ (by omega) (by omega))).trans n1, n2⟩
theorem fo_is (H : fo_at h a f) : jx_is (jx_at h a) 1 = true := by rw [H.1]; rfl
theorem fo_g0 (H : fo_at h a f) : jx_gR (jx_at h a) 1 0 = some (a + 1) := by rw [H.1]; rfl
theorem fo_g1 (H : fo_at h a f) : jx_gR (jx_at h a) 1 1 = some (a + 2) := by rw [H.1]; rfl
theorem fo_g2 (H : fo_at h a f) : jx_gI (jx_at h a) 1 2 = some f.2.2 := by rw [H.1]; rfl
theorem fo_w (H : fo_at h a f) {k : Nat} (hk : k < 12) : jx_aI (jx_at h (a + 1)) 0 (Int32.ofNat k) = some (f.1 k) := by
  obtain ⟨o, ⟨W, w1, w2⟩, N, n1, n2⟩ := H
  rw [w1, jk_aI hk (by decide), w2 k hk]
theorem fo_n (H : fo_at h a f) {k : Nat} (hk : k < 12) : jx_aI (jx_at h (a + 2)) 0 (Int32.ofNat k) = some (f.2.1 k) := by
  obtain ⟨o, ⟨W, w1, w2⟩, N, n1, n2⟩ := H
  rw [n1, jk_aI hk (by decide), n2 k hk]
theorem upd_lt {f g : Nat → Int32} {n : Nat} (e : ∀ k, k < n → f k = g k) (j : Nat) (x : Int32) : ∀ k, k < n → upd f j x k = upd g j x k := fun k hk => by
  unfold upd
  by_cases q : k = j
  · rw [if_pos q, if_pos q]
  · rw [if_neg q, if_neg q, e k hk]
theorem fo_sw (H : fo_at h a f) {k : Nat} (hk : k < 12) (x : Int32) : ∃ e, jx_sI (jx_at h (a + 1)) 0 (Int32.ofNat k) x = some e ∧ fo_at (jx_set h (a + 1) e) a (upd f.1 k x, f.2) := by
  obtain ⟨o, ⟨W, w1, w2⟩, N, n1, n2⟩ := H
  refine ⟨jxI 0 12 (upd W k x), by rw [w1, jk_sI hk (by decide)], ?_, ⟨upd W k x, jk_at_self .., upd_lt w2 k x⟩, N, ?_, n2⟩
  · rw [jk_at_ne _ _ (by omega)]; exact o
  · rw [jk_at_ne _ _ (by omega)]; exact n1
theorem fo_sn (H : fo_at h a f) {k : Nat} (hk : k < 12) (x : Int32) : ∃ e, jx_sI (jx_at h (a + 2)) 0 (Int32.ofNat k) x = some e ∧ fo_at (jx_set h (a + 2) e) a (f.1, upd f.2.1 k x, f.2.2) := by
  obtain ⟨o, ⟨W, w1, w2⟩, N, n1, n2⟩ := H
  refine ⟨jxI 0 12 (upd N k x), by rw [n1, jk_sI hk (by decide)], ?_, ⟨W, ?_, w2⟩, upd N k x, jk_at_self .., upd_lt n2 k x⟩
  · rw [jk_at_ne _ _ (by omega)]; exact o
  · rw [jk_at_ne _ _ (by omega)]; exact w1
theorem fo_ps (H : fo_at h a f) (s : Int32) : ∃ e, jx_pF (jx_at h a) 1 2 (.int s) = some e ∧ fo_at (jx_set h a e) a (f.1, f.2.1, s) := by
  obtain ⟨o, ⟨W, w1, w2⟩, N, n1, n2⟩ := H
  refine ⟨jxO 1 [.ref (a + 1), .ref (a + 2), .int s], by rw [o]; rfl, jk_at_self .., ⟨W, ?_, w2⟩, N, ?_, n2⟩
  · rw [jk_at_ne _ _ (by omega)]; exact w1
  · rw [jk_at_ne _ _ (by omega)]; exact n1
-- what it answers
def jF_has (f : jF) (p : Int32) : Bool := if p < 0 then false else if 12 ≤ p then false else bt f.2.2 p.toNatClampNeg
def jF_w (f : jF) (p : Int32) : Int32 := if p < 0 then 0 else if 12 ≤ p then 0 else f.1 p.toNatClampNeg
def jF_n (f : jF) (p : Int32) : Int32 := if p < 0 then 0 else if 12 ≤ p then 0 else f.2.1 p.toNatClampNeg
theorem jF_has_of {k : Nat} (hk : k < 12) : jF_has f (Int32.ofNat k) = bt f.2.2 k := by
  unfold jF_has; rw [if_neg (jk_nn (by omega)), if_neg (jk_n12 hk), jk_cl (by omega)]
theorem jF_w_of {k : Nat} (hk : k < 12) : jF_w f (Int32.ofNat k) = f.1 k := by
  unfold jF_w; rw [if_neg (jk_nn (by omega)), if_neg (jk_n12 hk), jk_cl (by omega)]
theorem jF_n_of {k : Nat} (hk : k < 12) : jF_n f (Int32.ofNat k) = f.2.1 k := by
  unfold jF_n; rw [if_neg (jk_nn (by omega)), if_neg (jk_n12 hk), jk_cl (by omega)]
theorem jF_has_iff {p : Int32} : jF_has f p = true ↔ ∃ k, k < 12 ∧ p = Int32.ofNat k ∧ bt f.2.2 k = true := by
  constructor
  · intro q
    unfold jF_has at q
    split at q
    · cases q
    · split at q
      · cases q
      · obtain ⟨k, hk, rfl⟩ := jk_place (by assumption) (by assumption)
        rw [jk_cl (by omega)] at q
        exact ⟨k, hk, rfl, q⟩
  · rintro ⟨k, hk, rfl, q⟩
    rw [jF_has_of hk]; exact q
theorem fo_has (H : fo_at h a f) (d : Nat) (p : Int32) : jx_C rc (d + 1) 226 [.ref a, .int p] h = some (some (.int (jk_b (jF_has f p))), h) := by
  rw [je_226, if_pos (fo_is H)]
  unfold jF_has
  split
  · rfl
  · split
    · rfl
    · obtain ⟨k, hk, rfl⟩ := jk_place (by assumption) (by assumption)
      rw [fo_g2 H, jk_bs, bt_sr _ (by omega), jk_cl (by omega)]
      cases bt f.2.2 k <;> rfl
theorem fo_size (H : fo_at h a f) (hs : S12 f.2.2) (d : Nat) : jx_C rc (d + 2) 227 [.ref a] h = some (some (.int (Int32.ofNat (bc f.2.2))), h) := by
  rw [je_227, if_pos (fo_is H), fo_g2 H, jk_bs, jk_pop hs, jk_cI]
theorem fo_weightAt (H : fo_at h a f) (d : Nat) (p : Int32) : jx_C rc (d + 1) 228 [.ref a, .int p] h = some (some (.int (jF_w f p)), h) := by
  rw [je_228, if_pos (fo_is H)]
  unfold jF_w
  split
  · rfl
  · split
    · rfl
    · obtain ⟨k, hk, rfl⟩ := jk_place (by assumption) (by assumption)
      rw [fo_g0 H, jk_bs, fo_w H hk, jk_bs, jk_cl (by omega)]
theorem fo_nearsAt (H : fo_at h a f) (d : Nat) (p : Int32) : jx_C rc (d + 1) 229 [.ref a, .int p] h = some (some (.int (jF_n f p)), h) := by
  rw [je_229, if_pos (fo_is H)]
  unfold jF_n
  split
  · rfl
  · split
    · rfl
    · obtain ⟨k, hk, rfl⟩ := jk_place (by assumption) (by assumption)
      rw [fo_g1 H, jk_bs, fo_n H hk, jk_bs, jk_cl (by omega)]
theorem fo_degree (H : fo_at h a f) (hn : ∀ k, k < 12 → S12 (f.2.1 k)) (d : Nat) (p : Int32) : jx_C rc (d + 2) 230 [.ref a, .int p] h = some (some (.int (Int32.ofNat (bc (jF_n f p)))), h) := by
  rw [je_230, if_pos (fo_is H)]
  unfold jF_n
  split
  · rfl
  · split
    · rfl
    · obtain ⟨k, hk, rfl⟩ := jk_place (by assumption) (by assumption)
      rw [fo_g1 H, jk_bs, fo_n H hk, jk_bs, jk_cl (by omega), jk_pop (hn k hk), jk_cI]
def jF_near (f : jF) (p q : Int32) : Bool := if p < 0 then false else if 12 ≤ p then false else if q < 0 then false else if 12 ≤ q then false else bt (f.2.1 p.toNatClampNeg) q.toNatClampNeg
theorem jF_near_of {k j : Nat} (hk : k < 12) (hj : j < 12) : jF_near f (Int32.ofNat k) (Int32.ofNat j) = bt (f.2.1 k) j := by
  unfold jF_near; rw [if_neg (jk_nn (by omega)), if_neg (jk_n12 hk), if_neg (jk_nn (by omega)), if_neg (jk_n12 hj), jk_cl (by omega), jk_cl (by omega)]
theorem fo_areNear (H : fo_at h a f) (d : Nat) (p q : Int32) : jx_C rc (d + 1) 231 [.ref a, .int p, .int q] h = some (some (.int (jk_b (jF_near f p q))), h) := by
  rw [je_231, if_pos (fo_is H)]
  unfold jF_near
  split
  · rfl
  · split
    · rfl
    · split
      · rfl
      · split
        · rfl
        · obtain ⟨k, hk, rfl⟩ := jk_place (x := p) (by assumption) (by assumption)
          obtain ⟨j, hj, rfl⟩ := jk_place (x := q) (by assumption) (by assumption)
          rw [fo_g1 H, jk_bs, fo_n H hk, jk_bs, bt_sr _ (by omega), jk_cl (by omega), jk_cl (by omega)]
          cases bt (f.2.1 k) j <;> rfl
-- sums over places
def jk_sum (g : Nat → Int32) : Nat → Int32
  | 0 => 0
  | n + 1 => jk_sum g n + g n
theorem jk_sum_congr {g g' : Nat → Int32} : ∀ (n : Nat), (∀ k, k < n → g k = g' k) → jk_sum g n = jk_sum g' n
  | 0, _ => rfl
  | n + 1, e => by
    show jk_sum g n + g n = jk_sum g' n + g' n
    rw [jk_sum_congr n (fun k hk => e k (by omega)), e n (by omega)]
theorem fo_edges_l (H : fo_at h a f) (hn : ∀ k, k < 12 → S12 (f.2.1 k)) (d : Nat) : ∀ (m k : Nat), k + m = 12 → jb_232 rc (d + 1) 4 [(0, .ref a), (1, .int (jk_sum (fun p => Int32.ofNat (bc (f.2.1 p))) k)), (2, .int (Int32.ofNat k))] [] h = some (some (.int (jk_sum (fun p => Int32.ofNat (bc (f.2.1 p))) 12 / 2)), h)
  | 0, k, e => by
    obtain rfl : k = 12 := by omega
    rw [je_232_4]; rfl
  | m + 1, k, e => by
    have hk : k < 12 := by omega
    rw [je_232_4, if_neg (jk_n12 hk), fo_g1 H, jk_bs, fo_n H hk, jk_bs, jk_pop (hn k hk), jk_cI, jk_succ]
    exact fo_edges_l H hn d m (k + 1) (by omega)
theorem fo_edges (H : fo_at h a f) (hn : ∀ k, k < 12 → S12 (f.2.1 k)) (d : Nat) : jx_C rc (d + 2) 232 [.ref a] h = some (some (.int (jk_sum (fun p => Int32.ofNat (bc (f.2.1 p))) 12 / 2)), h) := by
  rw [je_232, if_pos (fo_is H)]
  exact fo_edges_l H hn d 12 0 (by omega)
def jF_trees (f : jF) : Int32 := Int32.ofNat (bc f.2.2) - jk_sum (fun p => Int32.ofNat (bc (f.2.1 p))) 12 / 2
theorem fo_trees (H : fo_at h a f) (hs : S12 f.2.2) (hn : ∀ k, k < 12 → S12 (f.2.1 k)) (d : Nat) : jx_C rc (d + 3) 233 [.ref a] h = some (some (.int (jF_trees f)), h) := by
  rw [je_233, if_pos (fo_is H), fo_size H hs, jk_cI, fo_edges H hn, jk_cI]
  rfl
theorem fo_weightSum_l (H : fo_at h a f) (d : Nat) : ∀ (m k : Nat), k + m = 12 → jb_234 rc d 4 [(0, .ref a), (1, .int (jk_sum f.1 k)), (2, .int (Int32.ofNat k))] [] h = some (some (.int (jk_sum f.1 12)), h)
  | 0, k, e => by
    obtain rfl : k = 12 := by omega
    rw [je_234_4]; rfl
  | m + 1, k, e => by
    have hk : k < 12 := by omega
    rw [je_234_4, if_neg (jk_n12 hk), fo_g0 H, jk_bs, fo_w H hk, jk_bs, jk_succ]
    exact fo_weightSum_l H d m (k + 1) (by omega)
theorem fo_weightSum (H : fo_at h a f) (d : Nat) : jx_C rc (d + 1) 234 [.ref a] h = some (some (.int (jk_sum f.1 12)), h) := by
  rw [je_234, if_pos (fo_is H)]
  exact fo_weightSum_l H d 12 0 (by omega)
end
end
section
/-! The class's static helpers, and what of the reference is like them -/
section
variable {rc : Nat → Nat × (Nat → Int32)} {h : jxH}
theorem jk_r0 : (jx_bool (0 : Int32) = true) = True := by simp [jx_bool]
theorem jk_r1 : (jx_bool (1 : Int32) = true) = True := by simp [jx_bool]
def jp_place (p : Int32) : Bool := if p < 0 then false else if 12 ≤ p then false else true
def jp_in (p s : Int32) : Bool := if p < 0 then false else if 12 ≤ p then false else bt s p.toNatClampNeg
def jp_wt (w : Int32) : Bool := if w < -30 then false else if 30 < w then false else true
def jp_part (x : Int32) : Bool := if x = 0 then true else if x = 1 then true else false
def jp_prime (x : Int32) : Bool := if x = 2 then true else if x = 3 then true else if x = 5 then true else if x = 7 then true else if x = 11 then true else if x = 13 then true else false
def jp_kind (x : Int32) : Bool := if x < 0 then false else if 6 ≤ x then false else true
def jp_start (x : Int32) : Bool := if x < 0 then false else if 9 < x then false else true
def jp_chain (x y : Int32) : Bool := if x < 2 then false else if 999 < x then false else if y < 1 then false else if x ≤ y then false else true
theorem jp_place_iff {p : Int32} : jp_place p = true ↔ ∃ k, k < 12 ∧ p = Int32.ofNat k := by
  unfold jp_place
  constructor
  · intro q
    split at q
    · cases q
    · split at q
      · cases q
      · exact jk_place (by assumption) (by assumption)
  · rintro ⟨k, hk, rfl⟩
    rw [if_neg (jk_nn (by omega)), if_neg (jk_n12 hk)]
theorem jp_place_of {k : Nat} (hk : k < 12) : jp_place (Int32.ofNat k) = true := jp_place_iff.mpr ⟨k, hk, rfl⟩
theorem jp_in_of {k : Nat} (hk : k < 12) (s : Int32) : jp_in (Int32.ofNat k) s = bt s k := by
  unfold jp_in; rw [if_neg (jk_nn (by omega)), if_neg (jk_n12 hk), jk_cl (by omega)]
theorem jp_in_neg {p : Int32} (hp : p < 0) (s : Int32) : jp_in p s = false := by
  unfold jp_in; rw [if_pos hp]
theorem cl_isPlace (d : Nat) (p : Int32) : jx_C rc (d + 1) 59 [.int p] h = some (some (.int (jk_b (jp_place p))), h) := by
  rw [je_59]; unfold jp_place; simp only [jk_r0, jk_r1, if_true]; repeat' split
  all_goals rfl
theorem cl_isIn (d : Nat) (p s : Int32) : jx_C rc (d + 1) 60 [.int p, .int s] h = some (some (.int (jk_b (jp_in p s))), h) := by
  rw [je_60]
  unfold jp_in
  split
  · rfl
  · split
    · rfl
    · obtain ⟨k, hk, rfl⟩ := jk_place (by assumption) (by assumption)
      rw [bt_sr _ (by omega), jk_cl (by omega)]
      cases bt s k <;> rfl
theorem cl_isWeight (d : Nat) (p : Int32) : jx_C rc (d + 1) 61 [.int p] h = some (some (.int (jk_b (jp_wt p))), h) := by
  rw [je_61]; unfold jp_wt; simp only [jk_r0, jk_r1, if_true]; repeat' split
  all_goals rfl
theorem cl_isPart (d : Nat) (p : Int32) : jx_C rc (d + 1) 62 [.int p] h = some (some (.int (jk_b (jp_part p))), h) := by
  rw [je_62]; unfold jp_part; simp only [jk_r0, jk_r1, if_true]; repeat' split
  all_goals rfl
theorem cl_isPrime (d : Nat) (p : Int32) : jx_C rc (d + 1) 63 [.int p] h = some (some (.int (jk_b (jp_prime p))), h) := by
  rw [je_63]; unfold jp_prime; simp only [jk_r0, jk_r1, if_true]; repeat' split
  all_goals rfl
theorem cl_isKind (d : Nat) (p : Int32) : jx_C rc (d + 1) 64 [.int p] h = some (some (.int (jk_b (jp_kind p))), h) := by
  rw [je_64]; unfold jp_kind; simp only [jk_r0, jk_r1, if_true]; repeat' split
  all_goals rfl
theorem cl_isStart (d : Nat) (p : Int32) : jx_C rc (d + 1) 65 [.int p] h = some (some (.int (jk_b (jp_start p))), h) := by
  rw [je_65]; unfold jp_start; simp only [jk_r0, jk_r1, if_true]; repeat' split
  all_goals rfl
theorem cl_isChain (d : Nat) (p q : Int32) : jx_C rc (d + 1) 66 [.int p, .int q] h = some (some (.int (jk_b (jp_chain p q))), h) := by
  rw [je_66]; unfold jp_chain; simp only [jk_r0, jk_r1, if_true]; repeat' split
  all_goals rfl
-- the least and the greatest of a set
def jk_lo (s : Int32) : Nat → Nat → Option Nat
  | 0, _ => none
  | m + 1, k => if bt s k then some k else jk_lo s m (k + 1)
def jk_hi (s : Int32) : Nat → Option Nat
  | 0 => none
  | m + 1 => if bt s m then some m else jk_hi s m
def jk_on : Option Nat → Int32
  | none => -1
  | some k => Int32.ofNat k
def lo (s : Int32) : Option Nat := jk_lo s 12 0
def hi (s : Int32) : Option Nat := jk_hi s 12
theorem jk_lo_some {s : Int32} : ∀ {m k j : Nat}, jk_lo s m k = some j ↔ k ≤ j ∧ j < k + m ∧ bt s j = true ∧ ∀ i, k ≤ i → i < j → bt s i = false
  | 0, k, j => by
    unfold jk_lo
    constructor
    · intro q; cases q
    · rintro ⟨h1, h2, -⟩; omega
  | m + 1, k, j => by
    unfold jk_lo
    by_cases hb : bt s k = true
    · rw [if_pos hb]
      constructor
      · intro q; cases q; exact ⟨Nat.le_refl _, by omega, hb, fun i h1 h2 => by omega⟩
      · rintro ⟨h1, h2, h3, h4⟩
        by_cases hk : k = j
        · rw [hk]
        · have := h4 k (Nat.le_refl _) (by omega)
          rw [hb] at this; cases this
    · rw [if_neg hb, jk_lo_some]
      constructor
      · rintro ⟨h1, h2, h3, h4⟩
        refine ⟨by omega, by omega, h3, fun i h5 h6 => ?_⟩
        by_cases hi : i = k
        · rw [hi]; simpa using hb
        · exact h4 i (by omega) h6
      · rintro ⟨h1, h2, h3, h4⟩
        have hk : k ≠ j := fun q => hb (q ▸ h3)
        exact ⟨by omega, by omega, h3, fun i h5 h6 => h4 i (by omega) h6⟩
theorem jk_lo_none {s : Int32} : ∀ {m k : Nat}, jk_lo s m k = none ↔ ∀ i, k ≤ i → i < k + m → bt s i = false
  | 0, k => ⟨fun _ i h1 h2 => by omega, fun _ => rfl⟩
  | m + 1, k => by
    unfold jk_lo
    by_cases hb : bt s k = true
    · rw [if_pos hb]
      constructor
      · intro q; cases q
      · intro q; rw [q k (Nat.le_refl _) (by omega)] at hb; cases hb
    · rw [if_neg hb, jk_lo_none]
      constructor
      · intro q i h1 h2
        by_cases hi : i = k
        · rw [hi]; simpa using hb
        · exact q i (by omega) (by omega)
      · intro q i h1 h2
        exact q i (by omega) (by omega)
theorem lo_some {s : Int32} {j : Nat} : lo s = some j ↔ j < 12 ∧ bt s j = true ∧ ∀ i, i < j → bt s i = false := by
  unfold lo
  rw [jk_lo_some]
  constructor
  · rintro ⟨h1, h2, h3, h4⟩; exact ⟨by omega, h3, fun i hi => h4 i (by omega) hi⟩
  · rintro ⟨h1, h2, h3⟩; exact ⟨by omega, by omega, h2, fun i _ hi => h3 i hi⟩
theorem lo_none {s : Int32} : lo s = none ↔ ∀ i, i < 12 → bt s i = false := by
  unfold lo
  rw [jk_lo_none]
  constructor
  · intro q i hi; exact q i (by omega) (by omega)
  · intro q i _ hi; exact q i (by omega)
theorem jk_hi_some {s : Int32} : ∀ {m j : Nat}, jk_hi s m = some j ↔ j < m ∧ bt s j = true ∧ ∀ i, j < i → i < m → bt s i = false
  | 0, j => by
    unfold jk_hi
    constructor
    · intro q; cases q
    · rintro ⟨h1, -⟩; omega
  | m + 1, j => by
    unfold jk_hi
    by_cases hb : bt s m = true
    · rw [if_pos hb]
      constructor
      · intro q; cases q; exact ⟨by omega, hb, fun i h1 h2 => by omega⟩
      · rintro ⟨h1, h2, h3⟩
        by_cases hk : m = j
        · rw [hk]
        · have := h3 m (by omega) (by omega)
          rw [hb] at this; cases this
    · rw [if_neg hb, jk_hi_some]
      constructor
      · rintro ⟨h1, h2, h3⟩
        refine ⟨by omega, h2, fun i h5 h6 => ?_⟩
        by_cases hi : i = m
        · rw [hi]; simpa using hb
        · exact h3 i h5 (by omega)
      · rintro ⟨h1, h2, h3⟩
        have hk : m ≠ j := fun q => hb (q ▸ h2)
        exact ⟨by omega, h2, fun i h5 h6 => h3 i h5 (by omega)⟩
theorem jk_hi_none {s : Int32} : ∀ {m : Nat}, jk_hi s m = none ↔ ∀ i, i < m → bt s i = false
  | 0 => ⟨fun _ i h1 => by omega, fun _ => rfl⟩
  | m + 1 => by
    unfold jk_hi
    by_cases hb : bt s m = true
    · rw [if_pos hb]
      constructor
      · intro q; cases q
      · intro q; rw [q m (by omega)] at hb; cases hb
    · rw [if_neg hb, jk_hi_none]
      constructor
      · intro q i h1
        by_cases hi : i = m
        · rw [hi]; simpa using hb
        · exact q i (by omega)
      · intro q i h1
        exact q i (by omega)
theorem hi_some {s : Int32} {j : Nat} : hi s = some j ↔ j < 12 ∧ bt s j = true ∧ ∀ i, j < i → i < 12 → bt s i = false := jk_hi_some
theorem hi_none {s : Int32} : hi s = none ↔ ∀ i, i < 12 → bt s i = false := jk_hi_none
theorem cl_leastOf_l (d : Nat) (s : Int32) : ∀ (m k : Nat), k + m = 12 → jb_67 rc d 2 [(0, .int s), (1, .int (Int32.ofNat k))] [] h = some (some (.int (jk_on (jk_lo s m k))), h)
  | 0, k, e => by
    obtain rfl : k = 12 := by omega
    rw [je_67_2]; rfl
  | m + 1, k, e => by
    have hk : k < 12 := by omega
    rw [je_67_2, if_neg (jk_n12 hk), bt_sr _ (by omega), jk_ite, jk_succ]
    unfold jk_lo
    split
    · rfl
    · exact cl_leastOf_l d s m (k + 1) (by omega)
theorem cl_leastOf (d : Nat) (s : Int32) : jx_C rc (d + 1) 67 [.int s] h = some (some (.int (jk_on (lo s))), h) := by
  rw [je_67]; exact cl_leastOf_l d s 12 0 (by omega)
theorem jk_dec (k : Nat) : Int32.ofNat (k + 1) + (-1) = Int32.ofNat k := by
  rw [← jk_succ, Int32.add_assoc]; simp
theorem cl_greatestOf_l (d : Nat) (s : Int32) : ∀ (m : Nat), m < 12 → jb_68 rc d 2 [(0, .int s), (1, .int (Int32.ofNat m))] [] h = some (some (.int (jk_on (jk_hi s (m + 1)))), h)
  | 0, e => by
    rw [je_68_2, if_neg (jk_nn (by omega)), bt_sr _ (by omega), jk_ite]
    unfold jk_hi
    split
    · rfl
    · rw [je_68_2, if_pos (by decide)]; rfl
  | m + 1, e => by
    rw [je_68_2, if_neg (jk_nn (by omega)), bt_sr _ (by omega), jk_ite, jk_dec]
    conv => rhs; unfold jk_hi
    split
    · rfl
    · exact cl_greatestOf_l d s m (by omega)
theorem cl_greatestOf (d : Nat) (s : Int32) : jx_C rc (d + 1) 68 [.int s] h = some (some (.int (jk_on (hi s))), h) := by
  rw [je_68]; exact cl_greatestOf_l d s 11 (by omega)
-- the reference's
theorem jk_l64 (x y : Int32) : (x.toInt64 < y.toInt64) ↔ x < y := by
  rw [Int64.lt_iff_toInt_lt, Int32.lt_iff_toInt_lt, Int32.toInt_toInt64, Int32.toInt_toInt64]
theorem jk_le64 (x y : Int32) : (x.toInt64 ≤ y.toInt64) ↔ x ≤ y := by
  rw [Int64.le_iff_toInt_le, Int32.le_iff_toInt_le, Int32.toInt_toInt64, Int32.toInt_toInt64]
def jp_bt (v a b : Int64) : Bool := if v < a then false else if b < v then false else true
theorem lg_lt0 (x y : Int64) : (lg_cmp x y < 0) ↔ x < y := by
  have h := lg_cmp_ge x y
  constructor
  · intro q
    rw [Int64.lt_iff_toInt_lt]
    rw [Int64.le_iff_toInt_le] at h
    have : ¬ (0 : Int32) ≤ lg_cmp x y := by rw [Int32.le_iff_toInt_le]; rw [Int32.lt_iff_toInt_lt] at q; omega
    have := mt h.mpr this
    omega
  · intro q
    rw [Int32.lt_iff_toInt_lt]
    have : ¬ (0 : Int32) ≤ lg_cmp x y := fun w => by
      have := h.mp w
      rw [Int64.le_iff_toInt_le] at this
      rw [Int64.lt_iff_toInt_lt] at q
      omega
    rw [Int32.le_iff_toInt_le] at this
    omega
theorem lg_gt0 (x y : Int64) : (0 < lg_cmp x y) ↔ y < x := by
  have h := lg_cmp_le x y
  constructor
  · intro q
    rw [Int64.lt_iff_toInt_lt]
    rw [Int64.le_iff_toInt_le] at h
    have : ¬ lg_cmp x y ≤ 0 := by rw [Int32.le_iff_toInt_le]; rw [Int32.lt_iff_toInt_lt] at q; omega
    have := mt h.mpr this
    omega
  · intro q
    rw [Int32.lt_iff_toInt_lt]
    have : ¬ lg_cmp x y ≤ 0 := fun w => by
      have := h.mp w
      rw [Int64.le_iff_toInt_le] at this
      rw [Int64.lt_iff_toInt_lt] at q
      omega
    rw [Int32.le_iff_toInt_le] at this
    omega
theorem lg_eq0 (x y : Int64) : (lg_cmp x y = 0) ↔ x = y := by
  have h1 := lg_cmp_le x y
  have h2 := lg_cmp_ge x y
  rw [← Int32.toInt_inj, ← Int64.toInt_inj]
  rw [Int32.le_iff_toInt_le, Int64.le_iff_toInt_le] at h1 h2
  have h0 : (0 : Int32).toInt = 0 := by decide
  rw [h0] at h1 h2 ⊢
  constructor
  · intro q; have a := h1.mp (by omega); have b := h2.mp (by omega); omega
  · intro q; have a := h1.mpr (by omega); have b := h2.mpr (by omega); omega
theorem rf_in (d : Nat) (v a b : Int64) : jx_C rc (d + 1) 72 [.long v, .long a, .long b] h = some (some (.int (jk_b (jp_bt v a b))), h) := by
  rw [je_72]; unfold jp_bt
  simp only [lg_lt0, lg_gt0, jk_r0, jk_r1, if_true]; repeat' split
  all_goals rfl
theorem jp_bt_place (p : Int32) : jp_bt p.toInt64 0 11 = jp_place p := by
  unfold jp_bt jp_place
  rw [show (0 : Int64) = (0 : Int32).toInt64 from rfl, show (11 : Int64) = (11 : Int32).toInt64 from rfl]
  simp only [jk_l64]
  have : ((11 : Int32) < p) ↔ (12 : Int32) ≤ p := by
    rw [Int32.lt_iff_toInt_lt, Int32.le_iff_toInt_le, show (11 : Int32).toInt = 11 from rfl, show (12 : Int32).toInt = 12 from rfl]
    omega
  simp only [this]
theorem jp_bt_wt (p : Int32) : jp_bt p.toInt64 (-30) 30 = jp_wt p := by
  unfold jp_bt jp_wt
  rw [show (-30 : Int64) = (-30 : Int32).toInt64 from rfl, show (30 : Int64) = (30 : Int32).toInt64 from rfl]
  simp only [jk_l64]
theorem rf_has (d : Nat) (s : Int32) {k : Nat} (hk : k < 32) : jx_C rc (d + 1) 75 [.int s, .int (Int32.ofNat k)] h = some (some (.int (jk_b (bt s k))), h) := by
  rw [je_75, bt_sr _ hk]
  cases bt s k <;> rfl
theorem rf_many_l (d : Nat) (s : Int32) : ∀ (m k : Nat), k + m = 12 → jb_76 rc d 4 [(0, .int s), (1, .int (Int32.ofNat ((List.range k).countP (bt s)))), (2, .int (Int32.ofNat k))] [] h = some (some (.int (Int32.ofNat (bc s))), h)
  | 0, k, e => by
    obtain rfl : k = 12 := by omega
    rw [je_76_4]; rfl
  | m + 1, k, e => by
    have hk : k < 12 := by omega
    rw [je_76_4, if_neg (jk_n12 hk), bt_sr _ (by omega), jk_succ]
    have : Int32.ofNat ((List.range k).countP (bt s)) + jk_b (bt s k) = Int32.ofNat ((List.range (k + 1)).countP (bt s)) := by
      rw [List.range_succ, List.countP_append]
      cases hb : bt s k
      · simp [hb, jk_b, List.countP_cons]
      · simp [hb, jk_b, List.countP_cons]
    rw [this]
    exact rf_many_l d s m (k + 1) (by omega)
theorem rf_many (d : Nat) (s : Int32) : jx_C rc (d + 1) 76 [.int s] h = some (some (.int (Int32.ofNat (bc s))), h) := by
  rw [je_76]; exact rf_many_l d s 12 0 (by omega)
/-- the lowest bit of a number that has one below 32 -/
theorem rf_lowest_l (d : Nat) (s : Int32) {j : Nat} (hj : j < 32) (hb : bt s j = true) (hl : ∀ i, i < j → bt s i = false) : ∀ (m k : Nat), k + m = j → jb_77 rc (d + 1) 2 [(0, .int s), (1, .int (Int32.ofNat k))] [] h = some (some (.int (Int32.ofNat j)), h)
  | 0, k, e => by
    obtain rfl : k = j := by omega
    rw [je_77_2, rf_has d s hj, hb, jk_cI, jk_ite, if_pos rfl]
  | m + 1, k, e => by
    rw [je_77_2, rf_has d s (by omega), hl k (by omega), jk_cI, jk_ite, if_neg (by decide), jk_succ]
    exact rf_lowest_l d s hj hb hl m (k + 1) (by omega)
theorem rf_lowest (d : Nat) {s : Int32} {j : Nat} (hs : lo s = some j) : jx_C rc (d + 2) 77 [.int s] h = some (some (.int (Int32.ofNat j)), h) := by
  obtain ⟨h1, h2, h3⟩ := lo_some.mp hs
  rw [je_77]; exact rf_lowest_l d s (by omega) h2 h3 j 0 (by omega)
theorem rf_lowest' (d : Nat) {s : Int32} {j : Nat} (hj : j < 32) (h2 : bt s j = true) (h3 : ∀ i, i < j → bt s i = false) : jx_C rc (d + 2) 77 [.int s] h = some (some (.int (Int32.ofNat j)), h) := by
  rw [je_77]; exact rf_lowest_l d s hj h2 h3 j 0 (by omega)
end
end
section
/-! The class's FOREST: what its methods change -/
def jf_setw (f : jF) (k : Nat) (x : Int32) : jF := (upd f.1 k x, f.2)
def jf_join (f : jF) (p q : Nat) : jF := (f.1, upd (upd f.2.1 p (f.2.1 p ||| jk_bit q)) q (upd f.2.1 p (f.2.1 p ||| jk_bit q) q ||| jk_bit p), f.2.2)
def jf_part (f : jF) (p q : Nat) : jF := (f.1, upd (upd f.2.1 p (f.2.1 p &&& (jk_bit q ^^^ (-1)))) q (upd f.2.1 p (f.2.1 p &&& (jk_bit q ^^^ (-1))) q &&& (jk_bit p ^^^ (-1))), f.2.2)
def jf_rem (f : jF) (p : Nat) : jF := (upd f.1 p 0, upd (fun q => f.2.1 q &&& (jk_bit p ^^^ (-1))) p 0, f.2.2 &&& (jk_bit p ^^^ (-1)))
def jf_mirror (f : jF) : jF := (fun k => -f.1 k, f.2)
def jf_grow (f : jF) (k : Nat) (x : Int32) : jF := (upd f.1 k x, f.2.1, f.2.2 ||| jk_bit k)
def jf_joins (f : jF) (p : Nat) (s : Int32) : Nat → jF
  | 0 => f
  | n + 1 => if bt s n then jf_join (jf_joins f p s n) p n else jf_joins f p s n
def jf_parts (f : jF) (p : Nat) (s : Int32) : Nat → jF
  | 0 => f
  | n + 1 => if bt s n then jf_part (jf_parts f p s n) p n else jf_parts f p s n
def jf_0 : jF := (fun _ => 0, fun _ => 0, 0)
theorem upd_at (f : Nat → Int32) (k : Nat) (x : Int32) : upd f k x k = x := by unfold upd; rw [if_pos rfl]
theorem upd_ne (f : Nat → Int32) {k j : Nat} (x : Int32) (h : j ≠ k) : upd f k x j = f j := by unfold upd; rw [if_neg h]
theorem jk_setpF {h : jxH} {a b : Nat} {e : jxE} (hb : b ≠ a) (c k : Nat) (v : Value) : jx_pF (jx_at (jx_set h a e) b) c k v = jx_pF (jx_at h b) c k v := by rw [jk_at_ne _ _ hb]
section
variable {rc : Nat → Nat × (Nat → Int32)} {h : jxH} {a : Nat} {f g : jF}
theorem jI_0 {a n x : Nat} (hx : x < n) : jI a n (a + x) := ⟨by omega, by omega⟩
theorem fo_setWeight (H : fo_at h a f) {k : Nat} (hk : k < 12) (hs : bt f.2.2 k = true) (x : Int32) : ∃ h', (∀ d, jx_C rc (d + 2) 237 [.ref a, .int (Int32.ofNat k), .int x] h = some (none, h')) ∧ fo_at h' a (jf_setw f k x) ∧ Fr (jI a 3) h h' := by
  obtain ⟨e, e1, e2⟩ := fo_sw H hk x
  refine ⟨_, fun d => ?_, e2, Fr.set (jI_0 (by decide))⟩
  rw [je_237, if_pos (fo_is H), fo_has H, jF_has_of hk, hs, jk_cI, jk_ite, if_pos rfl, fo_g0 H, jk_bs, e1]
  rfl
theorem fo_addWeight (H : fo_at h a f) {k : Nat} (hk : k < 12) (hs : bt f.2.2 k = true) (x : Int32) : ∃ h', (∀ d, jx_C rc (d + 2) 238 [.ref a, .int (Int32.ofNat k), .int x] h = some (none, h')) ∧ fo_at h' a (jf_setw f k (f.1 k + x)) ∧ Fr (jI a 3) h h' := by
  obtain ⟨e, e1, e2⟩ := fo_sw H hk (f.1 k + x)
  refine ⟨_, fun d => ?_, e2, Fr.set (jI_0 (by decide))⟩
  rw [je_238, if_pos (fo_is H), fo_has H, jF_has_of hk, hs, jk_cI, jk_ite, if_pos rfl, fo_g0 H, jk_bs, fo_w H hk, jk_bs, e1]
  rfl
theorem fo_addWeight_no (H : fo_at h a f) {p : Int32} (hp : jF_has f p = false) (x : Int32) (d : Nat) : jx_C rc (d + 2) 238 [.ref a, .int p, .int x] h = some (none, h) := by
  rw [je_238, if_pos (fo_is H), fo_has H, hp, jk_cI, jk_ite, if_neg (by decide)]
theorem fo_setWeight_no (H : fo_at h a f) {p : Int32} (hp : jF_has f p = false) (x : Int32) (d : Nat) : jx_C rc (d + 2) 237 [.ref a, .int p, .int x] h = some (none, h) := by
  rw [je_237, if_pos (fo_is H), fo_has H, hp, jk_cI, jk_ite, if_neg (by decide)]
theorem fo_mirror_l : ∀ (m k : Nat) (h : jxH), k + m = 12 → fo_at h a (fun j => if j < k then -f.1 j else f.1 j, f.2) → ∃ h', (∀ d, jb_239 rc d 2 [(0, .ref a), (1, .int (Int32.ofNat k))] [] h = some (none, h')) ∧ fo_at h' a (jf_mirror f) ∧ Fr (jI a 3) h h'
  | 0, k, h, e, H => by
    obtain rfl : k = 12 := by omega
    refine ⟨h, fun d => by rw [je_239_2]; rfl, fo_congr H (fun j hj => ?_) (fun _ _ => rfl) rfl, Fr.rfl⟩
    simp [hj, jf_mirror]
  | m + 1, k, h, e, H => by
    have hk : k < 12 := by omega
    obtain ⟨e, e1, e2⟩ := fo_sw H hk (-f.1 k)
    obtain ⟨h', i1, i2, i3⟩ := fo_mirror_l m (k + 1) (jx_set h (a + 1) e) (by omega) (fo_congr e2 (fun j hj => by
      show upd _ _ _ _ = _
      by_cases hjk : j = k
      · rw [hjk, upd_at]; simp
      · rw [upd_ne _ _ hjk]
        by_cases hlt : j < k
        · simp [hlt, show j < k + 1 by omega]
        · simp [hlt, show ¬ j < k + 1 by omega]) (fun _ _ => rfl) rfl)
    refine ⟨h', fun d => ?_, i2, Fr.trans (Fr.set (jI_0 (by decide))) i3⟩
    have hw := fo_w H hk
    simp only [Nat.lt_irrefl, if_false] at hw
    rw [je_239_2, if_neg (jk_n12 hk), fo_g0 H, jk_bs, jk_bs, hw, jk_bs, e1, jk_bs, jk_succ]
    exact i1 d
theorem fo_mirror (H : fo_at h a f) : ∃ h', (∀ d, jx_C rc (d + 1) 239 [.ref a] h = some (none, h')) ∧ fo_at h' a (jf_mirror f) ∧ Fr (jI a 3) h h' := by
  obtain ⟨h', i1, i2, i3⟩ := fo_mirror_l (rc := rc) (f := f) 12 0 h (by omega) (fo_congr H (fun j hj => by simp) (fun _ _ => rfl) rfl)
  refine ⟨h', fun d => ?_, i2, i3⟩
  rw [je_239, if_pos (fo_is H)]
  exact i1 d
theorem fo_grow (H : fo_at h a f) {k : Nat} (hk : lo (f.2.2 ^^^ (-1)) = some k) (x : Int32) : ∃ h', (∀ d, jx_C rc (d + 2) 240 [.ref a, .int x] h = some (some (.int (Int32.ofNat k)), h')) ∧ fo_at h' a (jf_grow f k x) ∧ Fr (jI a 3) h h' := by
  have h12 : k < 12 := (lo_some.mp hk).1
  obtain ⟨e, e1, e2⟩ := fo_ps H (f.2.2 ||| jk_bit k)
  obtain ⟨e', e3, e4⟩ := fo_sw e2 h12 x
  refine ⟨_, fun d => ?_, e4, Fr.cons (Fr.set ⟨Nat.le_refl _, by omega⟩) (jI_0 (by decide))⟩
  rw [je_240, if_pos (fo_is H), fo_g2 H, jk_bs, cl_leastOf, jk_cI, cl_isPlace, jk_cI, hk]
  show (if jk_b (jp_place (Int32.ofNat k)) = 0 then _ else _) = _
  rw [jp_place_of h12, jk_ite, if_pos rfl, fo_g2 H, jk_bs]
  show (jx_pF (jx_at h a) 1 2 (.int (f.2.2 ||| jk_bit k))).bind _ = _
  rw [e1, jk_bs, fo_g0 e2, jk_bs]
  show (jx_sI _ 0 (Int32.ofNat k) x).bind _ = _
  rw [e3]
  rfl
theorem fo_join (H : fo_at h a f) {p q : Nat} (hp : p < 12) (hq : q < 12) : ∃ h', (∀ d, jx_C rc (d + 1) 241 [.ref a, .int (Int32.ofNat p), .int (Int32.ofNat q)] h = some (none, h')) ∧ fo_at h' a (jf_join f p q) ∧ Fr (jI a 3) h h' := by
  obtain ⟨e, e1, e2⟩ := fo_sn H hp (f.2.1 p ||| jk_bit q)
  obtain ⟨e', e3, e4⟩ := fo_sn e2 hq (upd f.2.1 p (f.2.1 p ||| jk_bit q) q ||| jk_bit p)
  refine ⟨_, fun d => ?_, e4, Fr.cons (Fr.set (jI_0 (by decide))) (jI_0 (by decide))⟩
  rw [je_241, if_pos (fo_is H), if_neg (jk_nn (by omega)), if_neg (jk_n12 hp), if_neg (jk_nn (by omega)), if_neg (jk_n12 hq), fo_g1 H, jk_bs, fo_n H hp, jk_bs]
  show (jx_sI _ 0 _ (f.2.1 p ||| jk_bit q)).bind _ = _
  rw [e1, jk_bs, fo_g1 e2, jk_bs, fo_n e2 hq, jk_bs]
  show (jx_sI _ 0 _ (upd f.2.1 p (f.2.1 p ||| jk_bit q) q ||| jk_bit p)).bind _ = _
  rw [e3]
  rfl
theorem fo_join_no (H : fo_at h a f) {p q : Int32} (hq : q < 0) (d : Nat) : jx_C rc (d + 1) 241 [.ref a, .int p, .int q] h = some (none, h) := by
  rw [je_241, if_pos (fo_is H)]
  simp only [hq, if_true]
  repeat' split
  all_goals rfl
theorem fo_part (H : fo_at h a f) {p q : Nat} (hp : p < 12) (hq : q < 12) : ∃ h', (∀ d, jx_C rc (d + 1) 243 [.ref a, .int (Int32.ofNat p), .int (Int32.ofNat q)] h = some (none, h')) ∧ fo_at h' a (jf_part f p q) ∧ Fr (jI a 3) h h' := by
  obtain ⟨e, e1, e2⟩ := fo_sn H hp (f.2.1 p &&& (jk_bit q ^^^ (-1)))
  obtain ⟨e', e3, e4⟩ := fo_sn e2 hq (upd f.2.1 p (f.2.1 p &&& (jk_bit q ^^^ (-1))) q &&& (jk_bit p ^^^ (-1)))
  refine ⟨_, fun d => ?_, e4, Fr.cons (Fr.set (jI_0 (by decide))) (jI_0 (by decide))⟩
  rw [je_243, if_pos (fo_is H), if_neg (jk_nn (by omega)), if_neg (jk_n12 hp), if_neg (jk_nn (by omega)), if_neg (jk_n12 hq), fo_g1 H, jk_bs, fo_n H hp, jk_bs]
  show (jx_sI _ 0 _ (f.2.1 p &&& (jk_bit q ^^^ (-1)))).bind _ = _
  rw [e1, jk_bs, fo_g1 e2, jk_bs, fo_n e2 hq, jk_bs]
  show (jx_sI _ 0 _ (upd f.2.1 p (f.2.1 p &&& (jk_bit q ^^^ (-1))) q &&& (jk_bit p ^^^ (-1)))).bind _ = _
  rw [e3]
  rfl
theorem fo_joinAll_l {p : Nat} (hp : p < 12) (s : Int32) : ∀ (m k : Nat) (h : jxH), k + m = 12 → fo_at h a (jf_joins f p s k) → ∃ h', (∀ d, jb_242 rc (d + 1) 2 [(0, .ref a), (1, .int (Int32.ofNat p)), (2, .int s), (3, .int (Int32.ofNat k))] [] h = some (none, h')) ∧ fo_at h' a (jf_joins f p s 12) ∧ Fr (jI a 3) h h'
  | 0, k, h, e, H => by
    obtain rfl : k = 12 := by omega
    exact ⟨h, fun d => by rw [je_242_2]; rfl, H, Fr.rfl⟩
  | m + 1, k, h, e, H => by
    have hk : k < 12 := by omega
    by_cases hb : bt s k = true
    · obtain ⟨h1, j1, j2, j3⟩ := fo_join (rc := rc) H hp hk
      obtain ⟨h', i1, i2, i3⟩ := fo_joinAll_l hp s m (k + 1) h1 (by omega) (by unfold jf_joins; rw [if_pos hb]; exact j2)
      refine ⟨h', fun d => ?_, i2, j3.trans i3⟩
      rw [je_242_2, if_neg (jk_n12 hk), bt_sr _ (by omega), jk_ite, if_pos hb, j1, jk_cV, jk_succ]
      exact i1 d
    · obtain ⟨h', i1, i2, i3⟩ := fo_joinAll_l hp s m (k + 1) h (by omega) (by unfold jf_joins; rw [if_neg hb]; exact H)
      refine ⟨h', fun d => ?_, i2, i3⟩
      rw [je_242_2, if_neg (jk_n12 hk), bt_sr _ (by omega), jk_ite, if_neg hb, jk_succ]
      exact i1 d
theorem fo_joinAll (H : fo_at h a f) {p : Nat} (hp : p < 12) (s : Int32) : ∃ h', (∀ d, jx_C rc (d + 2) 242 [.ref a, .int (Int32.ofNat p), .int s] h = some (none, h')) ∧ fo_at h' a (jf_joins f p s 12) ∧ Fr (jI a 3) h h' := by
  obtain ⟨h', i1, i2, i3⟩ := fo_joinAll_l (rc := rc) (f := f) hp s 12 0 h (by omega) H
  refine ⟨h', fun d => ?_, i2, i3⟩
  rw [je_242, if_pos (fo_is H)]
  exact i1 d
theorem fo_partAll_l {p : Nat} (hp : p < 12) (s : Int32) : ∀ (m k : Nat) (h : jxH), k + m = 12 → fo_at h a (jf_parts f p s k) → ∃ h', (∀ d, jb_244 rc (d + 1) 2 [(0, .ref a), (1, .int (Int32.ofNat p)), (2, .int s), (3, .int (Int32.ofNat k))] [] h = some (none, h')) ∧ fo_at h' a (jf_parts f p s 12) ∧ Fr (jI a 3) h h'
  | 0, k, h, e, H => by
    obtain rfl : k = 12 := by omega
    exact ⟨h, fun d => by rw [je_244_2]; rfl, H, Fr.rfl⟩
  | m + 1, k, h, e, H => by
    have hk : k < 12 := by omega
    by_cases hb : bt s k = true
    · obtain ⟨h1, j1, j2, j3⟩ := fo_part (rc := rc) H hp hk
      obtain ⟨h', i1, i2, i3⟩ := fo_partAll_l hp s m (k + 1) h1 (by omega) (by unfold jf_parts; rw [if_pos hb]; exact j2)
      refine ⟨h', fun d => ?_, i2, j3.trans i3⟩
      rw [je_244_2, if_neg (jk_n12 hk), bt_sr _ (by omega), jk_ite, if_pos hb, j1, jk_cV, jk_succ]
      exact i1 d
    · obtain ⟨h', i1, i2, i3⟩ := fo_partAll_l hp s m (k + 1) h (by omega) (by unfold jf_parts; rw [if_neg hb]; exact H)
      refine ⟨h', fun d => ?_, i2, i3⟩
      rw [je_244_2, if_neg (jk_n12 hk), bt_sr _ (by omega), jk_ite, if_neg hb, jk_succ]
      exact i1 d
theorem fo_partAll (H : fo_at h a f) {p : Nat} (hp : p < 12) (s : Int32) : ∃ h', (∀ d, jx_C rc (d + 2) 244 [.ref a, .int (Int32.ofNat p), .int s] h = some (none, h')) ∧ fo_at h' a (jf_parts f p s 12) ∧ Fr (jI a 3) h h' := by
  obtain ⟨h', i1, i2, i3⟩ := fo_partAll_l (rc := rc) (f := f) hp s 12 0 h (by omega) H
  refine ⟨h', fun d => ?_, i2, i3⟩
  rw [je_244, if_pos (fo_is H)]
  exact i1 d
theorem fo_remove_l {p : Nat} (hp : p < 12) : ∀ (m k : Nat) (h : jxH), k + m = 12 → fo_at h a (f.1, fun q => if q < k then f.2.1 q &&& (jk_bit p ^^^ (-1)) else f.2.1 q, f.2.2) → ∃ h', (∀ d, jb_245 rc d 6 [(0, .ref a), (1, .int (Int32.ofNat p)), (2, .int (Int32.ofNat k))] [] h = some (none, h')) ∧ fo_at h' a (jf_rem f p) ∧ Fr (jI a 3) h h'
  | 0, k, h, e, H => by
    obtain rfl : k = 12 := by omega
    obtain ⟨e, e1, e2⟩ := fo_sn H hp 0
    obtain ⟨e', e3, e4⟩ := fo_sw e2 hp 0
    obtain ⟨e'', e5, e6⟩ := fo_ps e4 (f.2.2 &&& (jk_bit p ^^^ (-1)))
    refine ⟨_, fun d => ?_, fo_congr e6 (fun _ _ => rfl) (fun j hj => ?_) rfl, Fr.cons (Fr.cons (Fr.set (jI_0 (by decide))) (jI_0 (by decide))) ⟨Nat.le_refl _, by omega⟩⟩
    · rw [je_245_6, if_pos (by decide), fo_g1 H, jk_bs, e1, jk_bs, fo_g0 e2, jk_bs, e3, jk_bs, fo_g2 e4, jk_bs]
      show (jx_pF _ 1 2 (.int (f.2.2 &&& (jk_bit p ^^^ (-1))))).bind _ = _
      rw [e5]
      rfl
    · show upd (fun q => if q < 12 then f.2.1 q &&& (jk_bit p ^^^ (-1)) else f.2.1 q) p 0 j = upd (fun q => f.2.1 q &&& (jk_bit p ^^^ (-1))) p 0 j
      by_cases hjp : j = p
      · rw [hjp, upd_at, upd_at]
      · rw [upd_ne _ _ hjp, upd_ne _ _ hjp, if_pos hj]
  | m + 1, k, h, e, H => by
    have hk : k < 12 := by omega
    have hn := fo_n H hk
    simp only [Nat.lt_irrefl, if_false] at hn
    obtain ⟨e, e1, e2⟩ := fo_sn H hk (f.2.1 k &&& (jk_bit p ^^^ (-1)))
    obtain ⟨h', i1, i2, i3⟩ := fo_remove_l hp m (k + 1) (jx_set h (a + 2) e) (by omega) (fo_congr e2 (fun _ _ => rfl) (fun j hj => by
      show upd _ _ _ _ = _
      by_cases hjk : j = k
      · rw [hjk, upd_at]; simp
      · rw [upd_ne _ _ hjk]
        by_cases hlt : j < k
        · simp [hlt, show j < k + 1 by omega]
        · simp [hlt, show ¬ j < k + 1 by omega]) rfl)
    refine ⟨h', fun d => ?_, i2, Fr.trans (Fr.set (jI_0 (by decide))) i3⟩
    rw [je_245_6, if_neg (jk_n12 hk), fo_g1 H, jk_bs, hn, jk_bs]
    show (jx_sI _ 0 _ (f.2.1 k &&& (jk_bit p ^^^ (-1)))).bind _ = _
    rw [e1, jk_bs, jk_succ]
    exact i1 d
theorem fo_remove (H : fo_at h a f) {p : Nat} (hp : p < 12) (hs : bt f.2.2 p = true) : ∃ h', (∀ d, jx_C rc (d + 2) 245 [.ref a, .int (Int32.ofNat p)] h = some (none, h')) ∧ fo_at h' a (jf_rem f p) ∧ Fr (jI a 3) h h' := by
  obtain ⟨h', i1, i2, i3⟩ := fo_remove_l (rc := rc) (f := f) hp 12 0 h (by omega) (fo_congr H (fun _ _ => rfl) (fun j hj => by simp) rfl)
  refine ⟨h', fun d => ?_, i2, i3⟩
  rw [je_245, if_pos (fo_is H), fo_has H, jF_has_of hp, hs, jk_cI, jk_ite, if_pos rfl]
  exact i1 (d + 1)
-- Arrays.fill by 0 over a row of 12
theorem jk_fill_l {b : Nat} : ∀ (m k : Nat) (h : jxH) (g : Nat → Int32), k + m = 12 → jx_at h b = jxI 0 12 g → (∀ j, j < k → g j = 0) → ∃ g', (∀ d, jb_332 rc d 5 [(0, .ref b), (1, .int 0), (2, .int (Int32.ofNat k)), (3, .int (Int32.ofNat 12))] [] h = some (none, jx_set h b (jxI 0 12 g'))) ∧ ∀ j, j < 12 → g' j = 0
  | 0, k, h, g, e, H, hg => by
    obtain rfl : k = 12 := by omega
    refine ⟨g, fun d => ?_, hg⟩
    rw [je_332_5, if_pos (by decide), ← H]
    congr 2
    show h = (h.1, h.2.1, va_up h.2.2 b (h.2.2 b))
    rw [show va_up h.2.2 b (h.2.2 b) = h.2.2 from funext fun j => by unfold va_up; split <;> simp [*]]
  | m + 1, k, h, g, e, H, hg => by
    have hk : k < 12 := by omega
    obtain ⟨g', i1, i2⟩ := jk_fill_l m (k + 1) (jx_set h b (jxI 0 12 (upd g k 0))) (upd g k 0) (by omega) (jk_at_self ..) (fun j hj => by
      by_cases hjk : j = k
      · rw [hjk, upd_at]
      · rw [upd_ne _ _ hjk, hg j (by omega)])
    refine ⟨g', fun d => ?_, i2⟩
    rw [je_332_5, if_neg (by rw [jk_le (by decide) (by omega)]; omega), H, jk_sI hk (by decide), jk_bs, jk_succ, i1 d]
    congr 2
    show (h.1, h.2.1, va_up (va_up h.2.2 b _) b _) = (h.1, h.2.1, va_up h.2.2 b _)
    rw [show va_up (va_up h.2.2 b (jxI 0 12 (upd g k 0))) b (jxI 0 12 g') = va_up h.2.2 b (jxI 0 12 g') from funext fun j => by unfold va_up; split <;> simp [*]]
theorem jk_fill {b : Nat} {g : Nat → Int32} (H : jx_at h b = jxI 0 12 g) : ∃ g', (∀ d, jx_C rc (d + 1) 332 [.ref b, .int 0] h = some (none, jx_set h b (jxI 0 12 g'))) ∧ ∀ j, j < 12 → g' j = 0 := by
  obtain ⟨g', i1, i2⟩ := jk_fill_l (rc := rc) 12 0 h g (by omega) H (fun j hj => by omega)
  refine ⟨g', fun d => ?_, i2⟩
  rw [je_332, H]
  exact i1 d
theorem fo_clear (H : fo_at h a f) : ∃ h', (∀ d, jx_C rc (d + 2) 224 [.ref a] h = some (none, h')) ∧ fo_at h' a jf_0 ∧ Fr (jI a 3) h h' := by
  obtain ⟨o, ⟨W, w1, w2⟩, N, n1, n2⟩ := id H
  obtain ⟨W', w3, w4⟩ := jk_fill (rc := rc) w1
  have n3 : jx_at (jx_set h (a + 1) (jxI 0 12 W')) (a + 2) = jxI 0 12 N := by rw [jk_at_ne _ _ (by omega)]; exact n1
  obtain ⟨N', n4, n5⟩ := jk_fill (rc := rc) n3
  have o1 : jx_at (jx_set (jx_set h (a + 1) (jxI 0 12 W')) (a + 2) (jxI 0 12 N')) a = jxO 1 [.ref (a + 1), .ref (a + 2), .int f.2.2] := by
    rw [jk_at_ne _ _ (by omega), jk_at_ne _ _ (by omega)]; exact o
  have o2 : jx_at (jx_set h (a + 1) (jxI 0 12 W')) a = jxO 1 [.ref (a + 1), .ref (a + 2), .int f.2.2] := by
    rw [jk_at_ne _ _ (by omega)]; exact o
  refine ⟨jx_set (jx_set (jx_set h (a + 1) (jxI 0 12 W')) (a + 2) (jxI 0 12 N')) a (jxO 1 [.ref (a + 1), .ref (a + 2), .int 0]), fun d => ?_, ⟨jk_at_self .., ⟨W', ?_, w4⟩, N', ?_, n5⟩, Fr.cons (Fr.cons (Fr.set (jI_0 (by decide))) (jI_0 (by decide))) ⟨Nat.le_refl _, by omega⟩⟩
  · rw [je_224, if_pos (fo_is H), fo_g0 H, jk_bs, w3, jk_cV, o2]
    rw [show jx_gR (jxO 1 [Value.ref (a + 1), Value.ref (a + 2), Value.int f.2.2]) 1 1 = some (a + 2) from rfl, jk_bs, n4, jk_cV, o1]
    rfl
  · rw [jk_at_ne _ _ (by omega), jk_at_ne _ _ (by omega), jk_at_self]
  · rw [jk_at_ne _ _ (by omega), jk_at_self]
theorem jk_cpy12 {f g : Nat → Int32} : jx_cp (jxI 0 12 f) (jxI 0 12 g) 0 0 0 12 = some (jxI 0 12 (va_cpy f g 0 0 12)) := by
  unfold jx_cp jxI
  simp only []
  rw [if_pos (by decide)]
  rfl
theorem jk_cpy12_at {f g : Nat → Int32} {k : Nat} (hk : k < 12) : va_cpy f g 0 0 12 k = f k := by
  unfold va_cpy
  rw [if_pos (by omega)]
  simp
theorem fo_follow (H : fo_at h a f) {b : Nat} (G : fo_at h b g) (hab : a + 3 ≤ b ∨ b + 3 ≤ a) : ∃ h', (∀ d, jx_C rc (d + 1) 225 [.ref a, .ref b] h = some (none, h')) ∧ fo_at h' a g ∧ Fr (jI a 3) h h' := by
  obtain ⟨o, ⟨W, w1, w2⟩, N, n1, n2⟩ := id H
  obtain ⟨o', ⟨W', w1', w2'⟩, N', n1', n2'⟩ := id G
  refine ⟨jx_set (jx_set (jx_set h (a + 1) (jxI 0 12 (va_cpy W' W 0 0 12))) (a + 2) (jxI 0 12 (va_cpy N' N 0 0 12))) a (jxO 1 [.ref (a + 1), .ref (a + 2), .int g.2.2]), fun d => ?_, ⟨jk_at_self .., ⟨va_cpy W' W 0 0 12, ?_, fun k hk => (jk_cpy12_at hk).trans (w2' k hk)⟩, va_cpy N' N 0 0 12, ?_, fun k hk => (jk_cpy12_at hk).trans (n2' k hk)⟩, Fr.cons (Fr.cons (Fr.set (jI_0 (by decide))) (jI_0 (by decide))) ⟨Nat.le_refl _, by omega⟩⟩
  · rw [je_225, if_pos (fo_is H), fo_g0 G, jk_bs, fo_g0 H, jk_bs, w1, w1', jk_cpy12, jk_bs, jk_at_ne (a := a + 1) (b := b) _ _ (by omega), jk_at_ne (a := a + 1) (b := a) _ _ (by omega), fo_g1 G, jk_bs, fo_g1 H, jk_bs,
      jk_at_ne (a := a + 1) (b := b + 2) _ _ (by omega), jk_at_ne (a := a + 1) (b := a + 2) _ _ (by omega), n1, n1', jk_cpy12, jk_bs, jk_at_ne (a := a + 2) (b := b) _ _ (by omega), jk_at_ne (a := a + 2) (b := a) _ _ (by omega),
      jk_at_ne (a := a + 1) (b := b) _ _ (by omega), jk_at_ne (a := a + 1) (b := a) _ _ (by omega), fo_g2 G, jk_bs, o]
    rfl
  · rw [jk_at_ne _ _ (by omega), jk_at_ne _ _ (by omega), jk_at_self]
  · rw [jk_at_ne _ _ (by omega), jk_at_self]
end
end
section
/-! One MOVE: the class's Step; when it is REFUSED -/
def jr_1 (k : Nat) : Int32 := [1, 7, 5, 4, 1, 1, 0, 13].getD k 0
def jr_2 (k : Nat) : Int32 := [0, 1, 1, 1, 0, 0, 0, 2].getD k 0
def jr_3 (k : Nat) : Int32 := [-1, 0, 0, 1, 2, 0].getD k 0
def jk_rom (rc : Nat → Nat × (Nat → Int32)) : Prop := (rc 1).1 = 8 ∧ (rc 2).1 = 8 ∧ (rc 3).1 = 6 ∧ (rc 1).2 = jr_1 ∧ (rc 2).2 = jr_2 ∧ (rc 3).2 = jr_3
-- KIND, p, q, v, s
abbrev jM := Int32 × Int32 × Int32 × Int32 × Int32
def st_at (h : jxH) (t : Nat) (m : jM) (sg : Int32) : Prop := jx_at h t = jxO 6 [.int m.1, .int m.2.1, .int m.2.2.1, .int m.2.2.2.1, .int m.2.2.2.2, .int sg, .ref (t + 1)]
theorem jk_pF (c k : Nat) (fs : List Value) (v : Value) (hk : k < fs.length) : jx_pF (jxO c fs) c k v = some (jxO c (fs.set k v)) := by simp [jx_pF, jxO, hk]
theorem jk_set_set (h : jxH) (a : Nat) (e e' : jxE) : jx_set (jx_set h a e) a e' = jx_set h a e' := by
  show (h.1, h.2.1, va_up (va_up h.2.2 a e) a e') = (h.1, h.2.1, va_up h.2.2 a e')
  rw [show va_up (va_up h.2.2 a e) a e' = va_up h.2.2 a e' from funext fun j => by unfold va_up; split <;> simp [*]]
def jr_has (k : Int32) : Int32 := if k < 0 then 0 else if 8 ≤ k then 0 else jr_1 k.toNatClampNeg
def jm_norm (m : jM) : jM := (m.1, if jr_has m.1 &&& 1 = 0 then 0 else m.2.1, if jr_has m.1 &&& 2 = 0 then 0 else m.2.2.1, if jr_has m.1 &&& 4 = 0 then 0 else m.2.2.2.1, if jr_has m.1 &&& 8 = 0 then 0 else m.2.2.2.2)
section
variable {rc : Nat → Nat × (Nat → Int32)} {h : jxH} {a t : Nat} {f g : jF} {m : jM} {sg : Int32}
theorem st_is (H : st_at h t m sg) : jx_is (jx_at h t) 6 = true := by rw [H]; rfl
theorem st_g0 (H : st_at h t m sg) : jx_gI (jx_at h t) 6 0 = some m.1 := by rw [H]; rfl
theorem st_g1 (H : st_at h t m sg) : jx_gI (jx_at h t) 6 1 = some m.2.1 := by rw [H]; rfl
theorem st_g2 (H : st_at h t m sg) : jx_gI (jx_at h t) 6 2 = some m.2.2.1 := by rw [H]; rfl
theorem st_g3 (H : st_at h t m sg) : jx_gI (jx_at h t) 6 3 = some m.2.2.2.1 := by rw [H]; rfl
theorem st_g4 (H : st_at h t m sg) : jx_gI (jx_at h t) 6 4 = some m.2.2.2.2 := by rw [H]; rfl
theorem st_g5 (H : st_at h t m sg) : jx_gI (jx_at h t) 6 5 = some sg := by rw [H]; rfl
theorem st_g6 (H : st_at h t m sg) : jx_gR (jx_at h t) 6 6 = some (t + 1) := by rw [H]; rfl
theorem st_fr {P : Nat → Prop} {h' : jxH} (F : Fr P h h') (hP : ¬ P t) (H : st_at h t m sg) : st_at h' t m sg := (F.2.2 t hP).trans H
theorem st_mean_l (s0 : Int32) (k p q v s : Int32) (H : st_at h t m sg) (d : Nat) : jb_281 rc d 11 [(0, .ref t), (1, .int k), (2, .int p), (3, .int q), (4, .int v), (5, .int s)] [.int s0] h = some (none, jx_set h t (jxO 6 [.int k, .int (if s0 &&& 1 = 0 then 0 else p), .int (if s0 &&& 2 = 0 then 0 else q), .int (if s0 &&& 4 = 0 then 0 else v), .int (if s0 &&& 8 = 0 then 0 else s), .int sg, .ref (t + 1)])) := by
  by_cases h1 : s0 &&& 1 = 0 <;> by_cases h2 : s0 &&& 2 = 0 <;> by_cases h4 : s0 &&& 4 = 0 <;> by_cases h8 : s0 &&& 8 = 0 <;>
    simp [je_281_11, je_281_32, H.trans rfl, jk_pF, jk_at_self, jk_set_set, h1, h2, h4, h8, show jx_at h t = _ from H]
/-- mean() -/
theorem st_mean (hr : jk_rom rc) (H : st_at h t m sg) (k p q v s : Int32) : ∃ h', (∀ d, jx_C rc (d + 1) 281 [.ref t, .int k, .int p, .int q, .int v, .int s] h = some (none, h')) ∧ st_at h' t (jm_norm (k, p, q, v, s)) sg ∧ Fr (fun x => x = t) h h' := by
  refine ⟨jx_set h t (jxO 6 [.int k, .int (if jr_has k &&& 1 = 0 then 0 else p), .int (if jr_has k &&& 2 = 0 then 0 else q), .int (if jr_has k &&& 4 = 0 then 0 else v), .int (if jr_has k &&& 8 = 0 then 0 else s), .int sg, .ref (t + 1)]), fun d => ?_, jk_at_self .., Fr.set rfl⟩
  rw [je_281, if_pos (st_is H), hr.1]
  unfold jr_has
  split
  · exact st_mean_l 0 k p q v s H d
  · rename_i hk
    rw [show Int32.ofNat 8 = 8 from rfl]
    split
    · exact st_mean_l 0 k p q v s H d
    · rename_i h8
      rw [jk_of hk] at h8 ⊢
      have h8' : k.toNatClampNeg < 8 := by
        rw [show (8 : Int32) = Int32.ofNat 8 from rfl, jk_le (by decide) (jk_of_lt k)] at h8
        omega
      rw [jk_outf h8' (by decide), jk_cl (jk_of_lt k), hr.2.2.2.1, if_neg Bool.false_ne_true]
      exact st_mean_l _ _ p q v s H d

def jd_light (f : jF) (n : Int32) (w : Int32) : Bool := if n = 0 then true else jp_wt (jF_w f (jk_on (lo n)) - w) && jp_wt (jF_w f (jk_on (hi n)) - w)
/-- why a MOVE is REFUSED; 0: it is not -/
def jf_ref (f : jF) (full : Bool) (m : jM) : Int32 :=
  if m.1 = 0 then (if jF_has f m.2.1 = true then (if (jF_w f m.2.1 = 1 ∨ jF_w f m.2.1 = -1) ∧ bc (jF_n f m.2.1) ≤ 2 then (if full = true then 4 else if jd_light f (jF_n f m.2.1) (jF_w f m.2.1) = true then 0 else 5) else 3) else 1)
  else if m.1 = 1 then (if jF_has f m.2.1 = true ∧ jF_has f m.2.2.1 = true ∧ (m.2.2.2.1 = 1 ∨ m.2.2.2.1 = -1) then (if jF_near f m.2.1 m.2.2.1 = true then (if full = true ∨ 12 ≤ bc f.2.2 then 4 else if jp_wt (jF_w f m.2.1 + m.2.2.2.1) = true ∧ jp_wt (jF_w f m.2.2.1 + m.2.2.2.1) = true then 0 else 5) else 3) else 1)
  else if m.1 = 2 then (if jF_has f m.2.1 = true ∧ (m.2.2.2.1 = 1 ∨ m.2.2.2.1 = -1) then (if full = true ∨ 12 ≤ bc f.2.2 then 4 else if jp_wt (jF_w f m.2.1 + m.2.2.2.1) = true then 0 else 5) else 1)
  else if m.1 = 3 then (if m.2.2.2.1 = 1 ∨ m.2.2.2.1 = -1 then (if full = true ∨ 12 ≤ bc f.2.2 then 4 else 0) else 1)
  else if m.1 = 4 then (if jF_has f m.2.1 = true then (if jF_w f m.2.1 = 0 ∧ bc (jF_n f m.2.1) = 2 then (if full = true then 4 else if jp_wt (jF_w f (jk_on (lo (jF_n f m.2.1))) + jF_w f (jk_on (hi (jF_n f m.2.1)))) = true then 0 else 5) else 3) else 1)
  else if m.1 = 5 then (if jF_has f m.2.1 = true then (if jF_w f m.2.1 = 0 ∧ bc (jF_n f m.2.1) = 1 then (if full = true then 4 else 0) else 3) else 1)
  else if m.1 = 6 then (if full = true then 4 else 0)
  else if m.1 = 7 then (if jF_has f m.2.1 = true ∧ jp_wt m.2.2.2.1 = true ∧ m.2.2.2.2 &&& (jF_n f m.2.1 ^^^ (-1)) = 0 then (if full = true ∨ 11 ≤ bc f.2.2 then 4 else if jp_wt (jF_w f m.2.1 - m.2.2.2.1) = true then 0 else 5) else 1)
  else 1
theorem jf_n_S (hn : ∀ k, k < 12 → S12 (f.2.1 k)) (p : Int32) : S12 (jF_n f p) := by
  unfold jF_n
  split
  · exact S12_0
  · split
    · exact S12_0
    · obtain ⟨k, hk, rfl⟩ := jk_place (by assumption) (by assumption)
      rw [jk_cl (by omega)]; exact hn k hk
theorem jk_le2 (x : Int32) : ((2 : Int32) < Int32.ofNat (bc x)) ↔ ¬ bc x ≤ 2 := by
  have := bc_le x
  rw [show (2 : Int32) = Int32.ofNat 2 from rfl, jk_lt (by decide) (by omega)]
  omega
theorem jk_eq2 (x : Int32) : (Int32.ofNat (bc x) = (2 : Int32)) ↔ bc x = 2 := by
  have := bc_le x
  rw [show (2 : Int32) = Int32.ofNat 2 from rfl, jk_inj (by omega) (by decide)]
theorem jk_eq1 (x : Int32) : (Int32.ofNat (bc x) = (1 : Int32)) ↔ bc x = 1 := by
  have := bc_le x
  rw [show (1 : Int32) = Int32.ofNat 1 from rfl, jk_inj (by omega) (by decide)]
theorem jk_rest12 (x : Int32) : (12 : Int32) - Int32.ofNat (bc x) = Int32.ofNat (12 - bc x) := by
  rw [Int32.ofNat_sub _ _ (bc_le x)]; rfl
theorem jk_free0 (x : Int32) : ((0 : Int32) ≤ (12 : Int32) - Int32.ofNat (bc x)) ↔ True := by
  rw [jk_rest12]; simp; exact jk_ge (by have := bc_le x; omega)
theorem jk_free1 (x : Int32) : ((1 : Int32) ≤ (12 : Int32) - Int32.ofNat (bc x)) ↔ ¬ 12 ≤ bc x := by
  have := bc_le x
  rw [jk_rest12, show (1 : Int32) = Int32.ofNat 1 from rfl, jk_le (by decide) (by omega)]; omega
theorem jk_free2 (x : Int32) : ((2 : Int32) ≤ (12 : Int32) - Int32.ofNat (bc x)) ↔ ¬ 11 ≤ bc x := by
  have := bc_le x
  rw [jk_rest12, show (2 : Int32) = Int32.ofNat 2 from rfl, jk_le (by decide) (by omega)]; omega
theorem jk_if0 (b : Bool) {α : Type} (x y : α) : (if jk_b b = 0 then x else y) = (if b = true then y else x) := by cases b <;> rfl
theorem jk_cI_ite {c : Prop} [Decidable c] (x y : jxR) (f : Int32 → jxH → jxR) : jx_cI (if c then x else y) f = if c then jx_cI x f else jx_cI y f := by split <;> rfl
theorem jk_l1_1 : ((1 : Int32) &&& 1 = 0) = False := eq_false (by decide)
theorem jk_l1_2 : ((1 : Int32) &&& 2 = 0) = True := eq_true (by decide)
theorem jk_l1_4 : ((1 : Int32) &&& 4 = 0) = True := eq_true (by decide)
theorem jk_l1_8 : ((1 : Int32) &&& 8 = 0) = True := eq_true (by decide)
theorem jk_l7_1 : ((7 : Int32) &&& 1 = 0) = False := eq_false (by decide)
theorem jk_l7_2 : ((7 : Int32) &&& 2 = 0) = False := eq_false (by decide)
theorem jk_l7_4 : ((7 : Int32) &&& 4 = 0) = False := eq_false (by decide)
theorem jk_l7_8 : ((7 : Int32) &&& 8 = 0) = True := eq_true (by decide)
theorem jk_l5_1 : ((5 : Int32) &&& 1 = 0) = False := eq_false (by decide)
theorem jk_l5_2 : ((5 : Int32) &&& 2 = 0) = True := eq_true (by decide)
theorem jk_l5_4 : ((5 : Int32) &&& 4 = 0) = False := eq_false (by decide)
theorem jk_l5_8 : ((5 : Int32) &&& 8 = 0) = True := eq_true (by decide)
theorem jk_l4_1 : ((4 : Int32) &&& 1 = 0) = True := eq_true (by decide)
theorem jk_l4_2 : ((4 : Int32) &&& 2 = 0) = True := eq_true (by decide)
theorem jk_l4_4 : ((4 : Int32) &&& 4 = 0) = False := eq_false (by decide)
theorem jk_l4_8 : ((4 : Int32) &&& 8 = 0) = True := eq_true (by decide)
theorem jk_l13_1 : ((13 : Int32) &&& 1 = 0) = False := eq_false (by decide)
theorem jk_l13_2 : ((13 : Int32) &&& 2 = 0) = True := eq_true (by decide)
theorem jk_l13_4 : ((13 : Int32) &&& 4 = 0) = False := eq_false (by decide)
theorem jk_l13_8 : ((13 : Int32) &&& 8 = 0) = False := eq_false (by decide)
theorem jk_kind8 (k : Int32) : k = 0 ∨ k = 1 ∨ k = 2 ∨ k = 3 ∨ k = 4 ∨ k = 5 ∨ k = 6 ∨ k = 7 ∨ k < 0 ∨ 8 ≤ k := by
  simp only [← Int32.toInt_inj, Int32.lt_iff_toInt_lt, Int32.le_iff_toInt_le, show (0 : Int32).toInt = 0 from rfl, show (1 : Int32).toInt = 1 from rfl, show (2 : Int32).toInt = 2 from rfl, show (3 : Int32).toInt = 3 from rfl, show (4 : Int32).toInt = 4 from rfl, show (5 : Int32).toInt = 5 from rfl, show (6 : Int32).toInt = 6 from rfl, show (7 : Int32).toInt = 7 from rfl, show (8 : Int32).toInt = 8 from rfl]
  omega
theorem st_refusal (hr : jk_rom rc) (H : st_at h t m sg) (G : fo_at h a f) (hn : ∀ k, k < 12 → S12 (f.2.1 k)) (hs : S12 f.2.2) (b : Bool) (d : Nat) : jx_C rc (d + 5) 285 [.ref t, .ref a, .int (jk_b b)] h = some (some (.int (jf_ref f b m)), h) := by
  obtain ⟨k, p, q, v, s⟩ := m
  have g0 : jx_gI (jx_at h t) 6 0 = some k := st_g0 H
  have g1 : jx_gI (jx_at h t) 6 1 = some p := st_g1 H
  have g2 : jx_gI (jx_at h t) 6 2 = some q := st_g2 H
  have g3 : jx_gI (jx_at h t) 6 3 = some v := st_g3 H
  have g4 : jx_gI (jx_at h t) 6 4 = some s := st_g4 H
  obtain ⟨r1, r2, r3, r4, r5, r6⟩ := hr
  rcases jk_kind8 k with rfl | rfl | rfl | rfl | rfl | rfl | rfl | rfl | hk
  · simp [je_285, je_286, je_286_35, je_287, je_288, st_is H, g0, g1, g2, g3, g4, fo_has G, fo_weightAt G, fo_degree G hn, fo_nearsAt G, fo_areNear G, cl_isWeight, cl_leastOf, cl_greatestOf, fo_size G hs, r1, r2, r4, r5, jr_1, jr_2, jk_if0, jk_cI, jf_ref, jk_le2, jk_eq1, jk_eq2, jk_free0, jk_free1, jk_free2, jx_out, jk_r0, jk_r1, jk_bb, jk_cI_ite, jk_l1_1, jk_l1_2, jk_l1_4, jk_l1_8, jk_l7_1, jk_l7_2, jk_l7_4, jk_l7_8, jk_l5_1, jk_l5_2, jk_l5_4, jk_l5_8, jk_l4_1, jk_l4_2, jk_l4_4, jk_l4_8, jk_l13_1, jk_l13_2, jk_l13_4, jk_l13_8]
    grind [jd_light]
  · simp [je_285, je_286, je_286_35, je_287, je_288, st_is H, g0, g1, g2, g3, g4, fo_has G, fo_weightAt G, fo_degree G hn, fo_nearsAt G, fo_areNear G, cl_isWeight, cl_leastOf, cl_greatestOf, fo_size G hs, r1, r2, r4, r5, jr_1, jr_2, jk_if0, jk_cI, jf_ref, jk_le2, jk_eq1, jk_eq2, jk_free0, jk_free1, jk_free2, jx_out, jk_r0, jk_r1, jk_bb, jk_cI_ite, jk_l1_1, jk_l1_2, jk_l1_4, jk_l1_8, jk_l7_1, jk_l7_2, jk_l7_4, jk_l7_8, jk_l5_1, jk_l5_2, jk_l5_4, jk_l5_8, jk_l4_1, jk_l4_2, jk_l4_4, jk_l4_8, jk_l13_1, jk_l13_2, jk_l13_4, jk_l13_8]
    grind [jd_light]
  · simp [je_285, je_286, je_286_35, je_287, je_288, st_is H, g0, g1, g2, g3, g4, fo_has G, fo_weightAt G, fo_degree G hn, fo_nearsAt G, fo_areNear G, cl_isWeight, cl_leastOf, cl_greatestOf, fo_size G hs, r1, r2, r4, r5, jr_1, jr_2, jk_if0, jk_cI, jf_ref, jk_le2, jk_eq1, jk_eq2, jk_free0, jk_free1, jk_free2, jx_out, jk_r0, jk_r1, jk_bb, jk_cI_ite, jk_l1_1, jk_l1_2, jk_l1_4, jk_l1_8, jk_l7_1, jk_l7_2, jk_l7_4, jk_l7_8, jk_l5_1, jk_l5_2, jk_l5_4, jk_l5_8, jk_l4_1, jk_l4_2, jk_l4_4, jk_l4_8, jk_l13_1, jk_l13_2, jk_l13_4, jk_l13_8]
    grind [jd_light]
  · simp [je_285, je_286, je_286_35, je_287, je_288, st_is H, g0, g1, g2, g3, g4, fo_has G, fo_weightAt G, fo_degree G hn, fo_nearsAt G, fo_areNear G, cl_isWeight, cl_leastOf, cl_greatestOf, fo_size G hs, r1, r2, r4, r5, jr_1, jr_2, jk_if0, jk_cI, jf_ref, jk_le2, jk_eq1, jk_eq2, jk_free0, jk_free1, jk_free2, jx_out, jk_r0, jk_r1, jk_bb, jk_cI_ite, jk_l1_1, jk_l1_2, jk_l1_4, jk_l1_8, jk_l7_1, jk_l7_2, jk_l7_4, jk_l7_8, jk_l5_1, jk_l5_2, jk_l5_4, jk_l5_8, jk_l4_1, jk_l4_2, jk_l4_4, jk_l4_8, jk_l13_1, jk_l13_2, jk_l13_4, jk_l13_8]
    grind [jd_light]
  · simp [je_285, je_286, je_286_35, je_287, je_288, st_is H, g0, g1, g2, g3, g4, fo_has G, fo_weightAt G, fo_degree G hn, fo_nearsAt G, fo_areNear G, cl_isWeight, cl_leastOf, cl_greatestOf, fo_size G hs, r1, r2, r4, r5, jr_1, jr_2, jk_if0, jk_cI, jf_ref, jk_le2, jk_eq1, jk_eq2, jk_free0, jk_free1, jk_free2, jx_out, jk_r0, jk_r1, jk_bb, jk_cI_ite, jk_l1_1, jk_l1_2, jk_l1_4, jk_l1_8, jk_l7_1, jk_l7_2, jk_l7_4, jk_l7_8, jk_l5_1, jk_l5_2, jk_l5_4, jk_l5_8, jk_l4_1, jk_l4_2, jk_l4_4, jk_l4_8, jk_l13_1, jk_l13_2, jk_l13_4, jk_l13_8]
    grind [jd_light]
  · simp [je_285, je_286, je_286_35, je_287, je_288, st_is H, g0, g1, g2, g3, g4, fo_has G, fo_weightAt G, fo_degree G hn, fo_nearsAt G, fo_areNear G, cl_isWeight, cl_leastOf, cl_greatestOf, fo_size G hs, r1, r2, r4, r5, jr_1, jr_2, jk_if0, jk_cI, jf_ref, jk_le2, jk_eq1, jk_eq2, jk_free0, jk_free1, jk_free2, jx_out, jk_r0, jk_r1, jk_bb, jk_cI_ite, jk_l1_1, jk_l1_2, jk_l1_4, jk_l1_8, jk_l7_1, jk_l7_2, jk_l7_4, jk_l7_8, jk_l5_1, jk_l5_2, jk_l5_4, jk_l5_8, jk_l4_1, jk_l4_2, jk_l4_4, jk_l4_8, jk_l13_1, jk_l13_2, jk_l13_4, jk_l13_8]
    grind [jd_light]
  · simp [je_285, je_286, je_286_35, je_287, je_288, st_is H, g0, g1, g2, g3, g4, fo_has G, fo_weightAt G, fo_degree G hn, fo_nearsAt G, fo_areNear G, cl_isWeight, cl_leastOf, cl_greatestOf, fo_size G hs, r1, r2, r4, r5, jr_1, jr_2, jk_if0, jk_cI, jf_ref, jk_le2, jk_eq1, jk_eq2, jk_free0, jk_free1, jk_free2, jx_out, jk_r0, jk_r1, jk_bb, jk_cI_ite, jk_l1_1, jk_l1_2, jk_l1_4, jk_l1_8, jk_l7_1, jk_l7_2, jk_l7_4, jk_l7_8, jk_l5_1, jk_l5_2, jk_l5_4, jk_l5_8, jk_l4_1, jk_l4_2, jk_l4_4, jk_l4_8, jk_l13_1, jk_l13_2, jk_l13_4, jk_l13_8]
    grind [jd_light]
  · simp [je_285, je_286, je_286_35, je_287, je_288, st_is H, g0, g1, g2, g3, g4, fo_has G, fo_weightAt G, fo_degree G hn, fo_nearsAt G, fo_areNear G, cl_isWeight, cl_leastOf, cl_greatestOf, fo_size G hs, r1, r2, r4, r5, jr_1, jr_2, jk_if0, jk_cI, jf_ref, jk_le2, jk_eq1, jk_eq2, jk_free0, jk_free1, jk_free2, jx_out, jk_r0, jk_r1, jk_bb, jk_cI_ite, jk_l1_1, jk_l1_2, jk_l1_4, jk_l1_8, jk_l7_1, jk_l7_2, jk_l7_4, jk_l7_8, jk_l5_1, jk_l5_2, jk_l5_4, jk_l5_8, jk_l4_1, jk_l4_2, jk_l4_4, jk_l4_8, jk_l13_1, jk_l13_2, jk_l13_4, jk_l13_8]
    grind [jd_light]
  · have e0 : ¬ k = 0 := fun q => by subst q; revert hk; decide
    have e1 : ¬ k = 1 := fun q => by subst q; revert hk; decide
    have e2 : ¬ k = 2 := fun q => by subst q; revert hk; decide
    have e3 : ¬ k = 3 := fun q => by subst q; revert hk; decide
    have e4 : ¬ k = 4 := fun q => by subst q; revert hk; decide
    have e5 : ¬ k = 5 := fun q => by subst q; revert hk; decide
    have e6 : ¬ k = 6 := fun q => by subst q; revert hk; decide
    have e7 : ¬ k = 7 := fun q => by subst q; revert hk; decide
    have e9 : ¬ k < 0 → ¬ k < 8 := fun q => by
      rcases hk with hk | hk
      · exact absurd hk q
      · rw [Int32.lt_iff_toInt_lt]; rw [Int32.le_iff_toInt_le] at hk; omega
    rw [je_285, if_pos (st_is H), je_286, if_pos (st_is H), g0, jk_bs, jk_bs, r1, show Int32.ofNat 8 = 8 from rfl]
    by_cases h0 : k < 0
    · simp [h0, jk_r0, jk_cI, jf_ref, e0, e1, e2, e3, e4, e5, e6, e7]
    · simp [h0, e9 h0, jk_r0, jk_cI, jf_ref, e0, e1, e2, e3, e4, e5, e6, e7]
end
end
section
/-! What a MOVE does (the class's Step.act) -/
def pn (p : Int32) : Nat := p.toNatClampNeg
theorem pn_of {k : Nat} (hk : k < 12) : pn (Int32.ofNat k) = k := jk_cl (by omega)
def jf_addw (f : jF) (k : Nat) (x : Int32) : jF := jf_setw f k (f.1 k + x)
def jf_free (f : jF) : Nat := (lo (f.2.2 ^^^ (-1))).getD 0
def jf_down (f : jF) (p : Nat) : jF := match lo (f.2.1 p), hi (f.2.1 p) with
  | some a, some b => if a = b then jf_addw (jf_rem f p) a (-(f.1 p)) else jf_join (jf_addw (jf_addw (jf_rem f p) a (-(f.1 p))) b (-(f.1 p))) a b
  | _, _ => jf_rem f p
def jf_bud (f : jF) (p : Nat) (v : Int32) : jF := jf_join (jf_addw (jf_grow f (jf_free f) v) p v) (jf_free f) p
def jf_up (f : jF) (p q : Nat) (v : Int32) : jF := jf_join (jf_bud (jf_addw (jf_part f p q) q v) p v) (jf_free f) q
def jf_absorb (f : jF) (p : Nat) : jF := match lo (f.2.1 p), hi (f.2.1 p) with
  | some a, some b => jf_joins (jf_rem (jf_addw (jf_rem f p) a ((jf_rem f p).1 b)) b) a ((jf_rem f p).2.1 b) 12
  | _, _ => f
def jf_split (f : jF) (p : Nat) : jF := match lo (f.2.1 p) with
  | some a => jf_rem (jf_rem f a) p
  | none => f
def jf_draw (f : jF) (p : Nat) (v s : Int32) : jF :=
  jf_join (jf_join (jf_joins (jf_parts (jf_addw (jf_grow (jf_grow f (jf_free f) 0) (jf_free (jf_grow f (jf_free f) 0)) v) p (-v)) p s 12) (jf_free (jf_grow f (jf_free f) 0)) s 12) p (jf_free f)) (jf_free f) (jf_free (jf_grow f (jf_free f) 0))
def jf_act (f : jF) (m : jM) : jF :=
  if m.1 = 0 then jf_down f (pn m.2.1)
  else if m.1 = 1 then jf_up f (pn m.2.1) (pn m.2.2.1) m.2.2.2.1
  else if m.1 = 2 then jf_bud f (pn m.2.1) m.2.2.2.1
  else if m.1 = 3 then jf_grow f (jf_free f) m.2.2.2.1
  else if m.1 = 4 then jf_absorb f (pn m.2.1)
  else if m.1 = 5 then jf_split f (pn m.2.1)
  else if m.1 = 6 then jf_mirror f
  else jf_draw f (pn m.2.1) m.2.2.2.1 m.2.2.2.2
/-- what always holds of a forest, rings left out -/
def jf_B (f : jF) : Prop := S12 f.2.2 ∧ (∀ k, k < 12 → S12 (f.2.1 k)) ∧ (∀ k j, k < 12 → j < 12 → bt (f.2.1 k) j = bt (f.2.1 j) k) ∧ (∀ k, k < 12 → bt (f.2.1 k) k = false) ∧ (∀ k, k < 12 → bt f.2.2 k = false → f.1 k = 0 ∧ f.2.1 k = 0) ∧ ∀ k, k < 12 → jp_wt (f.1 k) = true
section
variable {f : jF}
theorem jf_B.s (B : jf_B f) : S12 f.2.2 := B.1
theorem jf_B.n (B : jf_B f) : ∀ k, k < 12 → S12 (f.2.1 k) := B.2.1
theorem jf_B.sym (B : jf_B f) {k j : Nat} (hk : k < 12) (hj : j < 12) : bt (f.2.1 k) j = bt (f.2.1 j) k := B.2.2.1 k j hk hj
theorem jf_B.irr (B : jf_B f) {k : Nat} (hk : k < 12) : bt (f.2.1 k) k = false := B.2.2.2.1 k hk
theorem jf_B.abs (B : jf_B f) {k : Nat} (hk : k < 12) (h : bt f.2.2 k = false) : f.1 k = 0 ∧ f.2.1 k = 0 := B.2.2.2.2.1 k hk h
theorem jf_B.wt (B : jf_B f) {k : Nat} (hk : k < 12) : jp_wt (f.1 k) = true := B.2.2.2.2.2 k hk
/-- a neighbour is there -/
theorem jf_B.nb (B : jf_B f) {k j : Nat} (hk : k < 12) (h : bt (f.2.1 k) j = true) : j < 12 ∧ bt f.2.2 j = true ∧ j ≠ k ∧ bt f.2.2 k = true := by
  have hj : j < 12 := by
    apply Classical.byContradiction
    intro q
    rw [B.n k hk j (by omega)] at h; cases h
  refine ⟨hj, ?_, ?_, ?_⟩
  · cases hb : bt f.2.2 j
    · rw [B.sym hk hj, (B.abs hj hb).2, bt_0] at h; cases h
    · rfl
  · intro q; rw [q, B.irr hk] at h; cases h
  · cases hb : bt f.2.2 k
    · rw [(B.abs hk hb).2, bt_0] at h; cases h
    · rfl
end
theorem bc_0 : ∀ {x : Int32}, S12 x → bc x = 0 → x = 0 := fun {x} hx h => by
  apply S12_ext hx S12_0
  intro k hk
  rw [bt_0]
  unfold bc at h
  have := List.countP_eq_zero.mp h k (List.mem_range.mpr hk)
  simpa using this
theorem bc_lo {x : Int32} (h : 0 < bc x) : ∃ a, lo x = some a := by
  cases e : lo x with
  | some a => exact ⟨a, rfl⟩
  | none =>
    have := lo_none.mp e
    unfold bc at h
    rw [List.countP_eq_zero.mpr (fun k hk => by rw [this k (List.mem_range.mp hk)]; decide)] at h
    omega
theorem bc_hi {x : Int32} (h : 0 < bc x) : ∃ a, hi x = some a := by
  cases e : hi x with
  | some a => exact ⟨a, rfl⟩
  | none =>
    have := hi_none.mp e
    unfold bc at h
    rw [List.countP_eq_zero.mpr (fun k hk => by rw [this k (List.mem_range.mp hk)]; decide)] at h
    omega
theorem bc_free {x : Int32} (h : bc x < 12) : ∃ a, lo (x ^^^ (-1)) = some a := by
  cases e : lo (x ^^^ (-1)) with
  | some a => exact ⟨a, rfl⟩
  | none =>
    have h0 := lo_none.mp e
    unfold bc at h
    have : (List.range 12).countP (bt x) = (List.range 12).length := List.countP_eq_length.mpr (fun k hk => by
      have hk := List.mem_range.mp hk
      have := h0 k hk
      rw [bt_not _ (by omega)] at this
      simpa using this)
    rw [List.length_range] at this
    omega
theorem lo_not {x : Int32} {k : Nat} (h : lo (x ^^^ (-1)) = some k) : k < 12 ∧ bt x k = false ∧ ∀ i, i < k → bt x i = true := by
  obtain ⟨h1, h2, h3⟩ := lo_some.mp h
  rw [bt_not _ (by omega)] at h2
  refine ⟨h1, by simpa using h2, fun i hi => ?_⟩
  have := h3 i hi
  rw [bt_not _ (by omega)] at this
  simpa using this
theorem lo_0 : lo 0 = none := lo_none.mpr fun i _ => bt_0 i
theorem hi_0 : hi 0 = none := hi_none.mpr fun i _ => bt_0 i
theorem jf_free_of {f : jF} {k : Nat} (h : lo (f.2.2 ^^^ (-1)) = some k) : jf_free f = k := by unfold jf_free; rw [h]; rfl
theorem bt_clr (x : Int32) {p k : Nat} (hp : p < 12) (hk : k < 12) : bt (x &&& (jk_bit p ^^^ (-1))) k = (bt x k && decide (k ≠ p)) := by
  rw [bt_and, bt_not _ (by omega), bt_bit (by omega) (by omega)]
  by_cases q : k = p <;> simp [q]
theorem bt_set (x : Int32) {p k : Nat} (hp : p < 12) (hk : k < 12) : bt (x ||| jk_bit p) k = (bt x k || decide (k = p)) := by
  rw [bt_or, bt_bit (by omega) (by omega)]
section
variable {rc : Nat → Nat × (Nat → Int32)} {h : jxH} {a t : Nat} {f g : jF} {m : jM} {sg : Int32}
theorem jF_has_neg {p : Int32} (hp : p < 0) : jF_has f p = false := by unfold jF_has; rw [if_pos hp]
theorem st_blowDown (H : st_at h t m sg) (G : fo_at h a f) (B : jf_B f) (ht : t < a ∨ a + 3 ≤ t) {p : Nat} (hp : p < 12) (hb : bt f.2.2 p = true) (hm : m.2.1 = Int32.ofNat p) : ∃ h', (∀ d, jx_C rc (d + 3) 291 [.ref t, .ref a] h = some (none, h')) ∧ fo_at h' a (jf_down f p) ∧ Fr (jI a 3) h h' := by
  obtain ⟨h1, r1, r2, r3⟩ := fo_remove (rc := rc) G hp hb
  have g1 : jx_gI (jx_at h t) 6 1 = some (Int32.ofNat p) := hm ▸ st_g1 H
  have hP : ¬ jI a 3 t := fun q => by unfold jI at q; omega
  unfold jf_down
  cases e1 : lo (f.2.1 p) with
  | none =>
    have e2 : hi (f.2.1 p) = none := hi_none.mpr (lo_none.mp e1)
    simp only []
    refine ⟨h1, fun d => ?_, r2, r3⟩
    rw [je_291, if_pos (st_is H), g1, jk_bs, fo_weightAt G, jk_cI, g1, jk_bs, fo_nearsAt G, jk_cI, cl_leastOf, jk_cI, cl_greatestOf, jk_cI, g1, jk_bs, r1, jk_cV, jF_n_of hp, e1, e2]
    rw [fo_addWeight_no r2 (jF_has_neg (show jk_on none < 0 by decide)), jk_cV]
    rfl
  | some x =>
    obtain ⟨x1, x2, x3⟩ := lo_some.mp e1
    obtain ⟨y, e2⟩ := bc_hi (x := f.2.1 p) (by
      unfold bc
      exact List.countP_pos_iff.mpr ⟨x, List.mem_range.mpr x1, x2⟩)
    obtain ⟨y1, y2, y3⟩ := hi_some.mp e2
    obtain ⟨-, nx, ne, -⟩ := B.nb hp x2
    obtain ⟨-, ny, ne', -⟩ := B.nb hp y2
    rw [e2]
    simp only []
    obtain ⟨h2, s1, s2, s3⟩ := fo_addWeight (rc := rc) r2 x1 (show bt (f.2.2 &&& (jk_bit p ^^^ (-1))) x = true by rw [bt_clr _ hp x1, nx]; simp [ne]) (-(f.1 p))
    by_cases hxy : x = y
    · rw [if_pos hxy]
      refine ⟨h2, fun d => ?_, s2, r3.trans s3⟩
      rw [je_291, if_pos (st_is H), g1, jk_bs, fo_weightAt G, jk_cI, g1, jk_bs, fo_nearsAt G, jk_cI, cl_leastOf, jk_cI, cl_greatestOf, jk_cI, g1, jk_bs, r1, jk_cV, jF_n_of hp, jF_w_of hp, e1, e2]
      show jx_cV (jx_C rc (d + 2) 238 [.ref a, .int (Int32.ofNat x), .int (-f.1 p)] h1) _ = _
      rw [s1, jk_cV, hxy, if_pos rfl]
    · rw [if_neg hxy]
      obtain ⟨h3, u1, u2, u3⟩ := fo_addWeight (rc := rc) s2 y1 (show bt (f.2.2 &&& (jk_bit p ^^^ (-1))) y = true by rw [bt_clr _ hp y1, ny]; simp [ne']) (-(f.1 p))
      obtain ⟨h4, v1, v2, v3⟩ := fo_join (rc := rc) u2 x1 y1
      refine ⟨h4, fun d => ?_, v2, (r3.trans s3).trans (u3.trans v3)⟩
      rw [je_291, if_pos (st_is H), g1, jk_bs, fo_weightAt G, jk_cI, g1, jk_bs, fo_nearsAt G, jk_cI, cl_leastOf, jk_cI, cl_greatestOf, jk_cI, g1, jk_bs, r1, jk_cV, jF_n_of hp, jF_w_of hp, e1, e2]
      show jx_cV (jx_C rc (d + 2) 238 [.ref a, .int (Int32.ofNat x), .int (-f.1 p)] h1) _ = _
      rw [s1, jk_cV, if_neg (show ¬ jk_on (some x) = jk_on (some y) from fun q => hxy ((jk_inj (by omega) (by omega)).mp q))]
      show jx_cV (jx_C rc (d + 2) 238 [.ref a, .int (Int32.ofNat y), .int (-f.1 p)] h2) _ = _
      rw [u1, jk_cV]
      show jx_cV (jx_C rc (d + 2) 241 [.ref a, .int (Int32.ofNat x), .int (Int32.ofNat y)] h3) _ = _
      rw [v1, jk_cV]
theorem st_bud (H : st_at h t m sg) (G : fo_at h a f) (ht : t < a ∨ a + 3 ≤ t) {p c : Nat} (hp : p < 12) (hb : bt f.2.2 p = true) (hm : m.2.1 = Int32.ofNat p) (hc : lo (f.2.2 ^^^ (-1)) = some c) : ∃ h', (∀ d, jx_C rc (d + 3) 292 [.ref t, .ref a] h = some (some (.int (Int32.ofNat c)), h')) ∧ fo_at h' a (jf_bud f p m.2.2.2.1) ∧ Fr (jI a 3) h h' := by
  obtain ⟨c1, c2, -⟩ := lo_not hc
  have hP : ¬ jI a 3 t := fun q => by unfold jI at q; omega
  obtain ⟨h1, r1, r2, r3⟩ := fo_grow (rc := rc) G hc m.2.2.2.1
  obtain ⟨h2, s1, s2, s3⟩ := fo_addWeight (rc := rc) r2 hp (show bt (f.2.2 ||| jk_bit c) p = true by rw [bt_set _ c1 hp, hb]; rfl) m.2.2.2.1
  obtain ⟨h3, u1, u2, u3⟩ := fo_join (rc := rc) s2 c1 hp
  have H1 := st_fr r3 hP H
  have H2 := st_fr s3 hP H1
  refine ⟨h3, fun d => ?_, ?_, (r3.trans s3).trans u3⟩
  · rw [je_292, if_pos (st_is H), st_g3 H, jk_bs, r1, jk_cI, st_g1 H1, jk_bs, st_g3 H1, jk_bs, hm, s1, jk_cV, st_g1 H2, jk_bs, hm, u1, jk_cV]
  · unfold jf_bud; rw [jf_free_of hc]; exact u2
theorem st_absorb (H : st_at h t m sg) (G : fo_at h a f) (B : jf_B f) (ht : t < a ∨ a + 3 ≤ t) {p : Nat} (hp : p < 12) (hb : bt f.2.2 p = true) (hm : m.2.1 = Int32.ofNat p) (h2n : bc (f.2.1 p) = 2) : ∃ h', (∀ d, jx_C rc (d + 3) 293 [.ref t, .ref a] h = some (none, h')) ∧ fo_at h' a (jf_absorb f p) ∧ Fr (jI a 3) h h' := by
  have hP : ¬ jI a 3 t := fun q => by unfold jI at q; omega
  have g1 : jx_gI (jx_at h t) 6 1 = some (Int32.ofNat p) := hm ▸ st_g1 H
  obtain ⟨x, e1⟩ := bc_lo (x := f.2.1 p) (by omega)
  obtain ⟨y, e2⟩ := bc_hi (x := f.2.1 p) (by omega)
  obtain ⟨x1, x2, x3⟩ := lo_some.mp e1
  obtain ⟨y1, y2, y3⟩ := hi_some.mp e2
  obtain ⟨-, nx, ne, -⟩ := B.nb hp x2
  obtain ⟨-, ny, ne', -⟩ := B.nb hp y2
  obtain ⟨h1, r1, r2, r3⟩ := fo_remove (rc := rc) G hp hb
  obtain ⟨h2, s1, s2, s3⟩ := fo_addWeight (rc := rc) r2 x1 (show bt (f.2.2 &&& (jk_bit p ^^^ (-1))) x = true by rw [bt_clr _ hp x1, nx]; simp [ne]) ((jf_rem f p).1 y)
  obtain ⟨h3, u1, u2, u3⟩ := fo_remove (rc := rc) s2 y1 (show bt (f.2.2 &&& (jk_bit p ^^^ (-1))) y = true by rw [bt_clr _ hp y1, ny]; simp [ne'])
  obtain ⟨h4, v1, v2, v3⟩ := fo_joinAll (rc := rc) u2 x1 ((jf_rem f p).2.1 y)
  refine ⟨h4, fun d => ?_, ?_, (r3.trans s3).trans (u3.trans v3)⟩
  · rw [je_293, if_pos (st_is H), g1, jk_bs, fo_nearsAt G, jk_cI, cl_leastOf, jk_cI, g1, jk_bs, fo_nearsAt G, jk_cI, cl_greatestOf, jk_cI, g1, jk_bs, r1, jk_cV, jF_n_of hp, e1, e2]
    show jx_cI (jx_C rc (d + 2) 229 [.ref a, .int (Int32.ofNat y)] h1) _ = _
    rw [fo_nearsAt r2, jk_cI]
    show jx_cI (jx_C rc (d + 2) 228 [.ref a, .int (Int32.ofNat y)] h1) _ = _
    rw [fo_weightAt r2, jk_cI, jF_n_of y1, jF_w_of y1]
    show jx_cV (jx_C rc (d + 2) 238 [.ref a, .int (Int32.ofNat x), .int ((jf_rem f p).1 y)] h1) _ = _
    rw [s1, jk_cV]
    show jx_cV (jx_C rc (d + 2) 245 [.ref a, .int (Int32.ofNat y)] h2) _ = _
    rw [u1, jk_cV]
    show jx_cV (jx_C rc (d + 2) 242 [.ref a, .int (Int32.ofNat x), .int ((jf_rem f p).2.1 y)] h3) _ = _
    rw [v1, jk_cV]
  · unfold jf_absorb; rw [e1, e2]; exact v2
theorem st_draw (H : st_at h t m sg) (G : fo_at h a f) (ht : t < a ∨ a + 3 ≤ t) {p z c : Nat} (hp : p < 12) (hb : bt f.2.2 p = true) (hm : m.2.1 = Int32.ofNat p) (hz : lo (f.2.2 ^^^ (-1)) = some z) (hc : lo ((f.2.2 ||| jk_bit z) ^^^ (-1)) = some c) : ∃ h', (∀ d, jx_C rc (d + 3) 294 [.ref t, .ref a] h = some (none, h')) ∧ fo_at h' a (jf_draw f p m.2.2.2.1 m.2.2.2.2) ∧ Fr (jI a 3) h h' := by
  have hP : ¬ jI a 3 t := fun q => by unfold jI at q; omega
  obtain ⟨z1, z2, -⟩ := lo_not hz
  obtain ⟨c1, c2, -⟩ := lo_not hc
  obtain ⟨h1, r1, r2, r3⟩ := fo_grow (rc := rc) G hz 0
  obtain ⟨h2, s1, s2, s3⟩ := fo_grow (rc := rc) r2 hc m.2.2.2.1
  obtain ⟨h3, u1, u2, u3⟩ := fo_addWeight (rc := rc) s2 hp (show bt ((f.2.2 ||| jk_bit z) ||| jk_bit c) p = true by rw [bt_set _ c1 hp, bt_set _ z1 hp, hb]; rfl) (-m.2.2.2.1)
  obtain ⟨h4, v1, v2, v3⟩ := fo_partAll (rc := rc) u2 hp m.2.2.2.2
  obtain ⟨h5, w1, w2, w3⟩ := fo_joinAll (rc := rc) v2 c1 m.2.2.2.2
  obtain ⟨h6, x1, x2, x3⟩ := fo_join (rc := rc) w2 hp z1
  obtain ⟨h7, y1, y2, y3⟩ := fo_join (rc := rc) x2 z1 c1
  have H1 := st_fr r3 hP H
  have H2 := st_fr s3 hP H1
  have H3 := st_fr u3 hP H2
  have H4 := st_fr v3 hP H3
  have H5 := st_fr w3 hP H4
  refine ⟨h7, fun d => ?_, ?_, ((r3.trans s3).trans (u3.trans v3)).trans ((w3.trans x3).trans y3)⟩
  · rw [je_294, if_pos (st_is H), r1, jk_cI, st_g3 H1, jk_bs, s1, jk_cI, st_g1 H2, jk_bs, st_g3 H2, jk_bs, hm, u1, jk_cV, st_g1 H3, jk_bs, st_g4 H3, jk_bs, hm, v1, jk_cV, st_g4 H4, jk_bs, w1, jk_cV, st_g1 H5, jk_bs, hm, x1, jk_cV, y1, jk_cV]
  · have e1 : jf_free f = z := jf_free_of hz
    have e2 : jf_free (jf_grow f z 0) = c := jf_free_of (f := jf_grow f z 0) hc
    unfold jf_draw; rw [e1, e2]; exact y2
theorem jf_ref_0 (e : jf_ref f false m = 0) (hk : m.1 = 0) : ∃ p, p < 12 ∧ m.2.1 = Int32.ofNat p ∧ bt f.2.2 p = true ∧ (f.1 p = 1 ∨ f.1 p = -1) ∧ bc (f.2.1 p) ≤ 2 := by
  unfold jf_ref at e
  rw [if_pos hk] at e
  by_cases h1 : jF_has f m.2.1 = true
  · rw [if_pos h1] at e
    obtain ⟨p, hp, e1, e2⟩ := jF_has_iff.mp h1
    rw [e1, jF_w_of hp, jF_n_of hp] at e
    split at e
    · rename_i q; exact ⟨p, hp, e1, e2, q.1, q.2⟩
    · exact absurd e (by decide)
  · rw [if_neg h1] at e; exact absurd e (by decide)
theorem jf_ref_1 (e : jf_ref f false m = 0) (hk : m.1 = 1) : ∃ p q, p < 12 ∧ q < 12 ∧ m.2.1 = Int32.ofNat p ∧ m.2.2.1 = Int32.ofNat q ∧ bt f.2.2 p = true ∧ bt f.2.2 q = true ∧ bt (f.2.1 p) q = true ∧ (m.2.2.2.1 = 1 ∨ m.2.2.2.1 = -1) ∧ bc f.2.2 < 12 := by
  unfold jf_ref at e
  rw [if_neg (by rw [hk]; decide), if_pos hk] at e
  split at e
  · rename_i q
    split at e
    · rename_i r
      split at e
      · exact absurd e (by decide)
      · rename_i z
        obtain ⟨p, hp, e1, e2⟩ := jF_has_iff.mp q.1
        obtain ⟨j, hj, e3, e4⟩ := jF_has_iff.mp q.2.1
        rw [e1, e3, jF_near_of hp hj] at r
        refine ⟨p, j, hp, hj, e1, e3, e2, e4, r, q.2.2, ?_⟩
        have : ¬ 12 ≤ bc f.2.2 := fun w => z (Or.inr w)
        omega
    · exact absurd e (by decide)
  · exact absurd e (by decide)
theorem jf_ref_2 (e : jf_ref f false m = 0) (hk : m.1 = 2) : ∃ p, p < 12 ∧ m.2.1 = Int32.ofNat p ∧ bt f.2.2 p = true ∧ (m.2.2.2.1 = 1 ∨ m.2.2.2.1 = -1) ∧ bc f.2.2 < 12 := by
  unfold jf_ref at e
  rw [if_neg (by rw [hk]; decide), if_neg (by rw [hk]; decide), if_pos hk] at e
  split at e
  · rename_i q
    split at e
    · exact absurd e (by decide)
    · rename_i z
      obtain ⟨p, hp, e1, e2⟩ := jF_has_iff.mp q.1
      refine ⟨p, hp, e1, e2, q.2, ?_⟩
      have : ¬ 12 ≤ bc f.2.2 := fun w => z (Or.inr w)
      omega
  · exact absurd e (by decide)
theorem jf_ref_3 (e : jf_ref f false m = 0) (hk : m.1 = 3) : (m.2.2.2.1 = 1 ∨ m.2.2.2.1 = -1) ∧ bc f.2.2 < 12 := by
  unfold jf_ref at e
  rw [if_neg (by rw [hk]; decide), if_neg (by rw [hk]; decide), if_neg (by rw [hk]; decide), if_pos hk] at e
  split at e
  · rename_i q
    split at e
    · exact absurd e (by decide)
    · rename_i z
      refine ⟨q, ?_⟩
      have : ¬ 12 ≤ bc f.2.2 := fun w => z (Or.inr w)
      omega
  · exact absurd e (by decide)
theorem jf_ref_4 (e : jf_ref f false m = 0) (hk : m.1 = 4) : ∃ p, p < 12 ∧ m.2.1 = Int32.ofNat p ∧ bt f.2.2 p = true ∧ f.1 p = 0 ∧ bc (f.2.1 p) = 2 := by
  unfold jf_ref at e
  rw [if_neg (by rw [hk]; decide), if_neg (by rw [hk]; decide), if_neg (by rw [hk]; decide), if_neg (by rw [hk]; decide), if_pos hk] at e
  by_cases h1 : jF_has f m.2.1 = true
  · rw [if_pos h1] at e
    obtain ⟨p, hp, e1, e2⟩ := jF_has_iff.mp h1
    rw [e1, jF_w_of hp, jF_n_of hp] at e
    split at e
    · rename_i q; exact ⟨p, hp, e1, e2, q.1, q.2⟩
    · exact absurd e (by decide)
  · rw [if_neg h1] at e; exact absurd e (by decide)
theorem jf_ref_5 (e : jf_ref f false m = 0) (hk : m.1 = 5) : ∃ p, p < 12 ∧ m.2.1 = Int32.ofNat p ∧ bt f.2.2 p = true ∧ f.1 p = 0 ∧ bc (f.2.1 p) = 1 := by
  unfold jf_ref at e
  rw [if_neg (by rw [hk]; decide), if_neg (by rw [hk]; decide), if_neg (by rw [hk]; decide), if_neg (by rw [hk]; decide), if_neg (by rw [hk]; decide), if_pos hk] at e
  by_cases h1 : jF_has f m.2.1 = true
  · rw [if_pos h1] at e
    obtain ⟨p, hp, e1, e2⟩ := jF_has_iff.mp h1
    rw [e1, jF_w_of hp, jF_n_of hp] at e
    split at e
    · rename_i q; exact ⟨p, hp, e1, e2, q.1, q.2⟩
    · exact absurd e (by decide)
  · rw [if_neg h1] at e; exact absurd e (by decide)
theorem jf_ref_7 (e : jf_ref f false m = 0) (hk : m.1 = 7) : ∃ p, p < 12 ∧ m.2.1 = Int32.ofNat p ∧ bt f.2.2 p = true ∧ jp_wt m.2.2.2.1 = true ∧ m.2.2.2.2 &&& (f.2.1 p ^^^ (-1)) = 0 ∧ bc f.2.2 < 11 := by
  unfold jf_ref at e
  rw [if_neg (by rw [hk]; decide), if_neg (by rw [hk]; decide), if_neg (by rw [hk]; decide), if_neg (by rw [hk]; decide), if_neg (by rw [hk]; decide), if_neg (by rw [hk]; decide), if_neg (by rw [hk]; decide), if_pos hk] at e
  split at e
  · rename_i q
    split at e
    · exact absurd e (by decide)
    · rename_i z
      obtain ⟨p, hp, e1, e2⟩ := jF_has_iff.mp q.1
      have q2 := q.2.2
      rw [e1, jF_n_of hp] at q2
      refine ⟨p, hp, e1, e2, q.2.1, q2, ?_⟩
      have : ¬ 11 ≤ bc f.2.2 := fun w => z (Or.inr w)
      omega
  · exact absurd e (by decide)
theorem jf_ref_k (e : jf_ref f false m = 0) : m.1 = 0 ∨ m.1 = 1 ∨ m.1 = 2 ∨ m.1 = 3 ∨ m.1 = 4 ∨ m.1 = 5 ∨ m.1 = 6 ∨ m.1 = 7 := by
  apply Classical.byContradiction
  intro q
  simp only [not_or] at q
  unfold jf_ref at e
  simp only [q, if_false] at e
  exact absurd e (by decide)
theorem bc_set {x : Int32} {z : Nat} (hz : z < 12) : bc (x ||| jk_bit z) ≤ bc x + 1 := by
  unfold bc
  have : ∀ l : List Nat, (∀ k ∈ l, k < 12) → l.Nodup → l.countP (bt (x ||| jk_bit z)) ≤ l.countP (bt x) + (if z ∈ l then 1 else 0) := by
    intro l
    induction l with
    | nil => intro _ _; simp
    | cons k l ih =>
      intro h1 h2
      have hk := h1 k (by simp)
      have i := ih (fun j hj => h1 j (by simp [hj])) (List.nodup_cons.mp h2).2
      have h3 := (List.nodup_cons.mp h2).1
      rw [List.countP_cons, List.countP_cons, bt_set _ hz hk]
      by_cases q : k = z
      · subst q
        simp [h3] at i ⊢
        cases bt x k <;> simp <;> omega
      · have q' : ¬ z = k := fun w => q w.symm
        simp [q, q', List.mem_cons] at i ⊢
        by_cases z' : z ∈ l <;> simp [z'] at i ⊢ <;> omega
  have := this (List.range 12) (fun k hk => List.mem_range.mp hk) List.nodup_range
  split at this <;> omega
/-- act() -/
theorem st_act (H : st_at h t m sg) (G : fo_at h a f) (B : jf_B f) (ht : t < a ∨ a + 3 ≤ t) (e : jf_ref f false m = 0) : ∃ h', (∀ d, jx_C rc (d + 4) 290 [.ref t, .ref a] h = some (none, h')) ∧ fo_at h' a (jf_act f m) ∧ Fr (jI a 3) h h' := by
  have hP : ¬ jI a 3 t := fun q => by unfold jI at q; omega
  rcases jf_ref_k e with hk | hk | hk | hk | hk | hk | hk | hk
  · obtain ⟨p, hp, e1, e2, -, -⟩ := jf_ref_0 e hk
    obtain ⟨h', i1, i2, i3⟩ := st_blowDown (rc := rc) H G B ht hp e2 e1
    refine ⟨h', fun d => ?_, ?_, i3⟩
    · rw [je_290, if_pos (st_is H), st_g0 H, jk_bs, hk, if_pos rfl, i1, jk_cV]
    · unfold jf_act; rw [if_pos hk, e1, pn_of hp]; exact i2
  · obtain ⟨p, q, hp, hq, e1, e3, e2, e4, e5, e6, e7⟩ := jf_ref_1 e hk
    obtain ⟨c, hc⟩ := bc_free e7
    obtain ⟨c1, c2, -⟩ := lo_not hc
    obtain ⟨h1, r1, r2, r3⟩ := fo_part (rc := rc) G hp hq
    have H1 := st_fr r3 hP H
    obtain ⟨h2, s1, s2, s3⟩ := fo_addWeight (rc := rc) r2 hq e4 m.2.2.2.1
    have H2 := st_fr s3 hP H1
    obtain ⟨h3, u1, u2, u3⟩ := st_bud (rc := rc) H2 s2 ht hp e2 e1 hc
    have H3 := st_fr u3 hP H2
    obtain ⟨h4, v1, v2, v3⟩ := fo_join (rc := rc) u2 c1 hq
    refine ⟨h4, fun d => ?_, ?_, (r3.trans s3).trans (u3.trans v3)⟩
    · rw [je_290, if_pos (st_is H), st_g0 H, jk_bs, hk, if_neg (by decide), if_pos (by decide), st_g1 H, jk_bs, st_g2 H, jk_bs, e1, e3, r1, jk_cV, st_g2 H1, jk_bs, st_g3 H1, jk_bs, e3, s1, jk_cV, u1, jk_cI, st_g2 H3, jk_bs, e3, v1, jk_cV]
    · unfold jf_act; rw [if_neg (by rw [hk]; decide), if_pos hk, e1, e3, pn_of hp, pn_of hq]; unfold jf_up; rw [jf_free_of hc]; exact v2
  · obtain ⟨p, hp, e1, e2, e3, e4⟩ := jf_ref_2 e hk
    obtain ⟨c, hc⟩ := bc_free e4
    obtain ⟨h', i1, i2, i3⟩ := st_bud (rc := rc) H G ht hp e2 e1 hc
    refine ⟨h', fun d => ?_, ?_, i3⟩
    · rw [je_290, if_pos (st_is H), st_g0 H, jk_bs, hk, if_neg (by decide), if_neg (by decide), if_pos (by decide), i1, jk_cI]
    · unfold jf_act; rw [if_neg (by rw [hk]; decide), if_neg (by rw [hk]; decide), if_pos hk, e1, pn_of hp]; exact i2
  · obtain ⟨e3, e4⟩ := jf_ref_3 e hk
    obtain ⟨c, hc⟩ := bc_free e4
    obtain ⟨h', i1, i2, i3⟩ := fo_grow (rc := rc) G hc m.2.2.2.1
    refine ⟨h', fun d => ?_, ?_, i3⟩
    · rw [je_290, if_pos (st_is H), st_g0 H, jk_bs, hk, if_neg (by decide), if_neg (by decide), if_neg (by decide), if_pos (by decide), st_g3 H, jk_bs, i1, jk_cI]
    · unfold jf_act; rw [if_neg (by rw [hk]; decide), if_neg (by rw [hk]; decide), if_neg (by rw [hk]; decide), if_pos hk, jf_free_of hc]; exact i2
  · obtain ⟨p, hp, e1, e2, -, e4⟩ := jf_ref_4 e hk
    obtain ⟨h', i1, i2, i3⟩ := st_absorb (rc := rc) H G B ht hp e2 e1 e4
    refine ⟨h', fun d => ?_, ?_, i3⟩
    · rw [je_290, if_pos (st_is H), st_g0 H, jk_bs, hk, if_neg (by decide), if_neg (by decide), if_neg (by decide), if_neg (by decide), if_pos (by decide), i1, jk_cV]
    · unfold jf_act; rw [if_neg (by rw [hk]; decide), if_neg (by rw [hk]; decide), if_neg (by rw [hk]; decide), if_neg (by rw [hk]; decide), if_pos hk, e1, pn_of hp]; exact i2
  · obtain ⟨p, hp, e1, e2, -, e4⟩ := jf_ref_5 e hk
    obtain ⟨x, hx⟩ := bc_lo (x := f.2.1 p) (by omega)
    obtain ⟨x1, x2, x3⟩ := lo_some.mp hx
    obtain ⟨-, nx, ne, -⟩ := B.nb hp x2
    obtain ⟨h1, r1, r2, r3⟩ := fo_remove (rc := rc) G x1 nx
    have H1 := st_fr r3 hP H
    obtain ⟨h2, s1, s2, s3⟩ := fo_remove (rc := rc) r2 hp (show bt (f.2.2 &&& (jk_bit x ^^^ (-1))) p = true by rw [bt_clr _ x1 hp, e2]; simp; exact fun q => ne q.symm)
    refine ⟨h2, fun d => ?_, ?_, r3.trans s3⟩
    · rw [je_290, if_pos (st_is H), st_g0 H, jk_bs, hk, if_neg (by decide), if_neg (by decide), if_neg (by decide), if_neg (by decide), if_neg (by decide), if_pos (by decide), st_g1 H, jk_bs, e1, fo_nearsAt G, jk_cI, cl_leastOf, jk_cI, jF_n_of hp, hx]
      show jx_cV (jx_C rc (d + 3) 245 [.ref a, .int (Int32.ofNat x)] h) _ = _
      rw [r1, jk_cV, st_g1 H1, jk_bs, e1, s1, jk_cV]
    · unfold jf_act; rw [if_neg (by rw [hk]; decide), if_neg (by rw [hk]; decide), if_neg (by rw [hk]; decide), if_neg (by rw [hk]; decide), if_neg (by rw [hk]; decide), if_pos hk, e1, pn_of hp]; unfold jf_split; rw [hx]; exact s2
  · obtain ⟨h', i1, i2, i3⟩ := fo_mirror (rc := rc) G
    refine ⟨h', fun d => ?_, ?_, i3⟩
    · rw [je_290, if_pos (st_is H), st_g0 H, jk_bs, hk, if_neg (by decide), if_neg (by decide), if_neg (by decide), if_neg (by decide), if_neg (by decide), if_neg (by decide), if_pos (by decide), i1, jk_cV]
    · unfold jf_act; rw [if_neg (by rw [hk]; decide), if_neg (by rw [hk]; decide), if_neg (by rw [hk]; decide), if_neg (by rw [hk]; decide), if_neg (by rw [hk]; decide), if_neg (by rw [hk]; decide), if_pos hk]; exact i2
  · obtain ⟨p, hp, e1, e2, -, -, e4⟩ := jf_ref_7 e hk
    obtain ⟨z, hz⟩ := bc_free (x := f.2.2) (by omega)
    obtain ⟨c, hc⟩ := bc_free (x := f.2.2 ||| jk_bit z) (by have := bc_set (x := f.2.2) (lo_not hz).1; omega)
    obtain ⟨h', i1, i2, i3⟩ := st_draw (rc := rc) H G ht hp e2 e1 hz hc
    refine ⟨h', fun d => ?_, ?_, i3⟩
    · rw [je_290, if_pos (st_is H), st_g0 H, jk_bs, hk, if_neg (by decide), if_neg (by decide), if_neg (by decide), if_neg (by decide), if_neg (by decide), if_neg (by decide), if_neg (by decide), if_pos (by decide), i1, jk_cV]
    · unfold jf_act; rw [if_neg (by rw [hk]; decide), if_neg (by rw [hk]; decide), if_neg (by rw [hk]; decide), if_neg (by rw [hk]; decide), if_neg (by rw [hk]; decide), if_neg (by rw [hk]; decide), if_neg (by rw [hk]; decide), e1, pn_of hp]; exact i2
end
end
section
/-! Sets of one, of two: their least and greatest -/
set_option maxRecDepth 100000 in
theorem jk_two_all : (List.range 4096).all (fun n => !(decide (bc (Int32.ofNat n) ≤ 2)) || (List.range 12).all fun k => !(bt (Int32.ofNat n) k) || (lo (Int32.ofNat n) == some k || hi (Int32.ofNat n) == some k)) = true := by decide +kernel
set_option maxRecDepth 100000 in
theorem jk_other_all : (List.range 4096).all (fun n => !(decide (bc (Int32.ofNat n) = 2)) || (lo (Int32.ofNat n &&& (Int32.ofNat n - 1)) == hi (Int32.ofNat n) && !(lo (Int32.ofNat n) == hi (Int32.ofNat n)))) = true := by decide +kernel
set_option maxRecDepth 100000 in
theorem jk_one_all : (List.range 4096).all (fun n => !(decide (bc (Int32.ofNat n) = 1)) || lo (Int32.ofNat n) == hi (Int32.ofNat n)) = true := by decide +kernel
theorem jk_two {x : Int32} (hx : S12 x) (h2 : bc x ≤ 2) {k : Nat} (hk : k < 12) (hb : bt x k = true) : lo x = some k ∨ hi x = some k := by
  obtain ⟨n, hn, rfl⟩ := S12_nat hx
  have h := List.all_eq_true.mp jk_two_all n (List.mem_range.mpr hn)
  simp only [h2, decide_true, Bool.not_true, Bool.false_or] at h
  have h' := List.all_eq_true.mp h k (List.mem_range.mpr hk)
  simpa [hb] using h'
theorem jk_other {x : Int32} (hx : S12 x) (h2 : bc x = 2) : lo (x &&& (x - 1)) = hi x ∧ lo x ≠ hi x := by
  obtain ⟨n, hn, rfl⟩ := S12_nat hx
  have h := List.all_eq_true.mp jk_other_all n (List.mem_range.mpr hn)
  simpa [h2] using h
theorem jk_one {x : Int32} (hx : S12 x) (h2 : bc x = 1) : lo x = hi x := by
  obtain ⟨n, hn, rfl⟩ := S12_nat hx
  have h := List.all_eq_true.mp jk_one_all n (List.mem_range.mpr hn)
  simpa [h2] using h
end
section
/-! Bits of what a move makes -/
theorem bt_cmp (x : Int32) {k : Nat} (hk : k < 32) : bt (~~~x) k = !bt x k := by rw [← Int32.xor_neg_one, bt_not _ hk]
section
variable {f g : jF}
theorem jb_join (f : jF) {p q x y : Nat} (hp : p < 12) (hq : q < 12) (hy : y < 32) : bt ((jf_join f p q).2.1 x) y = (bt (f.2.1 x) y || decide (x = p ∧ y = q) || decide (x = q ∧ y = p)) := by
  unfold jf_join upd
  simp only []
  by_cases h1 : x = q
  · subst h1
    by_cases h2 : x = p
    · subst h2
      simp [bt_or, bt_bit (show x < 32 by omega) hy]
    · simp [h2, bt_or, bt_bit (show p < 32 by omega) hy]
  · by_cases h2 : x = p
    · subst h2
      simp [h1, bt_or, bt_bit (show q < 32 by omega) hy]
    · simp [h1, h2]
theorem jb_part (f : jF) {p q x y : Nat} (hp : p < 12) (hq : q < 12) (hy : y < 32) : bt ((jf_part f p q).2.1 x) y = (bt (f.2.1 x) y && !decide (x = p ∧ y = q) && !decide (x = q ∧ y = p)) := by
  unfold jf_part upd
  simp only []
  by_cases h1 : x = q
  · subst h1
    by_cases h2 : x = p
    · subst h2
      simp [bt_and, bt_cmp _ hy, bt_bit (show x < 32 by omega) hy]
    · simp [h2, bt_and, bt_cmp _ hy, bt_bit (show p < 32 by omega) hy]
  · by_cases h2 : x = p
    · subst h2
      simp [h1, bt_and, bt_cmp _ hy, bt_bit (show q < 32 by omega) hy]
    · simp [h1, h2]
theorem jb_rem (f : jF) {p x y : Nat} (hp : p < 12) (hy : y < 32) : bt ((jf_rem f p).2.1 x) y = (bt (f.2.1 x) y && !decide (x = p) && !decide (y = p)) := by
  unfold jf_rem upd
  simp only []
  by_cases h1 : x = p
  · simp [h1, bt_0]
  · simp [h1, bt_and, bt_cmp _ hy, bt_bit (show p < 32 by omega) hy]
theorem jb_joins (f : jF) {p x y : Nat} (s : Int32) (hp : p < 12) (hy : y < 32) : ∀ n, n ≤ 12 → bt ((jf_joins f p s n).2.1 x) y = (bt (f.2.1 x) y || (decide (x = p ∧ y < n) && bt s y) || (decide (y = p ∧ x < n) && bt s x))
  | 0, _ => by simp [jf_joins]
  | n + 1, h => by
    unfold jf_joins
    split
    · rename_i hb
      rw [jb_join _ hp (by omega) hy, jb_joins f s hp hy n (by omega)]
      grind
    · rename_i hb
      rw [jb_joins f s hp hy n (by omega)]
      grind
theorem jb_parts (f : jF) {p x y : Nat} (s : Int32) (hp : p < 12) (hy : y < 32) : ∀ n, n ≤ 12 → bt ((jf_parts f p s n).2.1 x) y = (bt (f.2.1 x) y && !(decide (x = p ∧ y < n) && bt s y) && !(decide (y = p ∧ x < n) && bt s x))
  | 0, _ => by simp [jf_parts]
  | n + 1, h => by
    unfold jf_parts
    split
    · rename_i hb
      rw [jb_part _ hp (by omega) hy, jb_parts f s hp hy n (by omega)]
      grind
    · rename_i hb
      rw [jb_parts f s hp hy n (by omega)]
      grind
theorem jw_joins (f : jF) (p : Nat) (s : Int32) : ∀ n, (jf_joins f p s n).1 = f.1 ∧ (jf_joins f p s n).2.2 = f.2.2
  | 0 => ⟨rfl, rfl⟩
  | n + 1 => by
    unfold jf_joins
    split
    · exact jw_joins f p s n
    · exact jw_joins f p s n
theorem jw_parts (f : jF) (p : Nat) (s : Int32) : ∀ n, (jf_parts f p s n).1 = f.1 ∧ (jf_parts f p s n).2.2 = f.2.2
  | 0 => ⟨rfl, rfl⟩
  | n + 1 => by
    unfold jf_parts
    split
    · exact jw_parts f p s n
    · exact jw_parts f p s n
end
end
section
/-! The reference's rows of 25 ints: what its static methods answer and leave -/
section
variable {rc : Nat → Nat × (Nat → Int32)} {h : jxH} {b : Nat} {f g : jF}
theorem Fr.one {h : jxH} {a : Nat} {e : jxE} : Fr (fun x => x = a) h (jx_set h a e) := Fr.set (Eq.refl a)
theorem Fr.one' {h h1 : jxH} {a : Nat} {e : jxE} (F : Fr (fun x => x = a) h h1) : Fr (fun x => x = a) h (jx_set h1 a e) := F.cons (Eq.refl a)
def ro_at (h : jxH) (b : Nat) (f : jF) : Prop := ∃ R : Nat → Int32, jx_at h b = jxI 0 25 R ∧ R 0 = f.2.2 ∧ (∀ k, k < 12 → R (1 + k) = f.1 k) ∧ ∀ k, k < 12 → R (13 + k) = f.2.1 k
theorem ro_congr (H : ro_at h b f) (h1 : ∀ k, k < 12 → f.1 k = g.1 k) (h2 : ∀ k, k < 12 → f.2.1 k = g.2.1 k) (h3 : f.2.2 = g.2.2) : ro_at h b g := by
  obtain ⟨R, r1, r2, r3, r4⟩ := H
  exact ⟨R, r1, r2.trans h3, fun k hk => (r3 k hk).trans (h1 k hk), fun k hk => (r4 k hk).trans (h2 k hk)⟩
theorem ro_fr {P : Nat → Prop} {h' : jxH} (F : Fr P h h') (hP : ¬ P b) (H : ro_at h b f) : ro_at h' b f := by
  obtain ⟨R, r1, r⟩ := H
  exact ⟨R, (F.2.2 b hP).trans r1, r⟩
theorem jk_a1 (k : Nat) : (1 : Int32) + Int32.ofNat k = Int32.ofNat (1 + k) := by rw [Int32.ofNat_add]; rfl
theorem jk_a13 (k : Nat) : (13 : Int32) + Int32.ofNat k = Int32.ofNat (13 + k) := by rw [Int32.ofNat_add]; rfl
theorem ro_0 (H : ro_at h b f) : jx_aI (jx_at h b) 0 0 = some f.2.2 := by
  obtain ⟨R, r1, r2, r3, r4⟩ := H
  rw [r1, show (0 : Int32) = Int32.ofNat 0 from rfl, jk_aI (by decide) (by decide), r2]
theorem ro_w (H : ro_at h b f) {k : Nat} (hk : k < 12) : jx_aI (jx_at h b) 0 (1 + Int32.ofNat k) = some (f.1 k) := by
  obtain ⟨R, r1, r2, r3, r4⟩ := H
  rw [r1, jk_a1, jk_aI (by omega) (by decide), r3 k hk]
theorem ro_n (H : ro_at h b f) {k : Nat} (hk : k < 12) : jx_aI (jx_at h b) 0 (13 + Int32.ofNat k) = some (f.2.1 k) := by
  obtain ⟨R, r1, r2, r3, r4⟩ := H
  rw [r1, jk_a13, jk_aI (by omega) (by decide), r4 k hk]
theorem ro_s0 (H : ro_at h b f) (x : Int32) : ∃ e, jx_sI (jx_at h b) 0 0 x = some e ∧ ro_at (jx_set h b e) b (f.1, f.2.1, x) := by
  obtain ⟨R, r1, r2, r3, r4⟩ := H
  refine ⟨jxI 0 25 (upd R 0 x), by rw [r1, show (0 : Int32) = Int32.ofNat 0 from rfl, jk_sI (by decide) (by decide)], upd R 0 x, jk_at_self .., upd_at .., fun k hk => ?_, fun k hk => ?_⟩
  · rw [upd_ne _ _ (by omega)]; exact r3 k hk
  · rw [upd_ne _ _ (by omega)]; exact r4 k hk
theorem ro_sw (H : ro_at h b f) {k : Nat} (hk : k < 12) (x : Int32) : ∃ e, jx_sI (jx_at h b) 0 (1 + Int32.ofNat k) x = some e ∧ ro_at (jx_set h b e) b (upd f.1 k x, f.2) := by
  obtain ⟨R, r1, r2, r3, r4⟩ := H
  refine ⟨jxI 0 25 (upd R (1 + k) x), by rw [r1, jk_a1, jk_sI (by omega) (by decide)], upd R (1 + k) x, jk_at_self .., ?_, fun j hj => ?_, fun j hj => ?_⟩
  · rw [upd_ne _ _ (by omega)]; exact r2
  · show _ = upd f.1 k x j
    by_cases q : j = k
    · rw [q, upd_at, upd_at]
    · rw [upd_ne _ _ (by omega), upd_ne _ _ q]; exact r3 j hj
  · rw [upd_ne _ _ (by omega)]; exact r4 j hj
theorem ro_sn (H : ro_at h b f) {k : Nat} (hk : k < 12) (x : Int32) : ∃ e, jx_sI (jx_at h b) 0 (13 + Int32.ofNat k) x = some e ∧ ro_at (jx_set h b e) b (f.1, upd f.2.1 k x, f.2.2) := by
  obtain ⟨R, r1, r2, r3, r4⟩ := H
  refine ⟨jxI 0 25 (upd R (13 + k) x), by rw [r1, jk_a13, jk_sI (by omega) (by decide)], upd R (13 + k) x, jk_at_self .., ?_, fun j hj => ?_, fun j hj => ?_⟩
  · rw [upd_ne _ _ (by omega)]; exact r2
  · rw [upd_ne _ _ (by omega)]; exact r3 j hj
  · show _ = upd f.2.1 k x j
    by_cases q : j = k
    · rw [q, upd_at, upd_at]
    · rw [upd_ne _ _ (by omega), upd_ne _ _ q]; exact r4 j hj
-- copies()
theorem ro_copies_l {a : Nat} {R : Nat → Int32} (hab : a ≠ b) : ∀ (m k : Nat) (h : jxH) (T : Nat → Int32), k + m = 25 → jx_at h a = jxI 0 25 R → jx_at h b = jxI 0 25 T → (∀ j, j < k → T j = R j) → ∃ h', (∀ d, jb_74 rc d 2 [(0, .ref a), (1, .ref b), (2, .int (Int32.ofNat k))] [] h = some (none, h')) ∧ (∃ T', jx_at h' b = jxI 0 25 T' ∧ ∀ j, j < 25 → T' j = R j) ∧ Fr (fun x => x = b) h h'
  | 0, k, h, T, e, HR, HT, hT => by
    obtain rfl : k = 25 := by omega
    exact ⟨h, fun d => by rw [je_74_2]; rfl, ⟨T, HT, hT⟩, Fr.rfl⟩
  | m + 1, k, h, T, e, HR, HT, hT => by
    obtain ⟨h', i1, i2, i3⟩ := ro_copies_l hab m (k + 1) (jx_set h b (jxI 0 25 (upd T k (R k)))) (upd T k (R k)) (by omega) (by rw [jk_at_ne _ _ hab]; exact HR) (jk_at_self ..) (fun j hj => by
      by_cases q : j = k
      · rw [q, upd_at]
      · rw [upd_ne _ _ q]; exact hT j (by omega))
    refine ⟨h', fun d => ?_, i2, Fr.one.trans i3⟩
    rw [je_74_2, if_neg (by rw [show (25 : Int32) = Int32.ofNat 25 from rfl, jk_le (by decide) (by omega)]; omega), HR, jk_aI (by omega) (by decide), jk_bs, HT, jk_sI (by omega) (by decide), jk_bs, jk_succ]
    exact i1 d
theorem ro_copies {a : Nat} (hab : a ≠ b) (H : ro_at h a f) (G : ro_at h b g) : ∃ h', (∀ d, jx_C rc (d + 1) 74 [.ref a, .ref b] h = some (none, h')) ∧ ro_at h' b f ∧ Fr (fun x => x = b) h h' := by
  obtain ⟨R, r1, r2, r3, r4⟩ := H
  obtain ⟨T, t1, t2⟩ := G
  obtain ⟨h', i1, ⟨T', i2, i3⟩, i4⟩ := ro_copies_l (rc := rc) hab 25 0 h T (by omega) r1 t1 (fun j hj => by omega)
  refine ⟨h', fun d => ?_, ⟨T', i2, (i3 0 (by decide)).trans r2, fun k hk => (i3 _ (by omega)).trans (r3 k hk), fun k hk => (i3 _ (by omega)).trans (r4 k hk)⟩, i4⟩
  rw [je_74]; exact i1 d
theorem rf_isThere (H : ro_at h b f) (p : Int32) (d : Nat) : jx_C rc (d + 2) 78 [.ref b, .int p] h = some (some (.int (jk_b (jF_has f p))), h) := by
  rw [je_78, rf_in, jk_cI, jk_if0, jp_bt_place]
  unfold jp_place jF_has
  split
  · rfl
  · split
    · rfl
    · obtain ⟨k, hk, rfl⟩ := jk_place (by assumption) (by assumption)
      rw [if_pos rfl, ro_0 H, jk_bs, rf_has _ _ (by omega), jk_cI, jk_if0, jk_cl (by omega)]
      cases bt f.2.2 k <;> rfl
theorem rf_isWeight (w : Int32) (d : Nat) : jx_C rc (d + 2) 80 [.int w] h = some (some (.int (jk_b (jp_wt w))), h) := by
  rw [je_80, rf_in, jk_cI, jp_bt_wt, if_pos (jk_bb _)]
theorem rf_comes (H : ro_at h b f) {k : Nat} (hk : lo (f.2.2 ^^^ (-1)) = some k) (hz : f.2.1 k = 0) (x : Int32) : ∃ h', (∀ d, jx_C rc (d + 3) 81 [.ref b, .int x] h = some (some (.int (Int32.ofNat k)), h')) ∧ ro_at h' b (jf_grow f k x) ∧ Fr (fun x => x = b) h h' := by
  obtain ⟨h12, -, -⟩ := lo_not hk
  obtain ⟨e1, i1, j1⟩ := ro_s0 H (f.2.2 ||| jk_bit k)
  obtain ⟨e2, i2, j2⟩ := ro_sw j1 h12 x
  obtain ⟨e3, i3, j3⟩ := ro_sn j2 h12 0
  refine ⟨_, fun d => ?_, ro_congr j3 (fun _ _ => rfl) (fun j hj => ?_) rfl, Fr.one.one'.one'⟩
  · rw [je_81, ro_0 H, jk_bs, rf_lowest _ hk, jk_cI, ro_0 H, jk_bs]
    show (jx_sI (jx_at h b) 0 0 (f.2.2 ||| jk_bit k)).bind _ = _
    rw [i1, jk_bs, i2, jk_bs, i3]
    rfl
  · show upd f.2.1 k 0 j = f.2.1 j
    by_cases q : j = k
    · rw [q, upd_at, hz]
    · rw [upd_ne _ _ q]
theorem rf_ties (H : ro_at h b f) {p q : Nat} (hp : p < 12) (hq : q < 12) : ∃ h', (∀ d, jx_C rc (d + 1) 82 [.ref b, .int (Int32.ofNat p), .int (Int32.ofNat q)] h = some (none, h')) ∧ ro_at h' b (jf_join f p q) ∧ Fr (fun x => x = b) h h' := by
  obtain ⟨e1, i1, j1⟩ := ro_sn H hp (f.2.1 p ||| jk_bit q)
  obtain ⟨e2, i2, j2⟩ := ro_sn j1 hq (upd f.2.1 p (f.2.1 p ||| jk_bit q) q ||| jk_bit p)
  refine ⟨_, fun d => ?_, j2, Fr.one.one'⟩
  rw [je_82, ro_n H hp, jk_bs]
  show (jx_sI (jx_at h b) 0 _ (f.2.1 p ||| jk_bit q)).bind _ = _
  rw [i1, jk_bs, ro_n j1 hq, jk_bs]
  show (jx_sI _ 0 _ (upd f.2.1 p (f.2.1 p ||| jk_bit q) q ||| jk_bit p)).bind _ = _
  rw [i2]
  rfl
theorem rf_cuts (H : ro_at h b f) {p q : Nat} (hp : p < 12) (hq : q < 12) : ∃ h', (∀ d, jx_C rc (d + 1) 83 [.ref b, .int (Int32.ofNat p), .int (Int32.ofNat q)] h = some (none, h')) ∧ ro_at h' b (jf_part f p q) ∧ Fr (fun x => x = b) h h' := by
  obtain ⟨e1, i1, j1⟩ := ro_sn H hp (f.2.1 p &&& (jk_bit q ^^^ (-1)))
  obtain ⟨e2, i2, j2⟩ := ro_sn j1 hq (upd f.2.1 p (f.2.1 p &&& (jk_bit q ^^^ (-1))) q &&& (jk_bit p ^^^ (-1)))
  refine ⟨_, fun d => ?_, j2, Fr.one.one'⟩
  rw [je_83, ro_n H hp, jk_bs]
  show (jx_sI (jx_at h b) 0 _ (f.2.1 p &&& (jk_bit q ^^^ (-1)))).bind _ = _
  rw [i1, jk_bs, ro_n j1 hq, jk_bs]
  show (jx_sI _ 0 _ (upd f.2.1 p (f.2.1 p &&& (jk_bit q ^^^ (-1))) q &&& (jk_bit p ^^^ (-1)))).bind _ = _
  rw [i2]
  rfl
theorem rf_leaves_l {p : Nat} (hp : p < 12) : ∀ (m k : Nat) (h : jxH), k + m = 12 → ro_at h b (f.1, fun q => if q < k then f.2.1 q &&& (jk_bit p ^^^ (-1)) else f.2.1 q, f.2.2) → ∃ h', (∀ d, jb_84 rc d 2 [(0, .ref b), (1, .int (Int32.ofNat p)), (2, .int (Int32.ofNat k))] [] h = some (none, h')) ∧ ro_at h' b (jf_rem f p) ∧ Fr (fun x => x = b) h h'
  | 0, k, h, e, H => by
    obtain rfl : k = 12 := by omega
    obtain ⟨e1, i1, j1⟩ := ro_sn H hp 0
    obtain ⟨e2, i2, j2⟩ := ro_sw j1 hp 0
    obtain ⟨e3, i3, j3⟩ := ro_s0 j2 (f.2.2 &&& (jk_bit p ^^^ (-1)))
    refine ⟨_, fun d => ?_, ro_congr j3 (fun _ _ => rfl) (fun j hj => ?_) rfl, Fr.one.one'.one'⟩
    · rw [je_84_2, if_pos (by decide), i1, jk_bs, i2, jk_bs, ro_0 j2, jk_bs]
      show (jx_sI _ 0 0 (f.2.2 &&& (jk_bit p ^^^ (-1)))).bind _ = _
      rw [i3]
      rfl
    · show upd (fun q => if q < 12 then f.2.1 q &&& (jk_bit p ^^^ (-1)) else f.2.1 q) p 0 j = upd (fun q => f.2.1 q &&& (jk_bit p ^^^ (-1))) p 0 j
      by_cases hjp : j = p
      · rw [hjp, upd_at, upd_at]
      · rw [upd_ne _ _ hjp, upd_ne _ _ hjp, if_pos hj]
  | m + 1, k, h, e, H => by
    have hk : k < 12 := by omega
    have hn := ro_n H hk
    simp only [Nat.lt_irrefl, if_false] at hn
    obtain ⟨e1, i1, j1⟩ := ro_sn H hk (f.2.1 k &&& (jk_bit p ^^^ (-1)))
    obtain ⟨h', i2, i3, i4⟩ := rf_leaves_l hp m (k + 1) (jx_set h b e1) (by omega) (ro_congr j1 (fun _ _ => rfl) (fun j hj => by
      show upd _ _ _ _ = _
      by_cases hjk : j = k
      · rw [hjk, upd_at]; simp
      · rw [upd_ne _ _ hjk]
        by_cases hlt : j < k
        · simp [hlt, show j < k + 1 by omega]
        · simp [hlt, show ¬ j < k + 1 by omega]) rfl)
    refine ⟨h', fun d => ?_, i3, Fr.one.trans i4⟩
    rw [je_84_2, if_neg (jk_n12 hk), hn, jk_bs]
    show (jx_sI _ 0 _ (f.2.1 k &&& (jk_bit p ^^^ (-1)))).bind _ = _
    rw [i1, jk_bs, jk_succ]
    exact i2 d
theorem rf_leaves (H : ro_at h b f) {p : Nat} (hp : p < 12) : ∃ h', (∀ d, jx_C rc (d + 1) 84 [.ref b, .int (Int32.ofNat p)] h = some (none, h')) ∧ ro_at h' b (jf_rem f p) ∧ Fr (fun x => x = b) h h' := by
  obtain ⟨h', i1, i2, i3⟩ := rf_leaves_l (rc := rc) (f := f) hp 12 0 h (by omega) (ro_congr H (fun _ _ => rfl) (fun j hj => by simp) rfl)
  refine ⟨h', fun d => ?_, i2, i3⟩
  rw [je_84]; exact i1 d
theorem rf_lightest (H : ro_at h b f) {p k : Nat} (hp : p < 12) (hk : lo (f.2.1 p) = some k) (d : Nat) : jx_C rc (d + 3) 87 [.ref b, .int (Int32.ofNat p)] h = some (some (.int (Int32.ofNat k)), h) := by
  rw [je_87, ro_n H hp, jk_bs, rf_lowest _ hk, jk_cI]
theorem rf_other (H : ro_at h b f) {p k : Nat} (hp : p < 12) (hk : lo (f.2.1 p &&& (f.2.1 p - 1)) = some k) (d : Nat) : jx_C rc (d + 3) 88 [.ref b, .int (Int32.ofNat p)] h = some (some (.int (Int32.ofNat k)), h) := by
  rw [je_88, ro_n H hp, jk_bs, jk_bs, rf_lowest _ hk, jk_cI]
-- refused()
def jd_all (f : jF) (n w : Int32) : Nat → Nat → Bool
  | 0, _ => true
  | m + 1, k => (!(bt n k) || jp_wt (f.1 k - w)) && jd_all f n w m (k + 1)
theorem jd_all_iff {n w : Int32} : ∀ {m k : Nat}, jd_all f n w m k = true ↔ ∀ j, k ≤ j → j < k + m → bt n j = true → jp_wt (f.1 j - w) = true
  | 0, k => ⟨fun _ j h1 h2 => by omega, fun _ => rfl⟩
  | m + 1, k => by
    unfold jd_all
    rw [Bool.and_eq_true, jd_all_iff, Bool.or_eq_true, Bool.not_eq_true']
    constructor
    · rintro ⟨h1, h2⟩ j h3 h4 h5
      by_cases q : j = k
      · subst q
        rcases h1 with h1 | h1
        · rw [h1] at h5; cases h5
        · exact h1
      · exact h2 j (by omega) (by omega) h5
    · intro h1
      refine ⟨?_, fun j h3 h4 h5 => h1 j (by omega) (by omega) h5⟩
      cases q : bt n k
      · exact Or.inl rfl
      · exact Or.inr (h1 k (Nat.le_refl _) (by omega) q)
theorem rf_light_l (H : ro_at h b f) {p : Nat} (hp : p < 12) (d : Nat) : ∀ (m k : Nat) (c : Bool), k + m = 12 → jb_92 rc (d + 2) 6 [(0, .ref b), (2, .int (Int32.ofNat p)), (5, .int (jk_b c)), (6, .int (Int32.ofNat k))] [] h = some (some (.int (jk_b (c && jd_all f (f.2.1 p) (f.1 p) m k))), h)
  | 0, k, c, e => by
    obtain rfl : k = 12 := by omega
    rw [je_92_6, if_pos (by decide), if_pos (jk_bb _)]
    unfold jd_all
    rw [Bool.and_true]
  | m + 1, k, c, e => by
    have hk : k < 12 := by omega
    have a1 : ∀ c' : Bool, jk_b c' &&& 1 = jk_b (c' && true) := by decide
    have a0 : ∀ c' : Bool, jk_b c' &&& 0 = jk_b (c' && false) := by decide
    rw [je_92_6, if_neg (jk_n12 hk), ro_n H hp, jk_bs, rf_has _ _ (by omega), jk_cI, jk_if0, jk_succ]
    conv => rhs; unfold jd_all
    rw [← Bool.and_assoc]
    cases hb : bt (f.2.1 p) k
    · rw [if_neg (by decide), a1, rf_light_l H hp d m (k + 1) _ (by omega)]; rfl
    · rw [if_pos rfl, ro_w H hk, jk_bs, ro_w H hp, jk_bs, rf_isWeight, jk_cI, jk_if0]
      cases hw : jp_wt (f.1 k - f.1 p)
      · rw [if_neg (by decide), a0, rf_light_l H hp d m (k + 1) _ (by omega)]; rfl
      · rw [if_pos rfl, a1, rf_light_l H hp d m (k + 1) _ (by omega)]; rfl
theorem jd_light_all {n : Int32} (hn : S12 n) (h2 : bc n ≤ 2) (w : Int32) : jd_light f n w = jd_all f n w 12 0 := by
  unfold jd_light
  by_cases h0 : n = 0
  · subst h0
    rw [if_pos rfl]
    symm
    rw [jd_all_iff]
    intro j _ _ h
    rw [bt_0] at h; cases h
  · rw [if_neg h0]
    have hp : 0 < bc n := Nat.pos_of_ne_zero fun q => h0 (bc_0 hn q)
    obtain ⟨x, e1⟩ := bc_lo hp
    obtain ⟨y, e2⟩ := bc_hi hp
    obtain ⟨x1, x2, -⟩ := lo_some.mp e1
    obtain ⟨y1, y2, -⟩ := hi_some.mp e2
    rw [e1, e2]
    show (jp_wt (jF_w f (Int32.ofNat x) - w) && jp_wt (jF_w f (Int32.ofNat y) - w)) = _
    rw [jF_w_of x1, jF_w_of y1, Bool.eq_iff_iff, Bool.and_eq_true, jd_all_iff]
    constructor
    · rintro ⟨h3, h4⟩ j _ hj hb
      rcases jk_two hn h2 (by omega) hb with q | q
      · rw [e1] at q; cases q; exact h3
      · rw [e2] at q; cases q; exact h4
    · intro q
      exact ⟨q x (by omega) (by omega) x2, q y (by omega) (by omega) y2⟩
theorem rf_bt13 (x : Int32) : jp_bt x.toInt64 1 3 = (decide (x = 1) || decide (x = 2) || decide (x = 3)) := by
  unfold jp_bt
  rw [show (1 : Int64) = (1 : Int32).toInt64 from rfl, show (3 : Int64) = (3 : Int32).toInt64 from rfl]
  simp only [jk_l64]
  rw [Bool.eq_iff_iff]
  simp only [Bool.or_eq_true, decide_eq_true_eq, ← Int32.toInt_inj, Int32.lt_iff_toInt_lt, show (1 : Int32).toInt = 1 from rfl, show (2 : Int32).toInt = 2 from rfl, show (3 : Int32).toInt = 3 from rfl]
  split
  · simp; omega
  · split
    · simp; omega
    · simp; omega
theorem rf_bt07 (x : Int32) : jp_bt x.toInt64 0 7 = true ↔ (x = 0 ∨ x = 1 ∨ x = 2 ∨ x = 3 ∨ x = 4 ∨ x = 5 ∨ x = 6 ∨ x = 7) := by
  unfold jp_bt
  rw [show (0 : Int64) = (0 : Int32).toInt64 from rfl, show (7 : Int64) = (7 : Int32).toInt64 from rfl]
  simp only [jk_l64]
  simp only [← Int32.toInt_inj, Int32.lt_iff_toInt_lt, show (0 : Int32).toInt = 0 from rfl, show (1 : Int32).toInt = 1 from rfl, show (2 : Int32).toInt = 2 from rfl, show (3 : Int32).toInt = 3 from rfl, show (4 : Int32).toInt = 4 from rfl, show (5 : Int32).toInt = 5 from rfl, show (6 : Int32).toInt = 6 from rfl, show (7 : Int32).toInt = 7 from rfl]
  split
  · simp; omega
  · split
    · simp; omega
    · simp; omega
theorem jk_ev2 (x : Int32) : (Int32.ofNat (bc x) + 2 ≤ (12 : Int32)) ↔ ¬ 11 ≤ bc x := by
  have := bc_le x
  rw [show (2 : Int32) = Int32.ofNat 2 from rfl, ← Int32.ofNat_add, show (12 : Int32) = Int32.ofNat 12 from rfl, jk_le (by omega) (by decide)]; omega
theorem jk_ev1 (x : Int32) : (Int32.ofNat (bc x) + 1 ≤ (12 : Int32)) ↔ ¬ 12 ≤ bc x := by
  have := bc_le x
  rw [show (1 : Int32) = Int32.ofNat 1 from rfl, ← Int32.ofNat_add, show (12 : Int32) = Int32.ofNat 12 from rfl, jk_le (by omega) (by decide)]; omega
theorem jk_ev0 (x : Int32) : (Int32.ofNat (bc x) ≤ (12 : Int32)) ↔ True := by
  have := bc_le x
  rw [show (12 : Int32) = Int32.ofNat 12 from rfl, jk_le (by omega) (by decide)]; simp; exact this
theorem rf_room (k : Int32) (d : Nat) : jx_C rc (d + 2) 91 [.int k] h = some (some (.int (if k = 7 then 2 else if k = 1 ∨ k = 2 ∨ k = 3 then 1 else 0)), h) := by
  rw [je_91, rf_in, rf_bt13, jk_cI, jk_if0]
  by_cases h7 : k = 7
  · rw [if_pos h7, if_pos h7]
  · rw [if_neg h7, if_neg h7]
    simp only [Bool.or_eq_true, decide_eq_true_eq, or_assoc]
    split <;> rfl
theorem jk_r0' : jx_bool (0 : Int32) = true := by simp [jx_bool]
theorem jk_07_0 : jp_bt 0 0 7 = true := by decide
theorem jk_13_0 : jp_bt 0 1 3 = false := by decide
theorem jk_07_1 : jp_bt 1 0 7 = true := by decide
theorem jk_13_1 : jp_bt 1 1 3 = true := by decide
theorem jk_07_2 : jp_bt 2 0 7 = true := by decide
theorem jk_13_2 : jp_bt 2 1 3 = true := by decide
theorem jk_07_3 : jp_bt 3 0 7 = true := by decide
theorem jk_13_3 : jp_bt 3 1 3 = true := by decide
theorem jk_07_4 : jp_bt 4 0 7 = true := by decide
theorem jk_13_4 : jp_bt 4 1 3 = false := by decide
theorem jk_07_5 : jp_bt 5 0 7 = true := by decide
theorem jk_13_5 : jp_bt 5 1 3 = false := by decide
theorem jk_07_6 : jp_bt 6 0 7 = true := by decide
theorem jk_13_6 : jp_bt 6 1 3 = false := by decide
theorem jk_07_7 : jp_bt 7 0 7 = true := by decide
theorem jk_13_7 : jp_bt 7 1 3 = false := by decide
/-- with a place that is there for p (where the MOVE has one) -/
theorem rf_refused (H : ro_at h b f) (hn : ∀ k, k < 12 → S12 (f.2.1 k)) (m : jM) (d : Nat) : jx_C rc (d + 6) 93 [.ref b, .int m.1, .int m.2.1, .int m.2.2.1, .int m.2.2.2.1, .int m.2.2.2.2] h = some (some (.int (jf_ref f false m)), h) := by
  obtain ⟨k, p, q, v, s⟩ := m
  show jx_C rc (d + 6) 93 [.ref b, .int k, .int p, .int q, .int v, .int s] h = _
  by_cases hk : jp_bt k.toInt64 0 7 = true
  · rcases (rf_bt07 k).mp hk with rfl | rfl | rfl | rfl | rfl | rfl | rfl | rfl
    · by_cases hp : jF_has f p = true
      · obtain ⟨j, hj, rfl, e2⟩ := jF_has_iff.mp hp
        have hl := fun h2 => jd_light_all (f := f) (hn j hj) h2 (f.1 j)
        have e3 : jb_92 rc (d + 4) 6 [(0, .ref b), (2, .int (Int32.ofNat j)), (5, .int 1), (6, .int 0)] [] h = some (some (.int (jk_b (true && jd_all f (f.2.1 j) (f.1 j) 12 0))), h) := rf_light_l (rc := rc) H hj (d + 2) 12 0 true (by omega)
        simp [je_93, je_89, je_89_27, je_90, je_90_28, je_92, rf_in, rf_isThere H, rf_isWeight, jk_cI, jk_if0, ro_0 H, rf_many, rf_room, jk_ev0, jk_ev1, jk_ev2, jk_cI_ite, jk_r0, jk_r1, jk_bb, jf_ref, jk_le2, jk_eq1, jk_eq2, jk_07_0, jk_13_0, jk_07_1, jk_13_1, jk_07_2, jk_13_2, jk_07_3, jk_13_3, jk_07_4, jk_13_4, jk_07_5, jk_13_5, jk_07_6, jk_13_6, jk_07_7, jk_13_7, hp, ro_w H hj, ro_n H hj, jF_w_of hj, jF_n_of hj, e3]
        grind
      · simp [je_93, je_89, je_89_27, je_90, je_90_28, je_92, rf_in, rf_isThere H, rf_isWeight, jk_cI, jk_if0, ro_0 H, rf_many, rf_room, jk_ev0, jk_ev1, jk_ev2, jk_cI_ite, jk_r0, jk_r1, jk_bb, jf_ref, jk_le2, jk_eq1, jk_eq2, jk_07_0, jk_13_0, jk_07_1, jk_13_1, jk_07_2, jk_13_2, jk_07_3, jk_13_3, jk_07_4, jk_13_4, jk_07_5, jk_13_5, jk_07_6, jk_13_6, jk_07_7, jk_13_7, hp]
    · by_cases hp : jF_has f p = true
      · obtain ⟨j, hj, rfl, e2⟩ := jF_has_iff.mp hp
        by_cases hq : jF_has f q = true
        · obtain ⟨i, hi, rfl, e4⟩ := jF_has_iff.mp hq
          simp [je_93, je_89, je_89_27, je_90, je_90_28, je_92, rf_in, rf_isThere H, rf_isWeight, jk_cI, jk_if0, ro_0 H, rf_many, rf_room, jk_ev0, jk_ev1, jk_ev2, jk_cI_ite, jk_r0, jk_r1, jk_bb, jf_ref, jk_le2, jk_eq1, jk_eq2, jk_07_0, jk_13_0, jk_07_1, jk_13_1, jk_07_2, jk_13_2, jk_07_3, jk_13_3, jk_07_4, jk_13_4, jk_07_5, jk_13_5, jk_07_6, jk_13_6, jk_07_7, jk_13_7, hp, hq, ro_w H hj, ro_n H hj, ro_w H hi, jF_w_of hj, jF_n_of hj, jF_w_of hi, jF_near_of hj hi, rf_has _ _ (show i < 32 by omega)]
          grind
        · simp [je_93, je_89, je_89_27, je_90, je_90_28, je_92, rf_in, rf_isThere H, rf_isWeight, jk_cI, jk_if0, ro_0 H, rf_many, rf_room, jk_ev0, jk_ev1, jk_ev2, jk_cI_ite, jk_r0, jk_r1, jk_bb, jf_ref, jk_le2, jk_eq1, jk_eq2, jk_07_0, jk_13_0, jk_07_1, jk_13_1, jk_07_2, jk_13_2, jk_07_3, jk_13_3, jk_07_4, jk_13_4, jk_07_5, jk_13_5, jk_07_6, jk_13_6, jk_07_7, jk_13_7, hp, hq]
      · simp [je_93, je_89, je_89_27, je_90, je_90_28, je_92, rf_in, rf_isThere H, rf_isWeight, jk_cI, jk_if0, ro_0 H, rf_many, rf_room, jk_ev0, jk_ev1, jk_ev2, jk_cI_ite, jk_r0, jk_r1, jk_bb, jf_ref, jk_le2, jk_eq1, jk_eq2, jk_07_0, jk_13_0, jk_07_1, jk_13_1, jk_07_2, jk_13_2, jk_07_3, jk_13_3, jk_07_4, jk_13_4, jk_07_5, jk_13_5, jk_07_6, jk_13_6, jk_07_7, jk_13_7, hp]
    · by_cases hp : jF_has f p = true
      · obtain ⟨j, hj, rfl, e2⟩ := jF_has_iff.mp hp
        simp [je_93, je_89, je_89_27, je_90, je_90_28, je_92, rf_in, rf_isThere H, rf_isWeight, jk_cI, jk_if0, ro_0 H, rf_many, rf_room, jk_ev0, jk_ev1, jk_ev2, jk_cI_ite, jk_r0, jk_r1, jk_bb, jf_ref, jk_le2, jk_eq1, jk_eq2, jk_07_0, jk_13_0, jk_07_1, jk_13_1, jk_07_2, jk_13_2, jk_07_3, jk_13_3, jk_07_4, jk_13_4, jk_07_5, jk_13_5, jk_07_6, jk_13_6, jk_07_7, jk_13_7, hp, ro_w H hj, ro_n H hj, jF_w_of hj, jF_n_of hj]
        grind
      · simp [je_93, je_89, je_89_27, je_90, je_90_28, je_92, rf_in, rf_isThere H, rf_isWeight, jk_cI, jk_if0, ro_0 H, rf_many, rf_room, jk_ev0, jk_ev1, jk_ev2, jk_cI_ite, jk_r0, jk_r1, jk_bb, jf_ref, jk_le2, jk_eq1, jk_eq2, jk_07_0, jk_13_0, jk_07_1, jk_13_1, jk_07_2, jk_13_2, jk_07_3, jk_13_3, jk_07_4, jk_13_4, jk_07_5, jk_13_5, jk_07_6, jk_13_6, jk_07_7, jk_13_7, hp]
    · simp [je_93, je_89, je_89_27, je_90, je_90_28, je_92, rf_in, rf_isThere H, rf_isWeight, jk_cI, jk_if0, ro_0 H, rf_many, rf_room, jk_ev0, jk_ev1, jk_ev2, jk_cI_ite, jk_r0, jk_r1, jk_bb, jf_ref, jk_le2, jk_eq1, jk_eq2, jk_07_0, jk_13_0, jk_07_1, jk_13_1, jk_07_2, jk_13_2, jk_07_3, jk_13_3, jk_07_4, jk_13_4, jk_07_5, jk_13_5, jk_07_6, jk_13_6, jk_07_7, jk_13_7]
      grind
    · by_cases hp : jF_has f p = true
      · obtain ⟨j, hj, rfl, e2⟩ := jF_has_iff.mp hp
        by_cases h2 : bc (f.2.1 j) = 2
        · obtain ⟨x, e1⟩ := bc_lo (x := f.2.1 j) (by omega)
          obtain ⟨y, e3⟩ := bc_hi (x := f.2.1 j) (by omega)
          have hx := (lo_some.mp e1).1
          have hy := (hi_some.mp e3).1
          have e5 := (jk_other (hn j hj) h2).1.trans e3
          have w1 : jF_w f (jk_on (some x)) = f.1 x := jF_w_of hx
          have w2 : jF_w f (jk_on (some y)) = f.1 y := jF_w_of hy
          simp [je_93, je_89, je_89_27, je_90, je_90_28, je_92, rf_in, rf_isThere H, rf_isWeight, jk_cI, jk_if0, ro_0 H, rf_many, rf_room, jk_ev0, jk_ev1, jk_ev2, jk_cI_ite, jk_r0, jk_r1, jk_bb, jf_ref, jk_le2, jk_eq1, jk_eq2, jk_07_0, jk_13_0, jk_07_1, jk_13_1, jk_07_2, jk_13_2, jk_07_3, jk_13_3, jk_07_4, jk_13_4, jk_07_5, jk_13_5, jk_07_6, jk_13_6, jk_07_7, jk_13_7, hp, ro_w H hj, ro_n H hj, jF_w_of hj, jF_n_of hj, h2, rf_lightest H hj e1, rf_other H hj e5, ro_w H hx, ro_w H hy, e1, e3, w1, w2]
          try grind
        · simp [je_93, je_89, je_89_27, je_90, je_90_28, je_92, rf_in, rf_isThere H, rf_isWeight, jk_cI, jk_if0, ro_0 H, rf_many, rf_room, jk_ev0, jk_ev1, jk_ev2, jk_cI_ite, jk_r0, jk_r1, jk_bb, jf_ref, jk_le2, jk_eq1, jk_eq2, jk_07_0, jk_13_0, jk_07_1, jk_13_1, jk_07_2, jk_13_2, jk_07_3, jk_13_3, jk_07_4, jk_13_4, jk_07_5, jk_13_5, jk_07_6, jk_13_6, jk_07_7, jk_13_7, hp, ro_w H hj, ro_n H hj, jF_w_of hj, jF_n_of hj, h2]
          try grind
      · simp [je_93, je_89, je_89_27, je_90, je_90_28, je_92, rf_in, rf_isThere H, rf_isWeight, jk_cI, jk_if0, ro_0 H, rf_many, rf_room, jk_ev0, jk_ev1, jk_ev2, jk_cI_ite, jk_r0, jk_r1, jk_bb, jf_ref, jk_le2, jk_eq1, jk_eq2, jk_07_0, jk_13_0, jk_07_1, jk_13_1, jk_07_2, jk_13_2, jk_07_3, jk_13_3, jk_07_4, jk_13_4, jk_07_5, jk_13_5, jk_07_6, jk_13_6, jk_07_7, jk_13_7, hp]
    · by_cases hp : jF_has f p = true
      · obtain ⟨j, hj, rfl, e2⟩ := jF_has_iff.mp hp
        simp [je_93, je_89, je_89_27, je_90, je_90_28, je_92, rf_in, rf_isThere H, rf_isWeight, jk_cI, jk_if0, ro_0 H, rf_many, rf_room, jk_ev0, jk_ev1, jk_ev2, jk_cI_ite, jk_r0, jk_r1, jk_bb, jf_ref, jk_le2, jk_eq1, jk_eq2, jk_07_0, jk_13_0, jk_07_1, jk_13_1, jk_07_2, jk_13_2, jk_07_3, jk_13_3, jk_07_4, jk_13_4, jk_07_5, jk_13_5, jk_07_6, jk_13_6, jk_07_7, jk_13_7, hp, ro_w H hj, ro_n H hj, jF_w_of hj, jF_n_of hj]
        grind
      · simp [je_93, je_89, je_89_27, je_90, je_90_28, je_92, rf_in, rf_isThere H, rf_isWeight, jk_cI, jk_if0, ro_0 H, rf_many, rf_room, jk_ev0, jk_ev1, jk_ev2, jk_cI_ite, jk_r0, jk_r1, jk_bb, jf_ref, jk_le2, jk_eq1, jk_eq2, jk_07_0, jk_13_0, jk_07_1, jk_13_1, jk_07_2, jk_13_2, jk_07_3, jk_13_3, jk_07_4, jk_13_4, jk_07_5, jk_13_5, jk_07_6, jk_13_6, jk_07_7, jk_13_7, hp]
    · simp [je_93, je_89, je_89_27, je_90, je_90_28, je_92, rf_in, rf_isThere H, rf_isWeight, jk_cI, jk_if0, ro_0 H, rf_many, rf_room, jk_ev0, jk_ev1, jk_ev2, jk_cI_ite, jk_r0, jk_r1, jk_bb, jf_ref, jk_le2, jk_eq1, jk_eq2, jk_07_0, jk_13_0, jk_07_1, jk_13_1, jk_07_2, jk_13_2, jk_07_3, jk_13_3, jk_07_4, jk_13_4, jk_07_5, jk_13_5, jk_07_6, jk_13_6, jk_07_7, jk_13_7]
    · by_cases hp : jF_has f p = true
      · obtain ⟨j, hj, rfl, e2⟩ := jF_has_iff.mp hp
        simp [je_93, je_89, je_89_27, je_90, je_90_28, je_92, rf_in, rf_isThere H, rf_isWeight, jk_cI, jk_if0, ro_0 H, rf_many, rf_room, jk_ev0, jk_ev1, jk_ev2, jk_cI_ite, jk_r0, jk_r1, jk_bb, jf_ref, jk_le2, jk_eq1, jk_eq2, jk_07_0, jk_13_0, jk_07_1, jk_13_1, jk_07_2, jk_13_2, jk_07_3, jk_13_3, jk_07_4, jk_13_4, jk_07_5, jk_13_5, jk_07_6, jk_13_6, jk_07_7, jk_13_7, hp, ro_w H hj, ro_n H hj, jF_w_of hj, jF_n_of hj]
        grind
      · simp [je_93, je_89, je_89_27, je_90, je_90_28, je_92, rf_in, rf_isThere H, rf_isWeight, jk_cI, jk_if0, ro_0 H, rf_many, rf_room, jk_ev0, jk_ev1, jk_ev2, jk_cI_ite, jk_r0, jk_r1, jk_bb, jf_ref, jk_le2, jk_eq1, jk_eq2, jk_07_0, jk_13_0, jk_07_1, jk_13_1, jk_07_2, jk_13_2, jk_07_3, jk_13_3, jk_07_4, jk_13_4, jk_07_5, jk_13_5, jk_07_6, jk_13_6, jk_07_7, jk_13_7, hp]
  · have e : ∀ j : Int32, jp_bt j.toInt64 0 7 = true → ¬ k = j := fun j hj q => hk (q ▸ hj)
    have hk' : jp_bt k.toInt64 0 7 = false := by simpa using hk
    rw [je_93, je_89, rf_in, hk', jk_cI, jk_if0, if_neg Bool.false_ne_true, if_pos jk_r0', jk_cI, if_pos rfl]
    unfold jf_ref
    rw [if_neg (e 0 (by decide)), if_neg (e 1 (by decide)), if_neg (e 2 (by decide)), if_neg (e 3 (by decide)), if_neg (e 4 (by decide)), if_neg (e 5 (by decide)), if_neg (e 6 (by decide)), if_neg (e 7 (by decide))]
end
end
section
/-! What a MOVE does, in the reference: the same -/
section
variable {rc : Nat → Nat × (Nat → Int32)} {h : jxH} {b : Nat} {f g : jF}
theorem rf_down_l {p : Nat} (hp : p < 12) {n e : Int32} {h2 : jxH → jxR} : ∀ (m k : Nat) (h : jxH), k + m = 12 → ro_at h b (fun j => if j < k ∧ bt n j = true then f.1 j - e else f.1 j, f.2) → ∃ h', (∀ d, jb_95 rc (d + 1) 14 [(0, .ref b), (1, .int (Int32.ofNat p)), (2, .int e), (3, .int n), (4, .int (Int32.ofNat k))] [] h = jb_95 rc (d + 1) 14 [(0, .ref b), (1, .int (Int32.ofNat p)), (2, .int e), (3, .int n), (4, .int (Int32.ofNat 12))] [] h') ∧ ro_at h' b (fun j => if bt n j = true then f.1 j - e else f.1 j, f.2) ∧ Fr (fun x => x = b) h h'
  | 0, k, h, e', H => by
    obtain rfl : k = 12 := by omega
    exact ⟨h, fun d => rfl, ro_congr H (fun j hj => by simp [hj]) (fun _ _ => rfl) rfl, Fr.rfl⟩
  | m + 1, k, h, e', H => by
    have hk : k < 12 := by omega
    have hw := ro_w H hk
    simp only [Nat.lt_irrefl, false_and, if_false] at hw
    by_cases hb : bt n k = true
    · obtain ⟨e1, i1, j1⟩ := ro_sw H hk (f.1 k - e)
      obtain ⟨h', i2, i3, i4⟩ := rf_down_l (h2 := h2) hp (n := n) (e := e) m (k + 1) (jx_set h b e1) (by omega) (ro_congr j1 (fun j hj => by
        show upd _ _ _ _ = _
        by_cases q : j = k
        · subst q; rw [upd_at]; simp [hb]
        · rw [upd_ne _ _ q]
          by_cases q2 : j < k
          · simp [q2, show j < k + 1 by omega]
          · simp [q2, show ¬ j < k + 1 by omega]) (fun _ _ => rfl) rfl)
      refine ⟨h', fun d => ?_, i3, Fr.one.trans i4⟩
      rw [je_95_14, if_neg (jk_n12 hk), hw, jk_bs, rf_has _ _ (by omega), jk_cI, jk_if0, if_pos hb, i1, jk_bs, jk_succ]
      exact i2 d
    · obtain ⟨e1, i1, j1⟩ := ro_sw H hk (f.1 k - 0)
      obtain ⟨h', i2, i3, i4⟩ := rf_down_l (h2 := h2) hp (n := n) (e := e) m (k + 1) (jx_set h b e1) (by omega) (ro_congr j1 (fun j hj => by
        show upd _ _ _ _ = _
        by_cases q : j = k
        · subst q; rw [upd_at]; simp [hb]
        · rw [upd_ne _ _ q]
          by_cases q2 : j < k
          · simp [q2, show j < k + 1 by omega]
          · simp [q2, show ¬ j < k + 1 by omega]) (fun _ _ => rfl) rfl)
      refine ⟨h', fun d => ?_, i3, Fr.one.trans i4⟩
      rw [je_95_14, if_neg (jk_n12 hk), hw, jk_bs, rf_has _ _ (by omega), jk_cI, jk_if0, if_neg hb, i1, jk_bs, jk_succ]
      exact i2 d
theorem rf_down (H : ro_at h b f) (B : jf_B f) {p : Nat} (hp : p < 12) (h2 : bc (f.2.1 p) ≤ 2) : ∃ h', (∀ d, jx_C rc (d + 3) 95 [.ref b, .int (Int32.ofNat p)] h = some (none, h')) ∧ ro_at h' b (jf_down f p) ∧ Fr (fun x => x = b) h h' := by
  obtain ⟨h1, r1, r2, r3⟩ := rf_down_l (rc := rc) (f := f) (h2 := fun _ => none) hp (n := f.2.1 p) (e := f.1 p) 12 0 h (by omega) (ro_congr H (fun j hj => by simp) (fun _ _ => rfl) rfl)
  obtain ⟨h3, s1, s2, s3⟩ := rf_leaves (rc := rc) r2 hp
  have hn := B.n p hp
  have sub : ∀ x e : Int32, x - e = x + -e := fun x e => Int32.sub_eq_add_neg x e
  by_cases q2 : bc (f.2.1 p) = 2
  · obtain ⟨x, e1⟩ := bc_lo (x := f.2.1 p) (by omega)
    obtain ⟨y, e2⟩ := bc_hi (x := f.2.1 p) (by omega)
    obtain ⟨x1, x2, -⟩ := lo_some.mp e1
    obtain ⟨y1, y2, -⟩ := hi_some.mp e2
    have e5 := (jk_other hn q2).1.trans e2
    have ne : x ≠ y := fun q => (jk_other hn q2).2 (by rw [e1, e2, q])
    have nx := (B.nb hp x2).2.2.1
    have ny := (B.nb hp y2).2.2.1
    obtain ⟨h4, u1, u2, u3⟩ := rf_ties (rc := rc) s2 x1 y1
    refine ⟨h4, fun d => ?_, ro_congr u2 (fun j hj => ?_) (fun j hj => ?_) ?_, (r3.trans s3).trans u3⟩
    · rw [je_95, ro_w H hp, jk_bs, ro_n H hp, jk_bs]
      refine (r1 (d + 1)).trans ?_
      rw [je_95_14, if_pos (by decide), s1, jk_cV, rf_many, jk_cI, if_pos ((jk_eq2 _).mpr q2), rf_lowest _ e1, jk_cI, rf_lowest _ e5, jk_cI, u1, jk_cV]
    · unfold jf_down; rw [e1, e2]
      simp only [if_neg ne]
      show upd (fun j => if bt (f.2.1 p) j = true then f.1 j - f.1 p else f.1 j) p 0 j = upd (upd (upd f.1 p 0) x (upd f.1 p 0 x + -f.1 p)) y (upd (upd f.1 p 0) x (upd f.1 p 0 x + -f.1 p) y + -f.1 p) j
      have two := fun hb => jk_two hn h2 hj hb
      rw [e1, e2] at two
      unfold upd
      by_cases q1 : j = p
      · subst q1; simp [nx.symm, ny.symm]
      · by_cases qx : j = x
        · subst qx; simp [q1, ne, x2, sub]
        · by_cases qy : j = y
          · subst qy; simp [q1, qx, y2, sub]
          · have : ¬ bt (f.2.1 p) j = true := fun hb => by
              rcases two hb with w | w
              · exact qx (by injection w with w; exact w.symm)
              · exact qy (by injection w with w; exact w.symm)
            simp [q1, qx, qy, this]
    · unfold jf_down; rw [e1, e2]
      simp only [if_neg ne]
      rfl
    · unfold jf_down; rw [e1, e2]
      simp only [if_neg ne]
      rfl
  · refine ⟨h3, fun d => ?_, ?_, r3.trans s3⟩
    · rw [je_95, ro_w H hp, jk_bs, ro_n H hp, jk_bs]
      refine (r1 (d + 1)).trans ?_
      rw [je_95_14, if_pos (by decide), s1, jk_cV, rf_many, jk_cI, if_neg (fun w => q2 ((jk_eq2 _).mp w))]
    · by_cases q1 : bc (f.2.1 p) = 1
      · obtain ⟨x, e1⟩ := bc_lo (x := f.2.1 p) (by omega)
        have e2 := (jk_one hn q1).symm.trans e1
        obtain ⟨x1, x2, -⟩ := lo_some.mp e1
        have nx := (B.nb hp x2).2.2.1
        refine ro_congr s2 (fun j hj => ?_) (fun j hj => ?_) ?_
        · unfold jf_down; rw [e1, e2]
          simp only []
          show upd (fun j => if bt (f.2.1 p) j = true then f.1 j - f.1 p else f.1 j) p 0 j = upd (upd f.1 p 0) x (upd f.1 p 0 x + -f.1 p) j
          have two := fun hb => jk_two hn h2 hj hb
          rw [e1, e2] at two
          unfold upd
          by_cases q1 : j = p
          · subst q1; simp [nx.symm]
          · by_cases qx : j = x
            · subst qx; simp [q1, x2, sub]
            · have : ¬ bt (f.2.1 p) j = true := fun hb => by
                rcases two hb with w | w
                · exact qx (by injection w with w; exact w.symm)
                · exact qx (by injection w with w; exact w.symm)
              simp [q1, qx, this]
        · unfold jf_down; rw [e1, e2]; simp only [if_true]; rfl
        · unfold jf_down; rw [e1, e2]; simp only [if_true]; rfl
      · have z := bc_0 hn (by omega)
        have e1 : lo (f.2.1 p) = none := by rw [z]; exact lo_0
        refine ro_congr s2 (fun j hj => ?_) (fun j hj => ?_) ?_
        · unfold jf_down; rw [e1]
          show upd (fun j => if bt (f.2.1 p) j = true then f.1 j - f.1 p else f.1 j) p 0 j = upd f.1 p 0 j
          rw [z]
          simp [bt_0]
        · unfold jf_down; rw [e1]; rfl
        · unfold jf_down; rw [e1]; rfl
theorem rf_up (H : ro_at h b f) (B : jf_B f) {p q : Nat} (hp : p < 12) (hq : q < 12) (hpq : bt (f.2.1 p) q = true) (v : Int32) (hc : bc f.2.2 < 12) : ∃ h', (∀ d, jx_C rc (d + 4) 96 [.ref b, .int (Int32.ofNat p), .int (Int32.ofNat q), .int v] h = some (none, h')) ∧ ro_at h' b (jf_up f p q v) ∧ Fr (fun x => x = b) h h' := by
  obtain ⟨-, n1, ne, n2⟩ := B.nb hp hpq
  obtain ⟨c, hc⟩ := bc_free hc
  obtain ⟨c1, c2, -⟩ := lo_not hc
  have cp : c ≠ p := fun w => by rw [w, n2] at c2; cases c2
  have cq : c ≠ q := fun w => by rw [w, n1] at c2; cases c2
  have hz := (B.abs c1 c2).2
  obtain ⟨e1, i1, j1⟩ := ro_sw H hp (f.1 p + v)
  obtain ⟨e2, i2, j2⟩ := ro_sw j1 hq (upd f.1 p (f.1 p + v) q + v)
  obtain ⟨h3, r1, r2, r3⟩ := rf_cuts (rc := rc) j2 hp hq
  obtain ⟨h4, s1, s2, s3⟩ := rf_comes (rc := rc) r2 hc (show (jf_part _ p q).2.1 c = 0 by
    show upd (upd f.2.1 p _) q _ c = 0
    rw [upd_ne _ _ cq, upd_ne _ _ cp]; exact hz) v
  obtain ⟨h5, u1, u2, u3⟩ := rf_ties (rc := rc) s2 c1 hp
  obtain ⟨h6, v1, v2, v3⟩ := rf_ties (rc := rc) u2 c1 hq
  refine ⟨h6, fun d => ?_, ro_congr v2 (fun j hj => ?_) (fun j hj => ?_) ?_, ((Fr.one.one'.trans r3).trans (s3.trans u3)).trans v3⟩
  · rw [je_96, ro_w H hp, jk_bs, i1, jk_bs, ro_w j1 hq, jk_bs, i2, jk_bs, r1, jk_cV, s1, jk_cI, u1, jk_cV, v1, jk_cV]
  · unfold jf_up; rw [jf_free_of hc]; unfold jf_bud; rw [jf_free_of (f := jf_addw (jf_part f p q) q v) hc]
    show upd (upd (upd f.1 p (f.1 p + v)) q (upd f.1 p (f.1 p + v) q + v)) c v j = upd (upd (upd f.1 q (f.1 q + v)) c v) p (upd (upd f.1 q (f.1 q + v)) c v p + v) j
    unfold upd
    grind
  · unfold jf_up; rw [jf_free_of hc]; unfold jf_bud; rw [jf_free_of (f := jf_addw (jf_part f p q) q v) hc]
    rfl
  · unfold jf_up; rw [jf_free_of hc]; unfold jf_bud; rw [jf_free_of (f := jf_addw (jf_part f p q) q v) hc]
    rfl
theorem jk_and_sub {s n : Int32} (h : s &&& (n ^^^ (-1)) = 0) {k : Nat} (hk : k < 32) (hb : bt s k = true) : bt n k = true := by
  have : bt (s &&& (n ^^^ (-1))) k = false := by rw [h, bt_0]
  rw [bt_and, hb, bt_not _ hk] at this
  simpa using this
theorem rf_absorb_l {p a c : Nat} (hp : p < 12) (ha : a < 12) (hc : c < 12) (n : Int32) : ∀ (m k : Nat) (h : jxH) (g : jF), k + m = 12 → ro_at h b g → (∀ x y, x < 12 → y < 32 → bt (g.2.1 x) y = (bt (f.2.1 x) y || (decide (x = a ∧ y < k ∧ y ≠ p) && bt n y) || (decide (y = a ∧ x < k ∧ x ≠ p) && bt n x))) → g.1 = f.1 → g.2.2 = f.2.2 → ∃ h' g', (∀ d, jb_97 rc (d + 1) 29 [(0, .ref b), (1, .int (Int32.ofNat p)), (2, .int (Int32.ofNat a)), (3, .int (Int32.ofNat c)), (4, .int n), (5, .int (Int32.ofNat k))] [] h = some (none, h')) ∧ ro_at h' b (jf_rem (jf_rem g' p) c) ∧ (∀ x y, x < 12 → y < 32 → bt (g'.2.1 x) y = (bt (f.2.1 x) y || (decide (x = a ∧ y < 12 ∧ y ≠ p) && bt n y) || (decide (y = a ∧ x < 12 ∧ x ≠ p) && bt n x))) ∧ g'.1 = f.1 ∧ g'.2.2 = f.2.2 ∧ Fr (fun x => x = b) h h'
  | 0, k, h, g, e, H, Hg, w1, w2 => by
    obtain rfl : k = 12 := by omega
    obtain ⟨h1, r1, r2, r3⟩ := rf_leaves (rc := rc) H hp
    obtain ⟨h2, s1, s2, s3⟩ := rf_leaves (rc := rc) r2 hc
    refine ⟨h2, g, fun d => ?_, s2, Hg, w1, w2, r3.trans s3⟩
    rw [je_97_29, if_pos (by decide), r1, jk_cV, s1, jk_cV]
  | m + 1, k, h, g, e, H, Hg, w1, w2 => by
    have hk : k < 12 := by omega
    by_cases hb : bt n k = true
    · by_cases hkp : k = p
      · obtain ⟨h', g', i1, i2, i3, i4⟩ := rf_absorb_l hp ha hc n m (k + 1) h g (by omega) H (fun x y hx hy => by rw [Hg x y hx hy]; grind) w1 w2
        refine ⟨h', g', fun d => ?_, i2, i3, i4⟩
        rw [je_97_29, if_neg (jk_n12 hk), rf_has _ _ (by omega), jk_cI, jk_if0, if_pos hb, if_pos (by rw [hkp]), jk_succ]
        exact i1 d
      · obtain ⟨h1, r1, r2, r3⟩ := rf_ties (rc := rc) H ha hk
        obtain ⟨h', g', i1, i2, i3, i4, i5, i6⟩ := rf_absorb_l hp ha hc n m (k + 1) h1 (jf_join g a k) (by omega) r2 (fun x y hx hy => by rw [jb_join _ ha hk hy, Hg x y hx hy]; grind) w1 w2
        refine ⟨h', g', fun d => ?_, i2, i3, i4, i5, r3.trans i6⟩
        rw [je_97_29, if_neg (jk_n12 hk), rf_has _ _ (by omega), jk_cI, jk_if0, if_pos hb, if_neg (fun w => hkp ((jk_inj (by omega) (by omega)).mp w)), r1, jk_cV, jk_succ]
        exact i1 d
    · obtain ⟨h', g', i1, i2, i3, i4⟩ := rf_absorb_l hp ha hc n m (k + 1) h g (by omega) H (fun x y hx hy => by rw [Hg x y hx hy]; grind) w1 w2
      refine ⟨h', g', fun d => ?_, i2, i3, i4⟩
      rw [je_97_29, if_neg (jk_n12 hk), rf_has _ _ (by omega), jk_cI, jk_if0, if_neg hb, jk_succ]
      exact i1 d
theorem rf_absorb (H : ro_at h b f) (B : jf_B f) {p : Nat} (hp : p < 12) (h2 : bc (f.2.1 p) = 2) : ∃ h', (∀ d, jx_C rc (d + 4) 97 [.ref b, .int (Int32.ofNat p)] h = some (none, h')) ∧ ro_at h' b (jf_absorb f p) ∧ Fr (fun x => x = b) h h' := by
  have hn := B.n p hp
  obtain ⟨x, e1⟩ := bc_lo (x := f.2.1 p) (by omega)
  obtain ⟨y, e2⟩ := bc_hi (x := f.2.1 p) (by omega)
  obtain ⟨x1, x2, -⟩ := lo_some.mp e1
  obtain ⟨y1, y2, -⟩ := hi_some.mp e2
  have e5 := (jk_other hn h2).1.trans e2
  have ne : x ≠ y := fun q => (jk_other hn h2).2 (by rw [e1, e2, q])
  have nx := (B.nb hp x2).2.2.1
  have ny := (B.nb hp y2).2.2.1
  obtain ⟨e3, i1, j1⟩ := ro_sw H x1 (f.1 x + f.1 y)
  obtain ⟨h', g', r1, r2, r3, r4, r5, r6⟩ := rf_absorb_l (rc := rc) (f := (upd f.1 x (f.1 x + f.1 y), f.2)) hp x1 y1 (f.2.1 y) 12 0 _ _ (by omega) j1 (fun u v hu hv => by simp) rfl rfl
  refine ⟨h', fun d => ?_, ro_congr r2 (fun j hj => ?_) (fun j hj => ?_) ?_, Fr.one.trans r6⟩
  · rw [je_97, rf_lightest H hp e1, jk_cI, rf_other H hp e5, jk_cI, ro_w H x1, jk_bs, ro_w H y1, jk_bs, i1, jk_bs, ro_n j1 y1, jk_bs]
    exact r1 (d + 2)
  · unfold jf_absorb; rw [e1, e2]
    show upd (upd g'.1 p 0) y 0 j = (jf_joins _ x _ 12).1 j
    rw [(jw_joins _ x _ 12).1, r4]
    show upd (upd (upd f.1 x (f.1 x + f.1 y)) p 0) y 0 j = upd (upd (upd f.1 p 0) x (upd f.1 p 0 x + upd f.1 p 0 y)) y 0 j
    unfold upd
    grind
  · unfold jf_absorb; rw [e1, e2]
    apply bt_ext
    intro k hk
    simp only []
    rw [jb_rem _ y1 hk, jb_rem _ hp hk, r3 j k hj hk, jb_joins _ _ x1 hk 12 (Nat.le_refl _), jb_rem _ y1 hk]
    show _ = ((bt ((jf_rem f p).2.1 j) k && _ && _) || (_ && bt ((jf_rem f p).2.1 y) k) || (_ && bt ((jf_rem f p).2.1 y) j))
    rw [jb_rem _ hp hk, jb_rem _ hp hk, jb_rem _ hp (show j < 32 by omega)]
    have a1 := B.irr y1
    have a2 : bt (f.2.1 y) k = true → k < 12 := fun w => (B.nb y1 w).1
    simp only []
    by_cases c1 : j = y
    · subst c1; simp [a1, ne.symm]
    · by_cases c2 : k = y
      · subst c2; simp [a1, ne.symm]
      · by_cases c3 : j = p
        · subst c3; simp [nx.symm]
        · by_cases c4 : k = p
          · subst c4; simp [nx.symm]
          · simp [c1, c2, c3, c4, ny]
  · unfold jf_absorb; rw [e1, e2]
    show (g'.2.2 &&& (jk_bit p ^^^ (-1))) &&& (jk_bit y ^^^ (-1)) = (jf_joins _ x _ 12).2.2
    rw [(jw_joins _ x _ 12).2, r5]
    rfl
theorem rf_draw_l {p z c : Nat} (hp : p < 12) (hz : z < 12) (hc : c < 12) (hcp : c ≠ p) (s : Int32) (hs : ∀ k, k < 12 → bt s k = true → k ≠ p ∧ k ≠ c) : ∀ (m k : Nat) (h : jxH) (g : jF), k + m = 12 → ro_at h b g → (∀ x y, x < 12 → y < 32 → bt (g.2.1 x) y = ((bt (f.2.1 x) y && !(decide (x = p ∧ y < k) && bt s y) && !(decide (y = p ∧ x < k) && bt s x)) || (decide (x = c ∧ y < k) && bt s y) || (decide (y = c ∧ x < k) && bt s x))) → g.1 = f.1 → g.2.2 = f.2.2 → ∃ h' g', (∀ d, jb_98 rc (d + 1) 19 [(0, .ref b), (1, .int (Int32.ofNat p)), (3, .int s), (4, .int (Int32.ofNat z)), (5, .int (Int32.ofNat c)), (6, .int (Int32.ofNat k))] [] h = some (none, h')) ∧ ro_at h' b (jf_join (jf_join g' z p) c z) ∧ (∀ x y, x < 12 → y < 32 → bt (g'.2.1 x) y = ((bt (f.2.1 x) y && !(decide (x = p ∧ y < 12) && bt s y) && !(decide (y = p ∧ x < 12) && bt s x)) || (decide (x = c ∧ y < 12) && bt s y) || (decide (y = c ∧ x < 12) && bt s x))) ∧ g'.1 = f.1 ∧ g'.2.2 = f.2.2 ∧ Fr (fun x => x = b) h h'
  | 0, k, h, g, e, H, Hg, w1, w2 => by
    obtain rfl : k = 12 := by omega
    obtain ⟨h1, r1, r2, r3⟩ := rf_ties (rc := rc) H hz hp
    obtain ⟨h2, s1, s2, s3⟩ := rf_ties (rc := rc) r2 hc hz
    refine ⟨h2, g, fun d => ?_, s2, Hg, w1, w2, r3.trans s3⟩
    rw [je_98_19, if_pos (by decide), r1, jk_cV, s1, jk_cV]
  | m + 1, k, h, g, e, H, Hg, w1, w2 => by
    have hk : k < 12 := by omega
    by_cases hb : bt s k = true
    · obtain ⟨kp, kc⟩ := hs k hk hb
      obtain ⟨h1, r1, r2, r3⟩ := rf_cuts (rc := rc) H hp hk
      obtain ⟨h2, s1, s2, s3⟩ := rf_ties (rc := rc) r2 hc hk
      obtain ⟨h', g', i1, i2, i3, i4, i5, i6⟩ := rf_draw_l hp hz hc hcp s hs m (k + 1) h2 (jf_join (jf_part g p k) c k) (by omega) s2 (fun x y hx hy => by rw [jb_join _ hc hk hy, jb_part _ hp hk hy, Hg x y hx hy]; grind) w1 w2
      refine ⟨h', g', fun d => ?_, i2, i3, i4, i5, (r3.trans s3).trans i6⟩
      rw [je_98_19, if_neg (jk_n12 hk), rf_has _ _ (by omega), jk_cI, jk_if0, if_pos hb, r1, jk_cV, s1, jk_cV, jk_succ]
      exact i1 d
    · obtain ⟨h', g', i1, i2, i3, i4⟩ := rf_draw_l hp hz hc hcp s hs m (k + 1) h g (by omega) H (fun x y hx hy => by rw [Hg x y hx hy]; grind) w1 w2
      refine ⟨h', g', fun d => ?_, i2, i3, i4⟩
      rw [je_98_19, if_neg (jk_n12 hk), rf_has _ _ (by omega), jk_cI, jk_if0, if_neg hb, jk_succ]
      exact i1 d
theorem rf_draw (H : ro_at h b f) (B : jf_B f) {p : Nat} (hp : p < 12) (hb : bt f.2.2 p = true) (v s : Int32) (hs : s &&& (f.2.1 p ^^^ (-1)) = 0) (h2 : bc f.2.2 < 11) : ∃ h', (∀ d, jx_C rc (d + 4) 98 [.ref b, .int (Int32.ofNat p), .int v, .int s] h = some (none, h')) ∧ ro_at h' b (jf_draw f p v s) ∧ Fr (fun x => x = b) h h' := by
  obtain ⟨z, hz⟩ := bc_free (x := f.2.2) (by omega)
  obtain ⟨c, hc⟩ := bc_free (x := f.2.2 ||| jk_bit z) (by have := bc_set (x := f.2.2) (lo_not hz).1; omega)
  obtain ⟨z1, z2, -⟩ := lo_not hz
  obtain ⟨c1, c2, -⟩ := lo_not hc
  rw [bt_set _ z1 c1] at c2
  have c3 : bt f.2.2 c = false := by simpa using (Bool.or_eq_false_iff.mp c2).1
  have cz : c ≠ z := by simpa using (Bool.or_eq_false_iff.mp c2).2
  have zp : z ≠ p := fun w => by rw [w, hb] at z2; cases z2
  have cp : c ≠ p := fun w => by rw [w, hb] at c3; cases c3
  have sub : ∀ x e : Int32, x - e = x + -e := fun x e => Int32.sub_eq_add_neg x e
  have hsn : ∀ k, k < 32 → bt s k = true → bt (f.2.1 p) k = true := fun k hk hb => jk_and_sub hs hk hb
  obtain ⟨e1, i1, j1⟩ := ro_sw H hp (f.1 p - v)
  obtain ⟨h1, r1, r2, r3⟩ := rf_comes (rc := rc) j1 hz (B.abs z1 z2).2 0
  obtain ⟨h3, s1, s2, s3⟩ := rf_comes (rc := rc) r2 hc (B.abs c1 c3).2 v
  obtain ⟨h', g', u1, u2, u3, u4, u5, u6⟩ := rf_draw_l (rc := rc) (f := jf_grow (jf_grow (upd f.1 p (f.1 p - v), f.2) z 0) c v) hp z1 c1 cp s (fun k hk w => by
    obtain ⟨-, n1, n2, -⟩ := B.nb hp (hsn k (by omega) w)
    exact ⟨n2, fun q => by rw [q, c3] at n1; cases n1⟩) 12 0 _ _ (by omega) s2 (fun u v hu hv => by simp) rfl rfl
  have f1 : jf_free f = z := jf_free_of hz
  have f2 : jf_free (jf_grow f z 0) = c := jf_free_of (f := jf_grow f z 0) hc
  refine ⟨h', fun d => ?_, ro_congr u2 (fun j hj => ?_) (fun j hj => ?_) ?_, ((Fr.one.trans r3).trans s3).trans u6⟩
  · rw [je_98, ro_w H hp, jk_bs, i1, jk_bs, r1, jk_cI, s1, jk_cI]
    exact u1 (d + 2)
  · unfold jf_draw; rw [f1, f2]
    show g'.1 j = (jf_joins _ c s 12).1 j
    rw [(jw_joins _ c s 12).1, (jw_parts _ p s 12).1, u4]
    show upd (upd (upd f.1 p (f.1 p - v)) z 0) c v j = upd (upd (upd f.1 z 0) c v) p (upd (upd f.1 z 0) c v p + -v) j
    unfold upd
    grind
  · unfold jf_draw; rw [f1, f2]
    apply bt_ext
    intro k hk
    rw [jb_join _ c1 z1 hk, jb_join _ z1 hp hk, u3 j k hj hk, jb_join _ z1 c1 hk, jb_join _ hp z1 hk, jb_joins _ s c1 hk 12 (Nat.le_refl _), jb_parts _ s hp hk 12 (Nat.le_refl _)]
    have com : ∀ X a b c d : Bool, ((((X || a) || b) || c) || d) = ((((X || b) || a) || d) || c) := by decide
    exact com _ _ _ _ _
  · unfold jf_draw; rw [f1, f2]
    show g'.2.2 = (jf_joins _ c s 12).2.2
    rw [(jw_joins _ c s 12).2, (jw_parts _ p s 12).2, u5]
    rfl
theorem rf_mirror_l : ∀ (m k : Nat) (h : jxH), k + m = 12 → ro_at h b (fun j => if j < k then -f.1 j else f.1 j, f.2) → ∃ h', (∀ d, jb_99 rc d 50 [(0, .ref b), (6, .int (Int32.ofNat k))] [] h = some (none, h')) ∧ ro_at h' b (jf_mirror f) ∧ Fr (fun x => x = b) h h'
  | 0, k, h, e, H => by
    obtain rfl : k = 12 := by omega
    refine ⟨h, fun d => by rw [je_99_50]; rfl, ro_congr H (fun j hj => ?_) (fun _ _ => rfl) rfl, Fr.rfl⟩
    simp [hj, jf_mirror]
  | m + 1, k, h, e, H => by
    have hk : k < 12 := by omega
    obtain ⟨e, e1, e2⟩ := ro_sw H hk (-f.1 k)
    obtain ⟨h', i1, i2, i3⟩ := rf_mirror_l m (k + 1) (jx_set h b e) (by omega) (ro_congr e2 (fun j hj => by
      show upd _ _ _ _ = _
      by_cases hjk : j = k
      · rw [hjk, upd_at]; simp
      · rw [upd_ne _ _ hjk]
        by_cases hlt : j < k
        · simp [hlt, show j < k + 1 by omega]
        · simp [hlt, show ¬ j < k + 1 by omega]) (fun _ _ => rfl) rfl)
    refine ⟨h', fun d => ?_, i2, Fr.one.trans i3⟩
    have hw := ro_w H hk
    simp only [Nat.lt_irrefl, if_false] at hw
    rw [je_99_50, if_neg (jk_n12 hk), hw, jk_bs, e1, jk_bs, jk_succ]
    exact i1 d
/-- does(), of a MOVE that isn't REFUSED -/
theorem rf_does (H : ro_at h b f) (B : jf_B f) (m : jM) (e : jf_ref f false m = 0) : ∃ h', (∀ d, jx_C rc (d + 6) 99 [.ref b, .int m.1, .int m.2.1, .int m.2.2.1, .int m.2.2.2.1, .int m.2.2.2.2] h = some (none, h')) ∧ ro_at h' b (jf_act f m) ∧ Fr (fun x => x = b) h h' := by
  rcases jf_ref_k e with hk | hk | hk | hk | hk | hk | hk | hk
  · obtain ⟨p, hp, e1, e2, -, e3⟩ := jf_ref_0 e hk
    obtain ⟨h', i1, i2, i3⟩ := rf_down (rc := rc) H B hp e3
    refine ⟨h', fun d => ?_, ?_, i3⟩
    · rw [je_99, hk, if_pos rfl, e1, i1, jk_cV]
    · unfold jf_act; rw [if_pos hk, e1, pn_of hp]; exact i2
  · obtain ⟨p, q, hp, hq, e1, e3, e2, e4, e5, e6, e7⟩ := jf_ref_1 e hk
    obtain ⟨h', i1, i2, i3⟩ := rf_up (rc := rc) H B hp hq e5 m.2.2.2.1 e7
    refine ⟨h', fun d => ?_, ?_, i3⟩
    · rw [je_99, hk, if_neg (by decide), if_pos (by decide), e1, e3, i1, jk_cV]
    · unfold jf_act; rw [if_neg (by rw [hk]; decide), if_pos hk, e1, e3, pn_of hp, pn_of hq]; exact i2
  · obtain ⟨p, hp, e1, e2, e3, e4⟩ := jf_ref_2 e hk
    obtain ⟨c, hc⟩ := bc_free e4
    obtain ⟨c1, c2, -⟩ := lo_not hc
    have cp : c ≠ p := fun w => by rw [w, e2] at c2; cases c2
    obtain ⟨y, i1, j1⟩ := ro_sw H hp (f.1 p + m.2.2.2.1)
    obtain ⟨h1, r1, r2, r3⟩ := rf_comes (rc := rc) j1 hc (B.abs c1 c2).2 m.2.2.2.1
    obtain ⟨h', s1, s2, s3⟩ := rf_ties (rc := rc) r2 c1 hp
    refine ⟨h', fun d => ?_, ?_, (Fr.one.trans r3).trans s3⟩
    · rw [je_99, hk, if_neg (by decide), if_neg (by decide), if_pos (by decide), e1, ro_w H hp, jk_bs, i1, jk_bs, r1, jk_cI, s1, jk_cV]
    · unfold jf_act; rw [if_neg (by rw [hk]; decide), if_neg (by rw [hk]; decide), if_pos hk, e1, pn_of hp]
      refine ro_congr s2 (fun j hj => ?_) (fun j hj => ?_) ?_
      · unfold jf_bud; rw [jf_free_of hc]
        show upd (upd f.1 p (f.1 p + m.2.2.2.1)) c m.2.2.2.1 j = upd (upd f.1 c m.2.2.2.1) p (upd f.1 c m.2.2.2.1 p + m.2.2.2.1) j
        unfold upd
        grind
      · unfold jf_bud; rw [jf_free_of hc]; rfl
      · unfold jf_bud; rw [jf_free_of hc]; rfl
  · obtain ⟨e3, e4⟩ := jf_ref_3 e hk
    obtain ⟨c, hc⟩ := bc_free e4
    obtain ⟨c1, c2, -⟩ := lo_not hc
    obtain ⟨h', i1, i2, i3⟩ := rf_comes (rc := rc) H hc (B.abs c1 c2).2 m.2.2.2.1
    refine ⟨h', fun d => ?_, ?_, i3⟩
    · rw [je_99, hk, if_neg (by decide), if_neg (by decide), if_neg (by decide), if_pos (by decide), i1, jk_cI]
    · unfold jf_act; rw [if_neg (by rw [hk]; decide), if_neg (by rw [hk]; decide), if_neg (by rw [hk]; decide), if_pos hk, jf_free_of hc]; exact i2
  · obtain ⟨p, hp, e1, e2, -, e4⟩ := jf_ref_4 e hk
    obtain ⟨h', i1, i2, i3⟩ := rf_absorb (rc := rc) H B hp e4
    refine ⟨h', fun d => ?_, ?_, i3⟩
    · rw [je_99, hk, if_neg (by decide), if_neg (by decide), if_neg (by decide), if_neg (by decide), if_pos (by decide), e1, i1, jk_cV]
    · unfold jf_act; rw [if_neg (by rw [hk]; decide), if_neg (by rw [hk]; decide), if_neg (by rw [hk]; decide), if_neg (by rw [hk]; decide), if_pos hk, e1, pn_of hp]; exact i2
  · obtain ⟨p, hp, e1, e2, -, e4⟩ := jf_ref_5 e hk
    obtain ⟨x, hx⟩ := bc_lo (x := f.2.1 p) (by omega)
    obtain ⟨x1, x2, x3⟩ := lo_some.mp hx
    obtain ⟨-, nx, ne, -⟩ := B.nb hp x2
    obtain ⟨h1, r1, r2, r3⟩ := rf_leaves (rc := rc) H hp
    obtain ⟨h', s1, s2, s3⟩ := rf_leaves (rc := rc) r2 x1
    refine ⟨h', fun d => ?_, ?_, r3.trans s3⟩
    · rw [je_99, hk, if_neg (by decide), if_neg (by decide), if_neg (by decide), if_neg (by decide), if_neg (by decide), if_pos (by decide), e1, rf_lightest H hp hx, jk_cI, r1, jk_cV, s1, jk_cV]
    · unfold jf_act; rw [if_neg (by rw [hk]; decide), if_neg (by rw [hk]; decide), if_neg (by rw [hk]; decide), if_neg (by rw [hk]; decide), if_neg (by rw [hk]; decide), if_pos hk, e1, pn_of hp]
      unfold jf_split; rw [hx]
      refine ro_congr s2 (fun j hj => ?_) (fun j hj => bt_ext fun k hk => ?_) ?_
      · show upd (upd f.1 p 0) x 0 j = upd (upd f.1 x 0) p 0 j
        unfold upd
        grind
      · simp only []
        rw [jb_rem _ x1 hk, jb_rem _ hp hk, jb_rem _ hp hk, jb_rem _ x1 hk]
        have com : ∀ X a b c d : Bool, ((((X && a) && b) && c) && d) = ((((X && c) && d) && a) && b) := by decide
        exact com _ _ _ _ _
      · show (f.2.2 &&& (jk_bit p ^^^ (-1))) &&& (jk_bit x ^^^ (-1)) = (f.2.2 &&& (jk_bit x ^^^ (-1))) &&& (jk_bit p ^^^ (-1))
        rw [Int32.and_assoc, Int32.and_assoc, Int32.and_comm (jk_bit p ^^^ (-1))]
  · obtain ⟨h', i1, i2, i3⟩ := rf_mirror_l (rc := rc) (f := f) 12 0 h (by omega) (ro_congr H (fun j hj => by simp) (fun _ _ => rfl) rfl)
    refine ⟨h', fun d => ?_, ?_, i3⟩
    · rw [je_99, hk, if_neg (by decide), if_neg (by decide), if_neg (by decide), if_neg (by decide), if_neg (by decide), if_neg (by decide), if_pos (by decide)]
      exact i1 (d + 5)
    · unfold jf_act; rw [if_neg (by rw [hk]; decide), if_neg (by rw [hk]; decide), if_neg (by rw [hk]; decide), if_neg (by rw [hk]; decide), if_neg (by rw [hk]; decide), if_neg (by rw [hk]; decide), if_pos hk]; exact i2
  · obtain ⟨p, hp, e1, e2, -, e3, e4⟩ := jf_ref_7 e hk
    obtain ⟨h', i1, i2, i3⟩ := rf_draw (rc := rc) H B hp e2 m.2.2.2.1 m.2.2.2.2 e3 e4
    refine ⟨h', fun d => ?_, ?_, i3⟩
    · rw [je_99, hk, if_neg (by decide), if_neg (by decide), if_neg (by decide), if_neg (by decide), if_neg (by decide), if_neg (by decide), if_neg (by decide), e1, i1, jk_cV]
    · unfold jf_act; rw [if_neg (by rw [hk]; decide), if_neg (by rw [hk]; decide), if_neg (by rw [hk]; decide), if_neg (by rw [hk]; decide), if_neg (by rw [hk]; decide), if_neg (by rw [hk]; decide), if_neg (by rw [hk]; decide), e1, pn_of hp]; exact i2
end
end
section
/-! Without rings: of every set of vertices there are fewer edges within than vertices -/
def js (g : Nat → Int) : Nat → Int
  | 0 => 0
  | n + 1 => js g n + g n
theorem js_congr {g h : Nat → Int} : ∀ {n : Nat}, (∀ k, k < n → g k = h k) → js g n = js h n
  | 0, _ => rfl
  | n + 1, e => by
    show js g n + g n = js h n + h n
    rw [js_congr (fun k hk => e k (by omega)), e n (by omega)]
theorem js_le {g h : Nat → Int} : ∀ {n : Nat}, (∀ k, k < n → g k ≤ h k) → js g n ≤ js h n
  | 0, _ => Int.le_refl _
  | n + 1, e => by
    show js g n + g n ≤ js h n + h n
    have := js_le (n := n) (fun k hk => e k (by omega))
    have := e n (by omega)
    omega
theorem js_add (g h : Nat → Int) : ∀ n : Nat, js (fun k => g k + h k) n = js g n + js h n
  | 0 => rfl
  | n + 1 => by
    show js _ n + (g n + h n) = js g n + g n + (js h n + h n)
    rw [js_add g h n]; omega
theorem js_0 : ∀ n : Nat, js (fun _ => 0) n = 0
  | 0 => rfl
  | n + 1 => by show js _ n + 0 = 0; rw [js_0 n]; rfl
theorem js_delta {v : Nat} (g : Nat → Int) : ∀ {n : Nat}, js (fun k => if k = v then g k else 0) n = if v < n then g v else 0
  | 0 => by simp [js]
  | n + 1 => by
    show js _ n + (if n = v then g n else 0) = _
    rw [js_delta g]
    by_cases h : n = v
    · subst h; simp
    · by_cases h2 : v < n
      · simp [h, h2, show v < n + 1 by omega]
      · simp [h, h2, show ¬ v < n + 1 by omega]
theorem js_nonneg {g : Nat → Int} {n : Nat} (h : ∀ k, k < n → 0 ≤ g k) : 0 ≤ js g n := by
  have := js_le (g := fun _ => 0) (h := g) (n := n) h
  rwa [js_0] at this
def i01 (b : Bool) : Int := if b then 1 else 0
theorem i01_nn (b : Bool) : 0 ≤ i01 b := by cases b <;> decide
theorem i01_le (b : Bool) : i01 b ≤ 1 := by cases b <;> decide
/-- twice the edges within -/
def dU (U : Nat → Bool) (e : Nat → Nat → Bool) : Int := js (fun x => js (fun y => i01 (U x && U y && e x y)) 12) 12
def cU (U : Nat → Bool) : Int := js (fun x => i01 (U x)) 12
def AC (e : Nat → Nat → Bool) (s : Nat → Bool) : Prop := ∀ U : Nat → Bool, (∀ x, U x = true → x < 12 ∧ s x = true) → (∃ x, U x = true) → dU U e ≤ 2 * cU U - 2
/-- one more in a set -/
def uA (U : Nat → Bool) (v : Nat) : Nat → Bool := fun x => U x || decide (x = v)
def uD (U : Nat → Bool) (v : Nat) : Nat → Bool := fun x => U x && !decide (x = v)
theorem uA_uD {U : Nat → Bool} {v : Nat} (h : U v = true) : uA (uD U v) v = U := by
  funext x
  unfold uA uD
  by_cases q : x = v
  · subst q; simp [h]
  · simp [q]
theorem cU_add {U : Nat → Bool} {v : Nat} (hv : v < 12) (h : U v = false) : cU (uA U v) = cU U + 1 := by
  unfold cU
  rw [show (fun x => i01 (uA U v x)) = fun x => i01 (U x) + (if x = v then (fun _ => (1 : Int)) x else 0) from funext fun x => by
    unfold uA
    by_cases q : x = v
    · subst q; simp [h, i01]
    · simp [q]]
  rw [js_add, js_delta, if_pos hv]
theorem cU_nn (U : Nat → Bool) : 0 ≤ cU U := js_nonneg fun _ _ => i01_nn _
theorem cU_pos {U : Nat → Bool} {v : Nat} (hv : v < 12) (h : U v = true) : 1 ≤ cU U := by
  rw [← uA_uD h, cU_add hv (by unfold uD; simp)]
  have := cU_nn (uD U v)
  omega
theorem dU_nn (U : Nat → Bool) (e : Nat → Nat → Bool) : 0 ≤ dU U e := js_nonneg fun _ _ => js_nonneg fun _ _ => i01_nn _
theorem dU_mono {U : Nat → Bool} {e e' : Nat → Nat → Bool} (h : ∀ x y, x < 12 → y < 12 → U x = true → U y = true → e x y = true → e' x y = true) : dU U e ≤ dU U e' := by
  apply js_le; intro x hx; apply js_le; intro y hy
  cases a : U x
  · simp [i01]
  · cases b : U y
    · simp [i01]
    · cases c : e x y
      · simp [i01]; split <;> decide
      · simp [h x y hx hy a b c]
theorem dU_congr {U : Nat → Bool} {e e' : Nat → Nat → Bool} (h : ∀ x y, x < 12 → y < 12 → U x = true → U y = true → e x y = e' x y) : dU U e = dU U e' := by
  have a := dU_mono (U := U) (e := e) (e' := e') (fun x y hx hy u v w => by rw [← h x y hx hy u v]; exact w)
  have b := dU_mono (U := U) (e := e') (e' := e) (fun x y hx hy u v w => by rw [h x y hx hy u v]; exact w)
  omega
/-- how many of a set are next to one -/
def nU (U : Nat → Bool) (n : Nat → Bool) : Int := js (fun y => i01 (U y && n y)) 12
theorem dU_star {U : Nat → Bool} {e e' : Nat → Nat → Bool} {a : Nat} {n : Nat → Bool} (ha : a < 12) (h : ∀ x y, x < 12 → y < 12 → i01 (U x && U y && e' x y) ≤ i01 (U x && U y && e x y) + (if x = a then i01 (U y && n y) else 0) + (if y = a then i01 (U x && n x) else 0)) : dU U e' ≤ dU U e + 2 * nU U n := by
  have h1 : dU U e' ≤ js (fun x => js (fun y => i01 (U x && U y && e x y) + (if x = a then i01 (U y && n y) else 0) + (if y = a then i01 (U x && n x) else 0)) 12) 12 := js_le fun x hx => js_le fun y hy => h x y hx hy
  have h2 : ∀ x, js (fun y => i01 (U x && U y && e x y) + (if x = a then i01 (U y && n y) else 0) + (if y = a then i01 (U x && n x) else 0)) 12 = js (fun y => i01 (U x && U y && e x y)) 12 + (if x = a then nU U n else 0) + i01 (U x && n x) := fun x => by
    rw [js_add, js_add, js_delta (g := fun _ => i01 (U x && n x)), if_pos ha]
    by_cases q : x = a
    · simp only [if_pos q]; rfl
    · simp only [if_neg q, js_0]
  rw [show (fun x => js (fun y => i01 (U x && U y && e x y) + (if x = a then i01 (U y && n y) else 0) + (if y = a then i01 (U x && n x) else 0)) 12) = fun x => js (fun y => i01 (U x && U y && e x y)) 12 + (if x = a then nU U n else 0) + i01 (U x && n x) from funext h2, js_add, js_add, js_delta (g := fun _ => nU U n), if_pos ha] at h1
  unfold nU dU at *
  omega
theorem dU_star_eq {U : Nat → Bool} {e e' : Nat → Nat → Bool} {a : Nat} {n : Nat → Bool} (ha : a < 12) (h : ∀ x y, x < 12 → y < 12 → i01 (U x && U y && e' x y) = i01 (U x && U y && e x y) + (if x = a then i01 (U y && n y) else 0) + (if y = a then i01 (U x && n x) else 0)) : dU U e' = dU U e + 2 * nU U n := by
  have h1 : dU U e' = js (fun x => js (fun y => i01 (U x && U y && e x y) + (if x = a then i01 (U y && n y) else 0) + (if y = a then i01 (U x && n x) else 0)) 12) 12 := js_congr fun x hx => js_congr fun y hy => h x y hx hy
  have h2 : ∀ x, js (fun y => i01 (U x && U y && e x y) + (if x = a then i01 (U y && n y) else 0) + (if y = a then i01 (U x && n x) else 0)) 12 = js (fun y => i01 (U x && U y && e x y)) 12 + (if x = a then nU U n else 0) + i01 (U x && n x) := fun x => by
    rw [js_add, js_add, js_delta (g := fun _ => i01 (U x && n x)), if_pos ha]
    by_cases q : x = a
    · simp only [if_pos q]; rfl
    · simp only [if_neg q, js_0]
  rw [show (fun x => js (fun y => i01 (U x && U y && e x y) + (if x = a then i01 (U y && n y) else 0) + (if y = a then i01 (U x && n x) else 0)) 12) = fun x => js (fun y => i01 (U x && U y && e x y)) 12 + (if x = a then nU U n else 0) + i01 (U x && n x) from funext h2, js_add, js_add, js_delta (g := fun _ => nU U n), if_pos ha] at h1
  unfold nU dU at *
  omega
theorem dU_add {U : Nat → Bool} {e : Nat → Nat → Bool} {v : Nat} (hv : v < 12) (hU : U v = false) (sym : ∀ x y, x < 12 → y < 12 → e x y = e y x) (irr : e v v = false) : dU (uA U v) e = dU U e + 2 * nU U (e v) := by
  have h1 : dU (uA U v) e = js (fun x => js (fun y => i01 (U x && U y && e x y) + (if x = v then i01 (U y && e v y) else 0) + (if y = v then i01 (U x && e v x) else 0)) 12) 12 := by
    apply js_congr; intro x hx; apply js_congr; intro y hy
    unfold uA
    by_cases q : x = v
    · subst q
      by_cases r : y = x
      · subst r; simp [hU, irr, i01]
      · simp [hU, r, i01]
    · by_cases r : y = v
      · subst r
        rw [sym x y hx hy]
        simp [hU, q, i01]
      · simp [q, r]
  have h2 : ∀ x, js (fun y => i01 (U x && U y && e x y) + (if x = v then i01 (U y && e v y) else 0) + (if y = v then i01 (U x && e v x) else 0)) 12 = js (fun y => i01 (U x && U y && e x y)) 12 + (if x = v then nU U (e v) else 0) + i01 (U x && e v x) := fun x => by
    rw [js_add, js_add, js_delta (g := fun _ => i01 (U x && e v x)), if_pos hv]
    by_cases q : x = v
    · simp only [if_pos q]; rfl
    · simp only [if_neg q, js_0]
  rw [show (fun x => js (fun y => i01 (U x && U y && e x y) + (if x = v then i01 (U y && e v y) else 0) + (if y = v then i01 (U x && e v x) else 0)) 12) = fun x => js (fun y => i01 (U x && U y && e x y)) 12 + (if x = v then nU U (e v) else 0) + i01 (U x && e v x) from funext h2, js_add, js_add, js_delta (g := fun _ => nU U (e v)), if_pos hv] at h1
  unfold nU dU at *
  omega
theorem nU_nn (U n : Nat → Bool) : 0 ≤ nU U n := js_nonneg fun _ _ => i01_nn _
theorem nU_mono {U U' n n' : Nat → Bool} (h : ∀ y, y < 12 → U y = true → n y = true → U' y = true ∧ n' y = true) : nU U n ≤ nU U' n' := by
  apply js_le; intro y hy
  cases a : U y
  · simp [i01]; split <;> decide
  · cases b : n y
    · simp [i01]; split <;> decide
    · rw [(h y hy a b).1, (h y hy a b).2]; simp
theorem nU_0 {U n : Nat → Bool} (h : ∀ y, y < 12 → U y = true → n y = false) : nU U n = 0 := by
  unfold nU
  rw [js_congr (h := fun _ => 0) (fun y hy => by
    cases a : U y
    · simp [i01]
    · rw [h y hy a]; simp [i01]), js_0]
theorem nU_add {U n : Nat → Bool} {v : Nat} (hv : v < 12) (h : U v = false) : nU (uA U v) n = nU U n + i01 (n v) := by
  unfold nU
  rw [show (fun y => i01 (uA U v y && n y)) = fun y => i01 (U y && n y) + (if y = v then (fun y => i01 (n y)) y else 0) from funext fun x => by
    unfold uA
    by_cases q : x = v
    · subst q; simp [h, i01]
    · simp [q]]
  rw [js_add, js_delta, if_pos hv]
theorem nU_one {U n : Nat → Bool} {a : Nat} (ha : a < 12) (h1 : U a = true) (h2 : n a = true) : 1 ≤ nU U n := by
  rw [← uA_uD h1, nU_add ha (by unfold uD; simp), h2]
  have := nU_nn (uD U a) n
  simp [i01]; omega
theorem nU_two {U n : Nat → Bool} {a b : Nat} (ha : a < 12) (hb : b < 12) (hab : a ≠ b) (h1 : U a = true) (h2 : n a = true) (h3 : U b = true) (h4 : n b = true) : 2 ≤ nU U n := by
  rw [← uA_uD h1, nU_add ha (by unfold uD; simp), h2]
  have := nU_one (U := uD U a) (n := n) hb (by unfold uD; simp [h3]; exact fun q => hab q.symm) h4
  simp [i01]; omega
theorem nU_at1 {U n : Nat → Bool} {a : Nat} (ha : a < 12) (h : ∀ y, y < 12 → n y = true → y = a) : nU U n ≤ i01 (U a) := by
  have : nU U n ≤ js (fun y => if y = a then (fun y => i01 (U y)) y else 0) 12 := js_le fun y hy => by
    by_cases q : y = a
    · subst q; simp; cases U y <;> simp [i01]; split <;> decide
    · cases b : n y
      · simp [q, i01]
      · exact absurd (h y hy b) q
  rw [js_delta, if_pos ha] at this
  exact this
theorem AC_mono {e e' : Nat → Nat → Bool} {s s' : Nat → Bool} (h : AC e s) (hs : ∀ x, x < 12 → s' x = true → s x = true) (he : ∀ x y, x < 12 → y < 12 → s' x = true → s' y = true → e' x y = true → e x y = true) : AC e' s' := fun U hU hn => by
  have a := h U (fun x hx => ⟨(hU x hx).1, hs x (hU x hx).1 (hU x hx).2⟩) hn
  have b := dU_mono (U := U) (e := e') (e' := e) (fun x y hx hy u v w => he x y hx hy (hU x u).2 (hU y v).2 w)
  omega
/-- one more, alone -/
theorem AC_lone {e : Nat → Nat → Bool} {s s' : Nat → Bool} {c : Nat} (hc : c < 12) (h : AC e s) (sym : ∀ x y, x < 12 → y < 12 → e x y = e y x) (iso : ∀ y, y < 12 → e c y = false) (hs : ∀ x, x < 12 → s' x = true → x = c ∨ s x = true) {U : Nat → Bool} (hU : ∀ x, U x = true → x < 12 ∧ s' x = true) (hcU : U c = true) : (dU U e ≤ 2 * cU U - 2) ∧ ((∃ x, x ≠ c ∧ U x = true) → dU U e ≤ 2 * cU U - 4) := by
  have u0 : uD U c c = false := by unfold uD; simp
  have h1 := dU_add (U := uD U c) (e := e) hc u0 sym (iso c hc)
  rw [uA_uD hcU, nU_0 (fun y hy _ => iso y hy)] at h1
  have h2 := cU_add (U := uD U c) hc u0
  rw [uA_uD hcU] at h2
  have hv : ∀ x, uD U c x = true → x < 12 ∧ s x = true := fun x hx => by
    unfold uD at hx
    simp at hx
    obtain ⟨a, b⟩ := hU x hx.1
    exact ⟨a, (hs x a b).resolve_left hx.2⟩
  by_cases q : ∃ x, uD U c x = true
  · have := h (uD U c) hv q
    exact ⟨by omega, fun _ => by omega⟩
  · have z : dU (uD U c) e = 0 := by
      unfold dU
      rw [js_congr (h := fun _ => 0) (fun x _ => ?_), js_0]
      rw [js_congr (h := fun _ => 0) (fun y _ => ?_), js_0]
      cases r : uD U c x
      · simp [i01]
      · exact absurd ⟨x, r⟩ q
    have := cU_nn (uD U c)
    refine ⟨by omega, fun ⟨x, x1, x2⟩ => absurd ⟨x, ?_⟩ q⟩
    unfold uD; simp [x2, x1]
theorem AC_grow {e : Nat → Nat → Bool} {s s' : Nat → Bool} {c : Nat} (hc : c < 12) (h : AC e s) (sym : ∀ x y, x < 12 → y < 12 → e x y = e y x) (iso : ∀ y, y < 12 → e c y = false) (hs : ∀ x, x < 12 → s' x = true → x = c ∨ s x = true) : AC e s' := fun U hU hn => by
  by_cases hcU : U c = true
  · exact (AC_lone hc h sym iso hs hU hcU).1
  · refine h U (fun x hx => ⟨(hU x hx).1, (hs x (hU x hx).1 (hU x hx).2).resolve_left fun q => hcU (q ▸ hx)⟩) hn
theorem dU_edge {U : Nat → Bool} {e e' : Nat → Nat → Bool} {p q : Nat} (hp : p < 12) (hq' : q < 12) (he : ∀ x y, x < 12 → y < 12 → e' x y = true → e x y = true ∨ (x = p ∧ y = q) ∨ (x = q ∧ y = p)) : dU U e' ≤ dU U e + 2 * i01 (U p && U q) := by
  cases hq : U p && U q
  · have : dU U e' ≤ dU U e := dU_mono fun x y hx hy u v w => by
      rcases he x y hx hy w with h | ⟨h1, h2⟩ | ⟨h1, h2⟩
      · exact h
      · rw [h1] at u; rw [h2] at v; rw [u, v] at hq; cases hq
      · rw [h1] at u; rw [h2] at v; rw [u, v] at hq; cases hq
    simp [i01]; exact this
  · simp at hq
    have h1 := dU_star (U := U) (e := e) (e' := e') (a := p) (n := fun y => decide (y = q)) hp (fun x y hx hy => by
      cases u : U x
      · simp [i01]; split <;> (try split) <;> simp
      · cases v : U y
        · simp [i01]; split <;> (try split) <;> simp
        · cases w : e' x y
          · simp [i01]; grind
          · rcases he x y hx hy w with h | ⟨h1, h2⟩ | ⟨h1, h2⟩
            · simp [h, i01]; grind
            · simp [h1, h2, i01]; grind
            · simp [h1, h2, i01]; grind)
    have h2 := nU_at1 (U := U) (n := fun y => decide (y = q)) (a := q) hq' (fun y _ h => by simpa using h)
    have h3 := i01_le (U q)
    rw [hq.2] at h2
    have : i01 true = 1 := rfl
    omega
/-- an edge between two: if they hung together by nothing -/
theorem AC_join {e e' : Nat → Nat → Bool} {s : Nat → Bool} {p q : Nat} (hp : p < 12) (hq : q < 12) (h : AC e s) (he : ∀ x y, x < 12 → y < 12 → e' x y = true → e x y = true ∨ (x = p ∧ y = q) ∨ (x = q ∧ y = p)) (hH : ∀ U : Nat → Bool, (∀ x, U x = true → x < 12 ∧ s x = true) → U p = true → U q = true → dU U e ≤ 2 * cU U - 4) : AC e' s := fun U hU hn => by
  have h1 := dU_edge (U := U) (e := e) hp hq he
  cases r : U p && U q
  · rw [r] at h1
    have := h U hU hn
    have : i01 false = 0 := rfl
    omega
  · rw [r] at h1
    simp at r
    have := hH U hU r.1 r.2
    have : i01 true = 1 := rfl
    omega
theorem dU_split {U T : Nat → Bool} {e : Nat → Nat → Bool} (hT : ∀ x y, x < 12 → y < 12 → U x = true → U y = true → e x y = true → T x = T y) : dU U e = dU (fun x => U x && T x) e + dU (fun x => U x && !T x) e := by
  unfold dU
  rw [← js_add]
  apply js_congr; intro x hx
  rw [← js_add]
  apply js_congr; intro y hy
  cases a : U x
  · simp [i01, a]
  · cases b : U y
    · simp [i01, a, b]
    · cases c : e x y
      · simp [i01, c]
      · have := hT x y hx hy a b c
        cases d : T x
        · rw [d] at this; simp [← this, i01, a, b, d]
        · rw [d] at this; simp [← this, i01, a, b, d]
theorem cU_split {U T : Nat → Bool} : cU U = cU (fun x => U x && T x) + cU (fun x => U x && !T x) := by
  unfold cU
  rw [← js_add]
  apply js_congr; intro x hx
  cases a : U x
  · simp [i01, a]
  · cases d : T x <;> simp [i01, a, d]
/-- an edge from one tree to another -/
theorem AC_tie {e e' : Nat → Nat → Bool} {s T : Nat → Bool} {p q : Nat} (hp : p < 12) (hq : q < 12) (h : AC e s) (hT : ∀ x y, x < 12 → y < 12 → e x y = true → T x = T y) (tp : T p = true) (tq : T q = false) (he : ∀ x y, x < 12 → y < 12 → e' x y = true → e x y = true ∨ (x = p ∧ y = q) ∨ (x = q ∧ y = p)) : AC e' s :=
  AC_join hp hq h he fun U hU u v => by
    rw [dU_split (T := T) (fun x y hx hy _ _ w => hT x y hx hy w), cU_split (U := U) (T := T)]
    have h1 := h (fun x => U x && T x) (fun x hx => hU x (by simp at hx; exact hx.1)) ⟨p, by simp [u, tp]⟩
    have h2 := h (fun x => U x && !T x) (fun x hx => hU x (by simp at hx; exact hx.1)) ⟨q, by simp [v, tq]⟩
    omega
theorem AC_down {e e0 e' : Nat → Nat → Bool} {s s' : Nat → Bool} {p a b : Nat} (hp : p < 12) (ha : a < 12) (hb : b < 12) (hab : a ≠ b) (h : AC e s) (sym : ∀ x y, x < 12 → y < 12 → e x y = e y x) (irr : e p p = false) (sp : s p = true) (hs : ∀ x, x < 12 → s' x = true → s x = true ∧ x ≠ p) (pa : e p a = true) (pb : e p b = true) (he : ∀ x y, x < 12 → y < 12 → s' x = true → s' y = true → e' x y = true → e x y = true ∨ (x = a ∧ y = b) ∨ (x = b ∧ y = a)) : AC e' s' := fun U hU hn => by
  have h1 := dU_edge (U := U) (e := e) (e' := fun x y => s' x && s' y && e' x y) ha hb (fun x y hx hy w => by simp at w; exact he x y hx hy w.1.1 w.1.2 w.2)
  have h0 : dU U (fun x y => s' x && s' y && e' x y) = dU U e' := dU_congr fun x y hx hy u v => by simp [(hU x u).2, (hU y v).2]
  have hv : ∀ x, U x = true → x < 12 ∧ s x = true := fun x hx => ⟨(hU x hx).1, (hs x (hU x hx).1 (hU x hx).2).1⟩
  cases r : U a && U b
  · rw [r] at h1
    have := h U hv hn
    have : i01 false = 0 := rfl
    omega
  · rw [r] at h1
    simp at r
    have up : U p = false := by
      cases q : U p
      · rfl
      · exact absurd rfl (hs p hp (hU p q).2).2
    have h2 := dU_add (U := U) (e := e) hp up sym irr
    have h3 := cU_add (U := U) hp up
    have h4 := nU_two (U := U) (n := e p) ha hb hab r.1 pa r.2 pb
    have h5 := h (uA U p) (fun x hx => by
      unfold uA at hx
      simp at hx
      rcases hx with hx | hx
      · exact hv x hx
      · subst hx; exact ⟨hp, sp⟩) ⟨p, by unfold uA; simp⟩
    have : i01 true = 1 := rfl
    omega
theorem AC_absorb {e e' : Nat → Nat → Bool} {s s' : Nat → Bool} {p a b : Nat} (hp : p < 12) (ha : a < 12) (hb : b < 12) (hab : a ≠ b) (h : AC e s) (sym : ∀ x y, x < 12 → y < 12 → e x y = e y x) (irr : ∀ x, x < 12 → e x x = false) (sp : s p = true) (sb : s b = true) (hs : ∀ x, x < 12 → s' x = true → s x = true ∧ x ≠ p ∧ x ≠ b) (pa : e p a = true) (pb : e p b = true) (he : ∀ x y, x < 12 → y < 12 → s' x = true → s' y = true → e' x y = true → e x y = true ∨ (x = a ∧ e b y = true) ∨ (y = a ∧ e b x = true)) : AC e' s' := fun U hU hn => by
  have hv : ∀ x, U x = true → x < 12 ∧ s x = true := fun x hx => ⟨(hU x hx).1, (hs x (hU x hx).1 (hU x hx).2).1⟩
  have up : U p = false := by
    cases q : U p
    · rfl
    · exact absurd rfl (hs p hp (hU p q).2).2.1
  have ub : U b = false := by
    cases q : U b
    · rfl
    · exact absurd rfl (hs b hb (hU b q).2).2.2
  cases r : U a
  · have : dU U e' ≤ dU U e := dU_mono fun x y hx hy u v w => by
      rcases he x y hx hy (hU x u).2 (hU y v).2 w with h | ⟨h1, -⟩ | ⟨h1, -⟩
      · exact h
      · rw [h1, r] at u; cases u
      · rw [h1, r] at v; cases v
    have := h U hv hn
    omega
  · have h1 := dU_star (U := U) (e := e) (e' := e') (a := a) (n := e b) ha (fun x y hx hy => by
      cases u : U x
      · simp [i01]; split <;> (try split) <;> simp
      · cases v : U y
        · simp [i01]; split <;> (try split) <;> simp
        · cases w : e' x y
          · simp [i01]; grind
          · rcases he x y hx hy (hU x u).2 (hU y v).2 w with h | ⟨h1, h2⟩ | ⟨h1, h2⟩
            · simp [h, i01]; grind
            · simp [h1, h2, i01]; grind
            · simp [h1, h2, i01]; grind)
    have h2 := dU_add (U := U) (e := e) hb ub sym (irr b hb)
    have h3 := cU_add (U := U) hb ub
    have bp : b ≠ p := fun q => by rw [q, irr p hp] at pb; cases pb
    have up' : uA U b p = false := by unfold uA; simp [up]; exact fun q => bp q.symm
    have h4 := dU_add (U := uA U b) (e := e) hp up' sym (irr p hp)
    have h5 := cU_add (U := uA U b) hp up'
    have h6 := nU_two (U := uA U b) (n := e p) ha hb hab (by unfold uA; simp [r]) pa (by unfold uA; simp) pb
    have h7 := h (uA (uA U b) p) (fun x hx => by
      unfold uA at hx
      simp at hx
      rcases hx with (hx | hx) | hx
      · exact hv x hx
      · subst hx; exact ⟨hb, sb⟩
      · subst hx; exact ⟨hp, sp⟩) ⟨p, by unfold uA; simp⟩
    omega
/-- in an edge between p and q a new one, c -/
theorem AC_up {e e' : Nat → Nat → Bool} {s s' : Nat → Bool} {p q c : Nat} (hp : p < 12) (hq : q < 12) (hc : c < 12) (hpq : p ≠ q) (cp : c ≠ p) (cq : c ≠ q) (h : AC e s) (sym : ∀ x y, x < 12 → y < 12 → e x y = e y x) (irr : ∀ x, x < 12 → e x x = false) (iso : ∀ y, y < 12 → e c y = false) (epq : e p q = true) (hs : ∀ x, x < 12 → s' x = true → x = c ∨ s x = true) (he : ∀ x y, x < 12 → y < 12 → e' x y = ((e x y && !(decide (x = p ∧ y = q)) && !(decide (x = q ∧ y = p))) || decide (x = c ∧ (y = p ∨ y = q)) || decide (y = c ∧ (x = p ∨ x = q)))) : AC e' s' := fun U hU hn => by
  have sym' : ∀ x y, x < 12 → y < 12 → e' x y = e' y x := fun x y hx hy => by
    rw [he x y hx hy, he y x hy hx, sym x y hx hy]; grind
  have irr' : ∀ x, x < 12 → e' x x = false := fun x hx => by
    rw [he x x hx hx, irr x hx]; grind
  have hsub : ∀ V : Nat → Bool, V c = false → dU V e' ≤ dU V e := fun V vc => dU_mono fun x y hx hy u v w => by
    rw [he x y hx hy] at w
    have xc : x ≠ c := fun z => by rw [z, vc] at u; cases u
    have yc : y ≠ c := fun z => by rw [z, vc] at v; cases v
    simp [xc, yc] at w
    exact w.1.1
  cases r : U c
  · have h1 := hsub U r
    have := h U (fun x hx => ⟨(hU x hx).1, (hs x (hU x hx).1 (hU x hx).2).resolve_left fun z => by rw [z, r] at hx; cases hx⟩) hn
    omega
  · have u0 : uD U c c = false := by unfold uD; simp
    have h1 := dU_add (U := uD U c) (e := e') hc u0 sym' (irr' c hc)
    rw [uA_uD r] at h1
    have h2 := cU_add (U := uD U c) hc u0
    rw [uA_uD r] at h2
    have hv : ∀ x, uD U c x = true → x < 12 ∧ s x = true := fun x hx => by
      unfold uD at hx
      simp at hx
      obtain ⟨a, b⟩ := hU x hx.1
      exact ⟨a, (hs x a b).resolve_left hx.2⟩
    have hn' : nU (uD U c) (e' c) ≤ i01 (uD U c p) + i01 (uD U c q) := by
      have : nU (uD U c) (e' c) ≤ js (fun y => (if y = p then (fun y => i01 (uD U c y)) y else 0) + (if y = q then (fun y => i01 (uD U c y)) y else 0)) 12 := js_le fun y hy => by
        rw [he c y hc hy, iso y hy]
        cases z : uD U c y
        · simp [i01, z]
        · by_cases y1 : y = p
          · subst y1; simp [z, hpq, i01]
          · by_cases y2 : y = q
            · subst y2; simp [z, y1, i01]
            · simp [y1, y2, cp, cq, i01]
      rw [js_add, js_delta, js_delta, if_pos hp, if_pos hq] at this
      exact this
    by_cases z : ∃ x, uD U c x = true
    · have h3 := h (uD U c) hv z
      cases zp : uD U c p
      · have := hsub (uD U c) u0
        have := i01_le (uD U c q)
        have : i01 false = 0 := rfl
        rw [zp] at hn'
        omega
      · cases zq : uD U c q
        · have := hsub (uD U c) u0
          have : i01 false = 0 := rfl
          have : i01 true = 1 := rfl
          rw [zp, zq] at hn'
          omega
        · have h4 := dU_star_eq (U := uD U c) (e := e') (e' := e) (a := p) (n := fun y => decide (y = q)) hp (fun x y hx hy => by
            cases u : uD U c x
            · simp [i01]; grind
            · cases v : uD U c y
              · simp [i01]; grind
              · have xc : x ≠ c := fun z => by rw [z, u0] at u; cases u
                have yc : y ≠ c := fun z => by rw [z, u0] at v; cases v
                rw [he x y hx hy]
                simp [xc, yc, i01]
                by_cases x1 : x = p
                · subst x1
                  by_cases y1 : y = q
                  · subst y1; simp [epq, hpq, hpq.symm]
                  · simp [y1]; grind
                · by_cases y1 : y = p
                  · subst y1
                    by_cases x2 : x = q
                    · subst x2; simp [hpq.symm, sym x y hx hy, epq]
                    · simp [x1, x2]
                  · simp [x1, y1])
          have h5 := nU_one (U := uD U c) (n := fun y => decide (y = q)) hq zq (by simp)
          have : i01 true = 1 := rfl
          rw [zp, zq] at hn'
          omega
    · have z1 : dU (uD U c) e' = 0 := by
        unfold dU
        rw [js_congr (h := fun _ => 0) (fun x _ => ?_), js_0]
        rw [js_congr (h := fun _ => 0) (fun y _ => ?_), js_0]
        cases w : uD U c x
        · simp [i01]
        · exact absurd ⟨x, w⟩ z
      have zp : uD U c p = false := by
        cases w : uD U c p
        · rfl
        · exact absurd ⟨p, w⟩ z
      have zq : uD U c q = false := by
        cases w : uD U c q
        · rfl
        · exact absurd ⟨q, w⟩ z
      have := cU_nn (uD U c)
      have : i01 false = 0 := rfl
      rw [zp, zq] at hn'
      omega
set_option maxHeartbeats 1500000 in
/-- two new ones in a row from p, s moved behind them -/
theorem AC_draw {e e' : Nat → Nat → Bool} {s s' S : Nat → Bool} {p z c : Nat} (hp : p < 12) (hz : z < 12) (hc : c < 12) (zp : z ≠ p) (cp : c ≠ p) (zc : z ≠ c) (h : AC e s) (sp : s p = true) (sz : s z = false) (sc : s c = false) (sym : ∀ x y, x < 12 → y < 12 → e x y = e y x) (irr : ∀ x, x < 12 → e x x = false) (nb : ∀ x y, x < 12 → y < 12 → e x y = true → s x = true ∧ s y = true) (hS : ∀ x, x < 12 → S x = true → e p x = true) (hs : ∀ x, x < 12 → s' x = true → x = z ∨ x = c ∨ s x = true) (he : ∀ x y, x < 12 → y < 12 → e' x y = ((e x y && !(decide (x = p) && S y) && !(decide (y = p) && S x)) || (decide (x = c) && S y) || (decide (y = c) && S x) || decide (x = p ∧ y = z) || decide (x = z ∧ y = p) || decide (x = z ∧ y = c) || decide (x = c ∧ y = z))) : AC e' s' := fun U hU hn => by
  have Sp : S p = false := by
    cases q : S p
    · rfl
    · have := hS p hp q; rw [irr p hp] at this; cases this
  have Sz : S z = false := by
    cases q : S z
    · rfl
    · have := (nb p z hp hz (hS z hz q)).2; rw [sz] at this; cases this
  have Sc : S c = false := by
    cases q : S c
    · rfl
    · have := (nb p c hp hc (hS c hc q)).2; rw [sc] at this; cases this
  have ez : ∀ y, y < 12 → e z y = false := fun y hy => by
    cases q : e z y
    · rfl
    · have := (nb z y hz hy q).1; rw [sz] at this; cases this
  have ec : ∀ y, y < 12 → e c y = false := fun y hy => by
    cases q : e c y
    · rfl
    · have := (nb c y hc hy q).1; rw [sc] at this; cases this
  have sym' : ∀ x y, x < 12 → y < 12 → e' x y = e' y x := fun x y hx hy => by
    rw [he x y hx hy, he y x hy hx, sym x y hx hy]
    simp only [Bool.decide_and]
    have com : ∀ E xp yp xc yc xz yz sx sy : Bool, ((E && !(xp && sy) && !(yp && sx)) || (xc && sy) || (yc && sx) || (xp && yz) || (xz && yp) || (xz && yc) || (xc && yz)) = ((E && !(yp && sx) && !(xp && sy)) || (yc && sx) || (xc && sy) || (yp && xz) || (yz && xp) || (yz && xc) || (yc && xz)) := by decide +kernel
    exact com _ _ _ _ _ _ _ _ _
  have irr' : ∀ x, x < 12 → e' x x = false := fun x hx => by
    rw [he x x hx hx, irr x hx]
    by_cases x1 : x = p
    · subst x1; simp [zp.symm, cp.symm]
    · by_cases x2 : x = c
      · subst x2; simp [Sc, zc.symm]
      · simp [x1, x2]
  -- the old ones of U
  let V := uD (uD U z) c
  have Vz : V z = false := by show uD (uD U z) c z = false; unfold uD; simp
  have Vc : V c = false := by show uD (uD U z) c c = false; unfold uD; simp
  have hV : ∀ x, V x = true → x < 12 ∧ s x = true := fun x hx => by
    have hx' : uD (uD U z) c x = true := hx
    unfold uD at hx'
    simp at hx'
    obtain ⟨a, b⟩ := hU x hx'.1.1
    rcases hs x a b with w | w | w
    · exact absurd w hx'.1.2
    · exact absurd w hx'.2
    · exact ⟨a, w⟩
  have hVsub : dU V e' ≤ dU V e := dU_mono fun x y hx hy u v w => by
    rw [he x y hx hy] at w
    have x1 : x ≠ z := fun q => by rw [q, Vz] at u; cases u
    have x2 : x ≠ c := fun q => by rw [q, Vc] at u; cases u
    have y1 : y ≠ z := fun q => by rw [q, Vz] at v; cases v
    have y2 : y ≠ c := fun q => by rw [q, Vc] at v; cases v
    simp [x1, x2, y1, y2] at w
    exact w.1.1
  have hVe : (¬ ∃ x, V x = true) → dU V e' = 0 ∧ nU V S = 0 ∧ V p = false := fun q => by
    have q' : ∀ x, V x = false := fun x => by
      cases w : V x
      · rfl
      · exact absurd ⟨x, w⟩ q
    refine ⟨?_, nU_0 (U := V) (n := S) (fun y hy w => by rw [q' y] at w; cases w), q' p⟩
    unfold dU
    rw [js_congr (h := fun _ => 0) (fun x _ => ?_), js_0]
    rw [js_congr (h := fun _ => 0) (fun y _ => ?_), js_0]
    simp [q' x, i01]
  have hVn : (∃ x, V x = true) → dU V e ≤ 2 * cU V - 2 := fun q => h V hV q
  have cV := cU_nn V
  have nz : ∀ W : Nat → Bool, W z = false → nU W (e' z) ≤ i01 (W p) + i01 (W c) := fun W wz => by
    have : nU W (e' z) ≤ js (fun y => (if y = p then (fun y => i01 (W y)) y else 0) + (if y = c then (fun y => i01 (W y)) y else 0)) 12 := js_le fun y hy => by
      rw [he z y hz hy, ez y hy]
      cases w : W y
      · simp [i01, w]
      · by_cases y1 : y = p
        · subst y1; simp [w, cp.symm, i01]
        · by_cases y2 : y = c
          · subst y2; simp [w, y1, i01]
          · simp [y1, y2, zp, zc, i01, Sz]
    rw [js_add, js_delta, js_delta, if_pos hp, if_pos hc] at this
    exact this
  have nc : nU V (e' c) = nU V S := js_congr fun y hy => by
    rw [he c y hc hy, ec y hy]
    by_cases y1 : y = z
    · subst y1; simp [Vz, i01]
    · simp [y1, cp, Sc, zc.symm, i01]
  have i1 : i01 true = 1 := rfl
  have i0 : i01 false = 0 := rfl
  -- V with c
  have hc1 := dU_add (U := V) (e := e') hc Vc sym' (irr' c hc)
  have hc2 := cU_add (U := V) hc Vc
  have key : dU (uA V c) e' ≤ 2 * cU V ∧ (V p = true → dU (uA V c) e' ≤ 2 * cU V - 2) := by
    cases vp : V p
    · refine ⟨?_, fun q => by cases q⟩
      have k1 := dU_add (U := V) (e := e) hp vp sym (irr p hp)
      have k2 := cU_add (U := V) hp vp
      have k3 := h (uA V p) (fun x hx => by
        unfold uA at hx
        simp at hx
        rcases hx with hx | hx
        · exact hV x hx
        · subst hx; exact ⟨hp, sp⟩) ⟨p, by unfold uA; simp⟩
      have k4 : nU V S ≤ nU V (e p) := nU_mono fun y hy a b => ⟨a, hS y hy b⟩
      omega
    · have k1 := dU_star_eq (U := V) (e := e') (e' := e) (a := p) (n := S) hp (fun x y hx hy => by
        cases u : V x
        · by_cases a : x = p
          · subst a; rw [vp] at u; cases u
          · simp [i01, a]
        · cases v : V y
          · by_cases a : y = p
            · subst a; rw [vp] at v; cases v
            · simp [i01, a]
          · have x1 : x ≠ z := fun q => by rw [q, Vz] at u; cases u
            have x2 : x ≠ c := fun q => by rw [q, Vc] at u; cases u
            have y1 : y ≠ z := fun q => by rw [q, Vz] at v; cases v
            have y2 : y ≠ c := fun q => by rw [q, Vc] at v; cases v
            rw [he x y hx hy]
            simp [x1, x2, y1, y2, i01]
            by_cases xp : x = p
            · subst xp
              by_cases yp : y = x
              · subst yp; simp [irr y hy, Sp]
              · cases sy : S y
                · simp [yp, sy]
                · simp [yp, sy, hS y hy sy]
            · by_cases yp : y = p
              · subst yp
                cases sx : S x
                · simp [xp, sx]
                · simp [xp, sx, sym x y hx hy, hS x hx sx]
              · simp [xp, yp])
      have k2 := hVn ⟨p, vp⟩
      exact ⟨by omega, fun _ => by omega⟩
  cases rz : U z
  · have uz : uD U z = U := funext fun x => by
      unfold uD
      by_cases q : x = z
      · subst q; simp [rz]
      · simp [q]
    cases rc : U c
    · have uc : V = U := by
        show uD (uD U z) c = U
        rw [uz]
        funext x
        unfold uD
        by_cases q : x = c
        · subst q; simp [rc]
        · simp [q]
      rw [uc] at hVsub hVn
      have := hVn hn
      omega
    · have uc : uA V c = U := by
        show uA (uD (uD U z) c) c = U
        rw [uz, uA_uD rc]
      rw [uc] at key hc2
      have := key.1
      omega
  · have uz : uA (uD U z) z = U := uA_uD rz
    have u0 : uD U z z = false := by unfold uD; simp
    have hz1 := dU_add (U := uD U z) (e := e') hz u0 sym' (irr' z hz)
    have hz2 := cU_add (U := uD U z) hz u0
    have hz3 := nz (uD U z) u0
    rw [uz] at hz1 hz2
    cases rc : uD U z c
    · have uc : V = uD U z := by
        show uD (uD U z) c = uD U z
        funext x
        unfold uD
        by_cases q : x = c
        · subst q
          have : uD U z x = false := rc
          unfold uD at this
          simp [this]
        · simp [q]
      rw [uc] at hVsub hVn hVe cV
      rw [rc] at hz3
      have := i01_le (uD U z p)
      by_cases q : ∃ x, uD U z x = true
      · have := hVn q
        omega
      · obtain ⟨w1, -, w2⟩ := hVe q
        rw [w2] at hz3
        omega
    · have uc : uA V c = uD U z := by
        show uA (uD (uD U z) c) c = uD U z
        rw [uA_uD rc]
      have vp : V p = uD U z p := by
        show uD (uD U z) c p = uD U z p
        unfold uD
        simp [cp.symm]
      rw [uc] at key hc2
      rw [vp] at key
      rw [rc] at hz3
      cases q : uD U z p
      · rw [q] at hz3
        have := key.1
        omega
      · rw [q] at hz3
        have := key.2 q
        omega
end
section
/-! What always holds of a forest is kept by moves and by hand -/
def jf_e (f : jF) : Nat → Nat → Bool := fun x y => bt (f.2.1 x) y
def jf_s (f : jF) : Nat → Bool := fun x => bt f.2.2 x
def jf_W (f : jF) : Prop := jf_B f ∧ AC (jf_e f) (jf_s f)
section
variable {f g : jF}
theorem jp_wt_iff {w : Int32} : jp_wt w = true ↔ -30 ≤ w.toInt ∧ w.toInt ≤ 30 := by
  unfold jp_wt
  simp only [Int32.lt_iff_toInt_lt, show (-30 : Int32).toInt = -30 from rfl, show (30 : Int32).toInt = 30 from rfl]
  split
  · simp; omega
  · split
    · simp; omega
    · simp; omega
theorem jp_wt_0 : jp_wt 0 = true := by decide
theorem jp_wt_neg {w : Int32} (h : jp_wt w = true) : jp_wt (-w) = true := by
  rw [jp_wt_iff] at *
  rw [Int32.toInt_neg, Int.bmod_eq_of_le (by omega) (by omega)]
  omega
theorem jp_wt_pm {v : Int32} (h : v = 1 ∨ v = -1) : jp_wt v = true := by rcases h with rfl | rfl <;> decide
theorem jf_B.esym (B : jf_B f) : ∀ x y, x < 12 → y < 12 → jf_e f x y = jf_e f y x := fun _ _ hx hy => B.sym hx hy
theorem jf_B.eirr (B : jf_B f) : ∀ x, x < 12 → jf_e f x x = false := fun _ hx => B.irr hx
theorem S12_upd {n : Nat → Int32} {p : Nat} {x : Int32} (h : ∀ k, k < 12 → S12 (n k)) (hx : S12 x) : ∀ k, k < 12 → S12 (upd n p x k) := fun k hk => by
  unfold upd; split
  · exact hx
  · exact h k hk
/-- out of bits -/
theorem jf_B_of (B : jf_B f) (hs : S12 g.2.2) (hn : ∀ k, k < 12 → S12 (g.2.1 k)) (hsym : ∀ x y, x < 12 → y < 12 → bt (g.2.1 x) y = bt (g.2.1 y) x) (hirr : ∀ x, x < 12 → bt (g.2.1 x) x = false) (habs : ∀ x, x < 12 → bt g.2.2 x = false → g.1 x = 0 ∧ ∀ y, y < 12 → bt (g.2.1 x) y = false) (hw : ∀ x, x < 12 → jp_wt (g.1 x) = true) : jf_B g :=
  ⟨hs, hn, hsym, hirr, fun x hx h => ⟨(habs x hx h).1, S12_ext (hn x hx) S12_0 fun y hy => by rw [(habs x hx h).2 y hy, bt_0]⟩, hw⟩
theorem jf_B_rem (B : jf_B f) {p : Nat} (hp : p < 12) : jf_B (jf_rem f p) := by
  refine jf_B_of B (S12_and B.s) (S12_upd (fun k hk => S12_and (B.n k hk)) S12_0) (fun x y hx hy => ?_) (fun x hx => ?_) (fun x hx h => ⟨?_, fun y hy => ?_⟩) (fun x hx => ?_)
  · rw [jb_rem _ hp (by omega), jb_rem _ hp (by omega), B.sym hx hy, Bool.and_assoc, Bool.and_comm (!decide (x = p)), Bool.and_assoc]
  · rw [jb_rem _ hp (by omega), B.irr hx]; rfl
  · show upd f.1 p 0 x = 0
    unfold upd
    split
    · rfl
    · rename_i q
      have : bt (f.2.2 &&& (jk_bit p ^^^ (-1))) x = false := h
      rw [bt_clr _ hp hx] at this
      simp [q] at this
      exact (B.abs hx this).1
  · rw [jb_rem _ hp (by omega)]
    have : bt (f.2.2 &&& (jk_bit p ^^^ (-1))) x = false := h
    rw [bt_clr _ hp hx] at this
    by_cases q : x = p
    · simp [q]
    · simp [q] at this
      rw [(B.abs hx this).2, bt_0]; rfl
  · show jp_wt (upd f.1 p 0 x) = true
    unfold upd; split
    · exact jp_wt_0
    · exact B.wt hx
theorem jf_B_setw (B : jf_B f) {p : Nat} (hp : p < 12) (hs : bt f.2.2 p = true) {x : Int32} (hx : jp_wt x = true) : jf_B (jf_setw f p x) := by
  refine ⟨B.s, B.n, fun k j hk hj => B.sym hk hj, fun k hk => B.irr hk, fun k hk h => ⟨?_, (B.abs hk h).2⟩, fun k hk => ?_⟩
  · show upd f.1 p x k = 0
    unfold upd; split
    · rename_i q; rw [q] at h; have h : bt f.2.2 p = false := h; rw [hs] at h; cases h
    · exact (B.abs hk h).1
  · show jp_wt (upd f.1 p x k) = true
    unfold upd; split
    · exact hx
    · exact B.wt hk
theorem jf_B_grow (B : jf_B f) {c : Nat} (hc : lo (f.2.2 ^^^ (-1)) = some c) {x : Int32} (hx : jp_wt x = true) : jf_B (jf_grow f c x) := by
  obtain ⟨c1, c2, -⟩ := lo_not hc
  refine ⟨S12_or B.s (S12_bit c1), B.n, fun k j hk hj => B.sym hk hj, fun k hk => B.irr hk, fun k hk h => ?_, fun k hk => ?_⟩
  · have h : bt (f.2.2 ||| jk_bit c) k = false := h
    rw [bt_set _ c1 hk] at h
    simp at h
    refine ⟨?_, (B.abs hk h.1).2⟩
    show upd f.1 c x k = 0
    rw [upd_ne _ _ h.2]; exact (B.abs hk h.1).1
  · show jp_wt (upd f.1 c x k) = true
    unfold upd; split
    · exact hx
    · exact B.wt hk
theorem jf_B_join (B : jf_B f) {p q : Nat} (hp : p < 12) (hq : q < 12) (hpq : p ≠ q) (sp : bt f.2.2 p = true) (sq : bt f.2.2 q = true) : jf_B (jf_join f p q) := by
  refine jf_B_of B B.s (S12_upd (S12_upd B.n (S12_or (B.n p hp) (S12_bit hq))) (S12_or (S12_upd B.n (S12_or (B.n p hp) (S12_bit hq)) q hq) (S12_bit hp))) (fun x y hx hy => ?_) (fun x hx => ?_) (fun x hx h => ⟨(B.abs hx h).1, fun y hy => ?_⟩) (fun x hx => B.wt hx)
  · rw [jb_join _ hp hq (by omega), jb_join _ hp hq (by omega), B.sym hx hy]; grind
  · rw [jb_join _ hp hq (by omega), B.irr hx]; grind
  · have h : bt f.2.2 x = false := h
    rw [jb_join _ hp hq (by omega), (B.abs hx h).2, bt_0]; grind
theorem jf_B_part (B : jf_B f) {p q : Nat} (hp : p < 12) (hq : q < 12) : jf_B (jf_part f p q) := by
  refine jf_B_of B B.s (S12_upd (S12_upd B.n (S12_and (B.n p hp))) (S12_and (S12_upd B.n (S12_and (B.n p hp)) q hq))) (fun x y hx hy => ?_) (fun x hx => ?_) (fun x hx h => ⟨(B.abs hx h).1, fun y hy => ?_⟩) (fun x hx => B.wt hx)
  · rw [jb_part _ hp hq (by omega), jb_part _ hp hq (by omega), B.sym hx hy]; grind
  · rw [jb_part _ hp hq (by omega), B.irr hx]; grind
  · have h : bt f.2.2 x = false := h
    rw [jb_part _ hp hq (by omega), (B.abs hx h).2, bt_0]; grind
theorem jf_B_joins (B : jf_B f) {p : Nat} (hp : p < 12) (sp : bt f.2.2 p = true) {s : Int32} (hs : ∀ k, k < 12 → bt s k = true → k ≠ p ∧ bt f.2.2 k = true) : ∀ n, n ≤ 12 → jf_B (jf_joins f p s n)
  | 0, _ => B
  | n + 1, h => by
    unfold jf_joins
    have i := jf_B_joins B hp sp hs n (by omega)
    split
    · rename_i hb
      have w := (jw_joins f p s n).2
      obtain ⟨k1, k2⟩ := hs n (by omega) hb
      exact jf_B_join i hp (by omega) (fun q => k1 q.symm) (by rw [w]; exact sp) (by rw [w]; exact k2)
    · exact i
theorem jf_B_parts (B : jf_B f) {p : Nat} (hp : p < 12) (s : Int32) : ∀ n, n ≤ 12 → jf_B (jf_parts f p s n)
  | 0, _ => B
  | n + 1, h => by
    unfold jf_parts
    have i := jf_B_parts B hp s n (by omega)
    split
    · exact jf_B_part i hp (by omega)
    · exact i
theorem jf_B_mirror (B : jf_B f) : jf_B (jf_mirror f) :=
  ⟨B.s, B.n, fun k j hk hj => B.sym hk hj, fun k hk => B.irr hk, fun k hk h => ⟨by show -f.1 k = 0; rw [(B.abs hk h).1]; rfl, (B.abs hk h).2⟩, fun k hk => jp_wt_neg (B.wt hk)⟩
theorem jf_W_rem (W : jf_W f) {p : Nat} (hp : p < 12) : jf_W (jf_rem f p) := by
  refine ⟨jf_B_rem W.1 hp, AC_mono W.2 (fun x hx h => ?_) (fun x y hx hy _ _ h => ?_)⟩
  · have h : bt (f.2.2 &&& (jk_bit p ^^^ (-1))) x = true := h
    rw [bt_clr _ hp hx] at h
    simp at h; exact h.1
  · have h : bt ((jf_rem f p).2.1 x) y = true := h
    rw [jb_rem _ hp (by omega)] at h
    simp at h; exact h.1.1
theorem jf_W_setw (W : jf_W f) {p : Nat} (hp : p < 12) (hs : bt f.2.2 p = true) {x : Int32} (hx : jp_wt x = true) : jf_W (jf_setw f p x) := ⟨jf_B_setw W.1 hp hs hx, W.2⟩
theorem jf_W_part (W : jf_W f) {p q : Nat} (hp : p < 12) (hq : q < 12) : jf_W (jf_part f p q) := by
  refine ⟨jf_B_part W.1 hp hq, AC_mono W.2 (fun x hx h => h) (fun x y hx hy _ _ h => ?_)⟩
  have h : bt ((jf_part f p q).2.1 x) y = true := h
  rw [jb_part _ hp hq (by omega)] at h
  simp at h; exact h.1.1
theorem jf_B.iso (B : jf_B f) {c : Nat} (hc : c < 12) (h : bt f.2.2 c = false) : ∀ y, y < 12 → jf_e f c y = false := fun y hy => by
  show bt (f.2.1 c) y = false
  rw [(B.abs hc h).2, bt_0]
theorem jf_W_grow (W : jf_W f) {c : Nat} (hc : lo (f.2.2 ^^^ (-1)) = some c) {x : Int32} (hx : jp_wt x = true) : jf_W (jf_grow f c x) := by
  obtain ⟨c1, c2, -⟩ := lo_not hc
  refine ⟨jf_B_grow W.1 hc hx, AC_grow (s := jf_s f) c1 W.2 W.1.esym (W.1.iso c1 c2) (fun x hx h => ?_)⟩
  have h : bt (f.2.2 ||| jk_bit c) x = true := h
  rw [bt_set _ c1 hx] at h
  simp at h; exact h.symm
/-- a new one, hung on another one -/
theorem jf_W_hang (W : jf_W f) {c p : Nat} (hc : lo (f.2.2 ^^^ (-1)) = some c) {x : Int32} (hx : jp_wt x = true) (hp : p < 12) (sp : bt f.2.2 p = true) : jf_W (jf_join (jf_grow f c x) c p) := by
  obtain ⟨c1, c2, -⟩ := lo_not hc
  have cp : c ≠ p := fun q => by rw [q, sp] at c2; cases c2
  have hs : ∀ x, x < 12 → jf_s (jf_grow f c 0) x = true → x = c ∨ jf_s f x = true := fun x hx h => by
    have h : bt (f.2.2 ||| jk_bit c) x = true := h
    rw [bt_set _ c1 hx] at h
    simp at h; exact h.symm
  refine ⟨jf_B_join (jf_B_grow W.1 hc hx) c1 hp cp (show bt (f.2.2 ||| jk_bit c) c = true by rw [bt_set _ c1 c1]; simp) (show bt (f.2.2 ||| jk_bit c) p = true by rw [bt_set _ c1 hp, sp]; rfl), ?_⟩
  refine AC_join (e := jf_e f) (p := c) (q := p) c1 hp (jf_W_grow W hc hx).2 (fun x y hx hy h => ?_) (fun U hU u v => (AC_lone c1 W.2 W.1.esym (W.1.iso c1 c2) hs hU u).2 ⟨p, cp.symm, v⟩)
  have h : bt ((jf_join (jf_grow f c _) c p).2.1 x) y = true := h
  rw [jb_join _ c1 hp (by omega)] at h
  simp at h
  rcases h with (h | h) | h
  · exact Or.inl h
  · exact Or.inr (Or.inl h)
  · exact Or.inr (Or.inr h)
/-- an edge from one tree to another one -/
theorem jf_W_tie (W : jf_W f) {p q : Nat} (hp : p < 12) (hq : q < 12) (sp : bt f.2.2 p = true) (sq : bt f.2.2 q = true) {T : Int32} (hT : ∀ x y, x < 12 → y < 12 → bt (f.2.1 x) y = true → bt T x = bt T y) (tp : bt T p = true) (tq : bt T q = false) : jf_W (jf_join f p q) := by
  refine ⟨jf_B_join W.1 hp hq (fun w => by rw [w, tq] at tp; cases tp) sp sq, AC_tie (e := jf_e f) (s := jf_s f) (T := bt T) (p := p) (q := q) hp hq W.2 hT tp tq (fun x y hx hy h => ?_)⟩
  have h : bt ((jf_join f p q).2.1 x) y = true := h
  rw [jb_join _ hp hq (by omega)] at h
  simp at h
  rcases h with (h | h) | h
  · exact Or.inl h
  · exact Or.inr (Or.inl h)
  · exact Or.inr (Or.inr h)
theorem jf_W_mirror (W : jf_W f) : jf_W (jf_mirror f) := ⟨jf_B_mirror W.1, W.2⟩
theorem jw_sub (x e : Int32) : x + -e = x - e := (Int32.sub_eq_add_neg x e).symm
theorem jf_W_down (W : jf_W f) {p : Nat} (hp : p < 12) (sp : bt f.2.2 p = true) (h2 : bc (f.2.1 p) ≤ 2) (hl : jd_light f (f.2.1 p) (f.1 p) = true) : jf_W (jf_down f p) := by
  have B := W.1
  rw [jd_light_all (B.n p hp) h2, jd_all_iff] at hl
  have hl : ∀ j, j < 12 → bt (f.2.1 p) j = true → jp_wt (f.1 j - f.1 p) = true := fun j hj => hl j (by omega) (by omega)
  unfold jf_down
  cases e1 : lo (f.2.1 p) with
  | none => exact jf_W_rem W hp
  | some a =>
    cases e2 : hi (f.2.1 p) with
    | none => exact jf_W_rem W hp
    | some b =>
      obtain ⟨a1, a2, -⟩ := lo_some.mp e1
      obtain ⟨b1, b2, -⟩ := hi_some.mp e2
      obtain ⟨-, na, nea, -⟩ := B.nb hp a2
      obtain ⟨-, nb, neb, -⟩ := B.nb hp b2
      have sa : bt (jf_rem f p).2.2 a = true := by show bt (f.2.2 &&& _) a = true; rw [bt_clr _ hp a1, na]; simp [nea]
      have sb : bt (jf_rem f p).2.2 b = true := by show bt (f.2.2 &&& _) b = true; rw [bt_clr _ hp b1, nb]; simp [neb]
      have wa : jp_wt ((jf_rem f p).1 a + -f.1 p) = true := by
        show jp_wt (upd f.1 p 0 a + -f.1 p) = true
        rw [upd_ne _ _ nea, jw_sub]; exact hl a a1 a2
      simp only []
      by_cases hab : a = b
      · rw [if_pos hab]
        exact jf_W_setw (jf_W_rem W hp) a1 sa wa
      · rw [if_neg hab]
        have wb : jp_wt ((jf_addw (jf_rem f p) a (-f.1 p)).1 b + -f.1 p) = true := by
          show jp_wt (upd (upd f.1 p 0) a _ b + -f.1 p) = true
          rw [upd_ne _ _ (fun q => hab q.symm), upd_ne _ _ neb, jw_sub]; exact hl b b1 b2
        refine ⟨jf_B_join (jf_B_setw (jf_B_setw (jf_B_rem B hp) a1 sa wa) b1 sb wb) a1 b1 hab sa sb, ?_⟩
        refine AC_down (e0 := jf_e f) (s := jf_s f) (p := p) (a := a) (b := b) hp a1 b1 hab W.2 B.esym (B.irr hp) sp (fun x hx h => ?_) a2 b2 (fun x y hx hy _ _ h => ?_)
        · have h : bt (f.2.2 &&& (jk_bit p ^^^ (-1))) x = true := h
          rw [bt_clr _ hp hx] at h
          show bt f.2.2 x = true ∧ x ≠ p
          simpa using h
        · have h : bt ((jf_join (jf_rem f p) a b).2.1 x) y = true := h
          rw [jb_join _ a1 b1 (by omega), jb_rem _ hp (by omega)] at h
          simp at h
          rcases h with (h | h) | h
          · exact Or.inl h.1.1
          · exact Or.inr (Or.inl h)
          · exact Or.inr (Or.inr h)
theorem jf_W_absorb (W : jf_W f) {p : Nat} (hp : p < 12) (sp : bt f.2.2 p = true) (h2 : bc (f.2.1 p) = 2) (hl : jp_wt (jF_w f (jk_on (lo (f.2.1 p))) + jF_w f (jk_on (hi (f.2.1 p)))) = true) : jf_W (jf_absorb f p) := by
  have B := W.1
  obtain ⟨a, e1⟩ := bc_lo (x := f.2.1 p) (by omega)
  obtain ⟨b, e2⟩ := bc_hi (x := f.2.1 p) (by omega)
  have hab : a ≠ b := fun q => (jk_other (B.n p hp) h2).2 (by rw [e1, e2, q])
  obtain ⟨a1, a2, -⟩ := lo_some.mp e1
  obtain ⟨b1, b2, -⟩ := hi_some.mp e2
  obtain ⟨-, na, nea, -⟩ := B.nb hp a2
  obtain ⟨-, nb, neb, -⟩ := B.nb hp b2
  rw [e1, e2] at hl
  have hl : jp_wt (jF_w f (Int32.ofNat a) + jF_w f (Int32.ofNat b)) = true := hl
  rw [jF_w_of a1, jF_w_of b1] at hl
  unfold jf_absorb
  rw [e1, e2]
  simp only []
  have sa : bt (jf_rem f p).2.2 a = true := by show bt (f.2.2 &&& _) a = true; rw [bt_clr _ hp a1, na]; simp [nea]
  have wa : jp_wt ((jf_rem f p).1 a + (jf_rem f p).1 b) = true := by
    show jp_wt (upd f.1 p 0 a + upd f.1 p 0 b) = true
    rw [upd_ne _ _ nea, upd_ne _ _ neb]; exact hl
  have B1 := jf_B_rem (jf_B_setw (jf_B_rem B hp) a1 sa wa) b1
  have s1 : ∀ x, x < 12 → bt ((f.2.2 &&& (jk_bit p ^^^ (-1))) &&& (jk_bit b ^^^ (-1))) x = true → bt f.2.2 x = true ∧ x ≠ p ∧ x ≠ b := fun x hx h => by
    rw [bt_clr _ b1 hx, bt_clr _ hp hx] at h
    simp at h; exact ⟨h.1.1, h.1.2, h.2⟩
  refine ⟨jf_B_joins B1 a1 (show bt ((f.2.2 &&& (jk_bit p ^^^ (-1))) &&& (jk_bit b ^^^ (-1))) a = true by rw [bt_clr _ b1 a1, bt_clr _ hp a1, na]; simp [nea, hab]) (fun k hk h => ?_) 12 (Nat.le_refl _), ?_⟩
  · rw [jb_rem _ hp (by omega)] at h
    simp at h
    obtain ⟨-, nk, nek, -⟩ := B.nb b1 h.1.1
    refine ⟨fun q => ?_, show bt ((f.2.2 &&& (jk_bit p ^^^ (-1))) &&& (jk_bit b ^^^ (-1))) k = true by rw [bt_clr _ b1 hk, bt_clr _ hp hk, nk]; simp [h.2, nek]⟩
    -- three in a ring there are not
    subst q
    have h3 := W.2 (fun x => decide (x = p) || decide (x = k) || decide (x = b)) (fun x hx => by
      simp at hx
      rcases hx with (rfl | rfl) | rfl
      · exact ⟨hp, sp⟩
      · exact ⟨a1, na⟩
      · exact ⟨b1, nb⟩) ⟨p, by simp⟩
    have u1 := dU_add (U := fun _ => false) (e := jf_e f) hp rfl B.esym (B.irr hp)
    have u2 := cU_add (U := fun _ => false) hp rfl
    have u3 := dU_add (U := uA (fun _ => false) p) (e := jf_e f) hk (by unfold uA; simp; exact nea) B.esym (B.irr hk)
    have u4 := cU_add (U := uA (fun _ => false) p) hk (by unfold uA; simp; exact nea)
    have u5 := dU_add (U := uA (uA (fun _ => false) p) k) (e := jf_e f) b1 (by unfold uA; simp; exact ⟨neb, fun q => hab q.symm⟩) B.esym (B.irr b1)
    have u6 := cU_add (U := uA (uA (fun _ => false) p) k) b1 (by unfold uA; simp; exact ⟨neb, fun q => hab q.symm⟩)
    have u7 : uA (uA (uA (fun _ => false) p) k) b = fun x => decide (x = p) || decide (x = k) || decide (x = b) := funext fun x => by unfold uA; simp
    rw [u7] at u5 u6
    have v1 := nU_one (U := uA (fun _ => false) p) (n := jf_e f k) hp (by unfold uA; simp) (by show bt (f.2.1 k) p = true; rw [B.sym hk hp]; exact a2)
    have v2 := nU_two (U := uA (uA (fun _ => false) p) k) (n := jf_e f b) hp hk (fun q => nea q.symm) (by unfold uA; simp) (by show bt (f.2.1 b) p = true; rw [B.sym b1 hp]; exact b2) (by unfold uA; simp) h.1.1
    have z1 : cU (fun _ => false) = 0 := js_0 12
    have z2 := dU_nn (fun _ => false) (jf_e f)
    have z3 := nU_nn (fun _ => false) (jf_e f p)
    omega
  · refine AC_absorb (e := jf_e f) (s := jf_s f) (p := p) (a := a) (b := b) hp a1 b1 hab W.2 B.esym B.eirr sp nb (fun x hx h => ?_) a2 b2 (fun x y hx hy _ _ h => ?_)
    · unfold jf_s at h
      rw [(jw_joins _ _ _ 12).2] at h
      exact s1 x hx h
    · unfold jf_e at h ⊢
      rw [jb_joins _ _ a1 (by omega) 12 (Nat.le_refl _), jb_rem _ b1 (by omega), jb_rem _ hp (by omega), jb_rem _ hp (by omega)] at h
      simp only [Bool.or_eq_true, Bool.and_eq_true, decide_eq_true_eq] at h
      rcases h with (h | h) | h
      · left
        have h : ((bt ((jf_addw (jf_rem f p) a ((jf_rem f p).1 b)).2.1 x) y = true ∧ _) ∧ _) := h
        have h := h.1.1
        have h : bt ((jf_rem f p).2.1 x) y = true := h
        rw [jb_rem _ hp (by omega)] at h
        simp at h; exact h.1.1
      · exact Or.inr (Or.inl ⟨h.1.1, h.2.1.1⟩)
      · exact Or.inr (Or.inr ⟨h.1.1, h.2.1.1⟩)
theorem jf_W_split (W : jf_W f) {p : Nat} (hp : p < 12) : jf_W (jf_split f p) := by
  unfold jf_split
  cases e1 : lo (f.2.1 p) with
  | none => exact W
  | some a => exact jf_W_rem (jf_W_rem W (lo_some.mp e1).1) hp
theorem jf_W_bud (W : jf_W f) {p c : Nat} (hp : p < 12) (sp : bt f.2.2 p = true) {v : Int32} (hv : jp_wt v = true) (hc : lo (f.2.2 ^^^ (-1)) = some c) (hw : jp_wt (f.1 p + v) = true) : jf_W (jf_bud f p v) := by
  obtain ⟨c1, c2, -⟩ := lo_not hc
  have cp : c ≠ p := fun q => by rw [q, sp] at c2; cases c2
  unfold jf_bud
  rw [jf_free_of hc]
  have h1 := jf_W_hang W hc hv hp sp
  have sp' : bt (f.2.2 ||| jk_bit c) p = true := by rw [bt_set _ c1 hp, sp]; rfl
  have h2 := jf_W_setw h1 hp (x := f.1 p + v) sp' hw
  have : jf_join (jf_addw (jf_grow f c v) p v) c p = jf_setw (jf_join (jf_grow f c v) c p) p (f.1 p + v) := by
    show (upd (upd f.1 c v) p (upd f.1 c v p + v), _, _) = (upd (upd f.1 c v) p (f.1 p + v), _, _)
    rw [upd_ne (k := c) (j := p) f.1 v cp.symm]
    rfl
  rw [this]
  exact h2
theorem jf_W_up (W : jf_W f) {p q : Nat} (hp : p < 12) (hq : q < 12) (sp : bt f.2.2 p = true) (sq : bt f.2.2 q = true) (e : bt (f.2.1 p) q = true) {v : Int32} (hv : v = 1 ∨ v = -1) (h12 : bc f.2.2 < 12) (w1 : jp_wt (f.1 p + v) = true) (w2 : jp_wt (f.1 q + v) = true) : jf_W (jf_up f p q v) := by
  have B := W.1
  obtain ⟨c, hc⟩ := bc_free h12
  obtain ⟨c1, c2, -⟩ := lo_not hc
  have cp : c ≠ p := fun w => by rw [w, sp] at c2; cases c2
  have cq : c ≠ q := fun w => by rw [w, sq] at c2; cases c2
  have pq : p ≠ q := fun w => by rw [w, B.irr hq] at e; cases e
  have W1 := jf_W_setw (jf_W_part W hp hq) hq (x := f.1 q + v) sq w2
  have W2 := jf_W_bud (f := jf_addw (jf_part f p q) q v) (p := p) (c := c) W1 hp sp (jp_wt_pm hv) hc (by
    show jp_wt (upd f.1 q (f.1 q + v) p + v) = true
    rw [upd_ne _ _ pq]; exact w1)
  unfold jf_up
  rw [jf_free_of hc]
  have e2 : jf_free (jf_addw (jf_part f p q) q v) = c := jf_free_of (f := jf_addw (jf_part f p q) q v) hc
  have s2 : (jf_bud (jf_addw (jf_part f p q) q v) p v).2.2 = f.2.2 ||| jk_bit c := by unfold jf_bud; rw [e2]; rfl
  refine ⟨jf_B_join W2.1 c1 hq cq (by rw [s2, bt_set _ c1 c1]; simp) (by rw [s2, bt_set _ c1 hq, sq]; rfl), ?_⟩
  refine AC_up (e := jf_e f) (s := jf_s f) (p := p) (q := q) (c := c) hp hq c1 pq cp cq W.2 B.esym B.eirr (B.iso c1 c2) e (fun x hx h => ?_) (fun x y hx hy => ?_)
  · have h : bt (jf_bud (jf_addw (jf_part f p q) q v) p v).2.2 x = true := h
    rw [s2, bt_set _ c1 hx] at h
    simp at h; exact h.symm
  · show bt ((jf_join (jf_bud (jf_addw (jf_part f p q) q v) p v) c q).2.1 x) y = _
    rw [jb_join _ c1 hq (by omega)]
    unfold jf_bud
    rw [e2, jb_join _ c1 hp (by omega)]
    have : bt ((jf_addw (jf_grow (jf_addw (jf_part f p q) q v) c v) p v).2.1 x) y = bt ((jf_part f p q).2.1 x) y := rfl
    rw [this, jb_part _ hp hq (by omega)]
    show _ = ((bt (f.2.1 x) y && _ && _) || _ || _)
    simp only [Bool.decide_and, Bool.decide_or]
    have com : ∀ E xp xq xc yp yq yc : Bool, ((((E && !(xp && yq) && !(xq && yp)) || (xc && yp)) || (xp && yc)) || (xc && yq) || (xq && yc)) = ((E && !(xp && yq) && !(xq && yp)) || (xc && (yp || yq)) || (yc && (xp || xq))) := by decide +kernel
    exact com _ _ _ _ _ _ _
theorem jf_W_draw (W : jf_W f) {p : Nat} (hp : p < 12) (sp : bt f.2.2 p = true) {v s : Int32} (hv : jp_wt v = true) (hs : s &&& (f.2.1 p ^^^ (-1)) = 0) (h11 : bc f.2.2 < 11) (hw : jp_wt (f.1 p - v) = true) : jf_W (jf_draw f p v s) := by
  have B := W.1
  obtain ⟨z, hz⟩ := bc_free (x := f.2.2) (by omega)
  obtain ⟨c, hc⟩ := bc_free (x := f.2.2 ||| jk_bit z) (by have := bc_set (x := f.2.2) (lo_not hz).1; omega)
  obtain ⟨z1, z2, -⟩ := lo_not hz
  obtain ⟨c1, c2, -⟩ := lo_not hc
  rw [bt_set _ z1 c1] at c2
  have c3 : bt f.2.2 c = false := by simpa using (Bool.or_eq_false_iff.mp c2).1
  have cz : c ≠ z := by simpa using (Bool.or_eq_false_iff.mp c2).2
  have zp : z ≠ p := fun w => by rw [w, sp] at z2; cases z2
  have cp : c ≠ p := fun w => by rw [w, sp] at c3; cases c3
  have f1 : jf_free f = z := jf_free_of hz
  have f2 : jf_free (jf_grow f z 0) = c := jf_free_of (f := jf_grow f z 0) hc
  have sS : ∀ k, k < 32 → bt s k = true → bt (f.2.1 p) k = true := fun k hk h => jk_and_sub hs hk h
  unfold jf_draw
  rw [f1, f2]
  have B1 := jf_B_grow (jf_B_grow B hz jp_wt_0) hc hv
  have s0 : ∀ x, x < 12 → bt ((f.2.2 ||| jk_bit z) ||| jk_bit c) x = (bt f.2.2 x || decide (x = z) || decide (x = c)) := fun x hx => by rw [bt_set _ c1 hx, bt_set _ z1 hx]
  have B2 : jf_B (jf_addw (jf_grow (jf_grow f z 0) c v) p (-v)) := jf_B_setw B1 hp (x := (jf_grow (jf_grow f z 0) c v).1 p + -v) (show bt ((f.2.2 ||| jk_bit z) ||| jk_bit c) p = true by rw [s0 p hp, sp]; rfl) (by
    show jp_wt (upd (upd f.1 z 0) c v p + -v) = true
    rw [upd_ne _ _ cp.symm, upd_ne _ _ zp.symm, jw_sub]; exact hw)
  have B3 := jf_B_parts B2 hp s 12 (Nat.le_refl _)
  have e3 : (jf_parts (jf_addw (jf_grow (jf_grow f z 0) c v) p (-v)) p s 12).2.2 = (f.2.2 ||| jk_bit z) ||| jk_bit c := (jw_parts _ _ _ 12).2
  have B4 := jf_B_joins B3 c1 (by rw [show (jf_parts _ p s 12).2.2 = _ from e3, s0 c c1]; simp) (s := s) (fun k hk h => by
    obtain ⟨-, n1, n2, -⟩ := B.nb hp (sS k (by omega) h)
    refine ⟨(fun q => by rw [q, c3] at n1; cases n1), ?_⟩
    rw [show (jf_parts _ p s 12).2.2 = _ from e3, s0 k hk, n1]; rfl) 12 (Nat.le_refl _)
  have e4 : (jf_joins (jf_parts (jf_addw (jf_grow (jf_grow f z 0) c v) p (-v)) p s 12) c s 12).2.2 = (f.2.2 ||| jk_bit z) ||| jk_bit c := (jw_joins _ _ _ 12).2.trans e3
  have B5 := jf_B_join B4 hp z1 zp.symm (by rw [show (jf_joins _ c s 12).2.2 = _ from e4, s0 p hp, sp]; rfl) (by rw [show (jf_joins _ c s 12).2.2 = _ from e4, s0 z z1]; simp)
  have B6 := jf_B_join B5 z1 c1 cz.symm (by show bt (jf_joins _ c s 12).2.2 z = true; rw [show (jf_joins _ c s 12).2.2 = _ from e4, s0 z z1]; simp) (by show bt (jf_joins _ c s 12).2.2 c = true; rw [show (jf_joins _ c s 12).2.2 = _ from e4, s0 c c1]; simp)
  refine ⟨B6, ?_⟩
  refine AC_draw (e := jf_e f) (s := jf_s f) (S := bt s) (p := p) (z := z) (c := c) hp z1 c1 zp cp cz.symm W.2 sp z2 c3 B.esym B.eirr (fun x y hx hy h => ?_) (fun x hx h => sS x (by omega) h) (fun x hx h => ?_) (fun x y hx hy => ?_)
  · obtain ⟨-, a1, -, a2⟩ := B.nb hx h; exact ⟨a2, a1⟩
  · have h : bt (jf_joins _ c s 12).2.2 x = true := h
    rw [show (jf_joins _ c s 12).2.2 = _ from e4, s0 x hx] at h
    simp at h
    rcases h with (h | h) | h
    · exact Or.inr (Or.inr h)
    · exact Or.inl h
    · exact Or.inr (Or.inl h)
  · unfold jf_e
    rw [jb_join _ z1 c1 (by omega), jb_join _ hp z1 (by omega), jb_joins _ s c1 (by omega) 12 (Nat.le_refl _), jb_parts _ s hp (by omega) 12 (Nat.le_refl _)]
    have : bt ((jf_addw (jf_grow (jf_grow f z 0) c v) p (-v)).2.1 x) y = bt (f.2.1 x) y := rfl
    rw [this]
    simp only [Bool.decide_and, decide_eq_true hx, decide_eq_true hy, Bool.and_true]
theorem jf_ref_not : ¬ ((4 : Int32) = 0) ∧ ¬ ((5 : Int32) = 0) ∧ ¬ ((3 : Int32) = 0) ∧ ¬ ((1 : Int32) = 0) := by decide
/-- moves keep it -/
theorem jf_W_act (W : jf_W f) {m : jM} (e : jf_ref f false m = 0) : jf_W (jf_act f m) := by
  unfold jf_act
  rcases jf_ref_k e with hk | hk | hk | hk | hk | hk | hk | hk
  · obtain ⟨p, hp, e1, e2, e3, e4⟩ := jf_ref_0 e hk
    rw [if_pos hk, e1, pn_of hp]
    refine jf_W_down W hp e2 e4 ?_
    unfold jf_ref at e
    rw [if_pos hk, e1, jF_has_of hp, e2, if_pos rfl, jF_w_of hp, jF_n_of hp, if_pos ⟨e3, e4⟩, if_neg (by decide)] at e
    split at e
    · assumption
    · exact absurd e (by decide)
  · obtain ⟨p, q, hp, hq, e1, e3, e2, e4, e5, e6, e7⟩ := jf_ref_1 e hk
    rw [if_neg (by rw [hk]; decide), if_pos hk, e1, e3, pn_of hp, pn_of hq]
    unfold jf_ref at e
    rw [if_neg (by rw [hk]; decide), if_pos hk, e1, e3, jF_has_of hp, jF_has_of hq, e2, e4, if_pos ⟨rfl, rfl, e6⟩, jF_near_of hp hq, e5, if_pos rfl, if_neg (by simp; omega), jF_w_of hp, jF_w_of hq] at e
    split at e
    · rename_i w; exact jf_W_up W hp hq e2 e4 e5 e6 e7 w.1 w.2
    · exact absurd e (by decide)
  · obtain ⟨p, hp, e1, e2, e3, e4⟩ := jf_ref_2 e hk
    obtain ⟨c, hc⟩ := bc_free e4
    rw [if_neg (by rw [hk]; decide), if_neg (by rw [hk]; decide), if_pos hk, e1, pn_of hp]
    unfold jf_ref at e
    rw [if_neg (by rw [hk]; decide), if_neg (by rw [hk]; decide), if_pos hk, e1, jF_has_of hp, e2, if_pos ⟨rfl, e3⟩, if_neg (by simp; omega), jF_w_of hp] at e
    split at e
    · rename_i w; exact jf_W_bud W hp e2 (jp_wt_pm e3) hc w
    · exact absurd e (by decide)
  · obtain ⟨e3, e4⟩ := jf_ref_3 e hk
    obtain ⟨c, hc⟩ := bc_free e4
    rw [if_neg (by rw [hk]; decide), if_neg (by rw [hk]; decide), if_neg (by rw [hk]; decide), if_pos hk, jf_free_of hc]
    exact jf_W_grow W hc (jp_wt_pm e3)
  · obtain ⟨p, hp, e1, e2, e3, e4⟩ := jf_ref_4 e hk
    rw [if_neg (by rw [hk]; decide), if_neg (by rw [hk]; decide), if_neg (by rw [hk]; decide), if_neg (by rw [hk]; decide), if_pos hk, e1, pn_of hp]
    refine jf_W_absorb W hp e2 e4 ?_
    unfold jf_ref at e
    rw [if_neg (by rw [hk]; decide), if_neg (by rw [hk]; decide), if_neg (by rw [hk]; decide), if_neg (by rw [hk]; decide), if_pos hk, e1, jF_has_of hp, e2, if_pos rfl, jF_w_of hp, jF_n_of hp, if_pos ⟨e3, e4⟩, if_neg (by decide)] at e
    split at e
    · assumption
    · exact absurd e (by decide)
  · obtain ⟨p, hp, e1, e2, -, e4⟩ := jf_ref_5 e hk
    rw [if_neg (by rw [hk]; decide), if_neg (by rw [hk]; decide), if_neg (by rw [hk]; decide), if_neg (by rw [hk]; decide), if_neg (by rw [hk]; decide), if_pos hk, e1, pn_of hp]
    exact jf_W_split W hp
  · rw [if_neg (by rw [hk]; decide), if_neg (by rw [hk]; decide), if_neg (by rw [hk]; decide), if_neg (by rw [hk]; decide), if_neg (by rw [hk]; decide), if_neg (by rw [hk]; decide), if_pos hk]
    exact jf_W_mirror W
  · obtain ⟨p, hp, e1, e2, e5, e3, e4⟩ := jf_ref_7 e hk
    rw [if_neg (by rw [hk]; decide), if_neg (by rw [hk]; decide), if_neg (by rw [hk]; decide), if_neg (by rw [hk]; decide), if_neg (by rw [hk]; decide), if_neg (by rw [hk]; decide), if_neg (by rw [hk]; decide), e1, pn_of hp]
    unfold jf_ref at e
    rw [if_neg (by rw [hk]; decide), if_neg (by rw [hk]; decide), if_neg (by rw [hk]; decide), if_neg (by rw [hk]; decide), if_neg (by rw [hk]; decide), if_neg (by rw [hk]; decide), if_neg (by rw [hk]; decide), if_pos hk, e1, jF_has_of hp, e2, jF_n_of hp, if_pos ⟨rfl, e5, e3⟩, if_neg (by simp; omega), jF_w_of hp] at e
    split at e
    · rename_i w; exact jf_W_draw W hp e2 e5 e3 e4 w
    · exact absurd e (by decide)
theorem jf_W_0 : jf_W jf_0 := by
  refine ⟨⟨S12_0, fun _ _ => S12_0, fun _ _ _ _ => (bt_0 _).trans (bt_0 _).symm, fun _ _ => bt_0 _, fun _ _ _ => ⟨rfl, rfl⟩, fun _ _ => jp_wt_0⟩, fun U hU ⟨x, hx⟩ => ?_⟩
  have : bt 0 x = true := (hU x hx).2
  rw [bt_0] at this; cases this
end
end
section
/-! What a WORKER does NEXT -/
def fi (P : Nat → Bool) : Nat → Nat → Option Nat
  | 0, _ => none
  | m + 1, k => if P k then some k else fi P m (k + 1)
def la (P : Nat → Bool) : Nat → Option Nat
  | 0 => none
  | m + 1 => if P m then some m else la P m
theorem fi_congr {P Q : Nat → Bool} : ∀ {m k : Nat}, (∀ j, k ≤ j → j < k + m → P j = Q j) → fi P m k = fi Q m k
  | 0, _, _ => rfl
  | m + 1, k, h => by
    unfold fi
    rw [h k (Nat.le_refl _) (by omega), fi_congr (fun j a b => h j (by omega) (by omega))]
theorem la_congr {P Q : Nat → Bool} : ∀ {m : Nat}, (∀ j, j < m → P j = Q j) → la P m = la Q m
  | 0, _ => rfl
  | m + 1, h => by
    unfold la
    rw [h m (by omega), la_congr (fun j a => h j (by omega))]
theorem fi_some {P : Nat → Bool} : ∀ {m k j : Nat}, fi P m k = some j → k ≤ j ∧ j < k + m ∧ P j = true
  | 0, _, _, h => by cases h
  | m + 1, k, j, h => by
    unfold fi at h
    split at h
    · cases h; exact ⟨Nat.le_refl _, by omega, by assumption⟩
    · obtain ⟨a, b, c⟩ := fi_some h; exact ⟨by omega, by omega, c⟩
theorem la_some {P : Nat → Bool} : ∀ {m j : Nat}, la P m = some j → j < m ∧ P j = true
  | 0, _, h => by cases h
  | m + 1, j, h => by
    unfold la at h
    split at h
    · cases h; exact ⟨by omega, by assumption⟩
    · obtain ⟨a, c⟩ := la_some h; exact ⟨by omega, c⟩
def jn_ok (f : jF) (kind w : Int32) (m mn : Nat) (k : Nat) : Bool := decide (m ≤ k) && (decide (f.1 k = w) && (decide (bc (f.2.1 k) ≤ mn) && decide (jf_ref f false (kind, Int32.ofNat k, 0, 0, 0) = 0)))
def jn_seek (f : jF) (kind w : Int32) (m : Nat) (late : Bool) (mn : Nat) : Option Nat := if late then la (jn_ok f kind w m mn) 12 else fi (jn_ok f kind w m mn) 12 0
def jn_mk (kind : Int32) : Option Nat → Option (Int32 × Nat)
  | some k => some (kind, k)
  | none => none
def jn_or (a b : Option (Int32 × Nat)) : Option (Int32 × Nat) := match a with
  | some x => some x
  | none => b
def jn_plan (f : jF) (kind : Int32) (m : Nat) : Option (Int32 × Nat) :=
  if kind = 1 then jn_or (jn_mk 0 (jn_seek f 0 (-1) m false 2)) (jn_mk 0 (jn_seek f 0 1 m false 2))
  else if kind = 2 then jn_or (jn_mk 4 (jn_seek f 4 0 m false 2)) (jn_mk 0 (jn_seek f 0 (-1) m false 2))
  else if kind = 3 then jn_or (jn_mk 0 (jn_seek f 0 (-1) m true 2)) (jn_mk 0 (jn_seek f 0 1 m true 2))
  else if kind = 4 then jn_or (jn_mk 5 (jn_seek f 5 0 m false 1)) (jn_or (jn_mk 4 (jn_seek f 4 0 m false 2)) (jn_mk 0 (jn_seek f 0 (-1) m false 2)))
  else if kind = 5 then jn_mk 0 (jn_seek f 0 (-1) m false 1)
  else jn_mk 0 (jn_seek f 0 (-1) m false 2)
def jn_3 (k : Int32) : Prop := k = 0 ∨ k = 4 ∨ k = 5
theorem jm_norm_3 {k : Int32} (hk : jn_3 k) (p : Int32) : jm_norm (k, p, 0, 0, 0) = (k, p, 0, 0, 0) := by
  rcases hk with rfl | rfl | rfl
  · show (0, (if jr_has 0 &&& 1 = 0 then 0 else p), (if jr_has 0 &&& 2 = 0 then 0 else 0), (if jr_has 0 &&& 4 = 0 then 0 else 0), (if jr_has 0 &&& 8 = 0 then 0 else 0)) = _
    rw [if_neg (by decide)]; simp
  · show (4, (if jr_has 4 &&& 1 = 0 then 0 else p), (if jr_has 4 &&& 2 = 0 then 0 else 0), (if jr_has 4 &&& 4 = 0 then 0 else 0), (if jr_has 4 &&& 8 = 0 then 0 else 0)) = _
    rw [if_neg (by decide)]; simp
  · show (5, (if jr_has 5 &&& 1 = 0 then 0 else p), (if jr_has 5 &&& 2 = 0 then 0 else 0), (if jr_has 5 &&& 4 = 0 then 0 else 0), (if jr_has 5 &&& 8 = 0 then 0 else 0)) = _
    rw [if_neg (by decide)]; simp
section
variable {rc : Nat → Nat × (Nat → Int32)} {h : jxH} {a t b : Nat} {f g : jF} {m : jM} {sg : Int32}
/-- the loop's body at a place: on, or found -/
theorem st_seek_at (hr : jk_rom rc) (H : st_at h t m sg) (G : fo_at h a f) (B : jf_B f) (ht : t < a ∨ a + 3 ≤ t) {kind w : Int32} (hk : jn_3 kind) {mm mn k : Nat} (hm : mm < 2 ^ 31) (hmn : mn < 2 ^ 31) (k12 : k < 12) (late i : Int32) : ∃ h1, (∃ m1, st_at h1 t m1 sg) ∧ Fr (fun x => x = t) h h1 ∧ ((jn_ok f kind w mm mn k = true ∧ st_at h1 t (kind, Int32.ofNat k, 0, 0, 0) sg ∧ ∀ d, jb_284 rc (d + 5) 12 [(0, .ref t), (1, .ref a), (2, .int kind), (3, .int w), (4, .int (Int32.ofNat mm)), (5, .int late), (6, .int (Int32.ofNat mn)), (7, .int i)] [.int (Int32.ofNat k)] h = some (some (.int 1), h1)) ∨ (jn_ok f kind w mm mn k = false ∧ ∀ d, jb_284 rc (d + 5) 12 [(0, .ref t), (1, .ref a), (2, .int kind), (3, .int w), (4, .int (Int32.ofNat mm)), (5, .int late), (6, .int (Int32.ofNat mn)), (7, .int i)] [.int (Int32.ofNat k)] h = jb_284 rc (d + 5) 2 [(0, .ref t), (1, .ref a), (2, .int kind), (3, .int w), (4, .int (Int32.ofNat mm)), (5, .int late), (6, .int (Int32.ofNat mn)), (7, .int (i + 1))] [] h1)) := by
  have hbc := bc_le (f.2.1 k)
  by_cases c1 : mm ≤ k
  · have c1' : ¬ Int32.ofNat k < Int32.ofNat mm := by rw [jk_lt (by omega) hm]; omega
    by_cases c2 : f.1 k = w
    · by_cases c3 : bc (f.2.1 k) ≤ mn
      · have c3' : ¬ Int32.ofNat mn < Int32.ofNat (bc (f.2.1 k)) := by rw [jk_lt hmn (by omega)]; omega
        obtain ⟨h1, r1, r2, r3⟩ := st_mean (rc := rc) hr H kind (Int32.ofNat k) 0 0 0
        rw [jm_norm_3 hk] at r2
        have G1 := fo_fr r3 (fun x h1 h2 => by omega) G
        have R := fun d => st_refusal (rc := rc) hr r2 G1 B.n B.s false d
        by_cases c4 : jf_ref f false (kind, Int32.ofNat k, 0, 0, 0) = 0
        · refine ⟨h1, ⟨_, r2⟩, r3, Or.inl ⟨by unfold jn_ok; simp [c1, c2, c3, c4], r2, fun d => ?_⟩⟩
          rw [je_284_12, if_neg c1', fo_weightAt G, jk_cI, jF_w_of k12, if_pos c2, fo_degree G B.n, jk_cI, jF_n_of k12, if_neg c3', r1, jk_cV]
          have := R d
          rw [c4] at this
          rw [show (0 : Int32) = jk_b false from rfl] 
          refine (congrArg (fun z => jx_cI z _) this).trans ?_
          rw [jk_cI]
          rfl
        · refine ⟨h1, ⟨_, r2⟩, r3, Or.inr ⟨by unfold jn_ok; simp [c4], fun d => ?_⟩⟩
          rw [je_284_12, if_neg c1', fo_weightAt G, jk_cI, jF_w_of k12, if_pos c2, fo_degree G B.n, jk_cI, jF_n_of k12, if_neg c3', r1, jk_cV]
          refine (congrArg (fun z => jx_cI z _) (R d)).trans ?_
          rw [jk_cI, if_neg c4]
      · have c3' : Int32.ofNat mn < Int32.ofNat (bc (f.2.1 k)) := by rw [jk_lt hmn (by omega)]; omega
        refine ⟨h, ⟨_, H⟩, Fr.rfl, Or.inr ⟨by unfold jn_ok; simp [c3], fun d => ?_⟩⟩
        rw [je_284_12, if_neg c1', fo_weightAt G, jk_cI, jF_w_of k12, if_pos c2, fo_degree G B.n, jk_cI, jF_n_of k12, if_pos c3']
    · refine ⟨h, ⟨_, H⟩, Fr.rfl, Or.inr ⟨by unfold jn_ok; simp [c2], fun d => ?_⟩⟩
      rw [je_284_12, if_neg c1', fo_weightAt G, jk_cI, jF_w_of k12, if_neg c2]
  · have c1' : Int32.ofNat k < Int32.ofNat mm := by rw [jk_lt (by omega) hm]; omega
    refine ⟨h, ⟨_, H⟩, Fr.rfl, Or.inr ⟨by unfold jn_ok; simp [c1], fun d => ?_⟩⟩
    rw [je_284_12, if_pos c1']
theorem st_seek_l (hr : jk_rom rc) (B : jf_B f) (ht : t < a ∨ a + 3 ≤ t) {kind w : Int32} (hk : jn_3 kind) {mm mn : Nat} (hm : mm < 2 ^ 31) (hmn : mn < 2 ^ 31) : ∀ (n k : Nat) (h : jxH) (m : jM), k + n = 12 → st_at h t m sg → fo_at h a f → ∃ h1, (∃ m1, st_at h1 t m1 sg) ∧ Fr (fun x => x = t) h h1 ∧ (∀ j, fi (jn_ok f kind w mm mn) n k = some j → st_at h1 t (kind, Int32.ofNat j, 0, 0, 0) sg) ∧ ∀ d, jb_284 rc (d + 5) 2 [(0, .ref t), (1, .ref a), (2, .int kind), (3, .int w), (4, .int (Int32.ofNat mm)), (5, .int 0), (6, .int (Int32.ofNat mn)), (7, .int (Int32.ofNat k))] [] h = some (some (.int (jk_b (fi (jn_ok f kind w mm mn) n k).isSome)), h1)
  | 0, k, h, m, e, H, G => by
    obtain rfl : k = 12 := by omega
    exact ⟨h, ⟨_, H⟩, Fr.rfl, (fun j q => by cases q), fun d => by rw [je_284_2]; rfl⟩
  | n + 1, k, h, m, e, H, G => by
    have hk12 : k < 12 := by omega
    obtain ⟨h1, ⟨m1, s1⟩, s2, s3⟩ := st_seek_at (rc := rc) hr H G B ht (w := w) hk hm hmn hk12 0 (Int32.ofNat k)
    rcases s3 with ⟨c1, c2, c3⟩ | ⟨c1, c3⟩
    · have e1 : fi (jn_ok f kind w mm mn) (n + 1) k = some k := by unfold fi; rw [if_pos c1]
      rw [e1]
      refine ⟨h1, ⟨_, s1⟩, s2, (fun j q => by cases q; exact c2), fun d => ?_⟩
      rw [je_284_2, if_neg (jk_n12 hk12), if_pos rfl]
      exact c3 d
    · have e1 : fi (jn_ok f kind w mm mn) (n + 1) k = fi (jn_ok f kind w mm mn) n (k + 1) := by
        conv => lhs; unfold fi
        rw [if_neg (by rw [c1]; decide)]
      rw [e1]
      obtain ⟨h', i1, i2, i3, i4⟩ := st_seek_l hr B ht (w := w) hk hm hmn n (k + 1) h1 m1 (by omega) s1 (fo_fr s2 (fun x q1 q2 => by omega) G)
      refine ⟨h', i1, s2.trans i2, i3, fun d => ?_⟩
      rw [je_284_2, if_neg (jk_n12 hk12), if_pos rfl]
      refine (c3 d).trans ?_
      rw [jk_succ]
      exact i4 d
theorem st_seek_m (hr : jk_rom rc) (B : jf_B f) (ht : t < a ∨ a + 3 ≤ t) {kind w : Int32} (hk : jn_3 kind) {mm mn : Nat} (hm : mm < 2 ^ 31) (hmn : mn < 2 ^ 31) : ∀ (n k : Nat) (h : jxH) (m : jM), k + n = 12 → st_at h t m sg → fo_at h a f → ∃ h1, (∃ m1, st_at h1 t m1 sg) ∧ Fr (fun x => x = t) h h1 ∧ (∀ j, la (jn_ok f kind w mm mn) n = some j → st_at h1 t (kind, Int32.ofNat j, 0, 0, 0) sg) ∧ ∀ d, jb_284 rc (d + 5) 2 [(0, .ref t), (1, .ref a), (2, .int kind), (3, .int w), (4, .int (Int32.ofNat mm)), (5, .int 1), (6, .int (Int32.ofNat mn)), (7, .int (Int32.ofNat k))] [] h = some (some (.int (jk_b (la (jn_ok f kind w mm mn) n).isSome)), h1)
  | 0, k, h, m, e, H, G => by
    obtain rfl : k = 12 := by omega
    exact ⟨h, ⟨_, H⟩, Fr.rfl, (fun j q => by cases q), fun d => by rw [je_284_2]; rfl⟩
  | n + 1, k, h, m, e, H, G => by
    have hk12 : k < 12 := by omega
    have hn12 : n < 12 := by omega
    have en : (11 : Int32) - Int32.ofNat k = Int32.ofNat n := by
      rw [show (11 : Int32) = Int32.ofNat 11 from rfl, ← Int32.ofNat_sub _ _ (by omega), show 11 - k = n by omega]
    obtain ⟨h1, ⟨m1, s1⟩, s2, s3⟩ := st_seek_at (rc := rc) hr H G B ht (w := w) hk hm hmn hn12 1 (Int32.ofNat k)
    rcases s3 with ⟨c1, c2, c3⟩ | ⟨c1, c3⟩
    · have e1 : la (jn_ok f kind w mm mn) (n + 1) = some n := by unfold la; rw [if_pos c1]
      rw [e1]
      refine ⟨h1, ⟨_, s1⟩, s2, (fun j q => by cases q; exact c2), fun d => ?_⟩
      rw [je_284_2, if_neg (jk_n12 hk12), if_neg (by decide), en]
      exact c3 d
    · have e1 : la (jn_ok f kind w mm mn) (n + 1) = la (jn_ok f kind w mm mn) n := by
        conv => lhs; unfold la
        rw [if_neg (by rw [c1]; decide)]
      rw [e1]
      obtain ⟨h', i1, i2, i3, i4⟩ := st_seek_m hr B ht (w := w) hk hm hmn n (k + 1) h1 m1 (by omega) s1 (fo_fr s2 (fun x q1 q2 => by omega) G)
      refine ⟨h', i1, s2.trans i2, i3, fun d => ?_⟩
      rw [je_284_2, if_neg (jk_n12 hk12), if_neg (by decide), en]
      refine (c3 d).trans ?_
      rw [jk_succ]
      exact i4 d
/-- seek() -/
theorem st_seek (hr : jk_rom rc) (H : st_at h t m sg) (G : fo_at h a f) (B : jf_B f) (ht : t < a ∨ a + 3 ≤ t) {kind w : Int32} (hk : jn_3 kind) {mm mn : Nat} (hm : mm < 2 ^ 31) (hmn : mn < 2 ^ 31) (late : Bool) : ∃ h1, (∃ m1, st_at h1 t m1 sg) ∧ Fr (fun x => x = t) h h1 ∧ (∀ j, jn_seek f kind w mm late mn = some j → st_at h1 t (kind, Int32.ofNat j, 0, 0, 0) sg) ∧ ∀ d, jx_C rc (d + 6) 284 [.ref t, .ref a, .int kind, .int w, .int (Int32.ofNat mm), .int (jk_b late), .int (Int32.ofNat mn)] h = some (some (.int (jk_b (jn_seek f kind w mm late mn).isSome)), h1) := by
  cases late with
  | false =>
    have e : jn_seek f kind w mm false mn = fi (jn_ok f kind w mm mn) 12 0 := if_neg Bool.false_ne_true
    rw [e]
    obtain ⟨h1, i1, i2, i3, i4⟩ := st_seek_l (rc := rc) hr B ht (w := w) hk hm hmn 12 0 h m (by omega) H G
    refine ⟨h1, i1, i2, i3, fun d => ?_⟩
    rw [je_284, if_pos (st_is H), jk_bf]
    exact i4 d
  | true =>
    have e : jn_seek f kind w mm true mn = la (jn_ok f kind w mm mn) 12 := if_pos rfl
    rw [e]
    obtain ⟨h1, i1, i2, i3, i4⟩ := st_seek_m (rc := rc) hr B ht (w := w) hk hm hmn 12 0 h m (by omega) H G
    refine ⟨h1, i1, i2, i3, fun d => ?_⟩
    rw [je_284, if_pos (st_is H), jk_bt]
    exact i4 d
/-- plan() -/
theorem cr_plan (hr : jk_rom rc) (H : st_at h t m sg) (G : fo_at h a f) (B : jf_B f) (ht : t < a ∨ a + 3 ≤ t) (kind : Int32) {mm : Nat} (hm : mm < 2 ^ 31) : ∃ h1, (∃ m1, st_at h1 t m1 sg) ∧ Fr (fun x => x = t) h h1 ∧ (∀ k j, jn_plan f kind mm = some (k, j) → st_at h1 t (k, Int32.ofNat j, 0, 0, 0) sg) ∧ ∀ d, jx_C rc (d + 7) 222 [.ref t, .ref a, .int kind, .int (Int32.ofNat mm)] h = some (some (.int (jk_b (jn_plan f kind mm).isSome)), h1) := by
  have hG : ∀ {h1 : jxH}, Fr (fun x => x = t) h h1 → fo_at h1 a f := fun F => fo_fr F (fun x q1 q2 => by omega) G
  by_cases c1 : kind = 1
  · subst c1
    unfold jn_plan
    rw [if_pos rfl]
    obtain ⟨h1, ⟨m1, p1⟩, q1, r1, s1⟩ := st_seek (rc := rc) hr H G B ht (kind := 0) (w := (-1)) (Or.inl rfl) hm (mn := 2) (by decide) false
    cases e1 : jn_seek f 0 (-1) mm false 2 with
    | some j =>
      refine ⟨h1, ⟨_, p1⟩, q1, (fun k j q => by simp only [jn_mk, jn_or] at q; cases q; exact r1 _ e1), fun d => ?_⟩
      rw [je_222]
      rw [if_pos (by decide)]
      refine (congrArg (fun z => jx_cI z _) (s1 d)).trans ?_
      rw [jk_cI, e1]
      rfl
    | none =>
      obtain ⟨h2, ⟨m2, p2⟩, q2, r2, s2⟩ := st_seek (rc := rc) hr p1 (hG q1) B ht (kind := 0) (w := 1) (Or.inl rfl) hm (mn := 2) (by decide) false
      cases e2 : jn_seek f 0 1 mm false 2 with
      | some j =>
        refine ⟨h2, ⟨_, p2⟩, (q1.trans q2), (fun k j q => by simp only [jn_mk, jn_or] at q; cases q; exact r2 _ e2), fun d => ?_⟩
        rw [je_222]
        rw [if_pos (by decide)]
        refine (congrArg (fun z => jx_cI z _) (s1 d)).trans ?_
        rw [jk_cI, e1]
        rw [show jk_b (none : Option Nat).isSome = 0 from rfl, if_pos rfl]
        refine (congrArg (fun z => jx_cI z _) (s2 d)).trans ?_
        rw [jk_cI, e2]
        rfl
      | none =>
        refine ⟨h2, ⟨_, p2⟩, (q1.trans q2), (fun k j q => by simp only [jn_mk, jn_or] at q; cases q), fun d => ?_⟩
        rw [je_222]
        rw [if_pos (by decide)]
        refine (congrArg (fun z => jx_cI z _) (s1 d)).trans ?_
        rw [jk_cI, e1]
        rw [show jk_b (none : Option Nat).isSome = 0 from rfl, if_pos rfl]
        refine (congrArg (fun z => jx_cI z _) (s2 d)).trans ?_
        rw [jk_cI, e2]
        rfl
  by_cases c2 : kind = 2
  · subst c2
    unfold jn_plan
    rw [if_neg (by decide)]
    rw [if_pos rfl]
    obtain ⟨h1, ⟨m1, p1⟩, q1, r1, s1⟩ := st_seek (rc := rc) hr H G B ht (kind := 4) (w := 0) (Or.inr (Or.inl rfl)) hm (mn := 2) (by decide) false
    cases e1 : jn_seek f 4 0 mm false 2 with
    | some j =>
      refine ⟨h1, ⟨_, p1⟩, q1, (fun k j q => by simp only [jn_mk, jn_or] at q; cases q; exact r1 _ e1), fun d => ?_⟩
      rw [je_222]
      rw [if_neg (by decide)]
      rw [if_pos (by decide)]
      refine (congrArg (fun z => jx_cI z _) (s1 d)).trans ?_
      rw [jk_cI, e1]
      rfl
    | none =>
      obtain ⟨h2, ⟨m2, p2⟩, q2, r2, s2⟩ := st_seek (rc := rc) hr p1 (hG q1) B ht (kind := 0) (w := (-1)) (Or.inl rfl) hm (mn := 2) (by decide) false
      cases e2 : jn_seek f 0 (-1) mm false 2 with
      | some j =>
        refine ⟨h2, ⟨_, p2⟩, (q1.trans q2), (fun k j q => by simp only [jn_mk, jn_or] at q; cases q; exact r2 _ e2), fun d => ?_⟩
        rw [je_222]
        rw [if_neg (by decide)]
        rw [if_pos (by decide)]
        refine (congrArg (fun z => jx_cI z _) (s1 d)).trans ?_
        rw [jk_cI, e1]
        rw [show jk_b (none : Option Nat).isSome = 0 from rfl, if_pos rfl]
        refine (congrArg (fun z => jx_cI z _) (s2 d)).trans ?_
        rw [jk_cI, e2]
        rfl
      | none =>
        refine ⟨h2, ⟨_, p2⟩, (q1.trans q2), (fun k j q => by simp only [jn_mk, jn_or] at q; cases q), fun d => ?_⟩
        rw [je_222]
        rw [if_neg (by decide)]
        rw [if_pos (by decide)]
        refine (congrArg (fun z => jx_cI z _) (s1 d)).trans ?_
        rw [jk_cI, e1]
        rw [show jk_b (none : Option Nat).isSome = 0 from rfl, if_pos rfl]
        refine (congrArg (fun z => jx_cI z _) (s2 d)).trans ?_
        rw [jk_cI, e2]
        rfl
  by_cases c3 : kind = 3
  · subst c3
    unfold jn_plan
    rw [if_neg (by decide)]
    rw [if_neg (by decide)]
    rw [if_pos rfl]
    obtain ⟨h1, ⟨m1, p1⟩, q1, r1, s1⟩ := st_seek (rc := rc) hr H G B ht (kind := 0) (w := (-1)) (Or.inl rfl) hm (mn := 2) (by decide) true
    cases e1 : jn_seek f 0 (-1) mm true 2 with
    | some j =>
      refine ⟨h1, ⟨_, p1⟩, q1, (fun k j q => by simp only [jn_mk, jn_or] at q; cases q; exact r1 _ e1), fun d => ?_⟩
      rw [je_222]
      rw [if_neg (by decide)]
      rw [if_neg (by decide)]
      rw [if_pos (by decide)]
      refine (congrArg (fun z => jx_cI z _) (s1 d)).trans ?_
      rw [jk_cI, e1]
      rfl
    | none =>
      obtain ⟨h2, ⟨m2, p2⟩, q2, r2, s2⟩ := st_seek (rc := rc) hr p1 (hG q1) B ht (kind := 0) (w := 1) (Or.inl rfl) hm (mn := 2) (by decide) true
      cases e2 : jn_seek f 0 1 mm true 2 with
      | some j =>
        refine ⟨h2, ⟨_, p2⟩, (q1.trans q2), (fun k j q => by simp only [jn_mk, jn_or] at q; cases q; exact r2 _ e2), fun d => ?_⟩
        rw [je_222]
        rw [if_neg (by decide)]
        rw [if_neg (by decide)]
        rw [if_pos (by decide)]
        refine (congrArg (fun z => jx_cI z _) (s1 d)).trans ?_
        rw [jk_cI, e1]
        rw [show jk_b (none : Option Nat).isSome = 0 from rfl, if_pos rfl]
        refine (congrArg (fun z => jx_cI z _) (s2 d)).trans ?_
        rw [jk_cI, e2]
        rfl
      | none =>
        refine ⟨h2, ⟨_, p2⟩, (q1.trans q2), (fun k j q => by simp only [jn_mk, jn_or] at q; cases q), fun d => ?_⟩
        rw [je_222]
        rw [if_neg (by decide)]
        rw [if_neg (by decide)]
        rw [if_pos (by decide)]
        refine (congrArg (fun z => jx_cI z _) (s1 d)).trans ?_
        rw [jk_cI, e1]
        rw [show jk_b (none : Option Nat).isSome = 0 from rfl, if_pos rfl]
        refine (congrArg (fun z => jx_cI z _) (s2 d)).trans ?_
        rw [jk_cI, e2]
        rfl
  by_cases c4 : kind = 4
  · subst c4
    unfold jn_plan
    rw [if_neg (by decide)]
    rw [if_neg (by decide)]
    rw [if_neg (by decide)]
    rw [if_pos rfl]
    obtain ⟨h1, ⟨m1, p1⟩, q1, r1, s1⟩ := st_seek (rc := rc) hr H G B ht (kind := 5) (w := 0) (Or.inr (Or.inr rfl)) hm (mn := 1) (by decide) false
    cases e1 : jn_seek f 5 0 mm false 1 with
    | some j =>
      refine ⟨h1, ⟨_, p1⟩, q1, (fun k j q => by simp only [jn_mk, jn_or] at q; cases q; exact r1 _ e1), fun d => ?_⟩
      rw [je_222]
      rw [if_neg (by decide)]
      rw [if_neg (by decide)]
      rw [if_neg (by decide)]
      rw [if_pos (by decide)]
      refine (congrArg (fun z => jx_cI z _) (s1 d)).trans ?_
      rw [jk_cI, e1]
      rfl
    | none =>
      obtain ⟨h2, ⟨m2, p2⟩, q2, r2, s2⟩ := st_seek (rc := rc) hr p1 (hG q1) B ht (kind := 4) (w := 0) (Or.inr (Or.inl rfl)) hm (mn := 2) (by decide) false
      cases e2 : jn_seek f 4 0 mm false 2 with
      | some j =>
        refine ⟨h2, ⟨_, p2⟩, (q1.trans q2), (fun k j q => by simp only [jn_mk, jn_or] at q; cases q; exact r2 _ e2), fun d => ?_⟩
        rw [je_222]
        rw [if_neg (by decide)]
        rw [if_neg (by decide)]
        rw [if_neg (by decide)]
        rw [if_pos (by decide)]
        refine (congrArg (fun z => jx_cI z _) (s1 d)).trans ?_
        rw [jk_cI, e1]
        rw [show jk_b (none : Option Nat).isSome = 0 from rfl, if_pos rfl]
        refine (congrArg (fun z => jx_cI z _) (s2 d)).trans ?_
        rw [jk_cI, e2]
        rfl
      | none =>
        obtain ⟨h3, ⟨m3, p3⟩, q3, r3, s3⟩ := st_seek (rc := rc) hr p2 (hG (q1.trans q2)) B ht (kind := 0) (w := (-1)) (Or.inl rfl) hm (mn := 2) (by decide) false
        cases e3 : jn_seek f 0 (-1) mm false 2 with
        | some j =>
          refine ⟨h3, ⟨_, p3⟩, ((q1.trans q2).trans q3), (fun k j q => by simp only [jn_mk, jn_or] at q; cases q; exact r3 _ e3), fun d => ?_⟩
          rw [je_222]
          rw [if_neg (by decide)]
          rw [if_neg (by decide)]
          rw [if_neg (by decide)]
          rw [if_pos (by decide)]
          refine (congrArg (fun z => jx_cI z _) (s1 d)).trans ?_
          rw [jk_cI, e1]
          rw [show jk_b (none : Option Nat).isSome = 0 from rfl, if_pos rfl]
          refine (congrArg (fun z => jx_cI z _) (s2 d)).trans ?_
          rw [jk_cI, e2]
          rw [show jk_b (none : Option Nat).isSome = 0 from rfl, if_pos rfl]
          refine (congrArg (fun z => jx_cI z _) (s3 d)).trans ?_
          rw [jk_cI, e3]
          rfl
        | none =>
          refine ⟨h3, ⟨_, p3⟩, ((q1.trans q2).trans q3), (fun k j q => by simp only [jn_mk, jn_or] at q; cases q), fun d => ?_⟩
          rw [je_222]
          rw [if_neg (by decide)]
          rw [if_neg (by decide)]
          rw [if_neg (by decide)]
          rw [if_pos (by decide)]
          refine (congrArg (fun z => jx_cI z _) (s1 d)).trans ?_
          rw [jk_cI, e1]
          rw [show jk_b (none : Option Nat).isSome = 0 from rfl, if_pos rfl]
          refine (congrArg (fun z => jx_cI z _) (s2 d)).trans ?_
          rw [jk_cI, e2]
          rw [show jk_b (none : Option Nat).isSome = 0 from rfl, if_pos rfl]
          refine (congrArg (fun z => jx_cI z _) (s3 d)).trans ?_
          rw [jk_cI, e3]
          rfl
  by_cases c5 : kind = 5
  · subst c5
    unfold jn_plan
    rw [if_neg (by decide)]
    rw [if_neg (by decide)]
    rw [if_neg (by decide)]
    rw [if_neg (by decide)]
    rw [if_pos rfl]
    obtain ⟨h1, ⟨m1, p1⟩, q1, r1, s1⟩ := st_seek (rc := rc) hr H G B ht (kind := 0) (w := (-1)) (Or.inl rfl) hm (mn := 1) (by decide) false
    cases e1 : jn_seek f 0 (-1) mm false 1 with
    | some j =>
      refine ⟨h1, ⟨_, p1⟩, q1, (fun k j q => by simp only [jn_mk, jn_or] at q; cases q; exact r1 _ e1), fun d => ?_⟩
      rw [je_222]
      rw [if_neg (by decide)]
      rw [if_neg (by decide)]
      rw [if_neg (by decide)]
      rw [if_neg (by decide)]
      rw [if_pos (by decide)]
      refine (congrArg (fun z => jx_cI z _) (s1 d)).trans ?_
      rw [jk_cI, e1]
      rfl
    | none =>
      refine ⟨h1, ⟨_, p1⟩, q1, (fun k j q => by simp only [jn_mk, jn_or] at q; cases q), fun d => ?_⟩
      rw [je_222]
      rw [if_neg (by decide)]
      rw [if_neg (by decide)]
      rw [if_neg (by decide)]
      rw [if_neg (by decide)]
      rw [if_pos (by decide)]
      refine (congrArg (fun z => jx_cI z _) (s1 d)).trans ?_
      rw [jk_cI, e1]
      rfl
  unfold jn_plan
  rw [if_neg c1, if_neg c2, if_neg c3, if_neg c4, if_neg c5]
  obtain ⟨h1, ⟨m1, p1⟩, q1, r1, s1⟩ := st_seek (rc := rc) hr H G B ht (kind := 0) (w := (-1)) (Or.inl rfl) hm (mn := 2) (by decide) false
  cases e1 : jn_seek f 0 (-1) mm false 2 with
  | some j =>
    refine ⟨h1, ⟨_, p1⟩, q1, (fun k j q => by simp only [jn_mk, jn_or] at q; cases q; exact r1 _ e1), fun d => ?_⟩
    rw [je_222]
    rw [if_neg c1]
    rw [if_neg (show ¬ kind = ((1 + 1) : Int32) from c2)]
    rw [if_neg (show ¬ kind = (((1 + 1) + 1) : Int32) from c3)]
    rw [if_neg (show ¬ kind = ((((1 + 1) + 1) + 1) : Int32) from c4)]
    rw [if_neg (show ¬ kind = (((((1 + 1) + 1) + 1) + 1) : Int32) from c5)]
    refine (congrArg (fun z => jx_cI z _) (s1 d)).trans ?_
    rw [jk_cI, e1]
    rfl
  | none =>
    refine ⟨h1, ⟨_, p1⟩, q1, (fun k j q => by simp only [jn_mk, jn_or] at q; cases q), fun d => ?_⟩
    rw [je_222]
    rw [if_neg c1]
    rw [if_neg (show ¬ kind = ((1 + 1) : Int32) from c2)]
    rw [if_neg (show ¬ kind = (((1 + 1) + 1) : Int32) from c3)]
    rw [if_neg (show ¬ kind = ((((1 + 1) + 1) + 1) : Int32) from c4)]
    rw [if_neg (show ¬ kind = (((((1 + 1) + 1) + 1) + 1) : Int32) from c5)]
    refine (congrArg (fun z => jx_cI z _) (s1 d)).trans ?_
    rw [jk_cI, e1]
    rfl
end
end
section
/-! What a WORKER does NEXT, in the reference -/
def la2 (P : Nat → Bool) : Nat → Nat → Option Nat → Option Nat
  | 0, _, acc => acc
  | m + 1, k, acc => la2 P m (k + 1) (if P k = true then some k else acc)
theorem la2_la {P : Nat → Bool} : ∀ (m k : Nat), la2 P m k (la P k) = la P (k + m)
  | 0, _ => rfl
  | m + 1, k => by
    unfold la2
    have : (if P k = true then some k else la P k) = la P (k + 1) := rfl
    rw [this, la2_la m (k + 1), show k + 1 + m = k + (m + 1) by omega]
theorem la_none {P : Nat → Bool} : ∀ {n : Nat}, (∀ j, j < n → P j = false) → la P n = none
  | 0, _ => rfl
  | n + 1, h => by
    unfold la
    rw [h n (by omega), if_neg (by decide), la_none (fun j hj => h j (by omega))]
theorem fi_skip {P : Nat → Bool} : ∀ {n k m : Nat}, (∀ j, k ≤ j → j < k + n → P j = false) → fi P (n + m) k = fi P m (k + n)
  | 0, k, m, _ => by rw [Nat.zero_add]; rfl
  | n + 1, k, m, h => by
    rw [show n + 1 + m = (n + m) + 1 by omega]
    conv => lhs; unfold fi
    rw [h k (Nat.le_refl _) (by omega), if_neg (by decide), fi_skip (fun j a b => h j (by omega) (by omega)), show k + 1 + n = k + (n + 1) by omega]
def jn_code : Option (Int32 × Nat) → Int32
  | none => -1
  | some (k, p) => 100 * k + Int32.ofNat p
theorem jn_ok_mn {f : jF} {kind w : Int32} {m k : Nat} (hk : k < 12) {mn : Nat} (h : jf_ref f false (kind, Int32.ofNat k, 0, 0, 0) = 0 → bc (f.2.1 k) ≤ mn) : jn_ok f kind w m mn k = jn_ok f kind w m 12 k := by
  have b := bc_le (f.2.1 k)
  unfold jn_ok
  by_cases e : jf_ref f false (kind, Int32.ofNat k, 0, 0, 0) = 0
  · have := h e
    simp [e, this, b]
  · simp [e]
theorem jn_ref_p {f : jF} {kind : Int32} (hk : jn_3 kind) {k : Nat} (h12 : k < 12) (e : jf_ref f false (kind, Int32.ofNat k, 0, 0, 0) = 0) : bc (f.2.1 k) ≤ 2 ∧ bt f.2.2 k = true ∧ (kind = 5 → bc (f.2.1 k) ≤ 1) := by
  rcases hk with rfl | rfl | rfl
  · obtain ⟨p, hp, e1, e2, -, e3⟩ := jf_ref_0 e rfl
    have : k = p := (jk_inj (by omega) (by omega)).mp e1
    subst this
    exact ⟨e3, e2, fun q => absurd q (by decide)⟩
  · obtain ⟨p, hp, e1, e2, -, e3⟩ := jf_ref_4 e rfl
    have : k = p := (jk_inj (by omega) (by omega)).mp e1
    subst this
    exact ⟨by omega, e2, fun q => absurd q (by decide)⟩
  · obtain ⟨p, hp, e1, e2, -, e3⟩ := jf_ref_5 e rfl
    have : k = p := (jk_inj (by omega) (by omega)).mp e1
    subst this
    exact ⟨by omega, e2, fun q => by omega⟩
theorem jn_seek_mn {f : jF} {kind w : Int32} (hk : jn_3 kind) {m : Nat} (late : Bool) {mn : Nat} (h : 2 ≤ mn ∨ (kind = 5 ∧ 1 ≤ mn)) : jn_seek f kind w m late mn = jn_seek f kind w m late 12 := by
  have key : ∀ k, k < 12 → jn_ok f kind w m mn k = jn_ok f kind w m 12 k := fun k hk12 => jn_ok_mn hk12 fun e => by
    obtain ⟨a, -, c⟩ := jn_ref_p hk hk12 e
    rcases h with h | ⟨h1, h2⟩
    · omega
    · have := c h1; omega
  cases late with
  | true =>
    rw [show jn_seek f kind w m true mn = la (jn_ok f kind w m mn) 12 from if_pos rfl, show jn_seek f kind w m true 12 = la (jn_ok f kind w m 12) 12 from if_pos rfl]
    exact la_congr fun j hj => key j hj
  | false =>
    rw [show jn_seek f kind w m false mn = fi (jn_ok f kind w m mn) 12 0 from if_neg Bool.false_ne_true, show jn_seek f kind w m false 12 = fi (jn_ok f kind w m 12) 12 0 from if_neg Bool.false_ne_true]
    exact fi_congr fun j _ hj => key j (by omega)
section
variable {rc : Nat → Nat × (Nat → Int32)} {h : jxH} {b : Nat} {f : jF}
theorem rf_found_at (H : ro_at h b f) (hn : ∀ k, k < 12 → S12 (f.2.1 k)) {kind w : Int32} (hk : jn_3 kind) {mm mn k : Nat} (hmn : mn < 2 ^ 31) (k12 : k < 12) (hm : mm ≤ k) (x5 x6 : Int32) (d : Nat) : jb_181 rc (d + 6) 4 [(0, .ref b), (1, .int kind), (3, .int w), (4, .int (Int32.ofNat mn)), (5, .int x5), (6, .int x6), (7, .int (Int32.ofNat k))] [] h = jb_181 rc (d + 6) 37 [(0, .ref b), (1, .int kind), (3, .int w), (4, .int (Int32.ofNat mn)), (5, .int x5), (6, .int x6), (7, .int (Int32.ofNat k))] [.int (jk_b (jn_ok f kind w mm mn k))] h := by
  have hbc := bc_le (f.2.1 k)
  have R := rf_refused (rc := rc) H hn (kind, Int32.ofNat k, 0, 0, 0) d
  rw [je_181_4, if_neg (jk_n12 k12), rf_isThere H, jk_cI, jF_has_of k12, jk_if0]
  by_cases c0 : bt f.2.2 k = true
  · rw [if_pos c0, ro_w H k12, jk_bs]
    by_cases c2 : f.1 k = w
    · rw [if_pos c2, ro_n H k12, jk_bs, rf_many, jk_cI]
      by_cases c3 : bc (f.2.1 k) ≤ mn
      · rw [if_neg (by rw [jk_lt hmn (by omega)]; omega)]
        refine (congrArg (fun z => jx_cI z _) R).trans ?_
        rw [jk_cI]
        by_cases c4 : jf_ref f false (kind, Int32.ofNat k, 0, 0, 0) = 0
        · rw [if_pos c4, show jn_ok f kind w mm mn k = true by unfold jn_ok; simp [hm, c2, c3, c4]]; rfl
        · rw [if_neg c4, show jn_ok f kind w mm mn k = false by unfold jn_ok; simp [c4]]; rfl
      · rw [if_pos (by rw [jk_lt hmn (by omega)]; omega), show jn_ok f kind w mm mn k = false by unfold jn_ok; simp [c3]]; rfl
    · rw [if_neg c2, show jn_ok f kind w mm mn k = false by unfold jn_ok; simp [c2]]; rfl
  · rw [if_neg c0]
    have : jn_ok f kind w mm mn k = false := by
      unfold jn_ok
      by_cases c4 : jf_ref f false (kind, Int32.ofNat k, 0, 0, 0) = 0
      · exact absurd (jn_ref_p hk k12 c4).2.1 c0
      · simp [c4]
    rw [this]; rfl
theorem jk_on_neg : ∀ o : Option Nat, (∀ k, o = some k → k < 12) → ((0 : Int32) ≤ jk_on o ↔ o.isSome = true)
  | none, _ => by simp [jk_on]
  | some k, h => by
    simp [jk_on]
    exact jk_ge (by have := h k rfl; omega)
theorem rf_found_f (H : ro_at h b f) (hn : ∀ k, k < 12 → S12 (f.2.1 k)) {kind w : Int32} (hk : jn_3 kind) {mm mn : Nat} (hmn : mn < 2 ^ 31) (d : Nat) : ∀ (n k : Nat) (acc : Option Nat), k + n = 12 → mm ≤ k → (∀ j, acc = some j → j < 12) → jb_181 rc (d + 6) 4 [(0, .ref b), (1, .int kind), (3, .int w), (4, .int (Int32.ofNat mn)), (5, .int 0), (6, .int (jk_on acc)), (7, .int (Int32.ofNat k))] [] h = some (some (.int (jk_on (match acc with | some j => some j | none => fi (jn_ok f kind w mm mn) n k))), h)
  | 0, k, acc, e, hm, ha => by
    obtain rfl : k = 12 := by omega
    rw [je_181_4, if_pos (by decide)]
    cases acc <;> rfl
  | n + 1, k, acc, e, hm, ha => by
    have k12 : k < 12 := by omega
    rw [rf_found_at H hn hk hmn k12 hm, je_181_37, jk_if0, jk_succ]
    by_cases c : jn_ok f kind w mm mn k = true
    · rw [if_pos c, if_pos rfl]
      cases acc with
      | some j =>
        rw [if_pos ((jk_on_neg (some j) ha).mpr rfl), rf_found_f H hn hk (mm := mm) hmn d n (k + 1) (some j) (by omega) (by omega) ha]
      | none =>
        rw [if_neg (fun q => by have := (jk_on_neg none ha).mp q; cases this)]
        refine (rf_found_f H hn hk (mm := mm) hmn d n (k + 1) (some k) (by omega) (by omega) (fun j q => by cases q; exact k12)).trans ?_
        conv => rhs; unfold fi
        rw [if_pos c]
    · rw [if_neg c, rf_found_f H hn hk (mm := mm) hmn d n (k + 1) acc (by omega) (by omega) ha]
      cases acc with
      | some j => rfl
      | none =>
        conv => rhs; unfold fi
        rw [if_neg c]
theorem rf_found_l (H : ro_at h b f) (hn : ∀ k, k < 12 → S12 (f.2.1 k)) {kind w : Int32} (hk : jn_3 kind) {mm mn : Nat} (hmn : mn < 2 ^ 31) (d : Nat) : ∀ (n k : Nat) (acc : Option Nat), k + n = 12 → mm ≤ k → jb_181 rc (d + 6) 4 [(0, .ref b), (1, .int kind), (3, .int w), (4, .int (Int32.ofNat mn)), (5, .int 1), (6, .int (jk_on acc)), (7, .int (Int32.ofNat k))] [] h = some (some (.int (jk_on (la2 (jn_ok f kind w mm mn) n k acc))), h)
  | 0, k, acc, e, hm => by
    obtain rfl : k = 12 := by omega
    rw [je_181_4, if_pos (by decide)]
    rfl
  | n + 1, k, acc, e, hm => by
    have k12 : k < 12 := by omega
    rw [rf_found_at H hn hk hmn k12 hm, je_181_37, jk_if0, jk_succ]
    conv => rhs; unfold la2
    by_cases c : jn_ok f kind w mm mn k = true
    · rw [if_pos c, if_neg (by decide), if_pos c]
      exact rf_found_l H hn hk hmn d n (k + 1) (some k) (by omega) (by omega)
    · rw [if_neg c, if_neg c]
      exact rf_found_l H hn hk hmn d n (k + 1) acc (by omega) (by omega)
theorem rf_found (H : ro_at h b f) (hn : ∀ k, k < 12 → S12 (f.2.1 k)) {kind w : Int32} (hk : jn_3 kind) {mm mn : Nat} (hm : mm ≤ 12) (hmn : mn < 2 ^ 31) (late : Bool) (d : Nat) : jx_C rc (d + 7) 181 [.ref b, .int kind, .int (Int32.ofNat mm), .int w, .int (Int32.ofNat mn), .int (jk_b late)] h = some (some (.int (jk_on (jn_seek f kind w mm late mn))), h) := by
  have below : ∀ j, j < mm → jn_ok f kind w mm mn j = false := fun j hj => by unfold jn_ok; simp [show ¬ mm ≤ j by omega]
  rw [je_181]
  cases late with
  | false =>
    rw [jk_bf, show jn_seek f kind w mm false mn = fi (jn_ok f kind w mm mn) 12 0 from if_neg Bool.false_ne_true]
    refine (rf_found_f (rc := rc) H hn hk hmn d (12 - mm) mm none (by omega) (Nat.le_refl _) (fun j q => by cases q)).trans ?_
    have := fi_skip (P := jn_ok f kind w mm mn) (n := mm) (k := 0) (m := 12 - mm) (fun j _ hj => below j (by omega))
    rw [show mm + (12 - mm) = 12 by omega, Nat.zero_add] at this
    rw [this]
  | true =>
    rw [jk_bt, show jn_seek f kind w mm true mn = la (jn_ok f kind w mm mn) 12 from if_pos rfl]
    refine (rf_found_l (rc := rc) H hn hk hmn d (12 - mm) mm none (by omega) (Nat.le_refl _)).trans ?_
    have := la2_la (P := jn_ok f kind w mm mn) (12 - mm) mm
    rw [la_none below, show mm + (12 - mm) = 12 by omega] at this
    rw [this]
theorem jn_seek_lt {kind w : Int32} {mm mn : Nat} {late : Bool} {j : Nat} (e : jn_seek f kind w mm late mn = some j) : j < 12 ∧ jn_ok f kind w mm mn j = true := by
  cases late with
  | false =>
    rw [show jn_seek f kind w mm false mn = fi (jn_ok f kind w mm mn) 12 0 from if_neg Bool.false_ne_true] at e
    obtain ⟨-, b, c⟩ := fi_some e; exact ⟨by omega, c⟩
  | true =>
    rw [show jn_seek f kind w mm true mn = la (jn_ok f kind w mm mn) 12 from if_pos rfl] at e
    exact la_some e
theorem jk_on_lt0 {o : Option Nat} (h : ∀ k, o = some k → k < 12) : (jk_on o < 0) = (o = none) := by
  cases o with
  | none => exact propext ⟨fun _ => rfl, fun _ => by decide⟩
  | some k => exact propext ⟨fun q => absurd q (jk_nn (k := k) (by have := h k rfl; omega)), fun q => by cases q⟩
theorem jk_on_ge0 {o : Option Nat} (h : ∀ k, o = some k → k < 12) : ((0 : Int32) ≤ jk_on o) = ¬ (o = none) := by
  cases o with
  | none => exact propext ⟨fun q => absurd q (by decide), fun q => absurd rfl q⟩
  | some k => exact propext ⟨fun _ q => (by cases q), fun _ => jk_ge (k := k) (by have := h k rfl; omega)⟩
/-- nextOf() -/
theorem rf_nextOf (H : ro_at h b f) (hn : ∀ k, k < 12 → S12 (f.2.1 k)) (kind : Int32) {mm : Nat} (hm : mm ≤ 12) (d : Nat) : jx_C rc (d + 8) 182 [.ref b, .int kind, .int (Int32.ofNat mm)] h = some (some (.int (jn_code (jn_plan f kind mm))), h) := by
  have F : ∀ (k w : Int32) (hk : jn_3 k) (mn : Nat) (hmn : mn < 2 ^ 31) (late : Bool), jx_C rc (d + 7) 181 [.ref b, .int k, .int (Int32.ofNat mm), .int w, .int (Int32.ofNat mn), .int (jk_b late)] h = some (some (.int (jk_on (jn_seek f k w mm late mn))), h) := fun k w hk mn hmn late => rf_found H hn hk hm hmn late d
  have F1 : jx_C rc (d + 7) 181 [.ref b, .int 5, .int (Int32.ofNat mm), .int 0, .int 12, .int 0] h = some (some (.int (jk_on (jn_seek f 5 0 mm false 1))), h) := by rw [jn_seek_mn (Or.inr (Or.inr rfl)) false (Or.inr ⟨rfl, by decide⟩)]; exact F 5 0 (Or.inr (Or.inr rfl)) 12 (by decide) false
  have F2 : jx_C rc (d + 7) 181 [.ref b, .int 4, .int (Int32.ofNat mm), .int 0, .int 12, .int 0] h = some (some (.int (jk_on (jn_seek f 4 0 mm false 2))), h) := by rw [jn_seek_mn (Or.inr (Or.inl rfl)) false (Or.inl (by decide))]; exact F 4 0 (Or.inr (Or.inl rfl)) 12 (by decide) false
  have F3 : jx_C rc (d + 7) 181 [.ref b, .int 0, .int (Int32.ofNat mm), .int (-1), .int 12, .int 0] h = some (some (.int (jk_on (jn_seek f 0 (-1) mm false 2))), h) := by rw [jn_seek_mn (Or.inl rfl) false (Or.inl (by decide))]; exact F 0 (-1) (Or.inl rfl) 12 (by decide) false
  have F4 : jx_C rc (d + 7) 181 [.ref b, .int 0, .int (Int32.ofNat mm), .int (-1), .int 12, .int 1] h = some (some (.int (jk_on (jn_seek f 0 (-1) mm true 2))), h) := by rw [jn_seek_mn (Or.inl rfl) true (Or.inl (by decide))]; exact F 0 (-1) (Or.inl rfl) 12 (by decide) true
  have F5 : jx_C rc (d + 7) 181 [.ref b, .int 0, .int (Int32.ofNat mm), .int 1, .int 12, .int 0] h = some (some (.int (jk_on (jn_seek f 0 1 mm false 2))), h) := by rw [jn_seek_mn (Or.inl rfl) false (Or.inl (by decide))]; exact F 0 1 (Or.inl rfl) 12 (by decide) false
  have F6 : jx_C rc (d + 7) 181 [.ref b, .int 0, .int (Int32.ofNat mm), .int 1, .int 12, .int 1] h = some (some (.int (jk_on (jn_seek f 0 1 mm true 2))), h) := by rw [jn_seek_mn (Or.inl rfl) true (Or.inl (by decide))]; exact F 0 1 (Or.inl rfl) 12 (by decide) true
  have F7 : jx_C rc (d + 7) 181 [.ref b, .int 0, .int (Int32.ofNat mm), .int (-1), .int 1, .int 0] h = some (some (.int (jk_on (jn_seek f 0 (-1) mm false 1))), h) := F 0 (-1) (Or.inl rfl) 1 (by decide) false
  have L : ∀ {k w : Int32} {late : Bool} {mn : Nat}, ∀ j, jn_seek f k w mm late mn = some j → j < 12 := fun j e => (jn_seek_lt e).1
  rw [je_182]
  by_cases c4 : kind = 4
  · subst c4
    rw [show jn_plan f 4 mm = jn_or (jn_mk 5 (jn_seek f 5 0 mm false 1)) (jn_or (jn_mk 4 (jn_seek f 4 0 mm false 2)) (jn_mk 0 (jn_seek f 0 (-1) mm false 2))) from rfl]
    simp only [if_true, F1, jk_cI, jk_on_lt0 (L (k := 5) (w := 0) (late := false) (mn := 1)), je_182_19, je_182_25, F2, jk_on_lt0 (L (k := 4) (w := 0) (late := false) (mn := 2)), je_182_55, F3, jk_on_ge0 (L (k := 0) (w := -1) (late := false) (mn := 2))]
    cases e1 : jn_seek f 5 0 mm false 1 with
    | some j => simp [jn_mk, jn_or, jn_code, jk_on]
    | none =>
      cases e2 : jn_seek f 4 0 mm false 2 with
      | some j => simp [jn_mk, jn_or, jn_code, jk_on]
      | none =>
        cases e3 : jn_seek f 0 (-1) mm false 2 with
        | some j => simp [jn_mk, jn_or, jn_code, jk_on]
        | none => simp [jn_mk, jn_or, jn_code, jk_on]
  · rw [if_neg c4, je_182_19]
    by_cases c2 : kind = 2
    · subst c2
      rw [show jn_plan f 2 mm = jn_or (jn_mk 4 (jn_seek f 4 0 mm false 2)) (jn_mk 0 (jn_seek f 0 (-1) mm false 2)) from rfl]
      simp only [if_true, jk_cI, je_182_25, F2, jk_on_lt0 (L (k := 4) (w := 0) (late := false) (mn := 2)), je_182_55, F3, jk_on_ge0 (L (k := 0) (w := -1) (late := false) (mn := 2))]
      cases e2 : jn_seek f 4 0 mm false 2 with
      | some j => simp [jn_mk, jn_or, jn_code, jk_on]
      | none =>
        cases e3 : jn_seek f 0 (-1) mm false 2 with
        | some j => simp [jn_mk, jn_or, jn_code, jk_on]
        | none => simp [jn_mk, jn_or, jn_code, jk_on]
    · rw [if_neg c2, if_neg c4]
      by_cases c5 : kind = 5
      · subst c5
        rw [show jn_plan f 5 mm = jn_mk 0 (jn_seek f 0 (-1) mm false 1) from rfl]
        rw [if_pos rfl, if_neg (by decide), je_182_55, F7, jk_cI]
        simp only [jk_on_ge0 (L (k := 0) (w := -1) (late := false) (mn := 1))]
        cases e3 : jn_seek f 0 (-1) mm false 1 with
        | some j => simp [jn_mk, jn_code, jk_on]
        | none => simp [jn_mk, jn_code, jk_on]
      · rw [if_neg c5]
        by_cases c3 : kind = 3
        · subst c3
          rw [show jn_plan f 3 mm = jn_or (jn_mk 0 (jn_seek f 0 (-1) mm true 2)) (jn_mk 0 (jn_seek f 0 1 mm true 2)) from rfl]
          rw [if_pos rfl, je_182_55, F4, jk_cI]
          simp only [jk_on_ge0 (L (k := 0) (w := -1) (late := true) (mn := 2))]
          cases e3 : jn_seek f 0 (-1) mm true 2 with
          | some j => simp [jn_mk, jn_or, jn_code, jk_on]
          | none =>
            rw [if_neg (by simp), if_neg (by decide), if_pos trivial, if_pos trivial, F6, jk_cI]
            cases e4 : jn_seek f 0 1 mm true 2 with
            | some j => simp [jn_mk, jn_or, jn_code, jk_on]
            | none => simp [jn_mk, jn_or, jn_code, jk_on]
        · rw [if_neg c3, je_182_55, F3, jk_cI]
          simp only [jk_on_ge0 (L (k := 0) (w := -1) (late := false) (mn := 2))]
          by_cases c1 : kind = 1
          · subst c1
            rw [show jn_plan f 1 mm = jn_or (jn_mk 0 (jn_seek f 0 (-1) mm false 2)) (jn_mk 0 (jn_seek f 0 1 mm false 2)) from rfl]
            cases e3 : jn_seek f 0 (-1) mm false 2 with
            | some j => simp [jn_mk, jn_or, jn_code, jk_on]
            | none =>
              rw [if_neg (by simp), if_pos rfl, if_neg (by decide), F5, jk_cI]
              cases e4 : jn_seek f 0 1 mm false 2 with
              | some j => simp [jn_mk, jn_or, jn_code, jk_on]
              | none => simp [jn_mk, jn_or, jn_code, jk_on]
          · have : jn_plan f kind mm = jn_mk 0 (jn_seek f 0 (-1) mm false 2) := by unfold jn_plan; rw [if_neg c1, if_neg c2, if_neg c3, if_neg c4, if_neg c5]
            rw [this, if_neg c1, if_neg c3]
            cases e3 : jn_seek f 0 (-1) mm false 2 with
            | some j => simp [jn_mk, jn_code, jk_on]
            | none => simp [jn_mk, jn_code, jk_on]
end
end
section
/-! What stands in the heap between calls: the class's objects from 0 to 335, the reference's from 336 to 450, shelves' forests and sheets from 451 on -/
def wk_ok (h : jxH) (a : Nat) : Prop := (∃ sz sn : Int32, jx_at h a = jxO 10 [.ref (a + 1), .ref (a + 2), .ref (a + 3), .int sz, .int sn]) ∧ (∃ g, jx_at h (a + 1) = jxI 0 12 g) ∧ (∃ g, jx_at h (a + 2) = jxI 0 12 g) ∧ ∃ g, jx_at h (a + 3) = jxI 0 12 g
def tx_ok (h : jxH) (a : Nat) : Prop := (∃ n : Int32, jx_at h a = jxO 8 [.ref (a + 1), .int n]) ∧ ∃ g, jx_at h (a + 1) = jxI 2 60 g
def sp_ok (h : jxH) (a : Nat) : Prop := jx_at h a = jxO 5 [.ref (a + 1), .ref (a + 5), .ref (a + 6)] ∧ wk_ok h (a + 1) ∧ (∃ Q, jx_at h (a + 5) = jxQ 7 12 Q ∧ ∀ i, i < 12 → Q i = some (a + 7 + 4 * i)) ∧ (∃ Q, jx_at h (a + 6) = jxQ 7 12 Q ∧ ∀ i, i < 12 → Q i = some (a + 9 + 4 * i)) ∧ ∀ i, i < 12 → tx_ok h (a + 7 + 4 * i) ∧ tx_ok h (a + 9 + 4 * i)
def rk_ok (h : jxH) (a : Nat) : Prop := (∃ (u l : Int64) (i1 i2 i3 i4 i5 i6 : Int32), jx_at h a = jxO 2 [.ref (a + 1), .ref (a + 5), .ref (a + 6), .ref (a + 7), .long u, .long l, .int i1, .int i2, .int i3, .int i4, .int i5, .int i6]) ∧ wk_ok h (a + 1) ∧ (∃ g, jx_at h (a + 5) = jxL 12 g) ∧ (∃ g, jx_at h (a + 6) = jxL 12 g) ∧ ∃ g, jx_at h (a + 7) = jxI 0 12 g
def st_ok (h : jxH) (t : Nat) : Prop := (∃ m sg, st_at h t m sg) ∧ ∃ f, fo_at h (t + 1) f
def se_ok (h : jxH) (a : Nat) : Prop := (∃ i1 i2 i3 i4 i5 : Int32, jx_at h a = jxO 3 [.ref (a + 1), .ref (a + 2), .ref (a + 6), .ref (a + 61), .ref (a + 63), .int i1, .int i2, .int i3, .int i4, .int i5]) ∧ (∃ Q, jx_at h (a + 1) = jxQ 4 4 Q ∧ ∀ i, i < 4 → Q i = some (a + 65 + 3 * i)) ∧ st_ok h (a + 2) ∧ sp_ok h (a + 6) ∧ tx_ok h (a + 61) ∧ tx_ok h (a + 63) ∧ ∀ i, i < 4 → ∃ f, fo_at h (a + 65 + 3 * i) f
/-- the class's scratch: thought, step, walk, reckoner, speller, spelled, search -/
def c_scr (h : jxH) : Prop := (∃ f, fo_at h 5 f) ∧ st_ok h 8 ∧ wk_ok h 174 ∧ rk_ok h 178 ∧ sp_ok h 186 ∧ tx_ok h 241 ∧ se_ok h 243
def c_scrP (x : Nat) : Prop := (5 ≤ x ∧ x < 12) ∨ (174 ≤ x ∧ x < 320)
-- the trail: how many are done, how many known, moves, signs, forests ahead of them (and behind the last)
abbrev jT := Nat × Nat × (Nat → jM) × (Nat → Int32) × (Nat → jF)
def tr_F (t : jT) : jF := t.2.2.2.2 t.1
def tr_0 (t : jT) (f : jF) : jT := (0, 0, t.2.2.1, t.2.2.2.1, fun _ => f)
def c_told (h : jxH) (T : Nat → Int32) : Prop := ∃ G, jx_at h 1 = jxI 0 8 G ∧ ∀ k, k < 8 → G k = T k
def c_tr (h : jxH) (t : jT) : Prop := jx_at h 12 = jxO 9 [.ref 13, .int (Int32.ofNat t.1), .int (Int32.ofNat t.2.1)] ∧ (∃ Q, jx_at h 13 = jxQ 6 40 Q ∧ ∀ i, i < 40 → Q i = some (14 + 4 * i)) ∧ (∀ i, i < 40 → st_ok h (14 + 4 * i)) ∧ ∀ i, i < t.2.1 → st_at h (14 + 4 * i) (t.2.2.1 i) (t.2.2.2.1 i) ∧ fo_at h (15 + 4 * i) (t.2.2.2.2 i)
-- workers: how many, their kinds, numbers, jobs
abbrev jC := Nat × (Nat → Int32) × (Nat → Nat) × (Nat → Nat)
def cr_at (h : jxH) (a : Nat) (c : jC) : Prop := jx_at h a = jxO 0 [.ref (a + 1), .ref (a + 2), .ref (a + 3), .int (Int32.ofNat c.1)] ∧ (∃ g, jx_at h (a + 1) = jxI 0 6 g ∧ ∀ i, i < c.1 → g i = c.2.1 i) ∧ (∃ g, jx_at h (a + 2) = jxI 0 6 g ∧ ∀ i, i < c.1 → g i = Int32.ofNat (c.2.2.1 i)) ∧ ∃ g, jx_at h (a + 3) = jxI 0 6 g ∧ ∀ i, i < c.1 → g i = Int32.ofNat (c.2.2.2 i)
def cr_W (c : jC) : Prop := c.1 ≤ 6 ∧ ∀ i, i < c.1 → jp_kind (c.2.1 i) = true ∧ c.2.2.1 i ≤ 9 ∧ c.2.2.2 i ≤ 9999
abbrev jP := Nat × (Nat → Int32)
def tp_at (h : jxH) (p : jP) : Prop := jx_at h 320 = jxO 7 [.ref 321, .ref 322, .int (Int32.ofNat p.1)] ∧ (∃ g, jx_at h 321 = jxI 0 120 g ∧ ∀ i, i < p.1 → g i = p.2 i) ∧ ∃ g, jx_at h 322 = jxI 0 12 g
-- shelves; sheets: bits, how many, numbers
abbrev jH := Nat → Option jF
abbrev jE := Nat → Option (Int32 × Nat × (Nat → Int32))
def c_dyn (h : jxH) (sh : jH) (ss : jE) : Prop := ∃ Q R : Nat → Option Nat, jx_at h 323 = jxQ 4 4 Q ∧ jx_at h 324 = jxQ 5 4 R ∧ 451 ≤ h.1 ∧ (∀ i, i < 4 → (sh i = none ∧ Q i = none) ∨ ∃ f b, sh i = some f ∧ Q i = some b ∧ 451 ≤ b ∧ b + 3 ≤ h.1 ∧ fo_at h b f) ∧ (∀ i, i < 4 → (ss i = none ∧ R i = none) ∨ ∃ e b, ss i = some e ∧ R i = some b ∧ 451 ≤ b ∧ b + 2 ≤ h.1 ∧ jx_at h b = jxO 4 [.int e.1, .ref (b + 1)] ∧ ∃ g, jx_at h (b + 1) = jxI 0 e.2.1 g ∧ ∀ k, k < e.2.1 → g k = e.2.2 k) ∧ (∀ i j b b', i < 4 → j < 4 → i ≠ j → R i = some b → R j = some b' → b + 2 ≤ b' ∨ b' + 2 ≤ b) ∧ ∀ i j b b', i < 4 → j < 4 → R i = some b → Q j = some b' → b + 2 ≤ b' ∨ b' + 3 ≤ b
abbrev jG := Option (jF × jC)
def c_im (h : jxH) (im : jG) : Prop := jx_at h 0 = jxO 11 [.ref 1, .ref 2, .ref 5, .ref 8, .ref 12, .ref 174, .ref 178, .ref 186, .ref 241, .ref 243, .ref 320, .ref 323, .ref 324, .ref 325, .ref 329, .ref 332, .int (jk_b im.isSome)] ∧ (∃ f, fo_at h 329 f) ∧ (∃ c, cr_at h 332 c) ∧ ∀ f c, im = some (f, c) → fo_at h 329 f ∧ cr_at h 332 c
/-- the class -/
def CS (h : jxH) (T : Nat → Int32) (t : jT) (sh : jH) (ss : jE) (c : jC) (im : jG) (p : jP) : Prop := c_told h T ∧ fo_at h 2 (tr_F t) ∧ c_tr h t ∧ c_dyn h sh ss ∧ cr_at h 325 c ∧ c_im h im ∧ tp_at h p ∧ c_scr h
-- what always holds of the numbers
def tr_W (t : jT) : Prop := t.1 ≤ t.2.1 ∧ t.2.1 ≤ 40 ∧ jf_W (t.2.2.2.2 0) ∧ ∀ i, i < t.2.1 → jf_ref (t.2.2.2.2 i) false (t.2.2.1 i) = 0 ∧ t.2.2.2.2 (i + 1) = jf_act (t.2.2.2.2 i) (t.2.2.1 i) ∧ jm_norm (t.2.2.1 i) = t.2.2.1 i
def sh_W (sh : jH) : Prop := ∀ i f, i < 4 → sh i = some f → jf_W f
def ss_W (ss : jE) : Prop := ∀ i e, i < 4 → ss i = some e → (e.1 = 8 ∨ e.1 = 16 ∨ e.1 = 32) ∧ e.2.1 ≤ 24
def im_W (im : jG) : Prop := ∀ f c, im = some (f, c) → jf_W f ∧ cr_W c
def p_W (p : jP) : Prop := p.1 ≤ 120
def AW (t : jT) (sh : jH) (ss : jE) (c : jC) (im : jG) (p : jP) : Prop := tr_W t ∧ sh_W sh ∧ ss_W ss ∧ cr_W c ∧ im_W im ∧ p_W p
/-- what of the reference's object changes: done, all, taped, at, isWrong, texted, dues, hired, three of fewest, keptHired, isKept -/
def m_obj (done all taped at_ wrong texted dues hired fl fm ff kh ik : Int32) : jxE := jxO 12 [.ref 337, .ref 338, .ref 339, .ref 381, .int done, .int all, .ref 382, .ref 383, .ref 384, .ref 385, .ref 398, .int taped, .int at_, .int wrong, .ref 399, .ref 400, .ref 401, .ref 414, .ref 415, .ref 428, .ref 429, .int texted, .ref 430, .ref 435, .ref 436, .int dues, .ref 437, .int hired, .ref 438, .int fl, .int fm, .int ff, .ref 445, .ref 446, .ref 447, .ref 448, .ref 449, .ref 450, .int kh, .int ik]
def m_rows (h : jxH) (a n b : Nat) : Prop := ∃ Q, jx_at h a = jxQ 8 n Q ∧ ∀ i, i < n → Q i = some (b + i)
def m_told (h : jxH) (T : Nat → Int32) : Prop := ∃ G, jx_at h 337 = jxI 0 8 G ∧ ∀ k, k < 8 → G k = T k
def m_tr (h : jxH) (t : jT) : Prop := m_rows h 339 41 340 ∧ (∀ i, i < 41 → ∃ f, ro_at h (340 + i) f) ∧ (∀ i, i ≤ t.2.1 → t.2.1 = 0 ∨ ro_at h (340 + i) (t.2.2.2.2 i)) ∧ ∃ D, jx_at h 381 = jxI 0 240 D ∧ ∀ i, i < t.2.1 → D (6 * i) = (t.2.2.1 i).1 ∧ D (6 * i + 1) = (t.2.2.1 i).2.1 ∧ D (6 * i + 2) = (t.2.2.1 i).2.2.1 ∧ D (6 * i + 3) = (t.2.2.1 i).2.2.2.1 ∧ D (6 * i + 4) = (t.2.2.1 i).2.2.2.2 ∧ D (6 * i + 5) = t.2.2.2.1 i
def m_sh (h : jxH) (sh : jH) : Prop := m_rows h 430 4 431 ∧ (∃ B, jx_at h 435 = jxI 3 4 B ∧ ∀ i, i < 4 → B i = jk_b (sh i).isSome) ∧ ∀ i, i < 4 → (∃ f, ro_at h (431 + i) f) ∧ ∀ f, sh i = some f → ro_at h (431 + i) f
def e_bits (e : Option (Int32 × Nat × (Nat → Int32))) : Int32 := match e with
  | some e => e.1
  | none => 0
def e_size (e : Option (Int32 × Nat × (Nat → Int32))) : Nat := match e with
  | some e => e.2.1
  | none => 0
def m_ss (h : jxH) (ss : jE) : Prop := (∃ B, jx_at h 445 = jxI 0 4 B ∧ ∀ i, i < 4 → B i = e_bits (ss i)) ∧ (∃ B, jx_at h 446 = jxI 0 4 B ∧ ∀ i, i < 4 → B i = Int32.ofNat (e_size (ss i))) ∧ (∃ B, jx_at h 447 = jxI 0 96 B ∧ ∀ i e k, i < 4 → ss i = some e → k < e.2.1 → B (24 * i + k) = e.2.2 k) ∧ ∃ B, jx_at h 448 = jxI 0 24 B
def m_crew (h : jxH) (a : Nat) (c : jC) : Prop := ∃ G, jx_at h a = jxI 0 18 G ∧ ∀ i, i < c.1 → G (3 * i) = c.2.1 i ∧ G (3 * i + 1) = Int32.ofNat (c.2.2.1 i) ∧ G (3 * i + 2) = Int32.ofNat (c.2.2.2 i)
def m_tape (h : jxH) (p : jP) : Prop := ∃ G, jx_at h 398 = jxI 0 120 G ∧ ∀ i, i < p.1 → G i = p.2 i
def m_im (h : jxH) (im : jG) : Prop := (∃ f, ro_at h 449 f) ∧ (∃ G, jx_at h 450 = jxI 0 18 G) ∧ ∀ f c, im = some (f, c) → ro_at h 449 f ∧ m_crew h 450 c
/-- its scratch: minors, sums, terms, rows, read, open, hang, hangs, best, bests, text, due, thought -/
def m_scr (h : jxH) : Prop := (∃ g, jx_at h 382 = jxL 4096 g) ∧ (∃ g, jx_at h 383 = jxL 4096 g) ∧ (∃ g, jx_at h 384 = jxL 13 g) ∧ m_rows h 385 12 386 ∧ (∀ i, i < 12 → ∃ g, jx_at h (386 + i) = jxI 0 12 g) ∧ (∃ f, ro_at h 399 f) ∧ (∃ g, jx_at h 400 = jxI 0 12 g) ∧ m_rows h 401 12 402 ∧ (∀ i, i < 12 → ∃ g, jx_at h (402 + i) = jxI 0 64 g) ∧ (∃ g, jx_at h 414 = jxI 0 12 g) ∧ m_rows h 415 12 416 ∧ (∀ i, i < 12 → ∃ g, jx_at h (416 + i) = jxI 0 64 g) ∧ (∃ g, jx_at h 428 = jxI 0 12 g) ∧ (∃ g, jx_at h 429 = jxI 0 64 g) ∧ (∃ g, jx_at h 436 = jxI 0 64 g) ∧ m_rows h 438 6 439 ∧ ∀ i, i < 6 → ∃ f, ro_at h (439 + i) f
def im_n (im : jG) : Nat := match im with
  | some q => q.2.1
  | none => 0
/-- the reference -/
def RS (h : jxH) (T : Nat → Int32) (t : jT) (sh : jH) (ss : jE) (c : jC) (im : jG) (p : jP) : Prop := (∃ at_ wrong texted dues fl fm ff kh : Int32, jx_at h 336 = m_obj (Int32.ofNat t.1) (Int32.ofNat t.2.1) (Int32.ofNat p.1) at_ wrong texted dues (Int32.ofNat c.1) fl fm ff kh (jk_b im.isSome) ∧ (im.isSome = true → kh = Int32.ofNat (im_n im))) ∧ m_told h T ∧ ro_at h 338 (tr_F t) ∧ m_tr h t ∧ m_sh h sh ∧ m_ss h ss ∧ m_crew h 437 c ∧ m_im h im ∧ m_tape h p ∧ m_scr h
-- frames
section
variable {h h' : jxH} {P : Nat → Prop} {a : Nat}
theorem wk_fr (F : Fr P h h') (hP : ∀ x, a ≤ x → x < a + 4 → ¬ P x) (H : wk_ok h a) : wk_ok h' a := by
  obtain ⟨⟨sz, sn, o⟩, ⟨g1, e1⟩, ⟨g2, e2⟩, g3, e3⟩ := H
  have k := fun x h1 h2 => F.2.2 x (hP x h1 h2)
  exact ⟨⟨sz, sn, (k a (by omega) (by omega)).trans o⟩, ⟨g1, (k _ (by omega) (by omega)).trans e1⟩, ⟨g2, (k _ (by omega) (by omega)).trans e2⟩, g3, (k _ (by omega) (by omega)).trans e3⟩
theorem tx_fr (F : Fr P h h') (hP : ∀ x, a ≤ x → x < a + 2 → ¬ P x) (H : tx_ok h a) : tx_ok h' a := by
  obtain ⟨⟨n, o⟩, g1, e1⟩ := H
  have k := fun x h1 h2 => F.2.2 x (hP x h1 h2)
  exact ⟨⟨n, (k a (by omega) (by omega)).trans o⟩, g1, (k _ (by omega) (by omega)).trans e1⟩
theorem sp_fr (F : Fr P h h') (hP : ∀ x, a ≤ x → x < a + 55 → ¬ P x) (H : sp_ok h a) : sp_ok h' a := by
  obtain ⟨o, w, ⟨Q, q1, q2⟩, ⟨R, r1, r2⟩, t⟩ := H
  have k := fun x h1 h2 => F.2.2 x (hP x h1 h2)
  refine ⟨(k a (by omega) (by omega)).trans o, wk_fr F (fun x h1 h2 => hP x (by omega) (by omega)) w, ⟨Q, (k _ (by omega) (by omega)).trans q1, q2⟩, ⟨R, (k _ (by omega) (by omega)).trans r1, r2⟩, fun i hi => ⟨tx_fr F (fun x h1 h2 => hP x (by omega) (by omega)) (t i hi).1, tx_fr F (fun x h1 h2 => hP x (by omega) (by omega)) (t i hi).2⟩⟩
theorem rk_fr (F : Fr P h h') (hP : ∀ x, a ≤ x → x < a + 8 → ¬ P x) (H : rk_ok h a) : rk_ok h' a := by
  obtain ⟨⟨u, l, i1, i2, i3, i4, i5, i6, o⟩, w, ⟨g1, e1⟩, ⟨g2, e2⟩, g3, e3⟩ := H
  have k := fun x h1 h2 => F.2.2 x (hP x h1 h2)
  exact ⟨⟨u, l, i1, i2, i3, i4, i5, i6, (k a (by omega) (by omega)).trans o⟩, wk_fr F (fun x h1 h2 => hP x (by omega) (by omega)) w, ⟨g1, (k _ (by omega) (by omega)).trans e1⟩, ⟨g2, (k _ (by omega) (by omega)).trans e2⟩, g3, (k _ (by omega) (by omega)).trans e3⟩
theorem sk_fr (F : Fr P h h') (hP : ∀ x, a ≤ x → x < a + 4 → ¬ P x) (H : st_ok h a) : st_ok h' a := by
  obtain ⟨⟨m, sg, o⟩, f, g⟩ := H
  exact ⟨⟨m, sg, st_fr F (hP a (by omega) (by omega)) o⟩, f, fo_fr F (fun x h1 h2 => hP x (by omega) (by omega)) g⟩
theorem se_fr (F : Fr P h h') (hP : ∀ x, a ≤ x → x < a + 77 → ¬ P x) (H : se_ok h a) : se_ok h' a := by
  obtain ⟨⟨i1, i2, i3, i4, i5, o⟩, ⟨Q, q1, q2⟩, s, p, t1, t2, fs⟩ := H
  have k := fun x h1 h2 => F.2.2 x (hP x h1 h2)
  refine ⟨⟨i1, i2, i3, i4, i5, (k a (by omega) (by omega)).trans o⟩, ⟨Q, (k _ (by omega) (by omega)).trans q1, q2⟩, sk_fr F (fun x h1 h2 => hP x (by omega) (by omega)) s, sp_fr F (fun x h1 h2 => hP x (by omega) (by omega)) p, tx_fr F (fun x h1 h2 => hP x (by omega) (by omega)) t1, tx_fr F (fun x h1 h2 => hP x (by omega) (by omega)) t2, fun i hi => ?_⟩
  obtain ⟨f, g⟩ := fs i hi
  exact ⟨f, fo_fr F (fun x h1 h2 => hP x (by omega) (by omega)) g⟩
theorem scr_fr (F : Fr P h h') (hP : ∀ x, c_scrP x → ¬ P x) (H : c_scr h) : c_scr h' := by
  obtain ⟨⟨f, g⟩, s, w, r, p, t, e⟩ := H
  exact ⟨⟨f, fo_fr F (fun x h1 h2 => hP x (by unfold c_scrP; omega)) g⟩, sk_fr F (fun x h1 h2 => hP x (by unfold c_scrP; omega)) s, wk_fr F (fun x h1 h2 => hP x (by unfold c_scrP; omega)) w, rk_fr F (fun x h1 h2 => hP x (by unfold c_scrP; omega)) r, sp_fr F (fun x h1 h2 => hP x (by unfold c_scrP; omega)) p, tx_fr F (fun x h1 h2 => hP x (by unfold c_scrP; omega)) t, se_fr F (fun x h1 h2 => hP x (by unfold c_scrP; omega)) e⟩
theorem told_fr {T : Nat → Int32} (F : Fr P h h') (hP : ¬ P 1) (H : c_told h T) : c_told h' T := by
  obtain ⟨G, e, q⟩ := H
  exact ⟨G, (F.2.2 1 hP).trans e, q⟩
theorem tr_fr {t : jT} (F : Fr P h h') (hP : ∀ x, 12 ≤ x → x < 174 → ¬ P x) (ht : t.2.1 ≤ 40) (H : c_tr h t) : c_tr h' t := by
  obtain ⟨o, ⟨Q, q1, q2⟩, s, k⟩ := H
  have e := fun x h1 h2 => F.2.2 x (hP x h1 h2)
  exact ⟨(e 12 (by omega) (by omega)).trans o, ⟨Q, (e 13 (by omega) (by omega)).trans q1, q2⟩, fun i hi => sk_fr F (fun x h1 h2 => hP x (by omega) (by omega)) (s i hi), fun i hi => ⟨st_fr F (hP _ (by omega) (by omega)) (k i hi).1, fo_fr F (fun x h1 h2 => hP x (by omega) (by omega)) (k i hi).2⟩⟩
theorem cr_fr {c : jC} (F : Fr P h h') (hP : ∀ x, a ≤ x → x < a + 4 → ¬ P x) (H : cr_at h a c) : cr_at h' a c := by
  obtain ⟨o, ⟨g1, e1, q1⟩, ⟨g2, e2, q2⟩, g3, e3, q3⟩ := H
  have k := fun x h1 h2 => F.2.2 x (hP x h1 h2)
  exact ⟨(k a (by omega) (by omega)).trans o, ⟨g1, (k _ (by omega) (by omega)).trans e1, q1⟩, ⟨g2, (k _ (by omega) (by omega)).trans e2, q2⟩, g3, (k _ (by omega) (by omega)).trans e3, q3⟩
theorem tp_fr {p : jP} (F : Fr P h h') (hP : ∀ x, 320 ≤ x → x < 323 → ¬ P x) (H : tp_at h p) : tp_at h' p := by
  obtain ⟨o, ⟨g1, e1, q1⟩, g2, e2⟩ := H
  have k := fun x h1 h2 => F.2.2 x (hP x h1 h2)
  exact ⟨(k 320 (by omega) (by omega)).trans o, ⟨g1, (k _ (by omega) (by omega)).trans e1, q1⟩, g2, (k _ (by omega) (by omega)).trans e2⟩
theorem im_fr {im : jG} (F : Fr P h h') (h0 : ¬ P 0) (hP : ∀ x, 329 ≤ x → x < 336 → ¬ P x) (H : c_im h im) : c_im h' im := by
  obtain ⟨o, ⟨f, q⟩, ⟨c, r⟩, k⟩ := H
  exact ⟨(F.2.2 0 h0).trans o, ⟨f, fo_fr F (fun x h1 h2 => hP x (by omega) (by omega)) q⟩, ⟨c, cr_fr F (fun x h1 h2 => hP x (by omega) (by omega)) r⟩, fun f c e => ⟨fo_fr F (fun x h1 h2 => hP x (by omega) (by omega)) (k f c e).1, cr_fr F (fun x h1 h2 => hP x (by omega) (by omega)) (k f c e).2⟩⟩
theorem dyn_fr {sh : jH} {ss : jE} (F : Fr P h h') (h3 : ¬ P 323) (h4 : ¬ P 324) (hP : ∀ x, 451 ≤ x → ¬ P x) (H : c_dyn h sh ss) : c_dyn h' sh ss := by
  obtain ⟨Q, R, q, r, n, a1, a2, a3⟩ := H
  refine ⟨Q, R, (F.2.2 323 h3).trans q, (F.2.2 324 h4).trans r, by rw [F.1]; exact n, fun i hi => ?_, fun i hi => ?_, a3⟩
  · rcases a1 i hi with b | ⟨f, b, e1, e2, e3, e4, e5⟩
    · exact Or.inl b
    · exact Or.inr ⟨f, b, e1, e2, e3, by rw [F.1]; exact e4, fo_fr F (fun x h1 h2 => hP x (by omega)) e5⟩
  · rcases a2 i hi with b | ⟨f, b, e1, e2, e3, e4, e5, g, e6, e7⟩
    · exact Or.inl b
    · exact Or.inr ⟨f, b, e1, e2, e3, by rw [F.1]; exact e4, (F.2.2 b (hP b (by omega))).trans e5, g, (F.2.2 _ (hP _ (by omega))).trans e6, e7⟩
/-- a run that writes within the scratch alone -/
theorem CS_scr {T : Nat → Int32} {t : jT} {sh : jH} {ss : jE} {c : jC} {im : jG} {p : jP} (ht : t.2.1 ≤ 40) (H : CS h T t sh ss c im p) (F : Fr P h h') (hP : ∀ x, P x → c_scrP x) (S : c_scr h') : CS h' T t sh ss c im p := by
  obtain ⟨h1, h2, h3, h4, h5, h6, h7, h8⟩ := H
  have n : ∀ x, ¬ c_scrP x → ¬ P x := fun x a b => a (hP x b)
  exact ⟨told_fr F (n _ (by unfold c_scrP; omega)) h1, fo_fr F (fun x a b => n x (by unfold c_scrP; omega)) h2, tr_fr F (fun x a b => n x (by unfold c_scrP; omega)) ht h3, dyn_fr F (n _ (by unfold c_scrP; omega)) (n _ (by unfold c_scrP; omega)) (fun x a => n x (by unfold c_scrP; omega)) h4, cr_fr F (fun x a b => n x (by unfold c_scrP; omega)) h5, im_fr F (n _ (by unfold c_scrP; omega)) (fun x a b => n x (by unfold c_scrP; omega)) h6, tp_fr F (fun x a b => n x (by unfold c_scrP; omega)) h7, S⟩
theorem CS_told {T T' : Nat → Int32} {t : jT} {sh : jH} {ss : jE} {c : jC} {im : jG} {p : jP} (ht : t.2.1 ≤ 40) (H : CS h T t sh ss c im p) (F : Fr (fun x => x = 1) h h') (S : c_told h' T') : CS h' T' t sh ss c im p := by
  obtain ⟨h1, h2, h3, h4, h5, h6, h7, h8⟩ := H
  exact ⟨S, fo_fr F (fun x a b => by omega) h2, tr_fr F (fun x a b => by omega) ht h3, dyn_fr F (by omega) (by omega) (fun x a => by omega) h4, cr_fr F (fun x a b => by omega) h5, im_fr F (by omega) (fun x a b => by omega) h6, tp_fr F (fun x a b => by omega) h7, scr_fr F (fun x a => by unfold c_scrP at a; omega) h8⟩
/-- the forest becomes another one, the trail too -/
theorem CS_tr {T : Nat → Int32} {t t' : jT} {sh : jH} {ss : jE} {c : jC} {im : jG} {p : jP} (H : CS h T t sh ss c im p) (F : Fr P h h') (hP : ∀ x, P x → 2 ≤ x ∧ x < 320) (G : fo_at h' 2 (tr_F t')) (S : c_tr h' t') (K : c_scr h') : CS h' T t' sh ss c im p := by
  obtain ⟨h1, h2, h3, h4, h5, h6, h7, h8⟩ := H
  have n : ∀ x, ¬ (2 ≤ x ∧ x < 320) → ¬ P x := fun x a b => a (hP x b)
  exact ⟨told_fr F (n _ (by omega)) h1, G, S, dyn_fr F (n _ (by omega)) (n _ (by omega)) (fun x a => n x (by omega)) h4, cr_fr F (fun x a b => n x (by omega)) h5, im_fr F (n _ (by omega)) (fun x a b => n x (by omega)) h6, tp_fr F (fun x a b => n x (by omega)) h7, K⟩
theorem CS_crew {T : Nat → Int32} {t : jT} {sh : jH} {ss : jE} {c c' : jC} {im : jG} {p : jP} (ht : t.2.1 ≤ 40) (H : CS h T t sh ss c im p) (F : Fr P h h') (hP : ∀ x, P x → 325 ≤ x ∧ x < 329) (S : cr_at h' 325 c') : CS h' T t sh ss c' im p := by
  obtain ⟨h1, h2, h3, h4, h5, h6, h7, h8⟩ := H
  have n : ∀ x, ¬ (325 ≤ x ∧ x < 329) → ¬ P x := fun x a b => a (hP x b)
  exact ⟨told_fr F (n _ (by omega)) h1, fo_fr F (fun x a b => n x (by omega)) h2, tr_fr F (fun x a b => n x (by omega)) ht h3, dyn_fr F (n _ (by omega)) (n _ (by omega)) (fun x a => n x (by omega)) h4, S, im_fr F (n _ (by omega)) (fun x a b => n x (by omega)) h6, tp_fr F (fun x a b => n x (by omega)) h7, scr_fr F (fun x a => n x (by unfold c_scrP at a; omega)) h8⟩
theorem CS_tape {T : Nat → Int32} {t : jT} {sh : jH} {ss : jE} {c : jC} {im : jG} {p p' : jP} (ht : t.2.1 ≤ 40) (H : CS h T t sh ss c im p) (F : Fr P h h') (hP : ∀ x, P x → 320 ≤ x ∧ x < 323) (S : tp_at h' p') : CS h' T t sh ss c im p' := by
  obtain ⟨h1, h2, h3, h4, h5, h6, h7, h8⟩ := H
  have n : ∀ x, ¬ (320 ≤ x ∧ x < 323) → ¬ P x := fun x a b => a (hP x b)
  exact ⟨told_fr F (n _ (by omega)) h1, fo_fr F (fun x a b => n x (by omega)) h2, tr_fr F (fun x a b => n x (by omega)) ht h3, dyn_fr F (n _ (by omega)) (n _ (by omega)) (fun x a => n x (by omega)) h4, cr_fr F (fun x a b => n x (by omega)) h5, im_fr F (n _ (by omega)) (fun x a b => n x (by omega)) h6, S, scr_fr F (fun x a => n x (by unfold c_scrP at a; omega)) h8⟩
end
end
section
/-! What is reached from a vertex: layers; trees -/
theorem countP_eq_imp {p q : Nat → Bool} : ∀ {l : List Nat}, (∀ x ∈ l, p x = true → q x = true) → l.countP p = l.countP q → ∀ x ∈ l, p x = q x
  | [], _, _, x, hx => by cases hx
  | a :: l, h, e, x, hx => by
    have m : l.countP p ≤ l.countP q := List.countP_mono_left fun x hx => h x (List.mem_cons_of_mem a hx)
    rw [List.countP_cons, List.countP_cons] at e
    have ha := h a List.mem_cons_self
    have e1 : p a = q a := by
      cases u : p a <;> cases v : q a
      · rfl
      · rw [u, v] at e; simp at e; omega
      · rw [ha u] at v; cases v
      · rfl
    rw [e1] at e
    rcases List.mem_cons.mp hx with rfl | hx
    · exact e1
    · exact countP_eq_imp (fun x hx => h x (List.mem_cons_of_mem a hx)) (by omega) x hx
theorem bc_mono {x y : Int32} (h : ∀ k, k < 12 → bt x k = true → bt y k = true) : bc x ≤ bc y := List.countP_mono_left fun k hk => h k (List.mem_range.mp hk)
theorem bc_eq {x y : Int32} (hx : S12 x) (hy : S12 y) (h : ∀ k, k < 12 → bt x k = true → bt y k = true) (e : bc x = bc y) : x = y :=
  S12_ext hx hy fun k hk => countP_eq_imp (l := List.range 12) (fun j hj => h j (List.mem_range.mp hj)) e k (List.mem_range.mpr hk)
theorem bc_pos {x : Int32} {k : Nat} (hk : k < 12) (h : bt x k = true) : 0 < bc x := List.countP_pos_iff.mpr ⟨k, List.mem_range.mpr hk, h⟩
section
variable {f : jF}
def jt_acc (f : jF) (S : Int32) : Nat → Int32
  | 0 => S
  | n + 1 => if bt S n = true then jt_acc f S n ||| f.2.1 n else jt_acc f S n
def jt_L (f : jF) (p : Nat) : Nat → Int32
  | 0 => jk_bit p
  | k + 1 => jt_acc f (jt_L f p k) 12
/-- the tree of a vertex -/
def jt_T (f : jF) (p : Nat) : Int32 := jt_L f p 12
theorem jt_acc_bt (f : jF) (S : Int32) (y : Nat) : ∀ n, bt (jt_acc f S n) y = true ↔ bt S y = true ∨ ∃ x, x < n ∧ bt S x = true ∧ bt (f.2.1 x) y = true
  | 0 => ⟨Or.inl, fun h => h.resolve_right fun ⟨x, hx, _⟩ => by omega⟩
  | n + 1 => by
    unfold jt_acc
    split
    · rename_i hb
      rw [bt_or, Bool.or_eq_true, jt_acc_bt f S y n]
      constructor
      · rintro ((h | ⟨x, h1, h2, h3⟩) | h)
        · exact Or.inl h
        · exact Or.inr ⟨x, by omega, h2, h3⟩
        · exact Or.inr ⟨n, by omega, hb, h⟩
      · rintro (h | ⟨x, h1, h2, h3⟩)
        · exact Or.inl (Or.inl h)
        · by_cases q : x = n
          · subst q; exact Or.inr h3
          · exact Or.inl (Or.inr ⟨x, by omega, h2, h3⟩)
    · rename_i hb
      rw [jt_acc_bt f S y n]
      constructor
      · rintro (h | ⟨x, h1, h2, h3⟩)
        · exact Or.inl h
        · exact Or.inr ⟨x, by omega, h2, h3⟩
      · rintro (h | ⟨x, h1, h2, h3⟩)
        · exact Or.inl h
        · by_cases q : x = n
          · subst q; exact absurd h2 hb
          · exact Or.inr ⟨x, by omega, h2, h3⟩
theorem jt_L_succ (f : jF) (p k y : Nat) : bt (jt_L f p (k + 1)) y = true ↔ bt (jt_L f p k) y = true ∨ ∃ x, x < 12 ∧ bt (jt_L f p k) x = true ∧ bt (f.2.1 x) y = true := jt_acc_bt f (jt_L f p k) y 12
theorem jt_L_S (hn : ∀ k, k < 12 → S12 (f.2.1 k)) {p : Nat} (hp : p < 12) : ∀ k, S12 (jt_L f p k)
  | 0 => S12_bit hp
  | k + 1 => fun y hy => by
    cases h : bt (jt_L f p (k + 1)) y
    · rfl
    · rcases (jt_L_succ f p k y).mp h with h | ⟨x, h1, h2, h3⟩
      · rw [jt_L_S hn hp k y hy] at h; cases h
      · rw [hn x h1 y hy] at h3; cases h3
theorem jt_L_mono (f : jF) (p : Nat) {k y : Nat} (h : bt (jt_L f p k) y = true) : ∀ j, bt (jt_L f p (k + j)) y = true
  | 0 => h
  | j + 1 => (jt_L_succ f p (k + j) y).mpr (Or.inl (jt_L_mono f p h j))
theorem jt_L_le (f : jF) (p : Nat) {k j y : Nat} (hk : k ≤ j) (h : bt (jt_L f p k) y = true) : bt (jt_L f p j) y = true := by
  have := jt_L_mono f p h (j - k)
  rwa [show k + (j - k) = j by omega] at this
theorem jt_L_stop {p k : Nat} (e : jt_L f p (k + 1) = jt_L f p k) : ∀ j, jt_L f p (k + j) = jt_L f p k
  | 0 => rfl
  | j + 1 => by
    show jt_acc f (jt_L f p (k + j)) 12 = _
    rw [jt_L_stop e j]; exact e
theorem jt_L_bc (hn : ∀ k, k < 12 → S12 (f.2.1 k)) {p : Nat} (hp : p < 12) : ∀ k, (∀ j, j < k → jt_L f p (j + 1) ≠ jt_L f p j) → k + 1 ≤ bc (jt_L f p k)
  | 0, _ => bc_pos (x := jk_bit p) hp (by rw [bt_bit (by omega) (by omega)]; simp)
  | k + 1, h => by
    have i := jt_L_bc hn hp k (fun j hj => h j (by omega))
    have m : bc (jt_L f p k) ≤ bc (jt_L f p (k + 1)) := bc_mono fun y _ hy => (jt_L_succ f p k y).mpr (Or.inl hy)
    have ne : bc (jt_L f p k) ≠ bc (jt_L f p (k + 1)) := fun e => h k (by omega) (bc_eq (jt_L_S hn hp k) (jt_L_S hn hp (k + 1)) (fun y _ hy => (jt_L_succ f p k y).mpr (Or.inl hy)) e).symm
    omega
/-- how far the farthest is -/
theorem jt_ecc_ex (hn : ∀ k, k < 12 → S12 (f.2.1 k)) {p : Nat} (hp : p < 12) : ∃ k, k < 12 ∧ jt_L f p (k + 1) = jt_L f p k ∧ ∀ j, j < k → jt_L f p (j + 1) ≠ jt_L f p j := by
  have : ∃ k, k < 12 ∧ jt_L f p (k + 1) = jt_L f p k := by
    apply Classical.byContradiction
    intro q
    have := jt_L_bc hn hp 12 (fun j hj e => q ⟨j, hj, e⟩)
    have := bc_le (jt_L f p 12)
    omega
  obtain ⟨k, hk, e⟩ := this
  induction k using Nat.strongRecOn with
  | ind k ih =>
    by_cases q : ∃ j, j < k ∧ jt_L f p (j + 1) = jt_L f p j
    · obtain ⟨j, hj, e'⟩ := q
      exact ih j hj (by omega) e'
    · exact ⟨k, hk, e, fun j hj e' => q ⟨j, hj, e'⟩⟩
theorem jt_T_stop (hn : ∀ k, k < 12 → S12 (f.2.1 k)) {p k : Nat} (hk : k ≤ 12) (e : jt_L f p (k + 1) = jt_L f p k) : jt_T f p = jt_L f p k := by
  unfold jt_T
  have := jt_L_stop e (12 - k)
  rwa [show k + (12 - k) = 12 by omega] at this
theorem jt_T_step (hn : ∀ k, k < 12 → S12 (f.2.1 k)) {p : Nat} (hp : p < 12) : jt_acc f (jt_T f p) 12 = jt_T f p := by
  obtain ⟨k, hk, e, -⟩ := jt_ecc_ex hn hp
  rw [jt_T_stop hn (by omega) e]; exact e
theorem jt_T_S (hn : ∀ k, k < 12 → S12 (f.2.1 k)) {p : Nat} (hp : p < 12) : S12 (jt_T f p) := jt_L_S hn hp 12
theorem jt_T_self (f : jF) {p : Nat} (hp : p < 12) : bt (jt_T f p) p = true := jt_L_le f p (k := 0) (by omega) (by show bt (jk_bit p) p = true; rw [bt_bit (by omega) (by omega)]; simp)
theorem jt_T_closed (hn : ∀ k, k < 12 → S12 (f.2.1 k)) {p x y : Nat} (hp : p < 12) (hx : bt (jt_T f p) x = true) (hx12 : x < 12) (h : bt (f.2.1 x) y = true) : bt (jt_T f p) y = true := by
  rw [← jt_T_step hn hp]
  exact (jt_acc_bt f _ y 12).mpr (Or.inr ⟨x, hx12, hx, h⟩)
theorem jt_L_min {C : Nat → Prop} {p : Nat} (hp : p < 12) (h0 : C p) (hC : ∀ x y, x < 12 → C x → bt (f.2.1 x) y = true → C y) : ∀ k y, bt (jt_L f p k) y = true → C y
  | 0, y, h => by
    by_cases hy : y < 32
    · have h : bt (jk_bit p) y = true := h
      rw [bt_bit (by omega) hy] at h
      simp at h; rw [h]; exact h0
    · have h : bt (jk_bit p) y = true := h
      rw [bt_big _ (by omega)] at h; cases h
  | k + 1, y, h => by
    rcases (jt_L_succ f p k y).mp h with h | ⟨x, h1, h2, h3⟩
    · exact jt_L_min hp h0 hC k y h
    · exact hC x y h1 (jt_L_min hp h0 hC k x h2) h3
theorem jt_T_min {C : Nat → Prop} {p : Nat} (hp : p < 12) (h0 : C p) (hC : ∀ x y, x < 12 → C x → bt (f.2.1 x) y = true → C y) {y : Nat} (h : bt (jt_T f p) y = true) : C y := jt_L_min hp h0 hC 12 y h
/-- a set that has p, is closed and within the tree, is the tree -/
theorem jt_T_uniq (hn : ∀ k, k < 12 → S12 (f.2.1 k)) {S : Int32} (hS : S12 S) {p : Nat} (hp : p < 12) (h0 : bt S p = true) (hC : ∀ x y, x < 12 → bt S x = true → bt (f.2.1 x) y = true → bt S y = true) (hT : ∀ y, bt S y = true → bt (jt_T f p) y = true) : S = jt_T f p :=
  S12_ext hS (jt_T_S hn hp) fun k hk => by
    cases a : bt S k
    · cases b : bt (jt_T f p) k
      · rfl
      · have := jt_T_min (C := fun y => bt S y = true) hp h0 (fun x y h1 h2 h3 => hC x y h1 h2 h3) b
        rw [a] at this; cases this
    · rw [hT k a]
theorem jt_T_in (B : jf_B f) {p y : Nat} (hp : p < 12) (sp : bt f.2.2 p = true) (h : bt (jt_T f p) y = true) : y < 12 ∧ bt f.2.2 y = true :=
  ⟨(by
    apply Classical.byContradiction; intro q
    rw [jt_T_S B.n hp y (by omega)] at h; cases h),
   jt_T_min (C := fun y => bt f.2.2 y = true) hp sp (fun x y h1 h2 h3 => (B.nb h1 h3).2.1) h⟩
theorem jt_T_sym (B : jf_B f) {p q : Nat} (hp : p < 12) (h : bt (jt_T f p) q = true) : jt_T f q = jt_T f p := by
  have hq : q < 12 := by
    apply Classical.byContradiction; intro z
    rw [jt_T_S B.n hp q (by omega)] at h; cases h
  have sub : ∀ y, bt (jt_T f q) y = true → bt (jt_T f p) y = true := fun y hy => jt_T_min (C := fun y => bt (jt_T f p) y = true) hq h (fun x y h1 h2 h3 => jt_T_closed B.n hp h2 h1 h3) hy
  have hpq : bt (jt_T f q) p = true := by
    cases e : bt (jt_T f q) p
    · have := jt_T_min (C := fun y => bt (jt_T f q) y = false) hp e (fun x y h1 h2 h3 => by
        cases z : bt (jt_T f q) y
        · rfl
        · obtain ⟨y12, -, -, -⟩ := B.nb h1 h3
          have := jt_T_closed B.n hq z y12 (by rw [B.sym y12 h1]; exact h3)
          rw [this] at h2; cases h2) h
      rw [jt_T_self f hq] at this; cases this
    · rfl
  exact jt_T_uniq B.n (jt_T_S B.n hq) hp hpq (fun x y h1 h2 h3 => jt_T_closed B.n hq h2 h1 h3) sub
/-- a tree knows which edges are within -/
theorem jt_T_edge (B : jf_B f) {p x y : Nat} (hp : p < 12) (hx : x < 12) (hy : y < 12) (h : bt (f.2.1 x) y = true) : bt (jt_T f p) x = bt (jt_T f p) y := by
  cases a : bt (jt_T f p) x <;> cases b : bt (jt_T f p) y
  · rfl
  · have := jt_T_closed B.n hp b hy (by rw [B.sym hy hx]; exact h)
    rw [a] at this; cases this
  · have := jt_T_closed B.n hp a hx h
    rw [b] at this; cases this
  · rfl
end
-- the reference's treeOf
def jt_gs (f : jF) (S : Int32) : Nat → Int32
  | 0 => S
  | n + 1 => if bt (jt_gs f S n) n = true then jt_gs f S n ||| f.2.1 n else jt_gs f S n
section
variable {rc : Nat → Nat × (Nat → Int32)} {h : jxH} {b : Nat} {f : jF}
theorem jt_gs_sub (f : jF) (S : Int32) {y : Nat} (h : bt S y = true) : ∀ n, bt (jt_gs f S n) y = true
  | 0 => h
  | n + 1 => by
    unfold jt_gs
    split
    · rw [bt_or, jt_gs_sub f S h n]; rfl
    · exact jt_gs_sub f S h n
theorem jt_gs_in {S : Int32} {C : Nat → Prop} (hS : ∀ y, bt S y = true → C y) (hC : ∀ x y, x < 12 → C x → bt (f.2.1 x) y = true → C y) : ∀ n, n ≤ 12 → ∀ y, bt (jt_gs f S n) y = true → C y
  | 0, _, y, h => hS y h
  | n + 1, hn, y, h => by
    unfold jt_gs at h
    split at h
    · rename_i hb
      rw [bt_or, Bool.or_eq_true] at h
      rcases h with h | h
      · exact jt_gs_in hS hC n (by omega) y h
      · exact hC n y (by omega) (jt_gs_in hS hC n (by omega) n hb) h
    · exact jt_gs_in hS hC n (by omega) y h
theorem jt_gs_keep (f : jF) (S : Int32) {y : Nat} : ∀ {n : Nat} (m : Nat), bt (jt_gs f S n) y = true → bt (jt_gs f S (n + m)) y = true
  | n, 0, h => h
  | n, m + 1, h => by
    show bt (jt_gs f S ((n + m) + 1)) y = true
    unfold jt_gs
    split
    · rw [bt_or, jt_gs_keep f S m h]; rfl
    · exact jt_gs_keep f S m h
theorem jt_gs_closed {S : Int32} (e : jt_gs f S 12 = S) {x y : Nat} (hx : x < 12) (h1 : bt S x = true) (h2 : bt (f.2.1 x) y = true) : bt S y = true := by
  have h3 : bt (jt_gs f S (x + 1)) y = true := by
    unfold jt_gs
    rw [if_pos (jt_gs_sub f S h1 x), bt_or, h2, Bool.or_true]
  have := jt_gs_keep f S (n := x + 1) (11 - x) h3
  rw [show x + 1 + (11 - x) = 12 by omega, e] at this
  exact this
theorem rf_gs_l (H : ro_at h b f) (S w : Int32) (d : Nat) : ∀ (m k : Nat), k + m = 12 → jb_85 rc (d + 1) 13 [(0, .ref b), (2, .int (jt_gs f S k)), (3, .int w), (4, .int (Int32.ofNat k))] [] h = jb_85 rc (d + 1) 6 [(0, .ref b), (2, .int (jt_gs f S 12)), (3, .int w)] [] h
  | 0, k, e => by
    obtain rfl : k = 12 := by omega
    rw [je_85_13, if_pos (by decide)]
  | m + 1, k, e => by
    have hk : k < 12 := by omega
    rw [je_85_13, if_neg (jk_n12 hk), rf_has _ _ (by omega), jk_cI, jk_if0, jk_succ, Int32.or_zero]
    have i := rf_gs_l H S w d m (k + 1) (by omega)
    rw [show jt_gs f S (k + 1) = if bt (jt_gs f S k) k = true then jt_gs f S k ||| f.2.1 k else jt_gs f S k from rfl] at i
    by_cases hb : bt (jt_gs f S k) k = true
    · rw [if_pos hb, ro_n H hk, jk_bs]
      rw [if_pos hb] at i
      exact i
    · rw [if_neg hb]
      rw [if_neg hb] at i
      exact i
theorem rf_treeOf_l (H : ro_at h b f) (hn : ∀ k, k < 12 → S12 (f.2.1 k)) {p : Nat} (hp : p < 12) (d : Nat) : ∀ (m : Nat) (S w : Int32), 12 - bc S ≤ m → S12 S → bt S p = true → (∀ y, bt S y = true → bt (jt_T f p) y = true) → (w = S → jt_gs f S 12 = S) → jb_85 rc (d + 1) 6 [(0, .ref b), (2, .int S), (3, .int w)] [] h = some (some (.int (jt_T f p)), h)
  | m, S, w, hm, hS, hp1, hT, hw => by
    rw [je_85_6]
    by_cases e : w = S
    · rw [if_pos e, jt_T_uniq hn hS hp hp1 (fun x y h1 h2 h3 => jt_gs_closed (hw e) h1 h2 h3) hT]
    · rw [if_neg e]
      refine (rf_gs_l (rc := rc) H S S d 12 0 (by omega)).trans ?_
      have sub := fun y (hy : bt S y = true) => jt_gs_sub f S hy 12
      have hS' : S12 (jt_gs f S 12) := fun y hy => by
        cases q : bt (jt_gs f S 12) y
        · rfl
        · have := jt_gs_in (C := fun y => y < 12) (S := S) (f := f) (fun y h => by
            apply Classical.byContradiction; intro z
            rw [hS y (by omega)] at h; cases h) (fun x y h1 _ h3 => by
            apply Classical.byContradiction; intro z
            rw [hn x h1 y (by omega)] at h3; cases h3) 12 (Nat.le_refl _) y q
          omega
      by_cases e2 : jt_gs f S 12 = S
      · rw [e2, je_85_6, if_pos rfl, jt_T_uniq hn hS hp hp1 (fun x y h1 h2 h3 => jt_gs_closed e2 h1 h2 h3) hT]
      · have lt : bc S < bc (jt_gs f S 12) := by
          have m1 : bc S ≤ bc (jt_gs f S 12) := bc_mono fun y _ hy => sub y hy
          have m2 : bc S ≠ bc (jt_gs f S 12) := fun q => e2 (bc_eq hS hS' (fun y _ hy => sub y hy) q).symm
          omega
        have b1 := bc_le (jt_gs f S 12)
        match m with
        | 0 => omega
        | m + 1 =>
          exact rf_treeOf_l H hn hp d m (jt_gs f S 12) S (by omega) hS' (sub p hp1) (fun y hy => jt_gs_in (C := fun y => bt (jt_T f p) y = true) hT (fun x y h1 h2 h3 => jt_T_closed hn hp h2 h1 h3) 12 (Nat.le_refl _) y hy) (fun q => absurd q.symm e2)
/-- treeOf() -/
theorem rf_treeOf (H : ro_at h b f) (hn : ∀ k, k < 12 → S12 (f.2.1 k)) {p : Nat} (hp : p < 12) (d : Nat) : jx_C rc (d + 2) 85 [.ref b, .int (Int32.ofNat p)] h = some (some (.int (jt_T f p)), h) := by
  rw [je_85]
  have b0 : bt (jk_bit p) p = true := by rw [bt_bit (by omega) (by omega)]; simp
  refine rf_treeOf_l (rc := rc) H hn hp d 12 (jk_bit p) 0 (by omega) (S12_bit hp) b0 (fun y hy => jt_L_le f p (k := 0) (by omega) hy) (fun q => ?_)
  rw [← q, bt_0] at b0; cases b0
end
end
section
/-! The class's Walk: vertices in an order in which each comes behind the one that holds it -/
def wk_at (h : jxH) (a : Nat) (o : Nat → Nat) (par : Nat → Option Nat) (dep : Nat → Nat) (sz : Nat) (seen : Int32) : Prop :=
  jx_at h a = jxO 10 [.ref (a + 1), .ref (a + 2), .ref (a + 3), .int (Int32.ofNat sz), .int seen] ∧ (∃ O, jx_at h (a + 1) = jxI 0 12 O ∧ ∀ i, i < sz → O i = Int32.ofNat (o i)) ∧ (∃ G, jx_at h (a + 2) = jxI 0 12 G ∧ ∀ x, x < 12 → bt seen x = true → G x = jk_on (par x)) ∧ ∃ D, jx_at h (a + 3) = jxI 0 12 D ∧ ∀ x, x < 12 → bt seen x = true → D x = Int32.ofNat (dep x)
theorem bc_set_eq {x : Int32} {z : Nat} (hz : z < 12) (h : bt x z = false) : bc (x ||| jk_bit z) = bc x + 1 := by
  have a := bc_set (x := x) hz
  have m : bc x ≤ bc (x ||| jk_bit z) := bc_mono fun k _ hk => by rw [bt_or, hk]; rfl
  have ne : bc x ≠ bc (x ||| jk_bit z) := fun e => by
    have := countP_eq_imp (p := bt x) (q := bt (x ||| jk_bit z)) (l := List.range 12) (fun k _ hk => by rw [bt_or, hk]; rfl) e z (List.mem_range.mpr hz)
    rw [h, bt_set _ hz hz] at this
    simp at this
  omega
section
variable {rc : Nat → Nat × (Nat → Int32)} {h : jxH} {a b : Nat} {f : jF} {o : Nat → Nat} {par : Nat → Option Nat} {dep : Nat → Nat} {sz : Nat} {seen set : Int32}
theorem wk_okof (H : wk_at h a o par dep sz seen) : wk_ok h a := by
  obtain ⟨e, ⟨O, o1, o2⟩, ⟨G, g1, g2⟩, D, d1, d2⟩ := H
  exact ⟨⟨_, _, e⟩, ⟨O, o1⟩, ⟨G, g1⟩, D, d1⟩
theorem wk_at_fr {P : Nat → Prop} {h' : jxH} (F : Fr P h h') (hP : ∀ x, a ≤ x → x < a + 4 → ¬ P x) (H : wk_at h a o par dep sz seen) : wk_at h' a o par dep sz seen := by
  obtain ⟨e, ⟨O, o1, o2⟩, ⟨G, g1, g2⟩, D, d1, d2⟩ := H
  have k := fun x h1 h2 => F.2.2 x (hP x h1 h2)
  exact ⟨(k _ (by omega) (by omega)).trans e, ⟨O, (k _ (by omega) (by omega)).trans o1, o2⟩, ⟨G, (k _ (by omega) (by omega)).trans g1, g2⟩, D, (k _ (by omega) (by omega)).trans d1, d2⟩
theorem wk_is (H : wk_at h a o par dep sz seen) : jx_is (jx_at h a) 10 = true := by rw [H.1]; rfl
theorem wk_g0 (H : wk_at h a o par dep sz seen) : jx_gR (jx_at h a) 10 0 = some (a + 1) := by rw [H.1]; rfl
theorem wk_g1 (H : wk_at h a o par dep sz seen) : jx_gR (jx_at h a) 10 1 = some (a + 2) := by rw [H.1]; rfl
theorem wk_g2 (H : wk_at h a o par dep sz seen) : jx_gR (jx_at h a) 10 2 = some (a + 3) := by rw [H.1]; rfl
theorem wk_g3 (H : wk_at h a o par dep sz seen) : jx_gI (jx_at h a) 10 3 = some (Int32.ofNat sz) := by rw [H.1]; rfl
theorem wk_g4 (H : wk_at h a o par dep sz seen) : jx_gI (jx_at h a) 10 4 = some seen := by rw [H.1]; rfl
theorem wk_o (H : wk_at h a o par dep sz seen) (hs : sz ≤ 12) {i : Nat} (hi : i < sz) : jx_aI (jx_at h (a + 1)) 0 (Int32.ofNat i) = some (Int32.ofNat (o i)) := by
  obtain ⟨e, ⟨O, o1, o2⟩, ⟨G, g1, g2⟩, D, d1, d2⟩ := H
  rw [o1, jk_aI (by omega) (by decide), o2 i hi]
theorem wk_p (H : wk_at h a o par dep sz seen) {x : Nat} (hx : x < 12) (hb : bt seen x = true) : jx_aI (jx_at h (a + 2)) 0 (Int32.ofNat x) = some (jk_on (par x)) := by
  obtain ⟨e, ⟨O, o1, o2⟩, ⟨G, g1, g2⟩, D, d1, d2⟩ := H
  rw [g1, jk_aI hx (by decide), g2 x hx hb]
theorem wk_d (H : wk_at h a o par dep sz seen) {x : Nat} (hx : x < 12) (hb : bt seen x = true) : jx_aI (jx_at h (a + 3)) 0 (Int32.ofNat x) = some (Int32.ofNat (dep x)) := by
  obtain ⟨e, ⟨O, o1, o2⟩, ⟨G, g1, g2⟩, D, d1, d2⟩ := H
  rw [d1, jk_aI hx (by decide), d2 x hx hb]
theorem va_self {α : Type} (g : Nat → α) (k : Nat) (v : α) : va_up g k v k = v := by unfold va_up; rw [if_pos rfl]
theorem va_ne {α : Type} (g : Nat → α) {k j : Nat} (v : α) (hj : j ≠ k) : va_up g k v j = g j := by unfold va_up; rw [if_neg hj]
/-- enter() -/
theorem wk_enter (H : wk_at h a o par dep sz seen) (hs : sz < 12) {y : Nat} (hy : y < 12) (hp : Option Nat) (dd : Nat) : ∃ h', (∀ d, jx_C rc (d + 1) 322 [.ref a, .int (Int32.ofNat y), .int (jk_on hp), .int (Int32.ofNat dd)] h = some (none, h')) ∧ wk_at h' a (va_up o sz y) (va_up par y hp) (va_up dep y dd) (sz + 1) (seen ||| jk_bit y) ∧ Fr (jI a 4) h h' := by
  obtain ⟨e, ⟨O, o1, o2⟩, ⟨G, g1, g2⟩, D, d1, d2⟩ := id H
  let h1 := jx_set h (a + 1) (jxI 0 12 (upd O sz (Int32.ofNat y)))
  let h2 := jx_set h1 a (jxO 10 [.ref (a + 1), .ref (a + 2), .ref (a + 3), .int (Int32.ofNat (sz + 1)), .int seen])
  let h3 := jx_set h2 (a + 2) (jxI 0 12 (upd G y (jk_on hp)))
  let h4 := jx_set h3 (a + 3) (jxI 0 12 (upd D y (Int32.ofNat dd)))
  let h5 := jx_set h4 a (jxO 10 [.ref (a + 1), .ref (a + 2), .ref (a + 3), .int (Int32.ofNat (sz + 1)), .int (seen ||| jk_bit y)])
  have q1 : jx_at h1 a = jxO 10 [.ref (a + 1), .ref (a + 2), .ref (a + 3), .int (Int32.ofNat sz), .int seen] := by show jx_at (jx_set _ _ _) _ = _; rw [jk_at_ne _ _ (by omega)]; exact e
  have q2 : jx_at h2 a = jxO 10 [.ref (a + 1), .ref (a + 2), .ref (a + 3), .int (Int32.ofNat (sz + 1)), .int seen] := jk_at_self ..
  have q2g : jx_at h2 (a + 2) = jxI 0 12 G := by show jx_at (jx_set (jx_set _ _ _) _ _) _ = _; rw [jk_at_ne _ _ (by omega), jk_at_ne _ _ (by omega)]; exact g1
  have q3 : jx_at h3 a = jxO 10 [.ref (a + 1), .ref (a + 2), .ref (a + 3), .int (Int32.ofNat (sz + 1)), .int seen] := by show jx_at (jx_set h2 _ _) _ = _; rw [jk_at_ne _ _ (by omega)]; exact q2
  have q3d : jx_at h3 (a + 3) = jxI 0 12 D := by show jx_at (jx_set (jx_set (jx_set _ _ _) _ _) _ _) _ = _; rw [jk_at_ne _ _ (by omega), jk_at_ne _ _ (by omega), jk_at_ne _ _ (by omega)]; exact d1
  have q4 : jx_at h4 a = jxO 10 [.ref (a + 1), .ref (a + 2), .ref (a + 3), .int (Int32.ofNat (sz + 1)), .int seen] := by show jx_at (jx_set h3 _ _) _ = _; rw [jk_at_ne _ _ (by omega)]; exact q3
  refine ⟨h5, fun d => ?_, ⟨jk_at_self .., ⟨upd O sz (Int32.ofNat y), ?_, fun i hi => ?_⟩, ⟨upd G y (jk_on hp), ?_, fun x hx hb => ?_⟩, upd D y (Int32.ofNat dd), ?_, fun x hx hb => ?_⟩, ((((Fr.set (jI_0 (by decide))).cons ⟨Nat.le_refl _, by omega⟩).cons (jI_0 (by decide))).cons (jI_0 (by decide))).cons ⟨Nat.le_refl _, by omega⟩⟩
  · rw [je_322, if_pos (wk_is H), if_neg (jk_nn (by omega)), if_neg (jk_n12 hy), wk_g3 H, jk_bs, if_neg (jk_nn (by omega)), jk_bs, if_neg (jk_n12 hs), wk_g0 H, jk_bs, jk_bs, o1, jk_sI hs (by decide), jk_bs]
    show (jx_gI (jx_at h1 a) 10 3).bind _ = _
    rw [q1, show jx_gI (jxO 10 [Value.ref (a + 1), Value.ref (a + 2), Value.ref (a + 3), Value.int (Int32.ofNat sz), Value.int seen]) 10 3 = some (Int32.ofNat sz) from rfl, jk_bs]
    rw [jk_succ, show jx_pF (jxO 10 [Value.ref (a + 1), Value.ref (a + 2), Value.ref (a + 3), Value.int (Int32.ofNat sz), Value.int seen]) 10 3 (.int (Int32.ofNat (sz + 1))) = some (jxO 10 [Value.ref (a + 1), Value.ref (a + 2), Value.ref (a + 3), Value.int (Int32.ofNat (sz + 1)), Value.int seen]) from rfl, jk_bs]
    show (jx_gR (jx_at h2 a) 10 1).bind _ = _
    rw [q2, show jx_gR (jxO 10 [Value.ref (a + 1), Value.ref (a + 2), Value.ref (a + 3), Value.int (Int32.ofNat (sz + 1)), Value.int seen]) 10 1 = some (a + 2) from rfl, jk_bs]
    show (jx_sI (jx_at h2 (a + 2)) 0 _ _).bind _ = _
    rw [q2g, jk_sI hy (by decide), jk_bs]
    show (jx_gR (jx_at h3 a) 10 2).bind _ = _
    rw [q3, show jx_gR (jxO 10 [Value.ref (a + 1), Value.ref (a + 2), Value.ref (a + 3), Value.int (Int32.ofNat (sz + 1)), Value.int seen]) 10 2 = some (a + 3) from rfl, jk_bs]
    show (jx_sI (jx_at h3 (a + 3)) 0 _ _).bind _ = _
    rw [q3d, jk_sI hy (by decide), jk_bs]
    show (jx_gI (jx_at h4 a) 10 4).bind _ = _
    rw [q4]
    rfl
  · show jx_at (jx_set (jx_set (jx_set (jx_set (jx_set _ _ _) _ _) _ _) _ _) _ _) _ = _
    rw [jk_at_ne _ _ (by omega), jk_at_ne _ _ (by omega), jk_at_ne _ _ (by omega), jk_at_ne _ _ (by omega), jk_at_self]
  · by_cases q : i = sz
    · subst q; rw [upd_at, va_self]
    · rw [upd_ne _ _ q, va_ne _ _ q, o2 i (by omega)]
  · show jx_at (jx_set (jx_set (jx_set _ _ _) _ _) _ _) _ = _
    rw [jk_at_ne _ _ (by omega), jk_at_ne _ _ (by omega), jk_at_self]
  · by_cases q : x = y
    · subst q; rw [upd_at, va_self]
    · rw [bt_set _ hy hx] at hb
      simp [q] at hb
      rw [upd_ne _ _ q, va_ne _ _ q, g2 x hx hb]
  · show jx_at (jx_set (jx_set _ _ _) _ _) _ = _
    rw [jk_at_ne _ _ (by omega), jk_at_self]
  · by_cases q : x = y
    · subst q; rw [upd_at, va_self]
    · rw [bt_set _ hy hx] at hb
      simp [q] at hb
      rw [upd_ne _ _ q, va_ne _ _ q, d2 x hx hb]
theorem wk_depthAt (H : wk_at h a o par dep sz seen) {x : Nat} (hx : x < 12) (hb : bt seen x = true) (d : Nat) : jx_C rc (d + 1) 325 [.ref a, .int (Int32.ofNat x)] h = some (some (.int (Int32.ofNat (dep x))), h) := by
  rw [je_325, if_pos (wk_is H), if_neg (jk_nn (by omega)), if_neg (jk_n12 hx), wk_g2 H, jk_bs, wk_d H hx hb, jk_bs]
theorem wk_holderOf (H : wk_at h a o par dep sz seen) {x : Nat} (hx : x < 12) (hb : bt seen x = true) (d : Nat) : jx_C rc (d + 1) 324 [.ref a, .int (Int32.ofNat x)] h = some (some (.int (jk_on (par x))), h) := by
  rw [je_324, if_pos (wk_is H), if_neg (jk_nn (by omega)), if_neg (jk_n12 hx), wk_g1 H, jk_bs, wk_p H hx hb, jk_bs]
theorem wk_holderOf_no (H : wk_at h a o par dep sz seen) (d : Nat) : jx_C rc (d + 1) 324 [.ref a, .int (-1)] h = some (some (.int (-1)), h) := by
  rw [je_324, if_pos (wk_is H), if_pos (by decide)]
theorem wk_placeAt (H : wk_at h a o par dep sz seen) (hs : sz ≤ 12) {i : Nat} (hi : i < 2 ^ 31) (d : Nat) : jx_C rc (d + 1) 323 [.ref a, .int (Int32.ofNat i)] h = some (some (.int (if i < sz then Int32.ofNat (o i) else -1)), h) := by
  rw [je_323, if_pos (wk_is H), if_neg (jk_nn hi), wk_g3 H, jk_bs]
  by_cases q : i < sz
  · rw [if_neg (by rw [jk_le (by omega) hi]; omega), if_neg (by rw [jk_12 hi]; omega), wk_g0 H, jk_bs, wk_o H hs q, jk_bs, if_pos q]
  · rw [if_pos (by rw [jk_le (by omega) hi]; omega), if_neg q]
/-- what one looks at around a vertex -/
theorem wk_inner {J : (Nat → Nat) → (Nat → Option Nat) → (Nat → Nat) → Nat → Int32 → Nat → Prop}
    (hbase : ∀ {o par dep sz seen pr}, J o par dep sz seen pr → sz ≤ 12 ∧ pr ≤ sz ∧ (∀ i, i < sz → o i < 12 ∧ bt seen (o i) = true))
    (hadd : ∀ {o par dep sz seen pr y}, J o par dep sz seen pr → pr < sz → y < 12 → bt set y = true → bt seen y = false → bt (f.2.1 (o pr)) y = true → sz < 12 ∧ J (va_up o sz y) (va_up par y (some (o pr))) (va_up dep y (dep (o pr) + 1)) (sz + 1) (seen ||| jk_bit y) pr)
    (G : fo_at h b f) (hab : b + 3 ≤ a ∨ a + 4 ≤ b) {F : Int32} {p pr : Nat} (hF : ∀ q, bt F q = true → bt set q = true ∧ bt (f.2.1 p) q = true) :
    ∀ (m k : Nat) (h : jxH) (o : Nat → Nat) (par : Nat → Option Nat) (dep : Nat → Nat) (sz : Nat) (seen : Int32), k + m = 12 → wk_at h a o par dep sz seen → J o par dep sz seen pr → pr < sz → o pr = p → (∀ q, k ≤ q → q < 12 → bt F q = true → bt seen q = false) → (∀ q, q < k → bt F q = true → bt seen q = true) →
    ∃ h' o' par' dep' sz' seen', (∀ d, jb_321 rc (d + 1) 35 [(0, .ref a), (1, .ref b), (2, .int set), (5, .int (Int32.ofNat pr)), (6, .int (Int32.ofNat p)), (7, .int F), (8, .int (Int32.ofNat k))] [] h = jb_321 rc (d + 1) 10 [(0, .ref a), (1, .ref b), (2, .int set), (5, .int (Int32.ofNat (pr + 1)))] [] h') ∧ wk_at h' a o' par' dep' sz' seen' ∧ J o' par' dep' sz' seen' pr ∧ pr < sz' ∧ o' pr = p ∧ (∀ q, q < 12 → bt F q = true → bt seen' q = true) ∧ (∀ q, bt seen q = true → bt seen' q = true) ∧ Fr (jI a 4) h h'
  | 0, k, h, o, par, dep, sz, seen, e, H, j, h1, h2, h3, h4 => by
    obtain rfl : k = 12 := by omega
    refine ⟨h, o, par, dep, sz, seen, fun d => ?_, H, j, h1, h2, h4, fun _ q => q, Fr.rfl⟩
    rw [je_321_35, if_pos (by decide), jk_succ]
  | m + 1, k, h, o, par, dep, sz, seen, e, H, j, h1, h2, h3, h4 => by
    have hk : k < 12 := by omega
    by_cases hb : bt F k = true
    · have hns := h3 k (Nat.le_refl _) hk hb
      obtain ⟨s1, s2⟩ := hF k hb
      obtain ⟨b1, b2, b3⟩ := hbase j
      obtain ⟨p12, pseen⟩ := b3 pr h1
      obtain ⟨hs, j'⟩ := hadd j h1 hk s1 hns (by rw [h2]; exact s2)
      obtain ⟨h5, e1, e2, e3⟩ := wk_enter (rc := rc) H hs hk (some (o pr)) (dep (o pr) + 1)
      obtain ⟨h', o', par', dep', sz', seen', i1, i2, i3, i4, i5, i6, i7, i8⟩ := wk_inner (J := J) hbase hadd G hab hF m (k + 1) h5 _ _ _ _ _ (by omega) e2 j' (by omega) (by rw [va_ne _ _ (by omega)]; exact h2) (fun q q1 q2 q3 => by
        rw [bt_set _ hk q2, h3 q (by omega) q2 q3]; simp; omega) (fun q q1 q2 => by
        rw [bt_set _ hk (by omega)]
        by_cases z : q = k
        · simp [z]
        · rw [h4 q (by omega) q2]; rfl)
      refine ⟨h', o', par', dep', sz', seen', fun d => ?_, i2, i3, i4, i5, i6, fun q q1 => i7 q (by rw [bt_or, q1]; rfl), e3.trans i8⟩
      rw [je_321_35, if_neg (jk_n12 hk), cl_isIn, jk_cI, jp_in_of hk, jk_if0, if_pos hb]
      have pd : jx_C rc (d + 1) 325 [.ref a, .int (Int32.ofNat p)] h = some (some (.int (Int32.ofNat (dep (o pr)))), h) := by rw [← h2]; exact wk_depthAt H p12 pseen d
      rw [pd, jk_cI, jk_succ, jk_succ]
      have pe := e1 d
      rw [show jk_on (some (o pr)) = Int32.ofNat p by rw [h2]; rfl] at pe
      rw [pe, jk_cV]
      exact i1 d
    · obtain ⟨h', o', par', dep', sz', seen', i1, i2⟩ := wk_inner (J := J) hbase hadd G hab hF m (k + 1) h o par dep sz seen (by omega) H j h1 h2 (fun q q1 q2 q3 => h3 q (by omega) q2 q3) (fun q q1 q2 => by
        by_cases z : q = k
        · rw [z] at q2; exact absurd q2 hb
        · exact h4 q (by omega) q2)
      refine ⟨h', o', par', dep', sz', seen', fun d => ?_, i2⟩
      rw [je_321_35, if_neg (jk_n12 hk), cl_isIn, jk_cI, jp_in_of hk, jk_if0, if_neg hb, jk_succ]
      exact i1 d
theorem wk_spread_l {J : (Nat → Nat) → (Nat → Option Nat) → (Nat → Nat) → Nat → Int32 → Nat → Prop}
    (hbase : ∀ {o par dep sz seen pr}, J o par dep sz seen pr → sz ≤ 12 ∧ pr ≤ sz ∧ (∀ i, i < sz → o i < 12 ∧ bt seen (o i) = true))
    (hadd : ∀ {o par dep sz seen pr y}, J o par dep sz seen pr → pr < sz → y < 12 → bt set y = true → bt seen y = false → bt (f.2.1 (o pr)) y = true → sz < 12 ∧ J (va_up o sz y) (va_up par y (some (o pr))) (va_up dep y (dep (o pr) + 1)) (sz + 1) (seen ||| jk_bit y) pr)
    (hadv : ∀ {o par dep sz seen pr}, J o par dep sz seen pr → pr < sz → (∀ y, bt (f.2.1 (o pr)) y = true → bt set y = true → bt seen y = true) → J o par dep sz seen (pr + 1))
    (hn : ∀ k, k < 12 → S12 (f.2.1 k)) (hab : b + 3 ≤ a ∨ a + 4 ≤ b) :
    ∀ (m pr : Nat) (h : jxH) (o : Nat → Nat) (par : Nat → Option Nat) (dep : Nat → Nat) (sz : Nat) (seen : Int32), pr + m = 12 → fo_at h b f → wk_at h a o par dep sz seen → J o par dep sz seen pr →
    ∃ h' o' par' dep' sz' seen', (∀ d, jb_321 rc (d + 1) 10 [(0, .ref a), (1, .ref b), (2, .int set), (5, .int (Int32.ofNat pr))] [] h = some (none, h')) ∧ wk_at h' a o' par' dep' sz' seen' ∧ J o' par' dep' sz' seen' sz' ∧ (∀ q, bt seen q = true → bt seen' q = true) ∧ Fr (jI a 4) h h'
  | m, pr, h, o, par, dep, sz, seen, e, G, H, j => by
    obtain ⟨b1, b2, b3⟩ := hbase j
    by_cases hs : pr < sz
    · obtain ⟨p12, pseen⟩ := b3 pr hs
      have bF : ∀ q, bt ((f.2.1 (o pr) &&& set) &&& (seen ^^^ (-1))) q = true → bt set q = true ∧ bt (f.2.1 (o pr)) q = true := fun q hq => by
        rw [bt_and, bt_and, Bool.and_eq_true, Bool.and_eq_true] at hq; exact ⟨hq.1.2, hq.1.1⟩
      obtain ⟨h', o', par', dep', sz', seen', i1, i2, i3, i4, i5, i6, i7, i8⟩ := wk_inner (rc := rc) (J := J) hbase hadd G hab (F := (f.2.1 (o pr) &&& set) &&& (seen ^^^ (-1))) (p := o pr) (pr := pr) bF 12 0 h o par dep sz seen (by omega) H j hs rfl (fun q _ q2 q3 => by
        rw [bt_and, Bool.and_eq_true, bt_not _ (by omega)] at q3
        simpa using q3.2) (fun q q1 _ => by omega)
      have j' := hadv i3 i4 (fun y hy1 hy2 => by
        rw [i5] at hy1
        have y12 : y < 12 := by
          apply Classical.byContradiction; intro z
          rw [hn _ p12 y (by omega)] at hy1; cases hy1
        cases z : bt seen y
        · exact i6 y y12 (by rw [bt_and, bt_and, hy1, hy2, bt_not _ (by omega), z]; rfl)
        · exact i7 y z)
      match m with
      | 0 => omega
      | m + 1 =>
        obtain ⟨h2, o2, par2, dep2, sz2, seen2, k1, k2, k3, k4, k5⟩ := wk_spread_l (J := J) hbase hadd hadv hn hab m (pr + 1) h' o' par' dep' sz' seen' (by omega) (fo_fr i8 (fun x q1 q2 z => by unfold jI at z; omega) G) i2 j'
        refine ⟨h2, o2, par2, dep2, sz2, seen2, fun d => ?_, k2, k3, fun q q1 => k4 q (i7 q q1), i8.trans k5⟩
        rw [je_321_10, wk_g3 H, jk_bs, if_neg (by rw [jk_le (by omega) (by omega)]; omega), if_neg (jk_n12 (by omega)), wk_g0 H, jk_bs, wk_o H b1 hs, jk_bs, fo_nearsAt G, jk_cI, jF_n_of p12, wk_g4 H, jk_bs]
        refine (i1 d).trans ?_
        exact k1 d
    · have e1 : pr = sz := by omega
      refine ⟨h, o, par, dep, sz, seen, fun d => ?_, H, e1 ▸ j, fun _ q => q, Fr.rfl⟩
      rw [je_321_10, wk_g3 H, jk_bs, if_pos (by rw [jk_le (by omega) (by omega)]; omega)]
end
end
