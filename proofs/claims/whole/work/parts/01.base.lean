/-! A small machine of ours over the class's bytecode: cells by numbers, rows of decoded instructions. What it computes, the machine does (part 03). -/
-- an entry of the heap: an object (class, fields); an array (tag, length, numbers); nothing
abbrev jxE := (Nat × List Value) ⊕ ((Nat × vp_A) ⊕ Unit)
abbrev jxO (c : Nat) (fs : List Value) : jxE := .inl (c, fs)
abbrev jxI (t n : Nat) (g : Nat → Int32) : jxE := .inr (.inl (t, n, .inl g))
abbrev jxL (n : Nat) (g : Nat → Int64) : jxE := .inr (.inl (1, n, .inr (.inl g)))
abbrev jxQ (t n : Nat) (g : Nat → Option Nat) : jxE := .inr (.inl (t, n, .inr (.inr (.inr (.inr g)))))
-- the heap: how many cells, how many slots, what they are
abbrev jxH := Nat × Nat × (Nat → jxE)
def jx_at (h : jxH) (a : Nat) : jxE := h.2.2 a
def jx_set (h : jxH) (a : Nat) (e : jxE) : jxH := (h.1, h.2.1, va_up h.2.2 a e)
def jx_new (h : jxH) (n : Nat) (e : jxE) : jxH := (h.1 + 1, h.2.1 + n, va_up h.2.2 h.1 e)
-- a method's answer, and the heap behind it
abbrev jxR := Option (Option Value × jxH)
-- instruction's number, locals, stack, heap
abbrev jxS := Nat × List (Nat × Value) × List Value × jxH
-- pc, instruction, length, three numbers, an int, a long, numbers, the locals that live at its head (if it is one)
abbrev jxRow := Nat × Instr × Nat × (Nat × Nat × Nat) × Int32 × Int64 × List Nat × Option (List Nat)
abbrev jxRow.pc (r : jxRow) : Nat := r.1
abbrev jxRow.ins (r : jxRow) : Instr := r.2.1
abbrev jxRow.len (r : jxRow) : Nat := r.2.2.1
abbrev jxRow.x (r : jxRow) : Nat := r.2.2.2.1.1
abbrev jxRow.y (r : jxRow) : Nat := r.2.2.2.1.2.1
abbrev jxRow.z (r : jxRow) : Nat := r.2.2.2.1.2.2
abbrev jxRow.v (r : jxRow) : Int32 := r.2.2.2.2.1
abbrev jxRow.w (r : jxRow) : Int64 := r.2.2.2.2.2.1
abbrev jxRow.ts (r : jxRow) : List Nat := r.2.2.2.2.2.2.1
abbrev jxRow.lv (r : jxRow) : Option (List Nat) := r.2.2.2.2.2.2.2
def jx_ld : List (Nat × Value) → Nat → Option Value
  | [], _ => none
  | q :: t, i => if q.1 = i then some q.2 else jx_ld t i
def jx_st1 (l : List (Nat × Value)) (i : Nat) (v : Value) : List (Nat × Value) := (i, v) :: l.filter (fun q => !(q.1 == i) && !(q.1 + 1 == i && q.2.category == 2))
def jx_st2 (l : List (Nat × Value)) (i : Nat) (v : Value) : List (Nat × Value) := (i, v) :: l.filter (fun q => !(q.1 == i) && (!(q.1 == i + 1) && !(q.1 + 1 == i && q.2.category == 2)))
def jx_pick (l : List (Nat × Value)) : List Nat → List (Nat × Value)
  | [] => []
  | i :: t => match jx_ld l i with
    | some v => (i, v) :: jx_pick l t
    | none => jx_pick l t
-- reads
def jx_out (i : Int32) (n : Nat) : Bool := decide (i < 0) || decide (n ≤ i.toNatClampNeg)
def jx_gI (e : jxE) (c k : Nat) : Option Int32 := match e with
  | .inl (c', fs) => if c' = c then (match fs[k]? with
    | some (.int x) => some x
    | _ => none) else none
  | _ => none
def jx_gL (e : jxE) (c k : Nat) : Option Int64 := match e with
  | .inl (c', fs) => if c' = c then (match fs[k]? with
    | some (.long x) => some x
    | _ => none) else none
  | _ => none
def jx_gR (e : jxE) (c k : Nat) : Option Nat := match e with
  | .inl (c', fs) => if c' = c then (match fs[k]? with
    | some (.ref x) => some x
    | _ => none) else none
  | _ => none
def jx_pF (e : jxE) (c k : Nat) (v : Value) : Option jxE := match e with
  | .inl (c', fs) => if c' = c ∧ k < fs.length then some (.inl (c', fs.set k v)) else none
  | _ => none
def jx_aI (e : jxE) (t : Nat) (i : Int32) : Option Int32 := match e with
  | .inr (.inl (t', n, .inl g)) => if t' = t ∧ jx_out i n = false then some (g i.toNatClampNeg) else none
  | _ => none
def jx_aL (e : jxE) (i : Int32) : Option Int64 := match e with
  | .inr (.inl (t', n, .inr (.inl g))) => if t' = 1 ∧ jx_out i n = false then some (g i.toNatClampNeg) else none
  | _ => none
def jx_aQ (e : jxE) (t : Nat) (i : Int32) : Option (Option Nat) := match e with
  | .inr (.inl (t', n, .inr (.inr (.inr (.inr g))))) => if t' = t ∧ jx_out i n = false then some (g i.toNatClampNeg) else none
  | _ => none
def jx_sI (e : jxE) (t : Nat) (i x : Int32) : Option jxE := match e with
  | .inr (.inl (t', n, .inl g)) => if t' = t ∧ jx_out i n = false then some (.inr (.inl (t', n, .inl (upd g i.toNatClampNeg x)))) else none
  | _ => none
def jx_sL (e : jxE) (i : Int32) (x : Int64) : Option jxE := match e with
  | .inr (.inl (t', n, .inr (.inl g))) => if t' = 1 ∧ jx_out i n = false then some (.inr (.inl (t', n, .inr (.inl (vp_updL g i.toNatClampNeg x))))) else none
  | _ => none
def jx_sQ (e : jxE) (t : Nat) (i : Int32) (x : Option Nat) : Option jxE := match e with
  | .inr (.inl (t', n, .inr (.inr (.inr (.inr g))))) => if t' = t ∧ jx_out i n = false then some (.inr (.inl (t', n, .inr (.inr (.inr (.inr (va_up g i.toNatClampNeg x))))))) else none
  | _ => none
def jx_len (e : jxE) : Option Nat := match e with
  | .inr (.inl (t, n, _)) => if t < 9 then some n else none
  | _ => none
def jx_is (e : jxE) (c : Nat) : Bool := match e with
  | .inl (c', _) => c' == c
  | _ => false
/-- System.arraycopy of int or byte arrays (tag t) -/
def jx_cp (e e' : jxE) (t : Nat) (sp dp n : Int32) : Option jxE := match e, e' with
  | .inr (.inl (t1, n1, .inl f)), .inr (.inl (t2, n2, .inl g)) =>
    if t1 = t ∧ t2 = t ∧ ¬ sp < 0 ∧ ¬ dp < 0 ∧ ¬ n < 0 ∧ sp.toNatClampNeg + n.toNatClampNeg ≤ n1 ∧ dp.toNatClampNeg + n.toNatClampNeg ≤ n2 then some (.inr (.inl (t2, n2, .inl (va_cpy f g sp.toNatClampNeg dp.toNatClampNeg n.toNatClampNeg)))) else none
  | _, _ => none
def jx_bool (x : Int32) : Bool := x == 0 || x == 1
def jx_short : List Value → Bool
  | [] => true
  | [_] => true
  | [_, _] => true
  | [_, _, _] => true
  | [_, _, _, _] => true
  | _ => false
def jx_pop : Nat → List Value → List Value → Option (List Value × List Value)
  | 0, acc, st => some (acc, st)
  | n + 1, acc, v :: st => jx_pop n (v :: acc) st
  | _ + 1, _, [] => none
-- stack shapes
def jx_1 (st : List Value) (f : Int32 → List Value → jxR) : jxR := match st with
  | .int x :: t => f x t
  | _ => none
def jx_2 (st : List Value) (f : Int32 → Int32 → List Value → jxR) : jxR := match st with
  | .int y :: .int x :: t => f x y t
  | _ => none
def jx_1L (st : List Value) (f : Int64 → List Value → jxR) : jxR := match st with
  | .long x :: t => f x t
  | _ => none
def jx_2L (st : List Value) (f : Int64 → Int64 → List Value → jxR) : jxR := match st with
  | .long y :: .long x :: t => f x y t
  | _ => none
def jx_LI (st : List Value) (f : Int64 → Int32 → List Value → jxR) : jxR := match st with
  | .int y :: .long x :: t => f x y t
  | _ => none
def jx_r (st : List Value) (f : Nat → List Value → jxR) : jxR := match st with
  | .ref a :: t => f a t
  | _ => none
-- answers of calls
def jx_cV (r : jxR) (f : jxH → jxR) : jxR := match r with
  | some (none, h) => f h
  | _ => none
def jx_cI (r : jxR) (f : Int32 → jxH → jxR) : jxR := match r with
  | some (some (.int x), h) => f x h
  | _ => none
def jx_cL (r : jxR) (f : Int64 → jxH → jxR) : jxR := match r with
  | some (some (.long x), h) => f x h
  | _ => none
def jx_cR (r : jxR) (f : Option Nat → jxH → jxR) : jxR := match r with
  | some (some (.ref x), h) => f (some x) h
  | some (some .null, h) => f none h
  | _ => none
/-- a switch: targets one behind the other, from lo on -/
def jx_sw (x lo : Int32) (d : Nat) (K : Nat → jxR) : List Nat → jxR
  | [] => K d
  | t :: ts => if x = lo then K t else jx_sw x (lo + 1) d K ts
def jx_inner (h : jxH) (n m : Nat) : jxH := (h.1 + 1 + n, h.2.1 + n + n * m, fun a => if a = h.1 then jxQ 8 n (fun i => if i < n then some (h.1 + 1 + i) else none) else if h.1 < a ∧ a ≤ h.1 + n then jxI 0 m (fun _ => 0) else h.2.2 a)
def jx_lI (ls : List (Nat × Value)) (x : Nat) (f : Int32 → jxR) : jxR := match jx_ld ls x with
  | some (.int a) => f a
  | _ => none
def jx_lL (ls : List (Nat × Value)) (x : Nat) (f : Int64 → jxR) : jxR := match jx_ld ls x with
  | some (.long a) => f a
  | _ => none
def jx_lA (ls : List (Nat × Value)) (x : Nat) (f : Value → jxR) : jxR := match jx_ld ls x with
  | some (.ref a) => f (.ref a)
  | some (.retAddr a) => f (.retAddr a)
  | some .null => f .null
  | _ => none
def jx_pA (st : List Value) (f : Value → List Value → jxR) : jxR := match st with
  | .ref a :: t => f (.ref a) t
  | .null :: t => f .null t
  | _ => none
def jx_dup (st : List Value) (f : Value → List Value → jxR) : jxR := match st with
  | .int a :: t => f (.int a) t
  | .ref a :: t => f (.ref a) t
  | _ => none
def jx_dup2 (st : List Value) (f : List Value → List Value → jxR) : jxR := match st with
  | .int a :: .int b :: t => f [.int a, .int b] t
  | .int a :: .ref b :: t => f [.int a, .ref b] t
  | .long a :: t => f [.long a] t
  | _ => none
def jx_nl (st : List Value) (f g : List Value → jxR) : jxR := match st with
  | .ref _ :: t => f t
  | .null :: t => g t
  | _ => none
def jx_pv (z : Nat) (st : List Value) (f : Value → Nat → List Value → jxR) : jxR := match z with
  | 0 => match st with
    | .int v :: .ref a :: t => f (.int v) a t
    | _ => none
  | 1 => match st with
    | .long v :: .ref a :: t => f (.long v) a t
    | _ => none
  | 2 => match st with
    | .ref v :: .ref a :: t => f (.ref v) a t
    | _ => none
  | _ => match st with
    | .int v :: .ref a :: t => if jx_bool v = true then f (.int v) a t else none
    | _ => none
def jx_ia (st : List Value) (f : Int32 → Nat → List Value → jxR) : jxR := match st with
  | .int k :: .ref a :: t => f k a t
  | _ => none
def jx_ir (st : List Value) (f g : Int32 → Nat → List Value → jxR) : jxR := match st with
  | .int k :: .ref a :: t => f k a t
  | .int k :: .retAddr a :: t => g k a t
  | _ => none
def jx_rr (st : List Value) (f g : Nat → List Value → jxR) : jxR := match st with
  | .ref a :: t => f a t
  | .retAddr a :: t => g a t
  | _ => none
def jx_vs (st : List Value) (f : Int32 → Int32 → Nat → List Value → jxR) : jxR := match st with
  | .int v :: .int k :: .ref a :: t => f v k a t
  | _ => none
def jx_vsL (st : List Value) (f : Int64 → Int32 → Nat → List Value → jxR) : jxR := match st with
  | .long v :: .int k :: .ref a :: t => f v k a t
  | _ => none
def jx_vsQ (st : List Value) (f : Nat → Int32 → Nat → List Value → jxR) (g : Int32 → Nat → List Value → jxR) : jxR := match st with
  | .ref v :: .int k :: .ref a :: t => f v k a t
  | .null :: .int k :: .ref a :: t => g k a t
  | _ => none
def jx_cps (st : List Value) (f : Nat → Int32 → Nat → Int32 → Int32 → List Value → jxR) : jxR := match st with
  | .int n :: .int dp :: .ref b :: .int sp :: .ref a :: t => f a sp b dp n t
  | _ => none
def jx_mo (v : Option Nat) (f : Nat → jxR) (g : jxR) : jxR := match v with
  | some b => f b
  | none => g
def jx_ov (v : Option Nat) (f : Value → jxR) : jxR := jx_mo v (fun b => f (.ref b)) (f .null)
def jx_arr (x n : Nat) : jxE := match x with
  | 1 => jxL n (fun _ => 0)
  | t => jxI t n (fun _ => 0)
def jx_ret (z : Nat) (r : jxR) (f : List Value → jxH → jxR) : jxR := match z with
  | 0 => jx_cV r fun h => f [] h
  | 1 => jx_cI r fun v h => f [.int v] h
  | 2 => jx_cL r fun v h => f [.long v] h
  | _ => jx_cR r fun v h => jx_ov v fun w => f [w] h
def jx_call (y z : Nat) (st : List Value) (c : List Value → jxR) (f : List Value → jxH → jxR) : jxR := (jx_pop y [] st).bind fun q => if jx_short q.2 = true then jx_ret z (c q.1) (fun p h => f (p ++ q.2) h) else none
def jx_ri (z : Nat) (st : List Value) (h : jxH) : jxR := match st with
  | [.int a] => match z with
    | 0 => some (some (.int a), h)
    | _ => if jx_bool a = true then some (some (.int a), h) else none
  | _ => none
def jx_rl (st : List Value) (h : jxH) : jxR := match st with
  | [.long a] => some (some (.long a), h)
  | _ => none
def jx_ra (st : List Value) (h : jxH) : jxR := match st with
  | [.ref a] => some (some (.ref a), h)
  | [.null] => some (some .null, h)
  | _ => none
def jx_rv (st : List Value) (h : jxH) : jxR := match st with
  | [] => some (none, h)
  | _ => none
