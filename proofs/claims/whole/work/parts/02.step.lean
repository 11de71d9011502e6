/-! One instruction, and what a method answers. rc: the tables that nobody writes (and the law's script): lengths and numbers. c: what a call answers. -/
def jx_step (rc : Nat → Nat × (Nat → Int32)) (df : Nat → List Value) (c : Nat → List Value → jxH → jxR) (K : jxS → jxR) (r : jxRow) (i : Nat) (ls : List (Nat × Value)) (st : List Value) (h : jxH) : jxR :=
  match r.ins with
  | .iconst _ => K (i + 1, ls, .int r.v :: st, h)
  | .bipush _ => K (i + 1, ls, .int r.v :: st, h)
  | .sipush _ => K (i + 1, ls, .int r.v :: st, h)
  | .ldc _ => K (i + 1, ls, .int r.v :: st, h)
  | .ldc_w _ => K (i + 1, ls, .int r.v :: st, h)
  | .lconst _ => K (i + 1, ls, .long r.w :: st, h)
  | .ldc2_w _ => K (i + 1, ls, .long r.w :: st, h)
  | .aconst_null => K (i + 1, ls, .null :: st, h)
  | .iload _ => jx_lI ls r.x fun a => K (i + 1, ls, .int a :: st, h)
  | .iload_n _ => jx_lI ls r.x fun a => K (i + 1, ls, .int a :: st, h)
  | .lload _ => jx_lL ls r.x fun a => K (i + 1, ls, .long a :: st, h)
  | .lload_n _ => jx_lL ls r.x fun a => K (i + 1, ls, .long a :: st, h)
  | .aload _ => jx_lA ls r.x fun a => K (i + 1, ls, a :: st, h)
  | .aload_n _ => jx_lA ls r.x fun a => K (i + 1, ls, a :: st, h)
  | .istore _ => jx_1 st fun a t => K (i + 1, jx_st1 ls r.x (.int a), t, h)
  | .istore_n _ => jx_1 st fun a t => K (i + 1, jx_st1 ls r.x (.int a), t, h)
  | .lstore _ => jx_1L st fun a t => K (i + 1, jx_st2 ls r.x (.long a), t, h)
  | .lstore_n _ => jx_1L st fun a t => K (i + 1, jx_st2 ls r.x (.long a), t, h)
  | .astore _ => jx_pA st fun a t => K (i + 1, jx_st1 ls r.x a, t, h)
  | .astore_n _ => jx_pA st fun a t => K (i + 1, jx_st1 ls r.x a, t, h)
  | .iinc _ _ => jx_lI ls r.x fun a => K (i + 1, jx_st1 ls r.x (.int (a + r.v)), st, h)
  | .iadd => jx_2 st fun a b t => K (i + 1, ls, .int (a + b) :: t, h)
  | .isub => jx_2 st fun a b t => K (i + 1, ls, .int (a - b) :: t, h)
  | .imul => jx_2 st fun a b t => K (i + 1, ls, .int (a * b) :: t, h)
  | .iand => jx_2 st fun a b t => K (i + 1, ls, .int (a &&& b) :: t, h)
  | .ior => jx_2 st fun a b t => K (i + 1, ls, .int (a ||| b) :: t, h)
  | .ixor => jx_2 st fun a b t => K (i + 1, ls, .int (a ^^^ b) :: t, h)
  | .idiv => jx_2 st fun a b t => if b = 0 then none else K (i + 1, ls, .int (a / b) :: t, h)
  | .irem => jx_2 st fun a b t => if b = 0 then none else K (i + 1, ls, .int (a - a / b * b) :: t, h)
  | .ishl => jx_2 st fun a b t => K (i + 1, ls, .int (a <<< (b &&& 31)) :: t, h)
  | .ishr => jx_2 st fun a b t => K (i + 1, ls, .int (a >>> (b &&& 31)) :: t, h)
  | .iushr => jx_2 st fun a b t => K (i + 1, ls, .int ((a.toUInt32 >>> (b.toUInt32 &&& Int32.toUInt32 31)).toInt32) :: t, h)
  | .ineg => jx_1 st fun a t => K (i + 1, ls, .int (-a) :: t, h)
  | .ladd => jx_2L st fun a b t => K (i + 1, ls, .long (a + b) :: t, h)
  | .lsub => jx_2L st fun a b t => K (i + 1, ls, .long (a - b) :: t, h)
  | .lmul => jx_2L st fun a b t => K (i + 1, ls, .long (a * b) :: t, h)
  | .land => jx_2L st fun a b t => K (i + 1, ls, .long (a &&& b) :: t, h)
  | .lor => jx_2L st fun a b t => K (i + 1, ls, .long (a ||| b) :: t, h)
  | .lxor => jx_2L st fun a b t => K (i + 1, ls, .long (a ^^^ b) :: t, h)
  | .ldiv => jx_2L st fun a b t => if b = 0 then none else K (i + 1, ls, .long (a / b) :: t, h)
  | .lrem => jx_2L st fun a b t => if b = 0 then none else K (i + 1, ls, .long (a - a / b * b) :: t, h)
  | .lneg => jx_1L st fun a t => K (i + 1, ls, .long (-a) :: t, h)
  | .lshl => jx_LI st fun a b t => K (i + 1, ls, .long (a <<< (b.toInt64 &&& 63)) :: t, h)
  | .lshr => jx_LI st fun a b t => K (i + 1, ls, .long (a >>> (b.toInt64 &&& 63)) :: t, h)
  | .lcmp => jx_2L st fun a b t => K (i + 1, ls, .int (lg_cmp a b) :: t, h)
  | .i2l => jx_1 st fun a t => K (i + 1, ls, .long a.toInt64 :: t, h)
  | .l2i => jx_1L st fun a t => K (i + 1, ls, .int a.toInt32 :: t, h)
  | .i2b => jx_1 st fun a t => K (i + 1, ls, .int a.toInt8.toInt32 :: t, h)
  | .i2s => jx_1 st fun a t => K (i + 1, ls, .int a.toInt16.toInt32 :: t, h)
  | .dup => jx_dup st fun a t => K (i + 1, ls, a :: a :: t, h)
  | .dup2 => jx_dup2 st fun p t => K (i + 1, ls, p ++ (p ++ t), h)
  | .pop => jx_1 st fun _ t => K (i + 1, ls, t, h)
  | .ifCond .eq _ => jx_1 st fun a t => if a = 0 then K (r.x, ls, t, h) else K (i + 1, ls, t, h)
  | .ifCond .ne _ => jx_1 st fun a t => if a = 0 then K (i + 1, ls, t, h) else K (r.x, ls, t, h)
  | .ifCond .lt _ => jx_1 st fun a t => if a < 0 then K (r.x, ls, t, h) else K (i + 1, ls, t, h)
  | .ifCond .ge _ => jx_1 st fun a t => if 0 ≤ a then K (r.x, ls, t, h) else K (i + 1, ls, t, h)
  | .ifCond .gt _ => jx_1 st fun a t => if 0 < a then K (r.x, ls, t, h) else K (i + 1, ls, t, h)
  | .ifCond .le _ => jx_1 st fun a t => if a ≤ 0 then K (r.x, ls, t, h) else K (i + 1, ls, t, h)
  | .if_icmp .eq _ => jx_2 st fun a b t => if a = b then K (r.x, ls, t, h) else K (i + 1, ls, t, h)
  | .if_icmp .ne _ => jx_2 st fun a b t => if a = b then K (i + 1, ls, t, h) else K (r.x, ls, t, h)
  | .if_icmp .lt _ => jx_2 st fun a b t => if a < b then K (r.x, ls, t, h) else K (i + 1, ls, t, h)
  | .if_icmp .ge _ => jx_2 st fun a b t => if b ≤ a then K (r.x, ls, t, h) else K (i + 1, ls, t, h)
  | .if_icmp .gt _ => jx_2 st fun a b t => if b < a then K (r.x, ls, t, h) else K (i + 1, ls, t, h)
  | .if_icmp .le _ => jx_2 st fun a b t => if a ≤ b then K (r.x, ls, t, h) else K (i + 1, ls, t, h)
  | .ifnull _ => jx_nl st (fun t => K (i + 1, ls, t, h)) (fun t => K (r.x, ls, t, h))
  | .ifnonnull _ => jx_nl st (fun t => K (r.x, ls, t, h)) (fun t => K (i + 1, ls, t, h))
  | .goto _ => K (r.x, ls, st, h)
  | .tableswitch _ _ _ _ => jx_1 st fun a t => jx_sw a r.v r.x (fun k => K (k, ls, t, h)) r.ts
  | .getfield _ => jx_r st fun a t => match r.z with
    | 0 => (jx_gI (jx_at h a) r.x r.y).bind fun v => K (i + 1, ls, .int v :: t, h)
    | 1 => (jx_gL (jx_at h a) r.x r.y).bind fun v => K (i + 1, ls, .long v :: t, h)
    | _ => (jx_gR (jx_at h a) r.x r.y).bind fun v => K (i + 1, ls, .ref v :: t, h)
  | .putfield _ => jx_pv r.z st fun v a t => (jx_pF (jx_at h a) r.x r.y v).bind fun e => K (i + 1, ls, t, jx_set h a e)
  | .getstatic _ => K (i + 1, ls, .retAddr r.x :: st, h)
  | .iaload => jx_ir st (fun k a t => (jx_aI (jx_at h a) 0 k).bind fun v => K (i + 1, ls, .int v :: t, h)) (fun k a t => if jx_out k (rc a).1 = true then none else K (i + 1, ls, .int ((rc a).2 k.toNatClampNeg) :: t, h))
  | .baload => jx_ia st fun k a t => match r.z with
    | 2 => (jx_aI (jx_at h a) 2 k).bind fun v => K (i + 1, ls, .int v.toInt8.toInt32 :: t, h)
    | _ => (jx_aI (jx_at h a) 3 k).bind fun v => K (i + 1, ls, .int v :: t, h)
  | .laload => jx_ia st fun k a t => (jx_aL (jx_at h a) k).bind fun v => K (i + 1, ls, .long v :: t, h)
  | .aaload => jx_ia st fun k a t => (jx_aQ (jx_at h a) r.z k).bind fun v => jx_ov v fun w => K (i + 1, ls, w :: t, h)
  | .iastore => jx_vs st fun v k a t => (jx_sI (jx_at h a) 0 k v).bind fun e => K (i + 1, ls, t, jx_set h a e)
  | .bastore => jx_vs st fun v k a t => match r.z with
    | 2 => (jx_sI (jx_at h a) 2 k v.toInt8.toInt32).bind fun e => K (i + 1, ls, t, jx_set h a e)
    | _ => if jx_bool v = true then (jx_sI (jx_at h a) 3 k v).bind fun e => K (i + 1, ls, t, jx_set h a e) else none
  | .lastore => jx_vsL st fun v k a t => (jx_sL (jx_at h a) k v).bind fun e => K (i + 1, ls, t, jx_set h a e)
  | .aastore => jx_vsQ st (fun v k a t => if jx_is (jx_at h v) r.x = true then (jx_sQ (jx_at h a) r.z k (some v)).bind fun e => K (i + 1, ls, t, jx_set h a e) else none) (fun k a t => (jx_sQ (jx_at h a) r.z k none).bind fun e => K (i + 1, ls, t, jx_set h a e))
  | .arraylength => jx_rr st (fun a t => (jx_len (jx_at h a)).bind fun n => K (i + 1, ls, .int (Int32.ofNat n) :: t, h)) (fun a t => K (i + 1, ls, .int (Int32.ofNat (rc a).1) :: t, h))
  | .new _ => K (i + 1, ls, .ref h.1 :: st, jx_new h r.y (.inl (r.x, df r.x)))
  | .newarray _ => jx_1 st fun n t => if n < 0 ∨ 5000 < n then none else K (i + 1, ls, .ref h.1 :: t, jx_new h n.toNatClampNeg (jx_arr r.x n.toNatClampNeg))
  | .anewarray _ => jx_1 st fun n t => if n < 0 ∨ 5000 < n then none else K (i + 1, ls, .ref h.1 :: t, jx_new h n.toNatClampNeg (jxQ r.x n.toNatClampNeg (fun _ => none)))
  | .multianewarray _ _ => jx_2 st fun n k t => if n < 0 ∨ 5000 < n ∨ k < 0 ∨ 5000 < k then none else K (i + 1, ls, .ref h.1 :: t, jx_inner h n.toNatClampNeg k.toNatClampNeg)
  | .invokespecial _ => match r.z with
    | 9 => jx_r st fun _ t => if jx_short t = true then K (i + 1, ls, t, h) else none
    | _ => jx_call (r.y + 1) 0 st (fun as => c r.x as h) fun st' h' => K (i + 1, ls, st', h')
  | .invokestatic _ => match r.z with
    | 9 => jx_cps st fun a sp b dp n t => if jx_short t = true then (jx_cp (jx_at h a) (jx_at h b) r.x sp dp n).bind fun e => K (i + 1, ls, t, jx_set h b e) else none
    | _ => jx_call r.y r.z st (fun as => c r.x as h) fun st' h' => K (i + 1, ls, st', h')
  | .invokevirtual _ => jx_call (r.y + 1) r.z st (fun as => c r.x as h) fun st' h' => K (i + 1, ls, st', h')
  | .ireturn => jx_ri r.z st h
  | .lreturn => jx_rl st h
  | .areturn => jx_ra st h
  | .return_ => jx_rv st h
  | _ => none
def jx_one (rc : Nat → Nat × (Nat → Int32)) (df : Nat → List Value) (c : Nat → List Value → jxH → jxR) (code : List jxRow) (K : jxS → jxR) (s : jxS) : jxR := match code[s.1]? with
  | some r => jx_step rc df c K r s.1 s.2.1 s.2.2.1 s.2.2.2
  | none => none
/-- the locals that live at a head, for every way that comes there -/
def jx_hd (code : List jxRow) (i : Nat) : Option (List Nat) := match code[i]? with
  | some r => r.lv
  | none => none
def jx_norm (code : List jxRow) (s : jxS) : jxS := match jx_hd code s.1 with
  | some L => (s.1, jx_pick s.2.1 L, s.2.2)
  | none => s
def jx_loop (rc : Nat → Nat × (Nat → Int32)) (df : Nat → List Value) (c : Nat → List Value → jxH → jxR) (code : List jxRow) : Nat → jxS → jxR
  | 0, _ => none
  | n + 1, s => jx_one rc df c code (fun s' => jx_loop rc df c code n (jx_norm code s')) s
/-- on till the next head -/
def jx_run (rc : Nat → Nat × (Nat → Int32)) (df : Nat → List Value) (c : Nat → List Value → jxH → jxR) (code : List jxRow) (K : jxS → jxR) : Nat → jxS → jxR
  | 0, s => K s
  | n + 1, s => jx_one rc df c code (fun s' => match jx_hd code s'.1 with
    | some L => K (s'.1, jx_pick s'.2.1 L, s'.2.2)
    | none => jx_run rc df c code K n s') s
