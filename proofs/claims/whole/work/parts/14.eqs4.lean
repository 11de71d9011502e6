-- RoomTrees$Forest.grow(I)I
set_option maxRecDepth 100000 in
theorem je_240 (rc : Nat → Nat × (Nat → Int32)) (d : Nat) (a0 : Nat) (x1 : Int32) (h : jxH) : jx_C rc (d + 1) 240 [.ref a0, .int x1] h =
  if jx_is (jx_at h a0) 1 = true then
  (jx_gI (jx_at h a0) 1 2).bind fun v1 =>
  jx_cI (jx_C rc d 67 [.int (v1 ^^^ (-1 : Int32))] h) fun v3 h2 =>
  jx_cI (jx_C rc d 59 [.int v3] h2) fun v5 h4 =>
  if v5 = 0 then
    some (some (.int v3), h4)
  else
    (jx_gI (jx_at h4 a0) 1 2).bind fun v6 =>
    (jx_pF (jx_at h4 a0) 1 2 (.int (v6 ||| ((1 : Int32) <<< (v3 &&& 31))))).bind fun e7 =>
    (jx_gR (jx_at (jx_set h4 a0 e7) a0) 1 0).bind fun b8 =>
    (jx_sI (jx_at (jx_set h4 a0 e7) b8) 0 v3 x1).bind fun e9 =>
    some (some (.int v3), (jx_set (jx_set h4 a0 e7) b8 e9))
  else none :=
  jx_enter ((jx_G_run (jx_X_grows rc jx_dflt jx_mt d) 26 (0, [(0, .ref a0), (1, .int x1)], [], h)).trans rfl)
-- RoomTrees$Forest.join(II)V
set_option maxRecDepth 100000 in
theorem je_241 (rc : Nat → Nat × (Nat → Int32)) (d : Nat) (a0 : Nat) (x1 : Int32) (x2 : Int32) (h : jxH) : jx_C rc (d + 1) 241 [.ref a0, .int x1, .int x2] h =
  if jx_is (jx_at h a0) 1 = true then
  if x1 < 0 then
    some (none, h)
  else
    if (12 : Int32) ≤ x1 then
      some (none, h)
    else
      if x2 < 0 then
        some (none, h)
      else
        if (12 : Int32) ≤ x2 then
          some (none, h)
        else
          (jx_gR (jx_at h a0) 1 1).bind fun b1 =>
          (jx_aI (jx_at h b1) 0 x1).bind fun v2 =>
          (jx_sI (jx_at h b1) 0 x1 (v2 ||| ((1 : Int32) <<< (x2 &&& 31)))).bind fun e3 =>
          (jx_gR (jx_at (jx_set h b1 e3) a0) 1 1).bind fun b4 =>
          (jx_aI (jx_at (jx_set h b1 e3) b4) 0 x2).bind fun v5 =>
          (jx_sI (jx_at (jx_set h b1 e3) b4) 0 x2 (v5 ||| ((1 : Int32) <<< (x1 &&& 31)))).bind fun e6 =>
          some (none, (jx_set (jx_set h b1 e3) b4 e6))
  else none :=
  jx_enter ((jx_G_run (jx_X_grows rc jx_dflt jx_mt d) 33 (0, [(0, .ref a0), (1, .int x1), (2, .int x2)], [], h)).trans rfl)
-- RoomTrees$Forest.joinAll(II)V
noncomputable def jb_242 (rc : Nat → Nat × (Nat → Int32)) (d : Nat) (i : Nat) (ls : List (Nat × Value)) (st : List Value) (h : jxH) : jxR := jx_G rc jx_dflt (jx_X rc jx_dflt jx_mt d) jc_242 (i, ls, st, h)
set_option maxRecDepth 100000 in
theorem je_242 (rc : Nat → Nat × (Nat → Int32)) (d : Nat) (a0 : Nat) (x1 : Int32) (x2 : Int32) (h : jxH) : jx_C rc (d + 1) 242 [.ref a0, .int x1, .int x2] h =
  if jx_is (jx_at h a0) 1 = true then
  jb_242 rc d 2 [(0, .ref a0), (1, .int x1), (2, .int x2), (3, .int (0 : Int32))] [] h
  else none :=
  jx_enter ((jx_G_run (jx_X_grows rc jx_dflt jx_mt d) 20 (0, [(0, .ref a0), (1, .int x1), (2, .int x2)], [], h)).trans rfl)
set_option maxRecDepth 100000 in
theorem je_242_2 (rc : Nat → Nat × (Nat → Int32)) (d : Nat) (a0 : Nat) (x1 : Int32) (x2 : Int32) (x3 : Int32) (h : jxH) : jb_242 rc d 2 [(0, .ref a0), (1, .int x1), (2, .int x2), (3, .int x3)] [] h =
  if (12 : Int32) ≤ x3 then
    some (none, h)
  else
    if ((x2 >>> (x3 &&& 31)) &&& (1 : Int32)) = 0 then
      jb_242 rc d 2 [(0, .ref a0), (1, .int x1), (2, .int x2), (3, .int (x3 + (1 : Int32)))] [] h
    else
      jx_cV (jx_C rc d 241 [.ref a0, .int x1, .int x3] h) fun h1 =>
      jb_242 rc d 2 [(0, .ref a0), (1, .int x1), (2, .int x2), (3, .int (x3 + (1 : Int32)))] [] h1 :=
  (jx_G_run (jx_X_grows rc jx_dflt jx_mt d) 20 _).trans rfl
-- RoomTrees$Forest.part(II)V
set_option maxRecDepth 100000 in
theorem je_243 (rc : Nat → Nat × (Nat → Int32)) (d : Nat) (a0 : Nat) (x1 : Int32) (x2 : Int32) (h : jxH) : jx_C rc (d + 1) 243 [.ref a0, .int x1, .int x2] h =
  if jx_is (jx_at h a0) 1 = true then
  if x1 < 0 then
    some (none, h)
  else
    if (12 : Int32) ≤ x1 then
      some (none, h)
    else
      if x2 < 0 then
        some (none, h)
      else
        if (12 : Int32) ≤ x2 then
          some (none, h)
        else
          (jx_gR (jx_at h a0) 1 1).bind fun b1 =>
          (jx_aI (jx_at h b1) 0 x1).bind fun v2 =>
          (jx_sI (jx_at h b1) 0 x1 (v2 &&& (((1 : Int32) <<< (x2 &&& 31)) ^^^ (-1 : Int32)))).bind fun e3 =>
          (jx_gR (jx_at (jx_set h b1 e3) a0) 1 1).bind fun b4 =>
          (jx_aI (jx_at (jx_set h b1 e3) b4) 0 x2).bind fun v5 =>
          (jx_sI (jx_at (jx_set h b1 e3) b4) 0 x2 (v5 &&& (((1 : Int32) <<< (x1 &&& 31)) ^^^ (-1 : Int32)))).bind fun e6 =>
          some (none, (jx_set (jx_set h b1 e3) b4 e6))
  else none :=
  jx_enter ((jx_G_run (jx_X_grows rc jx_dflt jx_mt d) 37 (0, [(0, .ref a0), (1, .int x1), (2, .int x2)], [], h)).trans rfl)
-- RoomTrees$Forest.partAll(II)V
noncomputable def jb_244 (rc : Nat → Nat × (Nat → Int32)) (d : Nat) (i : Nat) (ls : List (Nat × Value)) (st : List Value) (h : jxH) : jxR := jx_G rc jx_dflt (jx_X rc jx_dflt jx_mt d) jc_244 (i, ls, st, h)
set_option maxRecDepth 100000 in
theorem je_244 (rc : Nat → Nat × (Nat → Int32)) (d : Nat) (a0 : Nat) (x1 : Int32) (x2 : Int32) (h : jxH) : jx_C rc (d + 1) 244 [.ref a0, .int x1, .int x2] h =
  if jx_is (jx_at h a0) 1 = true then
  jb_244 rc d 2 [(0, .ref a0), (1, .int x1), (2, .int x2), (3, .int (0 : Int32))] [] h
  else none :=
  jx_enter ((jx_G_run (jx_X_grows rc jx_dflt jx_mt d) 20 (0, [(0, .ref a0), (1, .int x1), (2, .int x2)], [], h)).trans rfl)
set_option maxRecDepth 100000 in
theorem je_244_2 (rc : Nat → Nat × (Nat → Int32)) (d : Nat) (a0 : Nat) (x1 : Int32) (x2 : Int32) (x3 : Int32) (h : jxH) : jb_244 rc d 2 [(0, .ref a0), (1, .int x1), (2, .int x2), (3, .int x3)] [] h =
  if (12 : Int32) ≤ x3 then
    some (none, h)
  else
    if ((x2 >>> (x3 &&& 31)) &&& (1 : Int32)) = 0 then
      jb_244 rc d 2 [(0, .ref a0), (1, .int x1), (2, .int x2), (3, .int (x3 + (1 : Int32)))] [] h
    else
      jx_cV (jx_C rc d 243 [.ref a0, .int x1, .int x3] h) fun h1 =>
      jb_244 rc d 2 [(0, .ref a0), (1, .int x1), (2, .int x2), (3, .int (x3 + (1 : Int32)))] [] h1 :=
  (jx_G_run (jx_X_grows rc jx_dflt jx_mt d) 20 _).trans rfl
-- RoomTrees$Forest.remove(I)V
noncomputable def jb_245 (rc : Nat → Nat × (Nat → Int32)) (d : Nat) (i : Nat) (ls : List (Nat × Value)) (st : List Value) (h : jxH) : jxR := jx_G rc jx_dflt (jx_X rc jx_dflt jx_mt d) jc_245 (i, ls, st, h)
set_option maxRecDepth 100000 in
theorem je_245 (rc : Nat → Nat × (Nat → Int32)) (d : Nat) (a0 : Nat) (x1 : Int32) (h : jxH) : jx_C rc (d + 1) 245 [.ref a0, .int x1] h =
  if jx_is (jx_at h a0) 1 = true then
  jx_cI (jx_C rc d 226 [.ref a0, .int x1] h) fun v2 h1 =>
  if v2 = 0 then
    some (none, h1)
  else
    jb_245 rc d 6 [(0, .ref a0), (1, .int x1), (2, .int (0 : Int32))] [] h1
  else none :=
  jx_enter ((jx_G_run (jx_X_grows rc jx_dflt jx_mt d) 46 (0, [(0, .ref a0), (1, .int x1)], [], h)).trans rfl)
set_option maxRecDepth 100000 in
theorem je_245_6 (rc : Nat → Nat × (Nat → Int32)) (d : Nat) (a0 : Nat) (x1 : Int32) (x2 : Int32) (h : jxH) : jb_245 rc d 6 [(0, .ref a0), (1, .int x1), (2, .int x2)] [] h =
  if (12 : Int32) ≤ x2 then
    (jx_gR (jx_at h a0) 1 1).bind fun b1 =>
    (jx_sI (jx_at h b1) 0 x1 (0 : Int32)).bind fun e2 =>
    (jx_gR (jx_at (jx_set h b1 e2) a0) 1 0).bind fun b3 =>
    (jx_sI (jx_at (jx_set h b1 e2) b3) 0 x1 (0 : Int32)).bind fun e4 =>
    (jx_gI (jx_at (jx_set (jx_set h b1 e2) b3 e4) a0) 1 2).bind fun v5 =>
    (jx_pF (jx_at (jx_set (jx_set h b1 e2) b3 e4) a0) 1 2 (.int (v5 &&& (((1 : Int32) <<< (x1 &&& 31)) ^^^ (-1 : Int32))))).bind fun e6 =>
    some (none, (jx_set (jx_set (jx_set h b1 e2) b3 e4) a0 e6))
  else
    (jx_gR (jx_at h a0) 1 1).bind fun b7 =>
    (jx_aI (jx_at h b7) 0 x2).bind fun v8 =>
    (jx_sI (jx_at h b7) 0 x2 (v8 &&& (((1 : Int32) <<< (x1 &&& 31)) ^^^ (-1 : Int32)))).bind fun e9 =>
    jb_245 rc d 6 [(0, .ref a0), (1, .int x1), (2, .int (x2 + (1 : Int32)))] [] (jx_set h b7 e9) :=
  (jx_G_run (jx_X_grows rc jx_dflt jx_mt d) 46 _).trans rfl
-- RoomTrees$Forest.print()I
noncomputable def jb_246 (rc : Nat → Nat × (Nat → Int32)) (d : Nat) (i : Nat) (ls : List (Nat × Value)) (st : List Value) (h : jxH) : jxR := jx_G rc jx_dflt (jx_X rc jx_dflt jx_mt d) jc_246 (i, ls, st, h)
set_option maxRecDepth 100000 in
theorem je_246 (rc : Nat → Nat × (Nat → Int32)) (d : Nat) (a0 : Nat) (h : jxH) : jx_C rc (d + 1) 246 [.ref a0] h =
  if jx_is (jx_at h a0) 1 = true then
  jb_246 rc d 4 [(0, .ref a0), (1, .int (0 : Int32)), (2, .int (0 : Int32))] [] h
  else none :=
  jx_enter ((jx_G_run (jx_X_grows rc jx_dflt jx_mt d) 44 (0, [(0, .ref a0)], [], h)).trans rfl)
set_option maxRecDepth 100000 in
theorem je_246_4 (rc : Nat → Nat × (Nat → Int32)) (d : Nat) (a0 : Nat) (x1 : Int32) (x2 : Int32) (h : jxH) : jb_246 rc d 4 [(0, .ref a0), (1, .int x1), (2, .int x2)] [] h =
  if (12 : Int32) ≤ x2 then
    some (some (.int x1), h)
  else
    jx_cI (jx_C rc d 226 [.ref a0, .int x2] h) fun v2 h1 =>
    if v2 = 0 then
      jb_246 rc d 4 [(0, .ref a0), (1, .int x1), (2, .int (x2 + (1 : Int32)))] [] h1
    else
      (jx_gR (jx_at h1 a0) 1 0).bind fun b3 =>
      (jx_aI (jx_at h1 b3) 0 x2).bind fun v4 =>
      jx_cI (jx_C rc d 230 [.ref a0, .int x2] h1) fun v6 h5 =>
      jx_cI (jx_C rc d 247 [.ref a0, .int x2] h5) fun v8 h7 =>
      jb_246 rc d 4 [(0, .ref a0), (1, .int (x1 + (((((((v4 * (31 : Int32)) + v6) * (1009 : Int32)) + v8) + (77777 : Int32)) * (((((v4 * (31 : Int32)) + v6) * (1009 : Int32)) + v8) + (77777 : Int32))) * (((((v4 * (31 : Int32)) + v6) * (1009 : Int32)) + v8) + (77777 : Int32))))), (2, .int (x2 + (1 : Int32)))] [] h7 :=
  (jx_G_run (jx_X_grows rc jx_dflt jx_mt d) 44 _).trans rfl
-- RoomTrees$Forest.nearSum(I)I
noncomputable def jb_247 (rc : Nat → Nat × (Nat → Int32)) (d : Nat) (i : Nat) (ls : List (Nat × Value)) (st : List Value) (h : jxH) : jxR := jx_G rc jx_dflt (jx_X rc jx_dflt jx_mt d) jc_247 (i, ls, st, h)
set_option maxRecDepth 100000 in
theorem je_247 (rc : Nat → Nat × (Nat → Int32)) (d : Nat) (a0 : Nat) (x1 : Int32) (h : jxH) : jx_C rc (d + 1) 247 [.ref a0, .int x1] h =
  if jx_is (jx_at h a0) 1 = true then
  jb_247 rc d 4 [(0, .ref a0), (1, .int x1), (2, .int (0 : Int32)), (3, .int (0 : Int32))] [] h
  else none :=
  jx_enter ((jx_G_run (jx_X_grows rc jx_dflt jx_mt d) 27 (0, [(0, .ref a0), (1, .int x1)], [], h)).trans rfl)
set_option maxRecDepth 100000 in
theorem je_247_4 (rc : Nat → Nat × (Nat → Int32)) (d : Nat) (a0 : Nat) (x1 : Int32) (x2 : Int32) (x3 : Int32) (h : jxH) : jb_247 rc d 4 [(0, .ref a0), (1, .int x1), (2, .int x2), (3, .int x3)] [] h =
  if (12 : Int32) ≤ x3 then
    some (some (.int x2), h)
  else
    jx_cI (jx_C rc d 231 [.ref a0, .int x1, .int x3] h) fun v2 h1 =>
    if v2 = 0 then
      jb_247 rc d 4 [(0, .ref a0), (1, .int x1), (2, .int (x2 + (0 : Int32))), (3, .int (x3 + (1 : Int32)))] [] h1
    else
      (jx_gR (jx_at h1 a0) 1 0).bind fun b3 =>
      (jx_aI (jx_at h1 b3) 0 x3).bind fun v4 =>
      jb_247 rc d 4 [(0, .ref a0), (1, .int x1), (2, .int (x2 + v4)), (3, .int (x3 + (1 : Int32)))] [] h1 :=
  (jx_G_run (jx_X_grows rc jx_dflt jx_mt d) 27 _).trans rfl
-- RoomTrees$Reckoner.<init>()V
set_option maxRecDepth 100000 in
theorem je_248 (rc : Nat → Nat × (Nat → Int32)) (d : Nat) (a0 : Nat) (h : jxH) : jx_C rc (d + 1) 248 [.ref a0] h =
  if jx_is (jx_at h a0) 2 = true then
  jx_cV (jx_C rc d 318 [.ref h.1] (jx_new h 5 (.inl (10, jx_dflt 10)))) fun h1 =>
  (jx_pF (jx_at h1 a0) 2 0 (.ref h.1)).bind fun e2 =>
  if (12 : Int32) < 0 ∨ 5000 < (12 : Int32) then none else
  (jx_pF (jx_at (jx_new (jx_set h1 a0 e2) ((12 : Int32)).toNatClampNeg (jx_arr 1 ((12 : Int32)).toNatClampNeg)) a0) 2 1 (.ref (jx_set h1 a0 e2).1)).bind fun e3 =>
  if (12 : Int32) < 0 ∨ 5000 < (12 : Int32) then none else
  (jx_pF (jx_at (jx_new (jx_set (jx_new (jx_set h1 a0 e2) ((12 : Int32)).toNatClampNeg (jx_arr 1 ((12 : Int32)).toNatClampNeg)) a0 e3) ((12 : Int32)).toNatClampNeg (jx_arr 1 ((12 : Int32)).toNatClampNeg)) a0) 2 2 (.ref (jx_set (jx_new (jx_set h1 a0 e2) ((12 : Int32)).toNatClampNeg (jx_arr 1 ((12 : Int32)).toNatClampNeg)) a0 e3).1)).bind fun e4 =>
  if (12 : Int32) < 0 ∨ 5000 < (12 : Int32) then none else
  (jx_pF (jx_at (jx_new (jx_set (jx_new (jx_set (jx_new (jx_set h1 a0 e2) ((12 : Int32)).toNatClampNeg (jx_arr 1 ((12 : Int32)).toNatClampNeg)) a0 e3) ((12 : Int32)).toNatClampNeg (jx_arr 1 ((12 : Int32)).toNatClampNeg)) a0 e4) ((12 : Int32)).toNatClampNeg (jx_arr 0 ((12 : Int32)).toNatClampNeg)) a0) 2 3 (.ref (jx_set (jx_new (jx_set (jx_new (jx_set h1 a0 e2) ((12 : Int32)).toNatClampNeg (jx_arr 1 ((12 : Int32)).toNatClampNeg)) a0 e3) ((12 : Int32)).toNatClampNeg (jx_arr 1 ((12 : Int32)).toNatClampNeg)) a0 e4).1)).bind fun e5 =>
  some (none, (jx_set (jx_new (jx_set (jx_new (jx_set (jx_new (jx_set h1 a0 e2) ((12 : Int32)).toNatClampNeg (jx_arr 1 ((12 : Int32)).toNatClampNeg)) a0 e3) ((12 : Int32)).toNatClampNeg (jx_arr 1 ((12 : Int32)).toNatClampNeg)) a0 e4) ((12 : Int32)).toNatClampNeg (jx_arr 0 ((12 : Int32)).toNatClampNeg)) a0 e5))
  else none :=
  jx_enter ((jx_G_run (jx_X_grows rc jx_dflt jx_mt d) 22 (0, [(0, .ref a0)], [], h)).trans rfl)
-- RoomTrees$Reckoner.minorOf(LRoomTrees$Forest;I)J
noncomputable def jb_249 (rc : Nat → Nat × (Nat → Int32)) (d : Nat) (i : Nat) (ls : List (Nat × Value)) (st : List Value) (h : jxH) : jxR := jx_G rc jx_dflt (jx_X rc jx_dflt jx_mt d) jc_249 (i, ls, st, h)
set_option maxRecDepth 100000 in
theorem je_249 (rc : Nat → Nat × (Nat → Int32)) (d : Nat) (a0 : Nat) (a1 : Nat) (x2 : Int32) (h : jxH) : jx_C rc (d + 1) 249 [.ref a0, .ref a1, .int x2] h =
  if jx_is (jx_at h a0) 2 = true then
  (jx_gR (jx_at h a0) 2 0).bind fun b1 =>
  jx_cV (jx_C rc d 319 [.ref b1, .ref a1, .int x2] h) fun h2 =>
  jx_cV (jx_C rc d 250 [.ref a0, .ref a1, .int (0 : Int32)] h2) fun h3 =>
  jb_249 rc d 13 [(0, .ref a0), (3, .long (1 : Int64)), (5, .int (11 : Int32))] [] h3
  else none :=
  jx_enter ((jx_G_run (jx_X_grows rc jx_dflt jx_mt d) 53 (0, [(0, .ref a0), (1, .ref a1), (2, .int x2)], [], h)).trans rfl)
set_option maxRecDepth 100000 in
theorem je_249_13 (rc : Nat → Nat × (Nat → Int32)) (d : Nat) (a0 : Nat) (x3 : Int64) (x5 : Int32) (h : jxH) : jb_249 rc d 13 [(0, .ref a0), (3, .long x3), (5, .int x5)] [] h =
  if x5 < 0 then
    some (some (.long x3), h)
  else
    (jx_gR (jx_at h a0) 2 0).bind fun b1 =>
    jx_cI (jx_C rc d 323 [.ref b1, .int x5] h) fun v3 h2 =>
    (jx_gR (jx_at h2 a0) 2 0).bind fun b4 =>
    jx_cI (jx_C rc d 324 [.ref b4, .int v3] h2) fun v6 h5 =>
    jx_cI (jx_C rc d 59 [.int v3] h5) fun v8 h7 =>
    if v8 = 0 then
      jx_cI (jx_C rc d 59 [.int v3] h7) fun v10 h9 =>
      if v10 = 0 then
        jb_249 rc d 13 [(0, .ref a0), (3, .long x3), (5, .int (x5 + (-1 : Int32)))] [] h9
      else
        (jx_gR (jx_at h9 a0) 2 1).bind fun b11 =>
        (jx_aL (jx_at h9 b11) v3).bind fun v12 =>
        jb_249 rc d 13 [(0, .ref a0), (3, .long (x3 * v12)), (5, .int (x5 + (-1 : Int32)))] [] h9
    else
      jx_cI (jx_C rc d 59 [.int v6] h7) fun v14 h13 =>
      if v14 = 0 then
        jx_cI (jx_C rc d 59 [.int v3] h13) fun v16 h15 =>
        if v16 = 0 then
          jb_249 rc d 13 [(0, .ref a0), (3, .long x3), (5, .int (x5 + (-1 : Int32)))] [] h15
        else
          (jx_gR (jx_at h15 a0) 2 1).bind fun b17 =>
          (jx_aL (jx_at h15 b17) v3).bind fun v18 =>
          jb_249 rc d 13 [(0, .ref a0), (3, .long (x3 * v18)), (5, .int (x5 + (-1 : Int32)))] [] h15
      else
        jx_cV (jx_C rc d 251 [.ref a0, .int v3, .int v6, .int (0 : Int32)] h13) fun h19 =>
        jb_249 rc d 13 [(0, .ref a0), (3, .long x3), (5, .int (x5 + (-1 : Int32)))] [] h19 :=
  (jx_G_run (jx_X_grows rc jx_dflt jx_mt d) 53 _).trans rfl
-- RoomTrees$Reckoner.start(LRoomTrees$Forest;I)V
noncomputable def jb_250 (rc : Nat → Nat × (Nat → Int32)) (d : Nat) (i : Nat) (ls : List (Nat × Value)) (st : List Value) (h : jxH) : jxR := jx_G rc jx_dflt (jx_X rc jx_dflt jx_mt d) jc_250 (i, ls, st, h)
set_option maxRecDepth 100000 in
theorem je_250 (rc : Nat → Nat × (Nat → Int32)) (d : Nat) (a0 : Nat) (a1 : Nat) (x2 : Int32) (h : jxH) : jx_C rc (d + 1) 250 [.ref a0, .ref a1, .int x2] h =
  if jx_is (jx_at h a0) 2 = true then
  jb_250 rc d 2 [(0, .ref a0), (1, .ref a1), (2, .int x2), (3, .int (0 : Int32))] [] h
  else none :=
  jx_enter ((jx_G_run (jx_X_grows rc jx_dflt jx_mt d) 25 (0, [(0, .ref a0), (1, .ref a1), (2, .int x2)], [], h)).trans rfl)
set_option maxRecDepth 100000 in
theorem je_250_2 (rc : Nat → Nat × (Nat → Int32)) (d : Nat) (a0 : Nat) (a1 : Nat) (x2 : Int32) (x3 : Int32) (h : jxH) : jb_250 rc d 2 [(0, .ref a0), (1, .ref a1), (2, .int x2), (3, .int x3)] [] h =
  if (12 : Int32) ≤ x3 then
    some (none, h)
  else
    (jx_gR (jx_at h a0) 2 1).bind fun b1 =>
    jx_cI (jx_C rc d 228 [.ref a1, .int x3] h) fun v3 h2 =>
    jx_cL (jx_C rc d 252 [.long (v3).toInt64, .int x2] h2) fun v5 h4 =>
    (jx_sL (jx_at h4 b1) x3 v5).bind fun e6 =>
    (jx_gR (jx_at (jx_set h4 b1 e6) a0) 2 2).bind fun b7 =>
    (jx_sL (jx_at (jx_set h4 b1 e6) b7) x3 (1 : Int64)).bind fun e8 =>
    jb_250 rc d 2 [(0, .ref a0), (1, .ref a1), (2, .int x2), (3, .int (x3 + (1 : Int32)))] [] (jx_set (jx_set h4 b1 e6) b7 e8) :=
  (jx_G_run (jx_X_grows rc jx_dflt jx_mt d) 25 _).trans rfl
-- RoomTrees$Reckoner.fold(III)V
set_option maxRecDepth 100000 in
theorem je_251 (rc : Nat → Nat × (Nat → Int32)) (d : Nat) (a0 : Nat) (x1 : Int32) (x2 : Int32) (x3 : Int32) (h : jxH) : jx_C rc (d + 1) 251 [.ref a0, .int x1, .int x2, .int x3] h =
  if jx_is (jx_at h a0) 2 = true then
  jx_cI (jx_C rc d 59 [.int x1] h) fun v2 h1 =>
  if v2 = 0 then
    some (none, h1)
  else
    jx_cI (jx_C rc d 59 [.int x2] h1) fun v4 h3 =>
    if v4 = 0 then
      some (none, h3)
    else
      (jx_gR (jx_at h3 a0) 2 1).bind fun b5 =>
      (jx_gR (jx_at h3 a0) 2 1).bind fun b6 =>
      (jx_aL (jx_at h3 b6) x2).bind fun v7 =>
      (jx_gR (jx_at h3 a0) 2 1).bind fun b8 =>
      (jx_aL (jx_at h3 b8) x1).bind fun v9 =>
      (jx_gR (jx_at h3 a0) 2 2).bind fun b10 =>
      (jx_aL (jx_at h3 b10) x2).bind fun v11 =>
      (jx_gR (jx_at h3 a0) 2 2).bind fun b12 =>
      (jx_aL (jx_at h3 b12) x1).bind fun v13 =>
      jx_cL (jx_C rc d 252 [.long ((v7 * v9) - (v11 * v13)), .int x3] h3) fun v15 h14 =>
      (jx_sL (jx_at h14 b5) x2 v15).bind fun e16 =>
      (jx_gR (jx_at (jx_set h14 b5 e16) a0) 2 2).bind fun b17 =>
      (jx_gR (jx_at (jx_set h14 b5 e16) a0) 2 2).bind fun b18 =>
      (jx_aL (jx_at (jx_set h14 b5 e16) b18) x2).bind fun v19 =>
      (jx_gR (jx_at (jx_set h14 b5 e16) a0) 2 1).bind fun b20 =>
      (jx_aL (jx_at (jx_set h14 b5 e16) b20) x1).bind fun v21 =>
      jx_cL (jx_C rc d 252 [.long (v19 * v21), .int x3] (jx_set h14 b5 e16)) fun v23 h22 =>
      (jx_sL (jx_at h22 b17) x2 v23).bind fun e24 =>
      some (none, (jx_set h22 b17 e24))
  else none :=
  jx_enter ((jx_G_run (jx_X_grows rc jx_dflt jx_mt d) 49 (0, [(0, .ref a0), (1, .int x1), (2, .int x2), (3, .int x3)], [], h)).trans rfl)
-- RoomTrees$Reckoner.left(JI)J
set_option maxRecDepth 100000 in
theorem je_252 (rc : Nat → Nat × (Nat → Int32)) (d : Nat) (x0 : Int64) (x2 : Int32) (h : jxH) : jx_C rc (d + 1) 252 [.long x0, .int x2] h =
  if x2 ≤ 0 then
    some (some (.long x0), h)
  else
    jx_cL (jx_C rc d 329 [.long x0, .long (x2).toInt64] h) fun v2 h1 =>
    some (some (.long v2), h1) :=
  (jx_G_run (jx_X_grows rc jx_dflt jx_mt d) 11 (0, [(0, .long x0), (2, .int x2)], [], h)).trans rfl
-- RoomTrees$Reckoner.inverseOf(LRoomTrees$Forest;II)Z
noncomputable def jb_253 (rc : Nat → Nat × (Nat → Int32)) (d : Nat) (i : Nat) (ls : List (Nat × Value)) (st : List Value) (h : jxH) : jxR := jx_G rc jx_dflt (jx_X rc jx_dflt jx_mt d) jc_253 (i, ls, st, h)
set_option maxRecDepth 100000 in
theorem je_253 (rc : Nat → Nat × (Nat → Int32)) (d : Nat) (a0 : Nat) (a1 : Nat) (x2 : Int32) (x3 : Int32) (h : jxH) : jx_C rc (d + 1) 253 [.ref a0, .ref a1, .int x2, .int x3] h =
  if jx_is (jx_at h a0) 2 = true then
  (jx_gI (jx_at h a1) 1 2).bind fun v1 =>
  jx_cL (jx_C rc d 249 [.ref a0, .ref a1, .int v1] h) fun v3 h2 =>
  if (lg_cmp v3 (0 : Int64)) = 0 then
    if jx_bool (0 : Int32) = true then some (some (.int (0 : Int32)), h2) else none
  else
    (jx_gR (jx_at h2 a0) 2 0).bind fun b4 =>
    jx_cI (jx_C rc d 327 [.ref b4, .ref a1, .int x2, .int x3] h2) fun v6 h5 =>
    if v6 = 0 then
      jx_cI (jx_C rc d 328 [.int v6] h5) fun v8 h7 =>
      if (v8 &&& (1 : Int32)) = 0 then
        jb_253 rc d 42 [(0, .ref a0), (4, .long v3)] [.long (-(0 : Int64))] h7
      else
        jb_253 rc d 42 [(0, .ref a0), (4, .long v3)] [.long (0 : Int64)] h7
    else
      (jx_gI (jx_at h5 a1) 1 2).bind fun v9 =>
      jx_cL (jx_C rc d 249 [.ref a0, .ref a1, .int (v9 &&& (v6 ^^^ (-1 : Int32)))] h5) fun v11 h10 =>
      jx_cI (jx_C rc d 328 [.int v6] h10) fun v13 h12 =>
      if (v13 &&& (1 : Int32)) = 0 then
        jb_253 rc d 42 [(0, .ref a0), (4, .long v3)] [.long (-v11)] h12
      else
        jb_253 rc d 42 [(0, .ref a0), (4, .long v3)] [.long v11] h12
  else none :=
  jx_enter ((jx_G_run (jx_X_grows rc jx_dflt jx_mt d) 82 (0, [(0, .ref a0), (1, .ref a1), (2, .int x2), (3, .int x3)], [], h)).trans rfl)
set_option maxRecDepth 100000 in
theorem je_253_42 (rc : Nat → Nat × (Nat → Int32)) (d : Nat) (a0 : Nat) (x4 : Int64) (s0 : Int64) (h : jxH) : jb_253 rc d 42 [(0, .ref a0), (4, .long x4)] [.long s0] h =
  jx_cL (jx_C rc d 69 [.long s0, .long x4] h) fun v2 h1 =>
  if (lg_cmp v2 (0 : Int64)) = 0 then
    if jx_bool (0 : Int32) = true then some (some (.int (0 : Int32)), h1) else none
  else
    if v2 = 0 then none else (jx_pF (jx_at h1 a0) 2 4 (.long (s0 / v2))).bind fun e3 =>
    if v2 = 0 then none else (jx_pF (jx_at (jx_set h1 a0 e3) a0) 2 5 (.long (x4 / v2))).bind fun e4 =>
    (jx_gL (jx_at (jx_set (jx_set h1 a0 e3) a0 e4) a0) 2 5).bind fun v5 =>
    if 0 ≤ (lg_cmp v5 (0 : Int64)) then
      if jx_bool (1 : Int32) = true then some (some (.int (1 : Int32)), (jx_set (jx_set h1 a0 e3) a0 e4)) else none
    else
      (jx_gL (jx_at (jx_set (jx_set h1 a0 e3) a0 e4) a0) 2 4).bind fun v6 =>
      (jx_pF (jx_at (jx_set (jx_set h1 a0 e3) a0 e4) a0) 2 4 (.long (-v6))).bind fun e7 =>
      (jx_gL (jx_at (jx_set (jx_set (jx_set h1 a0 e3) a0 e4) a0 e7) a0) 2 5).bind fun v8 =>
      (jx_pF (jx_at (jx_set (jx_set (jx_set h1 a0 e3) a0 e4) a0 e7) a0) 2 5 (.long (-v8))).bind fun e9 =>
      if jx_bool (1 : Int32) = true then some (some (.int (1 : Int32)), (jx_set (jx_set (jx_set (jx_set h1 a0 e3) a0 e4) a0 e7) a0 e9)) else none :=
  (jx_G_run (jx_X_grows rc jx_dflt jx_mt d) 82 _).trans rfl
-- RoomTrees$Reckoner.fractionOf(LRoomTrees$Forest;II)Z
set_option maxRecDepth 100000 in
theorem je_254 (rc : Nat → Nat × (Nat → Int32)) (d : Nat) (a0 : Nat) (a1 : Nat) (x2 : Int32) (x3 : Int32) (h : jxH) : jx_C rc (d + 1) 254 [.ref a0, .ref a1, .int x2, .int x3] h =
  if jx_is (jx_at h a0) 2 = true then
  (jx_gR (jx_at h a0) 2 0).bind fun b1 =>
  jx_cI (jx_C rc d 327 [.ref b1, .ref a1, .int x2, .int x3] h) fun v3 h2 =>
  if v3 = 0 then
    if jx_bool (0 : Int32) = true then some (some (.int (0 : Int32)), h2) else none
  else
    jx_cL (jx_C rc d 249 [.ref a0, .ref a1, .int v3] h2) fun v5 h4 =>
    (jx_pF (jx_at h4 a0) 2 4 (.long v5)).bind fun e6 =>
    jx_cL (jx_C rc d 249 [.ref a0, .ref a1, .int (v3 &&& (((1 : Int32) <<< (x2 &&& 31)) ^^^ (-1 : Int32)))] (jx_set h4 a0 e6)) fun v8 h7 =>
    (jx_pF (jx_at h7 a0) 2 5 (.long v8)).bind fun e9 =>
    (jx_gL (jx_at (jx_set h7 a0 e9) a0) 2 5).bind fun v10 =>
    if 0 ≤ (lg_cmp v10 (0 : Int64)) then
      (jx_gL (jx_at (jx_set h7 a0 e9) a0) 2 5).bind fun v11 =>
      if (lg_cmp v11 (0 : Int64)) = 0 then
        (jx_pF (jx_at (jx_set h7 a0 e9) a0) 2 4 (.long (1 : Int64))).bind fun e12 =>
        if jx_bool (1 : Int32) = true then some (some (.int (1 : Int32)), (jx_set (jx_set h7 a0 e9) a0 e12)) else none
      else
        if jx_bool (1 : Int32) = true then some (some (.int (1 : Int32)), (jx_set h7 a0 e9)) else none
    else
      (jx_gL (jx_at (jx_set h7 a0 e9) a0) 2 4).bind fun v13 =>
      (jx_pF (jx_at (jx_set h7 a0 e9) a0) 2 4 (.long (-v13))).bind fun e14 =>
      (jx_gL (jx_at (jx_set (jx_set h7 a0 e9) a0 e14) a0) 2 5).bind fun v15 =>
      (jx_pF (jx_at (jx_set (jx_set h7 a0 e9) a0 e14) a0) 2 5 (.long (-v15))).bind fun e16 =>
      if jx_bool (1 : Int32) = true then some (some (.int (1 : Int32)), (jx_set (jx_set (jx_set h7 a0 e9) a0 e14) a0 e16)) else none
  else none :=
  jx_enter ((jx_G_run (jx_X_grows rc jx_dflt jx_mt d) 57 (0, [(0, .ref a0), (1, .ref a1), (2, .int x2), (3, .int x3)], [], h)).trans rfl)
-- RoomTrees$Reckoner.roomOf(LRoomTrees$Forest;I)V
noncomputable def jb_255 (rc : Nat → Nat × (Nat → Int32)) (d : Nat) (i : Nat) (ls : List (Nat × Value)) (st : List Value) (h : jxH) : jxR := jx_G rc jx_dflt (jx_X rc jx_dflt jx_mt d) jc_255 (i, ls, st, h)
set_option maxRecDepth 100000 in
theorem je_255 (rc : Nat → Nat × (Nat → Int32)) (d : Nat) (a0 : Nat) (a1 : Nat) (x2 : Int32) (h : jxH) : jx_C rc (d + 1) 255 [.ref a0, .ref a1, .int x2] h =
  if jx_is (jx_at h a0) 2 = true then
  jb_255 rc d 4 [(0, .ref a0), (1, .ref a1), (2, .int x2), (3, .int (-1 : Int32)), (4, .int (11 : Int32))] [] h
  else none :=
  jx_enter ((jx_G_run (jx_X_grows rc jx_dflt jx_mt d) 77 (0, [(0, .ref a0), (1, .ref a1), (2, .int x2)], [], h)).trans rfl)
set_option maxRecDepth 100000 in
theorem je_255_4 (rc : Nat → Nat × (Nat → Int32)) (d : Nat) (a0 : Nat) (a1 : Nat) (x2 : Int32) (x3 : Int32) (x4 : Int32) (h : jxH) : jb_255 rc d 4 [(0, .ref a0), (1, .ref a1), (2, .int x2), (3, .int x3), (4, .int x4)] [] h =
  if x4 < 0 then
    jx_cI (jx_C rc d 59 [.int x3] h) fun v2 h1 =>
    if v2 = 0 then
      jx_cL (jx_C rc d 249 [.ref a0, .ref a1, .int x2] h1) fun v4 h3 =>
      jx_cL (jx_C rc d 249 [.ref a0, .ref a1, .int x2] h3) fun v6 h5 =>
      if 0 ≤ (lg_cmp v4 (0 : Int64)) then
        jb_255 rc d 51 [(0, .ref a0), (5, .long v4), (7, .long v6)] [.long v4, .ref a0] h5
      else
        jb_255 rc d 51 [(0, .ref a0), (5, .long v4), (7, .long v6)] [.long (-v4), .ref a0] h5
    else
      jx_cL (jx_C rc d 249 [.ref a0, .ref a1, .int x2] h1) fun v8 h7 =>
      jx_cL (jx_C rc d 249 [.ref a0, .ref a1, .int (x2 &&& (((1 : Int32) <<< (x3 &&& 31)) ^^^ (-1 : Int32)))] h7) fun v10 h9 =>
      if 0 ≤ (lg_cmp v8 (0 : Int64)) then
        jb_255 rc d 51 [(0, .ref a0), (5, .long v8), (7, .long v10)] [.long v8, .ref a0] h9
      else
        jb_255 rc d 51 [(0, .ref a0), (5, .long v8), (7, .long v10)] [.long (-v8), .ref a0] h9
  else
    jx_cI (jx_C rc d 60 [.int x4, .int x2] h) fun v12 h11 =>
    if v12 = 0 then
      jb_255 rc d 4 [(0, .ref a0), (1, .ref a1), (2, .int x2), (3, .int x3), (4, .int (x4 + (-1 : Int32)))] [] h11
    else
      jx_cI (jx_C rc d 230 [.ref a1, .int x4] h11) fun v14 h13 =>
      if (1 : Int32) < v14 then
        jb_255 rc d 4 [(0, .ref a0), (1, .ref a1), (2, .int x2), (3, .int x3), (4, .int (x4 + (-1 : Int32)))] [] h13
      else
        jb_255 rc d 4 [(0, .ref a0), (1, .ref a1), (2, .int x2), (3, .int x4), (4, .int (x4 + (-1 : Int32)))] [] h13 :=
  (jx_G_run (jx_X_grows rc jx_dflt jx_mt d) 77 _).trans rfl
set_option maxRecDepth 100000 in
theorem je_255_51 (rc : Nat → Nat × (Nat → Int32)) (d : Nat) (a0 : Nat) (x5 : Int64) (x7 : Int64) (s0 : Nat) (s1 : Int64) (h : jxH) : jb_255 rc d 51 [(0, .ref a0), (5, .long x5), (7, .long x7)] [.long s1, .ref s0] h =
  (jx_pF (jx_at h s0) 2 4 (.long s1)).bind fun e1 =>
  (jx_gL (jx_at (jx_set h s0 e1) a0) 2 4).bind fun v2 =>
  if 0 < (lg_cmp v2 (0 : Int64)) then
    if (lg_cmp x5 (0 : Int64)) ≤ 0 then
      (jx_gL (jx_at (jx_set h s0 e1) a0) 2 4).bind fun v3 =>
      jx_cL (jx_C rc d 329 [.long x7, .long v3] (jx_set h s0 e1)) fun v5 h4 =>
      (jx_pF (jx_at h4 a0) 2 5 (.long v5)).bind fun e6 =>
      some (none, (jx_set h4 a0 e6))
    else
      (jx_gL (jx_at (jx_set h s0 e1) a0) 2 4).bind fun v7 =>
      jx_cL (jx_C rc d 329 [.long (-x7), .long v7] (jx_set h s0 e1)) fun v9 h8 =>
      (jx_pF (jx_at h8 a0) 2 5 (.long v9)).bind fun e10 =>
      some (none, (jx_set h8 a0 e10))
  else
    (jx_pF (jx_at (jx_set h s0 e1) a0) 2 5 (.long (1 : Int64))).bind fun e11 =>
    some (none, (jx_set (jx_set h s0 e1) a0 e11)) :=
  (jx_G_run (jx_X_grows rc jx_dflt jx_mt d) 77 _).trans rfl
-- RoomTrees$Reckoner.sortSigns(LRoomTrees$Forest;I)V
noncomputable def jb_256 (rc : Nat → Nat × (Nat → Int32)) (d : Nat) (i : Nat) (ls : List (Nat × Value)) (st : List Value) (h : jxH) : jxR := jx_G rc jx_dflt (jx_X rc jx_dflt jx_mt d) jc_256 (i, ls, st, h)
set_option maxRecDepth 100000 in
theorem je_256 (rc : Nat → Nat × (Nat → Int32)) (d : Nat) (a0 : Nat) (a1 : Nat) (x2 : Int32) (h : jxH) : jx_C rc (d + 1) 256 [.ref a0, .ref a1, .int x2] h =
  if jx_is (jx_at h a0) 2 = true then
  (jx_gR (jx_at h a0) 2 0).bind fun b1 =>
  (jx_gI (jx_at h a1) 1 2).bind fun v2 =>
  jx_cV (jx_C rc d 319 [.ref b1, .ref a1, .int v2] h) fun h3 =>
  jx_cV (jx_C rc d 250 [.ref a0, .ref a1, .int x2] h3) fun h4 =>
  (jx_pF (jx_at h4 a0) 2 6 (.int (0 : Int32))).bind fun e5 =>
  (jx_pF (jx_at (jx_set h4 a0 e5) a0) 2 7 (.int (0 : Int32))).bind fun e6 =>
  (jx_pF (jx_at (jx_set (jx_set h4 a0 e5) a0 e6) a0) 2 8 (.int (0 : Int32))).bind fun e7 =>
  (jx_pF (jx_at (jx_set (jx_set (jx_set h4 a0 e5) a0 e6) a0 e7) a0) 2 9 (.int (0 : Int32))).bind fun e8 =>
  jb_256 rc d 24 [(0, .ref a0), (2, .int x2), (3, .int (11 : Int32))] [] (jx_set (jx_set (jx_set (jx_set h4 a0 e5) a0 e6) a0 e7) a0 e8)
  else none :=
  jx_enter ((jx_G_run (jx_X_grows rc jx_dflt jx_mt d) 47 (0, [(0, .ref a0), (1, .ref a1), (2, .int x2)], [], h)).trans rfl)
set_option maxRecDepth 100000 in
theorem je_256_24 (rc : Nat → Nat × (Nat → Int32)) (d : Nat) (a0 : Nat) (x2 : Int32) (x3 : Int32) (h : jxH) : jb_256 rc d 24 [(0, .ref a0), (2, .int x2), (3, .int x3)] [] h =
  if x3 < 0 then
    some (none, h)
  else
    (jx_gR (jx_at h a0) 2 0).bind fun b1 =>
    jx_cI (jx_C rc d 323 [.ref b1, .int x3] h) fun v3 h2 =>
    jx_cI (jx_C rc d 59 [.int v3] h2) fun v5 h4 =>
    if v5 = 0 then
      jb_256 rc d 24 [(0, .ref a0), (2, .int x2), (3, .int (x3 + (-1 : Int32)))] [] h4
    else
      (jx_gR (jx_at h4 a0) 2 0).bind fun b6 =>
      jx_cI (jx_C rc d 324 [.ref b6, .int v3] h4) fun v8 h7 =>
      jx_cV (jx_C rc d 257 [.ref a0, .int v3, .int v8, .int x2] h7) fun h9 =>
      jb_256 rc d 24 [(0, .ref a0), (2, .int x2), (3, .int (x3 + (-1 : Int32)))] [] h9 :=
  (jx_G_run (jx_X_grows rc jx_dflt jx_mt d) 47 _).trans rfl
-- RoomTrees$Reckoner.settle(III)V
noncomputable def jb_257 (rc : Nat → Nat × (Nat → Int32)) (d : Nat) (i : Nat) (ls : List (Nat × Value)) (st : List Value) (h : jxH) : jxR := jx_G rc jx_dflt (jx_X rc jx_dflt jx_mt d) jc_257 (i, ls, st, h)
set_option maxRecDepth 100000 in
theorem je_257 (rc : Nat → Nat × (Nat → Int32)) (d : Nat) (a0 : Nat) (x1 : Int32) (x2 : Int32) (x3 : Int32) (h : jxH) : jx_C rc (d + 1) 257 [.ref a0, .int x1, .int x2, .int x3] h =
  if jx_is (jx_at h a0) 2 = true then
  (jx_gI (jx_at h a0) 2 6).bind fun v1 =>
  jx_cI (jx_C rc d 60 [.int x1, .int v1] h) fun v3 h2 =>
  if v3 = 0 then
    jx_cI (jx_C rc d 59 [.int x1] h2) fun v5 h4 =>
    if v5 = 0 then
      jb_257 rc d 79 [(0, .ref a0), (2, .int x2)] [] h4
    else
      (jx_gR (jx_at h4 a0) 2 1).bind fun b6 =>
      (jx_aL (jx_at h4 b6) x1).bind fun v7 =>
      if (lg_cmp v7 (0 : Int64)) = 0 then
        jb_257 rc d 79 [(0, .ref a0), (2, .int x2)] [] h4
      else
        (jx_gR (jx_at h4 a0) 2 1).bind fun b8 =>
        (jx_aL (jx_at h4 b8) x1).bind fun v9 =>
        if (lg_cmp v9 (0 : Int64)) ≤ 0 then
          jb_257 rc d 38 [(0, .ref a0), (1, .int x1), (2, .int x2), (3, .int x3)] [.int (0 : Int32)] h4
        else
          jb_257 rc d 38 [(0, .ref a0), (1, .int x1), (2, .int x2), (3, .int x3)] [.int (1 : Int32)] h4
  else
    (jx_gI (jx_at h2 a0) 2 7).bind fun v10 =>
    (jx_pF (jx_at h2 a0) 2 7 (.int (v10 + (1 : Int32)))).bind fun e11 =>
    (jx_gI (jx_at (jx_set h2 a0 e11) a0) 2 8).bind fun v12 =>
    (jx_pF (jx_at (jx_set h2 a0 e11) a0) 2 8 (.int (v12 + (1 : Int32)))).bind fun e13 =>
    some (none, (jx_set (jx_set h2 a0 e11) a0 e13))
  else none :=
  jx_enter ((jx_G_run (jx_X_grows rc jx_dflt jx_mt d) 105 (0, [(0, .ref a0), (1, .int x1), (2, .int x2), (3, .int x3)], [], h)).trans rfl)
set_option maxRecDepth 100000 in
theorem je_257_38 (rc : Nat → Nat × (Nat → Int32)) (d : Nat) (a0 : Nat) (x1 : Int32) (x2 : Int32) (x3 : Int32) (s0 : Int32) (h : jxH) : jb_257 rc d 38 [(0, .ref a0), (1, .int x1), (2, .int x2), (3, .int x3)] [.int s0] h =
  (jx_gR (jx_at h a0) 2 2).bind fun b1 =>
  (jx_aL (jx_at h b1) x1).bind fun v2 =>
  if (lg_cmp v2 (0 : Int64)) ≤ 0 then
    if s0 = (0 : Int32) then
      (jx_gI (jx_at h a0) 2 7).bind fun v3 =>
      if (1 : Int32) = 0 then
        jb_257 rc d 61 [(0, .ref a0), (1, .int x1), (2, .int x2), (3, .int x3), (4, .int (1 : Int32))] [.int (0 : Int32), .int v3, .ref a0] h
      else
        jb_257 rc d 61 [(0, .ref a0), (1, .int x1), (2, .int x2), (3, .int x3), (4, .int (1 : Int32))] [.int (1 : Int32), .int v3, .ref a0] h
    else
      (jx_gI (jx_at h a0) 2 7).bind fun v4 =>
      if (0 : Int32) = 0 then
        jb_257 rc d 61 [(0, .ref a0), (1, .int x1), (2, .int x2), (3, .int x3), (4, .int (0 : Int32))] [.int (0 : Int32), .int v4, .ref a0] h
      else
        jb_257 rc d 61 [(0, .ref a0), (1, .int x1), (2, .int x2), (3, .int x3), (4, .int (0 : Int32))] [.int (1 : Int32), .int v4, .ref a0] h
  else
    if s0 = (1 : Int32) then
      (jx_gI (jx_at h a0) 2 7).bind fun v5 =>
      if (1 : Int32) = 0 then
        jb_257 rc d 61 [(0, .ref a0), (1, .int x1), (2, .int x2), (3, .int x3), (4, .int (1 : Int32))] [.int (0 : Int32), .int v5, .ref a0] h
      else
        jb_257 rc d 61 [(0, .ref a0), (1, .int x1), (2, .int x2), (3, .int x3), (4, .int (1 : Int32))] [.int (1 : Int32), .int v5, .ref a0] h
    else
      (jx_gI (jx_at h a0) 2 7).bind fun v6 =>
      if (0 : Int32) = 0 then
        jb_257 rc d 61 [(0, .ref a0), (1, .int x1), (2, .int x2), (3, .int x3), (4, .int (0 : Int32))] [.int (0 : Int32), .int v6, .ref a0] h
      else
        jb_257 rc d 61 [(0, .ref a0), (1, .int x1), (2, .int x2), (3, .int x3), (4, .int (0 : Int32))] [.int (1 : Int32), .int v6, .ref a0] h :=
  (jx_G_run (jx_X_grows rc jx_dflt jx_mt d) 105 _).trans rfl
set_option maxRecDepth 100000 in
theorem je_257_61 (rc : Nat → Nat × (Nat → Int32)) (d : Nat) (a0 : Nat) (x1 : Int32) (x2 : Int32) (x3 : Int32) (x4 : Int32) (s0 : Nat) (s1 : Int32) (s2 : Int32) (h : jxH) : jb_257 rc d 61 [(0, .ref a0), (1, .int x1), (2, .int x2), (3, .int x3), (4, .int x4)] [.int s2, .int s1, .ref s0] h =
  (jx_pF (jx_at h s0) 2 7 (.int (s1 + s2))).bind fun e1 =>
  (jx_gI (jx_at (jx_set h s0 e1) a0) 2 8).bind fun v2 =>
  if x4 = 0 then
    (jx_pF (jx_at (jx_set h s0 e1) a0) 2 8 (.int (v2 + (1 : Int32)))).bind fun e3 =>
    jx_cV (jx_C rc d 251 [.ref a0, .int x1, .int x2, .int x3] (jx_set (jx_set h s0 e1) a0 e3)) fun h4 =>
    some (none, h4)
  else
    (jx_pF (jx_at (jx_set h s0 e1) a0) 2 8 (.int (v2 + (0 : Int32)))).bind fun e5 =>
    jx_cV (jx_C rc d 251 [.ref a0, .int x1, .int x2, .int x3] (jx_set (jx_set h s0 e1) a0 e5)) fun h6 =>
    some (none, h6) :=
  (jx_G_run (jx_X_grows rc jx_dflt jx_mt d) 105 _).trans rfl
set_option maxRecDepth 100000 in
theorem je_257_79 (rc : Nat → Nat × (Nat → Int32)) (d : Nat) (a0 : Nat) (x2 : Int32) (h : jxH) : jb_257 rc d 79 [(0, .ref a0), (2, .int x2)] [] h =
  jx_cI (jx_C rc d 59 [.int x2] h) fun v2 h1 =>
  if v2 = 0 then
    (jx_gI (jx_at h1 a0) 2 9).bind fun v3 =>
    (jx_pF (jx_at h1 a0) 2 9 (.int (v3 + (1 : Int32)))).bind fun e4 =>
    some (none, (jx_set h1 a0 e4))
  else
    (jx_gI (jx_at h1 a0) 2 6).bind fun v5 =>
    jx_cI (jx_C rc d 60 [.int x2, .int v5] h1) fun v7 h6 =>
    if v7 = 0 then
      (jx_gI (jx_at h6 a0) 2 6).bind fun v8 =>
      (jx_pF (jx_at h6 a0) 2 6 (.int (v8 ||| ((1 : Int32) <<< (x2 &&& 31))))).bind fun e9 =>
      some (none, (jx_set h6 a0 e9))
    else
      (jx_gI (jx_at h6 a0) 2 9).bind fun v10 =>
      (jx_pF (jx_at h6 a0) 2 9 (.int (v10 + (1 : Int32)))).bind fun e11 =>
      some (none, (jx_set h6 a0 e11)) :=
  (jx_G_run (jx_X_grows rc jx_dflt jx_mt d) 105 _).trans rfl
-- RoomTrees$Reckoner.solveWu(LRoomTrees$Forest;)V
noncomputable def jb_258 (rc : Nat → Nat × (Nat → Int32)) (d : Nat) (i : Nat) (ls : List (Nat × Value)) (st : List Value) (h : jxH) : jxR := jx_G rc jx_dflt (jx_X rc jx_dflt jx_mt d) jc_258 (i, ls, st, h)
set_option maxRecDepth 100000 in
theorem je_258 (rc : Nat → Nat × (Nat → Int32)) (d : Nat) (a0 : Nat) (a1 : Nat) (h : jxH) : jx_C rc (d + 1) 258 [.ref a0, .ref a1] h =
  if jx_is (jx_at h a0) 2 = true then
  jb_258 rc d 2 [(0, .ref a0), (1, .ref a1), (2, .int (0 : Int32))] [] h
  else none :=
  jx_enter ((jx_G_run (jx_X_grows rc jx_dflt jx_mt d) 88 (0, [(0, .ref a0), (1, .ref a1)], [], h)).trans rfl)
set_option maxRecDepth 100000 in
theorem je_258_2 (rc : Nat → Nat × (Nat → Int32)) (d : Nat) (a0 : Nat) (a1 : Nat) (x2 : Int32) (h : jxH) : jb_258 rc d 2 [(0, .ref a0), (1, .ref a1), (2, .int x2)] [] h =
  if (12 : Int32) ≤ x2 then
    (jx_pF (jx_at h a0) 2 11 (.int (0 : Int32))).bind fun e1 =>
    jb_258 rc d 35 [(0, .ref a0), (1, .ref a1), (2, .int (0 : Int32)), (3, .int (0 : Int32))] [] (jx_set h a0 e1)
  else
    jx_cI (jx_C rc d 228 [.ref a1, .int x2] h) fun v3 h2 =>
    (jx_gR (jx_at h2 a0) 2 3).bind fun b4 =>
    jx_cI (jx_C rc d 229 [.ref a1, .int x2] h2) fun v6 h5 =>
    (jx_sI (jx_at h5 b4) 0 x2 ((v6 ||| ((v3 &&& (1 : Int32)) <<< (x2 &&& 31))) ||| ((v3 &&& (1 : Int32)) <<< ((12 : Int32) &&& 31)))).bind fun e7 =>
    jb_258 rc d 2 [(0, .ref a0), (1, .ref a1), (2, .int (x2 + (1 : Int32)))] [] (jx_set h5 b4 e7) :=
  (jx_G_run (jx_X_grows rc jx_dflt jx_mt d) 88 _).trans rfl
set_option maxRecDepth 100000 in
theorem je_258_35 (rc : Nat → Nat × (Nat → Int32)) (d : Nat) (a0 : Nat) (a1 : Nat) (x2 : Int32) (x3 : Int32) (h : jxH) : jb_258 rc d 35 [(0, .ref a0), (1, .ref a1), (2, .int x2), (3, .int x3)] [] h =
  if (12 : Int32) ≤ x3 then
    jx_cI (jx_C rc d 227 [.ref a1] h) fun v2 h1 =>
    jx_cI (jx_C rc d 330 [.int (0 : Int32), .int (v2 - x2)] h1) fun v4 h3 =>
    (jx_pF (jx_at h3 a0) 2 10 (.int v4)).bind fun e5 =>
    jx_cV (jx_C rc d 261 [.ref a0, .int x2] (jx_set h3 a0 e5)) fun h6 =>
    some (none, h6)
  else
    jx_cI (jx_C rc d 259 [.ref a0, .int x3, .int x2] h) fun v8 h7 =>
    jx_cI (jx_C rc d 59 [.int v8] h7) fun v10 h9 =>
    if v10 = 0 then
      jb_258 rc d 35 [(0, .ref a0), (1, .ref a1), (2, .int x2), (3, .int (x3 + (1 : Int32)))] [] h9
    else
      jx_cI (jx_C rc d 59 [.int x2] h9) fun v12 h11 =>
      if v12 = 0 then
        jb_258 rc d 35 [(0, .ref a0), (1, .ref a1), (2, .int x2), (3, .int (x3 + (1 : Int32)))] [] h11
      else
        (jx_gR (jx_at h11 a0) 2 3).bind fun b13 =>
        (jx_aI (jx_at h11 b13) 0 v8).bind fun v14 =>
        (jx_gR (jx_at h11 a0) 2 3).bind fun b15 =>
        (jx_gR (jx_at h11 a0) 2 3).bind fun b16 =>
        (jx_aI (jx_at h11 b16) 0 x2).bind fun v17 =>
        (jx_sI (jx_at h11 b15) 0 v8 v17).bind fun e18 =>
        (jx_gR (jx_at (jx_set h11 b15 e18) a0) 2 3).bind fun b19 =>
        (jx_sI (jx_at (jx_set h11 b15 e18) b19) 0 x2 v14).bind fun e20 =>
        jx_cV (jx_C rc d 260 [.ref a0, .int x3, .int x2] (jx_set (jx_set h11 b15 e18) b19 e20)) fun h21 =>
        jb_258 rc d 35 [(0, .ref a0), (1, .ref a1), (2, .int (x2 + (1 : Int32))), (3, .int (x3 + (1 : Int32)))] [] h21 :=
  (jx_G_run (jx_X_grows rc jx_dflt jx_mt d) 88 _).trans rfl
-- RoomTrees$Reckoner.rowWith(II)I
noncomputable def jb_259 (rc : Nat → Nat × (Nat → Int32)) (d : Nat) (i : Nat) (ls : List (Nat × Value)) (st : List Value) (h : jxH) : jxR := jx_G rc jx_dflt (jx_X rc jx_dflt jx_mt d) jc_259 (i, ls, st, h)
set_option maxRecDepth 100000 in
theorem je_259 (rc : Nat → Nat × (Nat → Int32)) (d : Nat) (a0 : Nat) (x1 : Int32) (x2 : Int32) (h : jxH) : jx_C rc (d + 1) 259 [.ref a0, .int x1, .int x2] h =
  if jx_is (jx_at h a0) 2 = true then
  jb_259 rc d 2 [(0, .ref a0), (1, .int x1), (2, .int x2), (3, .int (0 : Int32))] [] h
  else none :=
  jx_enter ((jx_G_run (jx_X_grows rc jx_dflt jx_mt d) 23 (0, [(0, .ref a0), (1, .int x1), (2, .int x2)], [], h)).trans rfl)
set_option maxRecDepth 100000 in
theorem je_259_2 (rc : Nat → Nat × (Nat → Int32)) (d : Nat) (a0 : Nat) (x1 : Int32) (x2 : Int32) (x3 : Int32) (h : jxH) : jb_259 rc d 2 [(0, .ref a0), (1, .int x1), (2, .int x2), (3, .int x3)] [] h =
  if (12 : Int32) ≤ x3 then
    some (some (.int (-1 : Int32)), h)
  else
    if x3 < x2 then
      jb_259 rc d 2 [(0, .ref a0), (1, .int x1), (2, .int x2), (3, .int (x3 + (1 : Int32)))] [] h
    else
      (jx_gR (jx_at h a0) 2 3).bind fun b1 =>
      (jx_aI (jx_at h b1) 0 x3).bind fun v2 =>
      jx_cI (jx_C rc d 60 [.int x1, .int v2] h) fun v4 h3 =>
      if v4 = 0 then
        jb_259 rc d 2 [(0, .ref a0), (1, .int x1), (2, .int x2), (3, .int (x3 + (1 : Int32)))] [] h3
      else
        some (some (.int x3), h3) :=
  (jx_G_run (jx_X_grows rc jx_dflt jx_mt d) 23 _).trans rfl
-- RoomTrees$Reckoner.clearColumn(II)V
noncomputable def jb_260 (rc : Nat → Nat × (Nat → Int32)) (d : Nat) (i : Nat) (ls : List (Nat × Value)) (st : List Value) (h : jxH) : jxR := jx_G rc jx_dflt (jx_X rc jx_dflt jx_mt d) jc_260 (i, ls, st, h)
set_option maxRecDepth 100000 in
theorem je_260 (rc : Nat → Nat × (Nat → Int32)) (d : Nat) (a0 : Nat) (x1 : Int32) (x2 : Int32) (h : jxH) : jx_C rc (d + 1) 260 [.ref a0, .int x1, .int x2] h =
  if jx_is (jx_at h a0) 2 = true then
  jb_260 rc d 2 [(0, .ref a0), (1, .int x1), (2, .int x2), (3, .int (0 : Int32))] [] h
  else none :=
  jx_enter ((jx_G_run (jx_X_grows rc jx_dflt jx_mt d) 34 (0, [(0, .ref a0), (1, .int x1), (2, .int x2)], [], h)).trans rfl)
set_option maxRecDepth 100000 in
theorem je_260_2 (rc : Nat → Nat × (Nat → Int32)) (d : Nat) (a0 : Nat) (x1 : Int32) (x2 : Int32) (x3 : Int32) (h : jxH) : jb_260 rc d 2 [(0, .ref a0), (1, .int x1), (2, .int x2), (3, .int x3)] [] h =
  if (12 : Int32) ≤ x3 then
    some (none, h)
  else
    if x3 = x2 then
      jb_260 rc d 2 [(0, .ref a0), (1, .int x1), (2, .int x2), (3, .int (x3 + (1 : Int32)))] [] h
    else
      jx_cI (jx_C rc d 59 [.int x2] h) fun v2 h1 =>
      if v2 = 0 then
        jb_260 rc d 2 [(0, .ref a0), (1, .int x1), (2, .int x2), (3, .int (x3 + (1 : Int32)))] [] h1
      else
        (jx_gR (jx_at h1 a0) 2 3).bind fun b3 =>
        (jx_aI (jx_at h1 b3) 0 x3).bind fun v4 =>
        jx_cI (jx_C rc d 60 [.int x1, .int v4] h1) fun v6 h5 =>
        if v6 = 0 then
          jb_260 rc d 2 [(0, .ref a0), (1, .int x1), (2, .int x2), (3, .int (x3 + (1 : Int32)))] [] h5
        else
          (jx_gR (jx_at h5 a0) 2 3).bind fun b7 =>
          (jx_aI (jx_at h5 b7) 0 x3).bind fun v8 =>
          (jx_gR (jx_at h5 a0) 2 3).bind fun b9 =>
          (jx_aI (jx_at h5 b9) 0 x2).bind fun v10 =>
          (jx_sI (jx_at h5 b7) 0 x3 (v8 ^^^ v10)).bind fun e11 =>
          jb_260 rc d 2 [(0, .ref a0), (1, .int x1), (2, .int x2), (3, .int (x3 + (1 : Int32)))] [] (jx_set h5 b7 e11) :=
  (jx_G_run (jx_X_grows rc jx_dflt jx_mt d) 34 _).trans rfl
-- RoomTrees$Reckoner.readLeast(I)V
noncomputable def jb_261 (rc : Nat → Nat × (Nat → Int32)) (d : Nat) (i : Nat) (ls : List (Nat × Value)) (st : List Value) (h : jxH) : jxR := jx_G rc jx_dflt (jx_X rc jx_dflt jx_mt d) jc_261 (i, ls, st, h)
set_option maxRecDepth 100000 in
theorem je_261 (rc : Nat → Nat × (Nat → Int32)) (d : Nat) (a0 : Nat) (x1 : Int32) (h : jxH) : jx_C rc (d + 1) 261 [.ref a0, .int x1] h =
  if jx_is (jx_at h a0) 2 = true then
  jb_261 rc d 2 [(0, .ref a0), (1, .int x1), (2, .int (0 : Int32))] [] h
  else none :=
  jx_enter ((jx_G_run (jx_X_grows rc jx_dflt jx_mt d) 36 (0, [(0, .ref a0), (1, .int x1)], [], h)).trans rfl)
set_option maxRecDepth 100000 in
theorem je_261_2 (rc : Nat → Nat × (Nat → Int32)) (d : Nat) (a0 : Nat) (x1 : Int32) (x2 : Int32) (h : jxH) : jb_261 rc d 2 [(0, .ref a0), (1, .int x1), (2, .int x2)] [] h =
  if x1 ≤ x2 then
    some (none, h)
  else
    if (12 : Int32) ≤ x2 then
      some (none, h)
    else
      (jx_gR (jx_at h a0) 2 3).bind fun b1 =>
      (jx_aI (jx_at h b1) 0 x2).bind fun v2 =>
      if ((v2 >>> ((12 : Int32) &&& 31)) &&& (1 : Int32)) = 0 then
        jb_261 rc d 2 [(0, .ref a0), (1, .int x1), (2, .int (x2 + (1 : Int32)))] [] h
      else
        (jx_gI (jx_at h a0) 2 11).bind fun v3 =>
        (jx_gR (jx_at h a0) 2 3).bind fun b4 =>
        (jx_aI (jx_at h b4) 0 x2).bind fun v5 =>
        jx_cI (jx_C rc d 67 [.int v5] h) fun v7 h6 =>
        jx_cI (jx_C rc d 330 [.int (0 : Int32), .int v7] h6) fun v9 h8 =>
        (jx_pF (jx_at h8 a0) 2 11 (.int (v3 ||| ((1 : Int32) <<< (v9 &&& 31))))).bind fun e10 =>
        jb_261 rc d 2 [(0, .ref a0), (1, .int x1), (2, .int (x2 + (1 : Int32)))] [] (jx_set h8 a0 e10) :=
  (jx_G_run (jx_X_grows rc jx_dflt jx_mt d) 36 _).trans rfl
-- RoomTrees$Search.<init>()V
noncomputable def jb_262 (rc : Nat → Nat × (Nat → Int32)) (d : Nat) (i : Nat) (ls : List (Nat × Value)) (st : List Value) (h : jxH) : jxR := jx_G rc jx_dflt (jx_X rc jx_dflt jx_mt d) jc_262 (i, ls, st, h)
set_option maxRecDepth 100000 in
theorem je_262 (rc : Nat → Nat × (Nat → Int32)) (d : Nat) (a0 : Nat) (h : jxH) : jx_C rc (d + 1) 262 [.ref a0] h =
  if jx_is (jx_at h a0) 3 = true then
  if (4 : Int32) < 0 ∨ 5000 < (4 : Int32) then none else
  (jx_pF (jx_at (jx_new h ((4 : Int32)).toNatClampNeg (jxQ 4 ((4 : Int32)).toNatClampNeg (fun _ => none))) a0) 3 0 (.ref h.1)).bind fun e1 =>
  jx_cV (jx_C rc d 280 [.ref (jx_set (jx_new h ((4 : Int32)).toNatClampNeg (jxQ 4 ((4 : Int32)).toNatClampNeg (fun _ => none))) a0 e1).1] (jx_new (jx_set (jx_new h ((4 : Int32)).toNatClampNeg (jxQ 4 ((4 : Int32)).toNatClampNeg (fun _ => none))) a0 e1) 7 (.inl (6, jx_dflt 6)))) fun h2 =>
  (jx_pF (jx_at h2 a0) 3 1 (.ref (jx_set (jx_new h ((4 : Int32)).toNatClampNeg (jxQ 4 ((4 : Int32)).toNatClampNeg (fun _ => none))) a0 e1).1)).bind fun e3 =>
  jx_cV (jx_C rc d 276 [.ref (jx_set h2 a0 e3).1] (jx_new (jx_set h2 a0 e3) 3 (.inl (5, jx_dflt 5)))) fun h4 =>
  (jx_pF (jx_at h4 a0) 3 2 (.ref (jx_set h2 a0 e3).1)).bind fun e5 =>
  jx_cV (jx_C rc d 304 [.ref (jx_set h4 a0 e5).1] (jx_new (jx_set h4 a0 e5) 2 (.inl (8, jx_dflt 8)))) fun h6 =>
  (jx_pF (jx_at h6 a0) 3 3 (.ref (jx_set h4 a0 e5).1)).bind fun e7 =>
  jx_cV (jx_C rc d 304 [.ref (jx_set h6 a0 e7).1] (jx_new (jx_set h6 a0 e7) 2 (.inl (8, jx_dflt 8)))) fun h8 =>
  (jx_pF (jx_at h8 a0) 3 4 (.ref (jx_set h6 a0 e7).1)).bind fun e9 =>
  jb_262 rc d 28 [(0, .ref a0), (1, .int (0 : Int32))] [] (jx_set h8 a0 e9)
  else none :=
  jx_enter ((jx_G_run (jx_X_grows rc jx_dflt jx_mt d) 45 (0, [(0, .ref a0)], [], h)).trans rfl)
set_option maxRecDepth 100000 in
theorem je_262_28 (rc : Nat → Nat × (Nat → Int32)) (d : Nat) (a0 : Nat) (x1 : Int32) (h : jxH) : jb_262 rc d 28 [(0, .ref a0), (1, .int x1)] [] h =
  (jx_gR (jx_at h a0) 3 0).bind fun b1 =>
  (jx_len (jx_at h b1)).bind fun n2 =>
  if (Int32.ofNat n2) ≤ x1 then
    some (none, h)
  else
    (jx_gR (jx_at h a0) 3 0).bind fun b3 =>
    jx_cV (jx_C rc d 223 [.ref h.1] (jx_new h 3 (.inl (1, jx_dflt 1)))) fun h4 =>
    if jx_is (jx_at h4 h.1) 1 = true then (jx_sQ (jx_at h4 b3) 4 x1 (some h.1)).bind fun e5 =>
    jb_262 rc d 28 [(0, .ref a0), (1, .int (x1 + (1 : Int32)))] [] (jx_set h4 b3 e5) else none :=
  (jx_G_run (jx_X_grows rc jx_dflt jx_mt d) 45 _).trans rfl
-- RoomTrees$Search.levelAt(I)LRoomTrees$Forest;
set_option maxRecDepth 100000 in
theorem je_263 (rc : Nat → Nat × (Nat → Int32)) (d : Nat) (a0 : Nat) (x1 : Int32) (h : jxH) : jx_C rc (d + 1) 263 [.ref a0, .int x1] h =
  if jx_is (jx_at h a0) 3 = true then
  if x1 < 0 then
    some (some (.null), h)
  else
    (jx_gR (jx_at h a0) 3 0).bind fun b1 =>
    (jx_len (jx_at h b1)).bind fun n2 =>
    if (Int32.ofNat n2) ≤ x1 then
      some (some (.null), h)
    else
      (jx_gR (jx_at h a0) 3 0).bind fun b3 =>
      (jx_aQ (jx_at h b3) 4 x1).bind fun o4 =>
      jx_mo o4 (fun b5 => some (some (.ref b5), h))
      (some (some (.null), h))
  else none :=
  jx_enter ((jx_G_run (jx_X_grows rc jx_dflt jx_mt d) 16 (0, [(0, .ref a0), (1, .int x1)], [], h)).trans rfl)
-- RoomTrees$Search.begin(LRoomTrees$Forest;)V
set_option maxRecDepth 100000 in
theorem je_264 (rc : Nat → Nat × (Nat → Int32)) (d : Nat) (a0 : Nat) (a1 : Nat) (h : jxH) : jx_C rc (d + 1) 264 [.ref a0, .ref a1] h =
  if jx_is (jx_at h a0) 3 = true then
  jx_cR (jx_C rc d 263 [.ref a0, .int (0 : Int32)] h) fun o2 h1 =>
  jx_mo o2 (fun b3 => jx_cV (jx_C rc d 225 [.ref b3, .ref a1] h1) fun h4 =>
    some (none, h4))
  (some (none, h1))
  else none :=
  jx_enter ((jx_G_run (jx_X_grows rc jx_dflt jx_mt d) 12 (0, [(0, .ref a0), (1, .ref a1)], [], h)).trans rfl)
-- RoomTrees$Search.dig(LRoomTrees$Forest;I)V
set_option maxRecDepth 100000 in
theorem je_265 (rc : Nat → Nat × (Nat → Int32)) (d : Nat) (a0 : Nat) (a1 : Nat) (x2 : Int32) (h : jxH) : jx_C rc (d + 1) 265 [.ref a0, .ref a1, .int x2] h =
  if jx_is (jx_at h a0) 3 = true then
  jx_cV (jx_C rc d 264 [.ref a0, .ref a1] h) fun h1 =>
  jx_cI (jx_C rc d 227 [.ref a1] h1) fun v3 h2 =>
  (jx_pF (jx_at h2 a0) 3 7 (.int v3)).bind fun e4 =>
  (jx_pF (jx_at (jx_set h2 a0 e4) a0) 3 8 (.int (0 : Int32))).bind fun e5 =>
  (jx_pF (jx_at (jx_set (jx_set h2 a0 e4) a0 e5) a0) 3 9 (.int (-1 : Int32))).bind fun e6 =>
  jx_cV (jx_C rc d 266 [.ref a0, .int (0 : Int32), .int x2, .int (-1 : Int32)] (jx_set (jx_set (jx_set h2 a0 e4) a0 e5) a0 e6)) fun h7 =>
  some (none, h7)
  else none :=
  jx_enter ((jx_G_run (jx_X_grows rc jx_dflt jx_mt d) 21 (0, [(0, .ref a0), (1, .ref a1), (2, .int x2)], [], h)).trans rfl)
-- RoomTrees$Search.deepen(LRoomTrees$Search;III)V
noncomputable def jb_266 (rc : Nat → Nat × (Nat → Int32)) (d : Nat) (i : Nat) (ls : List (Nat × Value)) (st : List Value) (h : jxH) : jxR := jx_G rc jx_dflt (jx_X rc jx_dflt jx_mt d) jc_266 (i, ls, st, h)
set_option maxRecDepth 100000 in
theorem je_266 (rc : Nat → Nat × (Nat → Int32)) (d : Nat) (a0 : Nat) (x1 : Int32) (x2 : Int32) (x3 : Int32) (h : jxH) : jx_C rc (d + 1) 266 [.ref a0, .int x1, .int x2, .int x3] h =
  jx_cR (jx_C rc d 263 [.ref a0, .int x1] h) fun o2 h1 =>
  jx_mo o2 (fun b3 => if x2 ≤ x1 then
      some (none, h1)
    else
      jx_cI (jx_C rc d 227 [.ref b3] h1) fun v5 h4 =>
      (jx_gI (jx_at h4 a0) 3 7).bind fun v6 =>
      if (v5 - ((2 : Int32) * (x2 - x1))) < v6 then
        jx_cR (jx_C rc d 263 [.ref a0, .int (x1 + (1 : Int32))] h4) fun o8 h7 =>
        jx_mo o8 (fun b9 => jb_266 rc d 29 [(0, .ref a0), (1, .int x1), (2, .int x2), (3, .int x3), (4, .ref b3), (5, .ref b9), (6, .int (0 : Int32))] [] h7)
        (jb_266 rc d 29 [(0, .ref a0), (1, .int x1), (2, .int x2), (3, .int x3), (4, .ref b3), (5, .null), (6, .int (0 : Int32))] [] h7)
      else
        some (none, h4))
  (some (none, h1)) :=
  (jx_G_run (jx_X_grows rc jx_dflt jx_mt d) 90 (0, [(0, .ref a0), (1, .int x1), (2, .int x2), (3, .int x3)], [], h)).trans rfl
set_option maxRecDepth 100000 in
theorem je_266_29 (rc : Nat → Nat × (Nat → Int32)) (d : Nat) (a0 : Nat) (x1 : Int32) (x2 : Int32) (x3 : Int32) (a4 : Nat) (a5 : Nat) (x6 : Int32) (h : jxH) : jb_266 rc d 29 [(0, .ref a0), (1, .int x1), (2, .int x2), (3, .int x3), (4, .ref a4), (5, .ref a5), (6, .int x6)] [] h =
  if (12 : Int32) ≤ x6 then
    some (none, h)
  else
    jx_cI (jx_C rc d 226 [.ref a4, .int x6] h) fun v2 h1 =>
    if v2 = 0 then
      jb_266 rc d 29 [(0, .ref a0), (1, .int x1), (2, .int x2), (3, .int x3), (4, .ref a4), (5, .ref a5), (6, .int (x6 + (1 : Int32)))] [] h1
    else
      (jx_gR (jx_at h1 a0) 3 1).bind fun b3 =>
      jx_cI (jx_C rc d 283 [.ref b3, .ref a4, .int x6] h1) fun v5 h4 =>
      if v5 = 0 then
        jb_266 rc d 29 [(0, .ref a0), (1, .int x1), (2, .int x2), (3, .int x3), (4, .ref a4), (5, .ref a5), (6, .int (x6 + (1 : Int32)))] [] h4
      else
        if x1 = 0 then
          jx_cI (jx_C rc d 227 [.ref a4] h4) fun v7 h6 =>
          (jx_gR (jx_at h6 a0) 3 1).bind fun b8 =>
          (jx_gI (jx_at h6 b8) 6 0).bind fun v9 =>
          if v9 = 0 then
            jb_266 rc d 58 [(0, .ref a0), (1, .int x1), (2, .int x2), (3, .int x3), (4, .ref a4), (5, .ref a5), (6, .int x6), (7, .int x6)] [.int (1 : Int32), .int v7, .ref a0] h6
          else
            jb_266 rc d 58 [(0, .ref a0), (1, .int x1), (2, .int x2), (3, .int x3), (4, .ref a4), (5, .ref a5), (6, .int x6), (7, .int x6)] [.int (2 : Int32), .int v7, .ref a0] h6
        else
          jx_cI (jx_C rc d 227 [.ref a4] h4) fun v11 h10 =>
          (jx_gR (jx_at h10 a0) 3 1).bind fun b12 =>
          (jx_gI (jx_at h10 b12) 6 0).bind fun v13 =>
          if v13 = 0 then
            jb_266 rc d 58 [(0, .ref a0), (1, .int x1), (2, .int x2), (3, .int x3), (4, .ref a4), (5, .ref a5), (6, .int x6), (7, .int x3)] [.int (1 : Int32), .int v11, .ref a0] h10
          else
            jb_266 rc d 58 [(0, .ref a0), (1, .int x1), (2, .int x2), (3, .int x3), (4, .ref a4), (5, .ref a5), (6, .int x6), (7, .int x3)] [.int (2 : Int32), .int v11, .ref a0] h10 :=
  (jx_G_run (jx_X_grows rc jx_dflt jx_mt d) 90 _).trans rfl
set_option maxRecDepth 100000 in
theorem je_266_29b (rc : Nat → Nat × (Nat → Int32)) (d : Nat) (a0 : Nat) (x1 : Int32) (x2 : Int32) (x3 : Int32) (a4 : Nat) (x6 : Int32) (h : jxH) : jb_266 rc d 29 [(0, .ref a0), (1, .int x1), (2, .int x2), (3, .int x3), (4, .ref a4), (5, .null), (6, .int x6)] [] h =
  if (12 : Int32) ≤ x6 then
    some (none, h)
  else
    jx_cI (jx_C rc d 226 [.ref a4, .int x6] h) fun v2 h1 =>
    if v2 = 0 then
      jb_266 rc d 29 [(0, .ref a0), (1, .int x1), (2, .int x2), (3, .int x3), (4, .ref a4), (5, .null), (6, .int (x6 + (1 : Int32)))] [] h1
    else
      (jx_gR (jx_at h1 a0) 3 1).bind fun b3 =>
      jx_cI (jx_C rc d 283 [.ref b3, .ref a4, .int x6] h1) fun v5 h4 =>
      if v5 = 0 then
        jb_266 rc d 29 [(0, .ref a0), (1, .int x1), (2, .int x2), (3, .int x3), (4, .ref a4), (5, .null), (6, .int (x6 + (1 : Int32)))] [] h4
      else
        if x1 = 0 then
          jx_cI (jx_C rc d 227 [.ref a4] h4) fun v7 h6 =>
          (jx_gR (jx_at h6 a0) 3 1).bind fun b8 =>
          (jx_gI (jx_at h6 b8) 6 0).bind fun v9 =>
          if v9 = 0 then
            jb_266 rc d 58 [(0, .ref a0), (1, .int x1), (2, .int x2), (3, .int x3), (4, .ref a4), (5, .null), (6, .int x6), (7, .int x6)] [.int (1 : Int32), .int v7, .ref a0] h6
          else
            jb_266 rc d 58 [(0, .ref a0), (1, .int x1), (2, .int x2), (3, .int x3), (4, .ref a4), (5, .null), (6, .int x6), (7, .int x6)] [.int (2 : Int32), .int v7, .ref a0] h6
        else
          jx_cI (jx_C rc d 227 [.ref a4] h4) fun v11 h10 =>
          (jx_gR (jx_at h10 a0) 3 1).bind fun b12 =>
          (jx_gI (jx_at h10 b12) 6 0).bind fun v13 =>
          if v13 = 0 then
            jb_266 rc d 58 [(0, .ref a0), (1, .int x1), (2, .int x2), (3, .int x3), (4, .ref a4), (5, .null), (6, .int x6), (7, .int x3)] [.int (1 : Int32), .int v11, .ref a0] h10
          else
            jb_266 rc d 58 [(0, .ref a0), (1, .int x1), (2, .int x2), (3, .int x3), (4, .ref a4), (5, .null), (6, .int x6), (7, .int x3)] [.int (2 : Int32), .int v11, .ref a0] h10 :=
  (jx_G_run (jx_X_grows rc jx_dflt jx_mt d) 90 _).trans rfl
set_option maxRecDepth 100000 in
theorem je_266_58 (rc : Nat → Nat × (Nat → Int32)) (d : Nat) (a0 : Nat) (x1 : Int32) (x2 : Int32) (x3 : Int32) (a4 : Nat) (a5 : Nat) (x6 : Int32) (x7 : Int32) (s0 : Nat) (s1 : Int32) (s2 : Int32) (h : jxH) : jb_266 rc d 58 [(0, .ref a0), (1, .int x1), (2, .int x2), (3, .int x3), (4, .ref a4), (5, .ref a5), (6, .int x6), (7, .int x7)] [.int s2, .int s1, .ref s0] h =
  jx_cV (jx_C rc d 267 [.ref s0, .int (s1 - s2), .int (x1 + (1 : Int32)), .int x7] h) fun h1 =>
  if x2 ≤ (x1 + (1 : Int32)) then
    jb_266 rc d 29 [(0, .ref a0), (1, .int x1), (2, .int x2), (3, .int x3), (4, .ref a4), (5, .ref a5), (6, .int (x6 + (1 : Int32)))] [] h1
  else
    jx_cV (jx_C rc d 225 [.ref a5, .ref a4] h1) fun h2 =>
    (jx_gR (jx_at h2 a0) 3 1).bind fun b3 =>
    jx_cV (jx_C rc d 290 [.ref b3, .ref a5] h2) fun h4 =>
    jx_cV (jx_C rc d 266 [.ref a0, .int (x1 + (1 : Int32)), .int x2, .int x7] h4) fun h5 =>
    jb_266 rc d 29 [(0, .ref a0), (1, .int x1), (2, .int x2), (3, .int x3), (4, .ref a4), (5, .ref a5), (6, .int (x6 + (1 : Int32)))] [] h5 :=
  (jx_G_run (jx_X_grows rc jx_dflt jx_mt d) 90 _).trans rfl
set_option maxRecDepth 100000 in
theorem je_266_58b (rc : Nat → Nat × (Nat → Int32)) (d : Nat) (a0 : Nat) (x1 : Int32) (x2 : Int32) (x3 : Int32) (a4 : Nat) (x6 : Int32) (x7 : Int32) (s0 : Nat) (s1 : Int32) (s2 : Int32) (h : jxH) : jb_266 rc d 58 [(0, .ref a0), (1, .int x1), (2, .int x2), (3, .int x3), (4, .ref a4), (5, .null), (6, .int x6), (7, .int x7)] [.int s2, .int s1, .ref s0] h =
  jx_cV (jx_C rc d 267 [.ref s0, .int (s1 - s2), .int (x1 + (1 : Int32)), .int x7] h) fun h1 =>
  jb_266 rc d 29 [(0, .ref a0), (1, .int x1), (2, .int x2), (3, .int x3), (4, .ref a4), (5, .null), (6, .int (x6 + (1 : Int32)))] [] h1 :=
  (jx_G_run (jx_X_grows rc jx_dflt jx_mt d) 90 _).trans rfl
-- RoomTrees$Search.note(III)V
set_option maxRecDepth 100000 in
theorem je_267 (rc : Nat → Nat × (Nat → Int32)) (d : Nat) (a0 : Nat) (x1 : Int32) (x2 : Int32) (x3 : Int32) (h : jxH) : jx_C rc (d + 1) 267 [.ref a0, .int x1, .int x2, .int x3] h =
  if jx_is (jx_at h a0) 3 = true then
  (jx_gI (jx_at h a0) 3 7).bind fun v1 =>
  if x1 < v1 then
    (jx_pF (jx_at h a0) 3 7 (.int x1)).bind fun e2 =>
    (jx_pF (jx_at (jx_set h a0 e2) a0) 3 8 (.int x2)).bind fun e3 =>
    (jx_pF (jx_at (jx_set (jx_set h a0 e2) a0 e3) a0) 3 9 (.int x3)).bind fun e4 =>
    some (none, (jx_set (jx_set (jx_set h a0 e2) a0 e3) a0 e4))
  else
    (jx_gI (jx_at h a0) 3 7).bind fun v5 =>
    if x1 = v5 then
      (jx_gI (jx_at h a0) 3 8).bind fun v6 =>
      if v6 ≤ x2 then
        some (none, h)
      else
        (jx_pF (jx_at h a0) 3 7 (.int x1)).bind fun e7 =>
        (jx_pF (jx_at (jx_set h a0 e7) a0) 3 8 (.int x2)).bind fun e8 =>
        (jx_pF (jx_at (jx_set (jx_set h a0 e7) a0 e8) a0) 3 9 (.int x3)).bind fun e9 =>
        some (none, (jx_set (jx_set (jx_set h a0 e7) a0 e8) a0 e9))
    else
      some (none, h)
  else none :=
  jx_enter ((jx_G_run (jx_X_grows rc jx_dflt jx_mt d) 24 (0, [(0, .ref a0), (1, .int x1), (2, .int x2), (3, .int x3)], [], h)).trans rfl)
-- RoomTrees$Search.aim(LRoomTrees$Forest;)V
set_option maxRecDepth 100000 in
theorem je_268 (rc : Nat → Nat × (Nat → Int32)) (d : Nat) (a0 : Nat) (a1 : Nat) (h : jxH) : jx_C rc (d + 1) 268 [.ref a0, .ref a1] h =
  if jx_is (jx_at h a0) 3 = true then
  jx_cI (jx_C rc d 227 [.ref a1] h) fun v2 h1 =>
  (jx_pF (jx_at h1 a0) 3 5 (.int v2)).bind fun e3 =>
  jx_cI (jx_C rc d 246 [.ref a1] (jx_set h1 a0 e3)) fun v5 h4 =>
  (jx_pF (jx_at h4 a0) 3 6 (.int v5)).bind fun e6 =>
  (jx_gR (jx_at (jx_set h4 a0 e6) a0) 3 2).bind fun b7 =>
  (jx_gR (jx_at (jx_set h4 a0 e6) a0) 3 4).bind fun b8 =>
  jx_cV (jx_C rc d 277 [.ref b7, .ref a1, .ref b8] (jx_set h4 a0 e6)) fun h9 =>
  some (none, h9)
  else none :=
  jx_enter ((jx_G_run (jx_X_grows rc jx_dflt jx_mt d) 17 (0, [(0, .ref a0), (1, .ref a1)], [], h)).trans rfl)
-- RoomTrees$Search.isGoal(LRoomTrees$Forest;)Z
set_option maxRecDepth 100000 in
theorem je_269 (rc : Nat → Nat × (Nat → Int32)) (d : Nat) (a0 : Nat) (a1 : Nat) (h : jxH) : jx_C rc (d + 1) 269 [.ref a0, .ref a1] h =
  if jx_is (jx_at h a0) 3 = true then
  jx_cI (jx_C rc d 227 [.ref a1] h) fun v2 h1 =>
  (jx_gI (jx_at h1 a0) 3 5).bind fun v3 =>
  if v2 = v3 then
    jx_cI (jx_C rc d 246 [.ref a1] h1) fun v5 h4 =>
    (jx_gI (jx_at h4 a0) 3 6).bind fun v6 =>
    if v5 = v6 then
      (jx_gR (jx_at h4 a0) 3 2).bind fun b7 =>
      (jx_gR (jx_at h4 a0) 3 3).bind fun b8 =>
      jx_cV (jx_C rc d 277 [.ref b7, .ref a1, .ref b8] h4) fun h9 =>
      (jx_gR (jx_at h9 a0) 3 3).bind fun b10 =>
      (jx_gR (jx_at h9 a0) 3 4).bind fun b11 =>
      jx_cI (jx_C rc d 310 [.ref b10, .ref b11] h9) fun v13 h12 =>
      if jx_bool v13 = true then some (some (.int v13), h12) else none
    else
      if jx_bool (0 : Int32) = true then some (some (.int (0 : Int32)), h4) else none
  else
    if jx_bool (0 : Int32) = true then some (some (.int (0 : Int32)), h1) else none
  else none :=
  jx_enter ((jx_G_run (jx_X_grows rc jx_dflt jx_mt d) 26 (0, [(0, .ref a0), (1, .ref a1)], [], h)).trans rfl)
-- RoomTrees$Search.climb(LRoomTrees$Search;II)Z
noncomputable def jb_270 (rc : Nat → Nat × (Nat → Int32)) (d : Nat) (i : Nat) (ls : List (Nat × Value)) (st : List Value) (h : jxH) : jxR := jx_G rc jx_dflt (jx_X rc jx_dflt jx_mt d) jc_270 (i, ls, st, h)
set_option maxRecDepth 100000 in
theorem je_270 (rc : Nat → Nat × (Nat → Int32)) (d : Nat) (a0 : Nat) (x1 : Int32) (x2 : Int32) (h : jxH) : jx_C rc (d + 1) 270 [.ref a0, .int x1, .int x2] h =
  jx_cR (jx_C rc d 263 [.ref a0, .int x1] h) fun o2 h1 =>
  jx_mo o2 (fun b3 => jx_cI (jx_C rc d 227 [.ref b3] h1) fun v5 h4 =>
    (jx_gI (jx_at h4 a0) 3 5).bind fun v6 =>
    if (v5 - v6) < 0 then
      if jx_bool (0 : Int32) = true then some (some (.int (0 : Int32)), h4) else none
    else
      if (v5 - v6) ≤ ((2 : Int32) * (x2 - x1)) then
        if x1 < x2 then
          jx_cR (jx_C rc d 263 [.ref a0, .int (x1 + (1 : Int32))] h4) fun o8 h7 =>
          jx_mo o8 (fun b9 => jb_270 rc d 44 [(0, .ref a0), (1, .int x1), (2, .int x2), (3, .ref b3), (5, .ref b9), (6, .int (0 : Int32))] [] h7)
          (if jx_bool (0 : Int32) = true then some (some (.int (0 : Int32)), h7) else none)
        else
          jx_cI (jx_C rc d 269 [.ref a0, .ref b3] h4) fun v11 h10 =>
          if jx_bool v11 = true then some (some (.int v11), h10) else none
      else
        if jx_bool (0 : Int32) = true then some (some (.int (0 : Int32)), h4) else none)
  (if jx_bool (0 : Int32) = true then some (some (.int (0 : Int32)), h1) else none) :=
  (jx_G_run (jx_X_grows rc jx_dflt jx_mt d) 89 (0, [(0, .ref a0), (1, .int x1), (2, .int x2)], [], h)).trans rfl
set_option maxRecDepth 100000 in
theorem je_270_44 (rc : Nat → Nat × (Nat → Int32)) (d : Nat) (a0 : Nat) (x1 : Int32) (x2 : Int32) (a3 : Nat) (a5 : Nat) (x6 : Int32) (h : jxH) : jb_270 rc d 44 [(0, .ref a0), (1, .int x1), (2, .int x2), (3, .ref a3), (5, .ref a5), (6, .int x6)] [] h =
  if (12 : Int32) ≤ x6 then
    jx_cV (jx_C rc d 225 [.ref a5, .ref a3] h) fun h1 =>
    jx_cV (jx_C rc d 239 [.ref a5] h1) fun h2 =>
    jx_cI (jx_C rc d 270 [.ref a0, .int (x1 + (1 : Int32)), .int x2] h2) fun v4 h3 =>
    if jx_bool v4 = true then some (some (.int v4), h3) else none
  else
    jx_cI (jx_C rc d 226 [.ref a3, .int x6] h) fun v6 h5 =>
    if v6 = 0 then
      jb_270 rc d 44 [(0, .ref a0), (1, .int x1), (2, .int x2), (3, .ref a3), (5, .ref a5), (6, .int (x6 + (1 : Int32)))] [] h5
    else
      (jx_gR (jx_at h5 a0) 3 1).bind fun b7 =>
      jx_cI (jx_C rc d 283 [.ref b7, .ref a3, .int x6] h5) fun v9 h8 =>
      if v9 = 0 then
        jb_270 rc d 44 [(0, .ref a0), (1, .int x1), (2, .int x2), (3, .ref a3), (5, .ref a5), (6, .int (x6 + (1 : Int32)))] [] h8
      else
        jx_cV (jx_C rc d 225 [.ref a5, .ref a3] h8) fun h10 =>
        (jx_gR (jx_at h10 a0) 3 1).bind fun b11 =>
        jx_cV (jx_C rc d 290 [.ref b11, .ref a5] h10) fun h12 =>
        jx_cI (jx_C rc d 270 [.ref a0, .int (x1 + (1 : Int32)), .int x2] h12) fun v14 h13 =>
        if v14 = 0 then
          jb_270 rc d 44 [(0, .ref a0), (1, .int x1), (2, .int x2), (3, .ref a3), (5, .ref a5), (6, .int (x6 + (1 : Int32)))] [] h13
        else
          if jx_bool (1 : Int32) = true then some (some (.int (1 : Int32)), h13) else none :=
  (jx_G_run (jx_X_grows rc jx_dflt jx_mt d) 89 _).trans rfl
-- RoomTrees$Sheet.<init>(II)V
set_option maxRecDepth 100000 in
theorem je_271 (rc : Nat → Nat × (Nat → Int32)) (d : Nat) (a0 : Nat) (x1 : Int32) (x2 : Int32) (h : jxH) : jx_C rc (d + 1) 271 [.ref a0, .int x1, .int x2] h =
  if jx_is (jx_at h a0) 4 = true then
  (jx_pF (jx_at h a0) 4 0 (.int x1)).bind fun e1 =>
  jx_cI (jx_C rc d 331 [.int x2, .int (24 : Int32)] (jx_set h a0 e1)) fun v3 h2 =>
  jx_cI (jx_C rc d 330 [.int (0 : Int32), .int v3] h2) fun v5 h4 =>
  if v5 < 0 ∨ 5000 < v5 then none else
  (jx_pF (jx_at (jx_new h4 (v5).toNatClampNeg (jx_arr 0 (v5).toNatClampNeg)) a0) 4 1 (.ref h4.1)).bind fun e6 =>
  some (none, (jx_set (jx_new h4 (v5).toNatClampNeg (jx_arr 0 (v5).toNatClampNeg)) a0 e6))
  else none :=
  jx_enter ((jx_G_run (jx_X_grows rc jx_dflt jx_mt d) 16 (0, [(0, .ref a0), (1, .int x1), (2, .int x2)], [], h)).trans rfl)
-- RoomTrees$Sheet.has(I)Z
set_option maxRecDepth 100000 in
theorem je_272 (rc : Nat → Nat × (Nat → Int32)) (d : Nat) (a0 : Nat) (x1 : Int32) (h : jxH) : jx_C rc (d + 1) 272 [.ref a0, .int x1] h =
  if jx_is (jx_at h a0) 4 = true then
  if x1 < 0 then
    if jx_bool (0 : Int32) = true then some (some (.int (0 : Int32)), h) else none
  else
    (jx_gR (jx_at h a0) 4 1).bind fun b1 =>
    (jx_len (jx_at h b1)).bind fun n2 =>
    if (Int32.ofNat n2) ≤ x1 then
      if jx_bool (0 : Int32) = true then some (some (.int (0 : Int32)), h) else none
    else
      if jx_bool (1 : Int32) = true then some (some (.int (1 : Int32)), h) else none
  else none :=
  jx_enter ((jx_G_run (jx_X_grows rc jx_dflt jx_mt d) 13 (0, [(0, .ref a0), (1, .int x1)], [], h)).trans rfl)
-- RoomTrees$Sheet.holds(II)Z
set_option maxRecDepth 100000 in
theorem je_273 (rc : Nat → Nat × (Nat → Int32)) (d : Nat) (a0 : Nat) (x1 : Int32) (x2 : Int32) (h : jxH) : jx_C rc (d + 1) 273 [.ref a0, .int x1, .int x2] h =
  if jx_is (jx_at h a0) 4 = true then
  if x1 < 0 then
    if jx_bool (0 : Int32) = true then some (some (.int (0 : Int32)), h) else none
  else
    if x2 < 0 then
      if jx_bool (0 : Int32) = true then some (some (.int (0 : Int32)), h) else none
    else
      (jx_gR (jx_at h a0) 4 1).bind fun b1 =>
      (jx_len (jx_at h b1)).bind fun n2 =>
      if ((Int32.ofNat n2) - x2) < x1 then
        if jx_bool (0 : Int32) = true then some (some (.int (0 : Int32)), h) else none
      else
        if jx_bool (1 : Int32) = true then some (some (.int (1 : Int32)), h) else none
  else none :=
  jx_enter ((jx_G_run (jx_X_grows rc jx_dflt jx_mt d) 17 (0, [(0, .ref a0), (1, .int x1), (2, .int x2)], [], h)).trans rfl)
-- RoomTrees$Sheet.read(I)I
set_option maxRecDepth 100000 in
theorem je_274 (rc : Nat → Nat × (Nat → Int32)) (d : Nat) (a0 : Nat) (x1 : Int32) (h : jxH) : jx_C rc (d + 1) 274 [.ref a0, .int x1] h =
  if jx_is (jx_at h a0) 4 = true then
  jx_cI (jx_C rc d 272 [.ref a0, .int x1] h) fun v2 h1 =>
  if v2 = 0 then
    some (some (.int (0 : Int32)), h1)
  else
    (jx_gR (jx_at h1 a0) 4 1).bind fun b3 =>
    (jx_aI (jx_at h1 b3) 0 x1).bind fun v4 =>
    some (some (.int v4), h1)
  else none :=
  jx_enter ((jx_G_run (jx_X_grows rc jx_dflt jx_mt d) 13 (0, [(0, .ref a0), (1, .int x1)], [], h)).trans rfl)
-- RoomTrees$Sheet.write(II)V
set_option maxRecDepth 100000 in
theorem je_275 (rc : Nat → Nat × (Nat → Int32)) (d : Nat) (a0 : Nat) (x1 : Int32) (x2 : Int32) (h : jxH) : jx_C rc (d + 1) 275 [.ref a0, .int x1, .int x2] h =
  if jx_is (jx_at h a0) 4 = true then
  jx_cI (jx_C rc d 272 [.ref a0, .int x1] h) fun v2 h1 =>
  if v2 = 0 then
    some (none, h1)
  else
    (jx_gR (jx_at h1 a0) 4 1).bind fun b3 =>
    (jx_gI (jx_at h1 a0) 4 0).bind fun v4 =>
    if v4 = (8 : Int32) then
      (jx_sI (jx_at h1 b3) 0 x1 ((x2).toInt8.toInt32)).bind fun e5 =>
      some (none, (jx_set h1 b3 e5))
    else
      (jx_gI (jx_at h1 a0) 4 0).bind fun v6 =>
      if v6 = (16 : Int32) then
        (jx_sI (jx_at h1 b3) 0 x1 ((x2).toInt16.toInt32)).bind fun e7 =>
        some (none, (jx_set h1 b3 e7))
      else
        (jx_sI (jx_at h1 b3) 0 x1 x2).bind fun e8 =>
        some (none, (jx_set h1 b3 e8))
  else none :=
  jx_enter ((jx_G_run (jx_X_grows rc jx_dflt jx_mt d) 26 (0, [(0, .ref a0), (1, .int x1), (2, .int x2)], [], h)).trans rfl)
-- RoomTrees$Speller.<init>()V
noncomputable def jb_276 (rc : Nat → Nat × (Nat → Int32)) (d : Nat) (i : Nat) (ls : List (Nat × Value)) (st : List Value) (h : jxH) : jxR := jx_G rc jx_dflt (jx_X rc jx_dflt jx_mt d) jc_276 (i, ls, st, h)
set_option maxRecDepth 100000 in
theorem je_276 (rc : Nat → Nat × (Nat → Int32)) (d : Nat) (a0 : Nat) (h : jxH) : jx_C rc (d + 1) 276 [.ref a0] h =
  if jx_is (jx_at h a0) 5 = true then
  jx_cV (jx_C rc d 318 [.ref h.1] (jx_new h 5 (.inl (10, jx_dflt 10)))) fun h1 =>
  (jx_pF (jx_at h1 a0) 5 0 (.ref h.1)).bind fun e2 =>
  if (12 : Int32) < 0 ∨ 5000 < (12 : Int32) then none else
  (jx_pF (jx_at (jx_new (jx_set h1 a0 e2) ((12 : Int32)).toNatClampNeg (jxQ 7 ((12 : Int32)).toNatClampNeg (fun _ => none))) a0) 5 1 (.ref (jx_set h1 a0 e2).1)).bind fun e3 =>
  if (12 : Int32) < 0 ∨ 5000 < (12 : Int32) then none else
  (jx_pF (jx_at (jx_new (jx_set (jx_new (jx_set h1 a0 e2) ((12 : Int32)).toNatClampNeg (jxQ 7 ((12 : Int32)).toNatClampNeg (fun _ => none))) a0 e3) ((12 : Int32)).toNatClampNeg (jxQ 7 ((12 : Int32)).toNatClampNeg (fun _ => none))) a0) 5 2 (.ref (jx_set (jx_new (jx_set h1 a0 e2) ((12 : Int32)).toNatClampNeg (jxQ 7 ((12 : Int32)).toNatClampNeg (fun _ => none))) a0 e3).1)).bind fun e4 =>
  jb_276 rc d 17 [(0, .ref a0), (1, .int (0 : Int32))] [] (jx_set (jx_new (jx_set (jx_new (jx_set h1 a0 e2) ((12 : Int32)).toNatClampNeg (jxQ 7 ((12 : Int32)).toNatClampNeg (fun _ => none))) a0 e3) ((12 : Int32)).toNatClampNeg (jxQ 7 ((12 : Int32)).toNatClampNeg (fun _ => none))) a0 e4)
  else none :=
  jx_enter ((jx_G_run (jx_X_grows rc jx_dflt jx_mt d) 39 (0, [(0, .ref a0)], [], h)).trans rfl)
set_option maxRecDepth 100000 in
theorem je_276_17 (rc : Nat → Nat × (Nat → Int32)) (d : Nat) (a0 : Nat) (x1 : Int32) (h : jxH) : jb_276 rc d 17 [(0, .ref a0), (1, .int x1)] [] h =
  if (12 : Int32) ≤ x1 then
    some (none, h)
  else
    (jx_gR (jx_at h a0) 5 1).bind fun b1 =>
    jx_cV (jx_C rc d 304 [.ref h.1] (jx_new h 2 (.inl (8, jx_dflt 8)))) fun h2 =>
    if jx_is (jx_at h2 h.1) 8 = true then (jx_sQ (jx_at h2 b1) 7 x1 (some h.1)).bind fun e3 =>
    (jx_gR (jx_at (jx_set h2 b1 e3) a0) 5 2).bind fun b4 =>
    jx_cV (jx_C rc d 304 [.ref (jx_set h2 b1 e3).1] (jx_new (jx_set h2 b1 e3) 2 (.inl (8, jx_dflt 8)))) fun h5 =>
    if jx_is (jx_at h5 ((jx_set h2 b1 e3).1)) 8 = true then (jx_sQ (jx_at h5 b4) 7 x1 (some (jx_set h2 b1 e3).1)).bind fun e6 =>
    jb_276 rc d 17 [(0, .ref a0), (1, .int (x1 + (1 : Int32)))] [] (jx_set h5 b4 e6) else none else none :=
  (jx_G_run (jx_X_grows rc jx_dflt jx_mt d) 39 _).trans rfl
-- RoomTrees$Speller.spell(LRoomTrees$Forest;LRoomTrees$Text;)V
noncomputable def jb_277 (rc : Nat → Nat × (Nat → Int32)) (d : Nat) (i : Nat) (ls : List (Nat × Value)) (st : List Value) (h : jxH) : jxR := jx_G rc jx_dflt (jx_X rc jx_dflt jx_mt d) jc_277 (i, ls, st, h)
set_option maxRecDepth 100000 in
theorem je_277 (rc : Nat → Nat × (Nat → Int32)) (d : Nat) (a0 : Nat) (a1 : Nat) (a2 : Nat) (h : jxH) : jx_C rc (d + 1) 277 [.ref a0, .ref a1, .ref a2] h =
  if jx_is (jx_at h a0) 5 = true then
  jb_277 rc d 4 [(0, .ref a0), (1, .ref a1), (2, .ref a2), (3, .int (0 : Int32)), (4, .int (0 : Int32))] [] h
  else none :=
  jx_enter ((jx_G_run (jx_X_grows rc jx_dflt jx_mt d) 81 (0, [(0, .ref a0), (1, .ref a1), (2, .ref a2)], [], h)).trans rfl)
set_option maxRecDepth 100000 in
theorem je_277_4 (rc : Nat → Nat × (Nat → Int32)) (d : Nat) (a0 : Nat) (a1 : Nat) (a2 : Nat) (x3 : Int32) (x4 : Int32) (h : jxH) : jb_277 rc d 4 [(0, .ref a0), (1, .ref a1), (2, .ref a2), (3, .int x3), (4, .int x4)] [] h =
  if (12 : Int32) ≤ x4 then
    (jx_pF (jx_at h a2) 8 1 (.int (0 : Int32))).bind fun e1 =>
    (jx_gR (jx_at (jx_set h a2 e1) a0) 5 2).bind fun b2 =>
    jx_cV (jx_C rc d 279 [.ref a2, .ref b2, .int x3] (jx_set h a2 e1)) fun h3 =>
    some (none, h3)
  else
    (jx_gR (jx_at h a0) 5 0).bind fun b4 =>
    jx_cV (jx_C rc d 320 [.ref b4, .ref a1, .int x4] h) fun h5 =>
    (jx_gR (jx_at h5 a0) 5 0).bind fun b6 =>
    (jx_gI (jx_at h5 b6) 10 4).bind fun v7 =>
    jx_cI (jx_C rc d 67 [.int v7] h5) fun v9 h8 =>
    jx_cI (jx_C rc d 59 [.int v9] h8) fun v11 h10 =>
    if v11 = 0 then
      jb_277 rc d 4 [(0, .ref a0), (1, .ref a1), (2, .ref a2), (3, .int x3), (4, .int (x4 + (1 : Int32)))] [] h10
    else
      (jx_gR (jx_at h10 a0) 5 2).bind fun b12 =>
      (jx_aQ (jx_at h10 b12) 7 v9).bind fun o13 =>
      jx_mo o13 (fun b14 => jb_277 rc d 37 [(0, .ref a0), (1, .ref a1), (2, .ref a2), (3, .int (x3 ||| ((1 : Int32) <<< (v9 &&& 31)))), (4, .int x4), (5, .int v9), (6, .ref b14), (7, .int (11 : Int32))] [] h10)
      (jb_277 rc d 4 [(0, .ref a0), (1, .ref a1), (2, .ref a2), (3, .int x3), (4, .int (x4 + (1 : Int32)))] [] h10) :=
  (jx_G_run (jx_X_grows rc jx_dflt jx_mt d) 81 _).trans rfl
set_option maxRecDepth 100000 in
theorem je_277_37 (rc : Nat → Nat × (Nat → Int32)) (d : Nat) (a0 : Nat) (a1 : Nat) (a2 : Nat) (x3 : Int32) (x4 : Int32) (x5 : Int32) (a6 : Nat) (x7 : Int32) (h : jxH) : jb_277 rc d 37 [(0, .ref a0), (1, .ref a1), (2, .ref a2), (3, .int x3), (4, .int x4), (5, .int x5), (6, .ref a6), (7, .int x7)] [] h =
  if x7 < 0 then
    (jx_gR (jx_at h a0) 5 1).bind fun b1 =>
    (jx_aQ (jx_at h b1) 7 x4).bind fun o2 =>
    jx_mo o2 (fun b3 => if x4 = x5 then
        (jx_pF (jx_at h a6) 8 1 (.int (0 : Int32))).bind fun e4 =>
        jx_cV (jx_C rc d 307 [.ref a6, .ref b3] (jx_set h a6 e4)) fun h5 =>
        jb_277 rc d 4 [(0, .ref a0), (1, .ref a1), (2, .ref a2), (3, .int x3), (4, .int (x4 + (1 : Int32)))] [] h5
      else
        jx_cI (jx_C rc d 309 [.ref b3, .ref a6] h) fun v7 h6 =>
        if v7 = 0 then
          jb_277 rc d 4 [(0, .ref a0), (1, .ref a1), (2, .ref a2), (3, .int x3), (4, .int (x4 + (1 : Int32)))] [] h6
        else
          (jx_pF (jx_at h6 a6) 8 1 (.int (0 : Int32))).bind fun e8 =>
          jx_cV (jx_C rc d 307 [.ref a6, .ref b3] (jx_set h6 a6 e8)) fun h9 =>
          jb_277 rc d 4 [(0, .ref a0), (1, .ref a1), (2, .ref a2), (3, .int x3), (4, .int (x4 + (1 : Int32)))] [] h9)
    (jb_277 rc d 4 [(0, .ref a0), (1, .ref a1), (2, .ref a2), (3, .int x3), (4, .int (x4 + (1 : Int32)))] [] h)
  else
    (jx_gR (jx_at h a0) 5 0).bind fun b10 =>
    jx_cI (jx_C rc d 323 [.ref b10, .int x7] h) fun v12 h11 =>
    jx_cV (jx_C rc d 278 [.ref a0, .ref a1, .int v12] h11) fun h13 =>
    jb_277 rc d 37 [(0, .ref a0), (1, .ref a1), (2, .ref a2), (3, .int x3), (4, .int x4), (5, .int x5), (6, .ref a6), (7, .int (x7 + (-1 : Int32)))] [] h13 :=
  (jx_G_run (jx_X_grows rc jx_dflt jx_mt d) 81 _).trans rfl
-- RoomTrees$Speller.spellVertex(LRoomTrees$Forest;I)V
noncomputable def jb_278 (rc : Nat → Nat × (Nat → Int32)) (d : Nat) (i : Nat) (ls : List (Nat × Value)) (st : List Value) (h : jxH) : jxR := jx_G rc jx_dflt (jx_X rc jx_dflt jx_mt d) jc_278 (i, ls, st, h)
set_option maxRecDepth 100000 in
theorem je_278 (rc : Nat → Nat × (Nat → Int32)) (d : Nat) (a0 : Nat) (a1 : Nat) (x2 : Int32) (h : jxH) : jx_C rc (d + 1) 278 [.ref a0, .ref a1, .int x2] h =
  if jx_is (jx_at h a0) 5 = true then
  jx_cI (jx_C rc d 59 [.int x2] h) fun v2 h1 =>
  if v2 = 0 then
    jb_278 rc d 9 [(0, .ref a0), (1, .ref a1), (2, .int x2)] [.null] h1
  else
    (jx_gR (jx_at h1 a0) 5 1).bind fun b3 =>
    (jx_aQ (jx_at h1 b3) 7 x2).bind fun o4 =>
    jx_mo o4 (fun b5 => jb_278 rc d 9 [(0, .ref a0), (1, .ref a1), (2, .int x2)] [.ref b5] h1)
    (jb_278 rc d 9 [(0, .ref a0), (1, .ref a1), (2, .int x2)] [.null] h1)
  else none :=
  jx_enter ((jx_G_run (jx_X_grows rc jx_dflt jx_mt d) 57 (0, [(0, .ref a0), (1, .ref a1), (2, .int x2)], [], h)).trans rfl)
set_option maxRecDepth 100000 in
theorem je_278_9 (rc : Nat → Nat × (Nat → Int32)) (d : Nat) (a0 : Nat) (a1 : Nat) (x2 : Int32) (s0 : Nat) (h : jxH) : jb_278 rc d 9 [(0, .ref a0), (1, .ref a1), (2, .int x2)] [.ref s0] h =
  (jx_gR (jx_at h a0) 5 0).bind fun b1 =>
  jx_cI (jx_C rc d 324 [.ref b1, .int x2] h) fun v3 h2 =>
  jx_cI (jx_C rc d 59 [.int v3] h2) fun v5 h4 =>
  if v5 = 0 then
    jx_cI (jx_C rc d 229 [.ref a1, .int x2] h4) fun v7 h6 =>
    (jx_pF (jx_at h6 s0) 8 1 (.int (0 : Int32))).bind fun e8 =>
    jx_cV (jx_C rc d 305 [.ref s0, .int (40 : Int32)] (jx_set h6 s0 e8)) fun h9 =>
    jx_cI (jx_C rc d 228 [.ref a1, .int x2] h9) fun v11 h10 =>
    jx_cV (jx_C rc d 306 [.ref s0, .int v11] h10) fun h12 =>
    (jx_gR (jx_at h12 a0) 5 1).bind fun b13 =>
    jx_cV (jx_C rc d 279 [.ref s0, .ref b13, .int v7] h12) fun h14 =>
    jx_cV (jx_C rc d 305 [.ref s0, .int (41 : Int32)] h14) fun h15 =>
    some (none, h15)
  else
    jx_cI (jx_C rc d 229 [.ref a1, .int x2] h4) fun v17 h16 =>
    (jx_pF (jx_at h16 s0) 8 1 (.int (0 : Int32))).bind fun e18 =>
    jx_cV (jx_C rc d 305 [.ref s0, .int (40 : Int32)] (jx_set h16 s0 e18)) fun h19 =>
    jx_cI (jx_C rc d 228 [.ref a1, .int x2] h19) fun v21 h20 =>
    jx_cV (jx_C rc d 306 [.ref s0, .int v21] h20) fun h22 =>
    (jx_gR (jx_at h22 a0) 5 1).bind fun b23 =>
    jx_cV (jx_C rc d 279 [.ref s0, .ref b23, .int (v17 &&& (((1 : Int32) <<< (v3 &&& 31)) ^^^ (-1 : Int32)))] h22) fun h24 =>
    jx_cV (jx_C rc d 305 [.ref s0, .int (41 : Int32)] h24) fun h25 =>
    some (none, h25) :=
  (jx_G_run (jx_X_grows rc jx_dflt jx_mt d) 57 _).trans rfl
set_option maxRecDepth 100000 in
theorem je_278_9b (rc : Nat → Nat × (Nat → Int32)) (d : Nat) (a0 : Nat) (a1 : Nat) (x2 : Int32) (h : jxH) : jb_278 rc d 9 [(0, .ref a0), (1, .ref a1), (2, .int x2)] [.null] h =
  some (none, h) :=
  (jx_G_run (jx_X_grows rc jx_dflt jx_mt d) 57 _).trans rfl
-- RoomTrees$Speller.addInOrder(LRoomTrees$Text;[LRoomTrees$Text;I)V
noncomputable def jb_279 (rc : Nat → Nat × (Nat → Int32)) (d : Nat) (i : Nat) (ls : List (Nat × Value)) (st : List Value) (h : jxH) : jxR := jx_G rc jx_dflt (jx_X rc jx_dflt jx_mt d) jc_279 (i, ls, st, h)
set_option maxRecDepth 100000 in
theorem je_279 (rc : Nat → Nat × (Nat → Int32)) (d : Nat) (a0 : Nat) (a1 : Nat) (x2 : Int32) (h : jxH) : jx_C rc (d + 1) 279 [.ref a0, .ref a1, .int x2] h =
  jb_279 rc d 4 [(0, .ref a0), (1, .ref a1), (3, .int x2), (4, .int (0 : Int32))] [] h :=
  (jx_G_run (jx_X_grows rc jx_dflt jx_mt d) 64 (0, [(0, .ref a0), (1, .ref a1), (2, .int x2)], [], h)).trans rfl
set_option maxRecDepth 100000 in
theorem je_279_4 (rc : Nat → Nat × (Nat → Int32)) (d : Nat) (a0 : Nat) (a1 : Nat) (x3 : Int32) (x4 : Int32) (h : jxH) : jb_279 rc d 4 [(0, .ref a0), (1, .ref a1), (3, .int x3), (4, .int x4)] [] h =
  if (12 : Int32) ≤ x4 then
    some (none, h)
  else
    if x3 = 0 then
      some (none, h)
    else
      jb_279 rc d 15 [(0, .ref a0), (1, .ref a1), (3, .int x3), (4, .int x4), (5, .null), (6, .int (0 : Int32)), (7, .int (0 : Int32))] [] h :=
  (jx_G_run (jx_X_grows rc jx_dflt jx_mt d) 64 _).trans rfl
set_option maxRecDepth 100000 in
theorem je_279_15 (rc : Nat → Nat × (Nat → Int32)) (d : Nat) (a0 : Nat) (a1 : Nat) (x3 : Int32) (x4 : Int32) (a5 : Nat) (x6 : Int32) (x7 : Int32) (h : jxH) : jb_279 rc d 15 [(0, .ref a0), (1, .ref a1), (3, .int x3), (4, .int x4), (5, .ref a5), (6, .int x6), (7, .int x7)] [] h =
  if (12 : Int32) ≤ x7 then
    jb_279 rc d 46 [(0, .ref a0), (1, .ref a1), (3, .int x3), (4, .int x4), (5, .ref a5), (6, .int x6)] [] h
  else
    (jx_len (jx_at h a1)).bind fun n1 =>
    if (Int32.ofNat n1) ≤ x7 then
      jb_279 rc d 46 [(0, .ref a0), (1, .ref a1), (3, .int x3), (4, .int x4), (5, .ref a5), (6, .int x6)] [] h
    else
      jx_cI (jx_C rc d 60 [.int x7, .int x3] h) fun v3 h2 =>
      if v3 = 0 then
        jb_279 rc d 31 [(0, .ref a0), (1, .ref a1), (3, .int x3), (4, .int x4), (5, .ref a5), (6, .int x6), (7, .int x7)] [.null] h2
      else
        (jx_aQ (jx_at h2 a1) 7 x7).bind fun o4 =>
        jx_mo o4 (fun b5 => jb_279 rc d 31 [(0, .ref a0), (1, .ref a1), (3, .int x3), (4, .int x4), (5, .ref a5), (6, .int x6), (7, .int x7)] [.ref b5] h2)
        (jb_279 rc d 31 [(0, .ref a0), (1, .ref a1), (3, .int x3), (4, .int x4), (5, .ref a5), (6, .int x6), (7, .int x7)] [.null] h2) :=
  (jx_G_run (jx_X_grows rc jx_dflt jx_mt d) 64 _).trans rfl
set_option maxRecDepth 100000 in
theorem je_279_15b (rc : Nat → Nat × (Nat → Int32)) (d : Nat) (a0 : Nat) (a1 : Nat) (x3 : Int32) (x4 : Int32) (x6 : Int32) (x7 : Int32) (h : jxH) : jb_279 rc d 15 [(0, .ref a0), (1, .ref a1), (3, .int x3), (4, .int x4), (5, .null), (6, .int x6), (7, .int x7)] [] h =
  if (12 : Int32) ≤ x7 then
    jb_279 rc d 46 [(0, .ref a0), (1, .ref a1), (3, .int x3), (4, .int x4), (5, .null), (6, .int x6)] [] h
  else
    (jx_len (jx_at h a1)).bind fun n1 =>
    if (Int32.ofNat n1) ≤ x7 then
      jb_279 rc d 46 [(0, .ref a0), (1, .ref a1), (3, .int x3), (4, .int x4), (5, .null), (6, .int x6)] [] h
    else
      jx_cI (jx_C rc d 60 [.int x7, .int x3] h) fun v3 h2 =>
      if v3 = 0 then
        jb_279 rc d 31 [(0, .ref a0), (1, .ref a1), (3, .int x3), (4, .int x4), (5, .null), (6, .int x6), (7, .int x7)] [.null] h2
      else
        (jx_aQ (jx_at h2 a1) 7 x7).bind fun o4 =>
        jx_mo o4 (fun b5 => jb_279 rc d 31 [(0, .ref a0), (1, .ref a1), (3, .int x3), (4, .int x4), (5, .null), (6, .int x6), (7, .int x7)] [.ref b5] h2)
        (jb_279 rc d 31 [(0, .ref a0), (1, .ref a1), (3, .int x3), (4, .int x4), (5, .null), (6, .int x6), (7, .int x7)] [.null] h2) :=
  (jx_G_run (jx_X_grows rc jx_dflt jx_mt d) 64 _).trans rfl
set_option maxRecDepth 100000 in
theorem je_279_31 (rc : Nat → Nat × (Nat → Int32)) (d : Nat) (a0 : Nat) (a1 : Nat) (x3 : Int32) (x4 : Int32) (a5 : Nat) (x6 : Int32) (x7 : Int32) (s0 : Nat) (h : jxH) : jb_279 rc d 31 [(0, .ref a0), (1, .ref a1), (3, .int x3), (4, .int x4), (5, .ref a5), (6, .int x6), (7, .int x7)] [.ref s0] h =
  jx_cI (jx_C rc d 309 [.ref s0, .ref a5] h) fun v2 h1 =>
  if v2 = 0 then
    jb_279 rc d 15 [(0, .ref a0), (1, .ref a1), (3, .int x3), (4, .int x4), (5, .ref a5), (6, .int x6), (7, .int (x7 + (1 : Int32)))] [] h1
  else
    jb_279 rc d 15 [(0, .ref a0), (1, .ref a1), (3, .int x3), (4, .int x4), (5, .ref s0), (6, .int x7), (7, .int (x7 + (1 : Int32)))] [] h1 :=
  (jx_G_run (jx_X_grows rc jx_dflt jx_mt d) 64 _).trans rfl
set_option maxRecDepth 100000 in
theorem je_279_31b (rc : Nat → Nat × (Nat → Int32)) (d : Nat) (a0 : Nat) (a1 : Nat) (x3 : Int32) (x4 : Int32) (a5 : Nat) (x6 : Int32) (x7 : Int32) (h : jxH) : jb_279 rc d 31 [(0, .ref a0), (1, .ref a1), (3, .int x3), (4, .int x4), (5, .ref a5), (6, .int x6), (7, .int x7)] [.null] h =
  jb_279 rc d 15 [(0, .ref a0), (1, .ref a1), (3, .int x3), (4, .int x4), (5, .ref a5), (6, .int x6), (7, .int (x7 + (1 : Int32)))] [] h :=
  (jx_G_run (jx_X_grows rc jx_dflt jx_mt d) 64 _).trans rfl
set_option maxRecDepth 100000 in
theorem je_279_31c (rc : Nat → Nat × (Nat → Int32)) (d : Nat) (a0 : Nat) (a1 : Nat) (x3 : Int32) (x4 : Int32) (x6 : Int32) (x7 : Int32) (s0 : Nat) (h : jxH) : jb_279 rc d 31 [(0, .ref a0), (1, .ref a1), (3, .int x3), (4, .int x4), (5, .null), (6, .int x6), (7, .int x7)] [.ref s0] h =
  jb_279 rc d 15 [(0, .ref a0), (1, .ref a1), (3, .int x3), (4, .int x4), (5, .ref s0), (6, .int x7), (7, .int (x7 + (1 : Int32)))] [] h :=
  (jx_G_run (jx_X_grows rc jx_dflt jx_mt d) 64 _).trans rfl
set_option maxRecDepth 100000 in
theorem je_279_31d (rc : Nat → Nat × (Nat → Int32)) (d : Nat) (a0 : Nat) (a1 : Nat) (x3 : Int32) (x4 : Int32) (x6 : Int32) (x7 : Int32) (h : jxH) : jb_279 rc d 31 [(0, .ref a0), (1, .ref a1), (3, .int x3), (4, .int x4), (5, .null), (6, .int x6), (7, .int x7)] [.null] h =
  jb_279 rc d 15 [(0, .ref a0), (1, .ref a1), (3, .int x3), (4, .int x4), (5, .null), (6, .int x6), (7, .int (x7 + (1 : Int32)))] [] h :=
  (jx_G_run (jx_X_grows rc jx_dflt jx_mt d) 64 _).trans rfl
set_option maxRecDepth 100000 in
theorem je_279_46 (rc : Nat → Nat × (Nat → Int32)) (d : Nat) (a0 : Nat) (a1 : Nat) (x3 : Int32) (x4 : Int32) (a5 : Nat) (x6 : Int32) (h : jxH) : jb_279 rc d 46 [(0, .ref a0), (1, .ref a1), (3, .int x3), (4, .int x4), (5, .ref a5), (6, .int x6)] [] h =
  jx_cV (jx_C rc d 307 [.ref a0, .ref a5] h) fun h1 =>
  jb_279 rc d 4 [(0, .ref a0), (1, .ref a1), (3, .int (x3 &&& (((1 : Int32) <<< (x6 &&& 31)) ^^^ (-1 : Int32)))), (4, .int (x4 + (1 : Int32)))] [] h1 :=
  (jx_G_run (jx_X_grows rc jx_dflt jx_mt d) 64 _).trans rfl
set_option maxRecDepth 100000 in
theorem je_279_46b (rc : Nat → Nat × (Nat → Int32)) (d : Nat) (a0 : Nat) (a1 : Nat) (x3 : Int32) (x4 : Int32) (x6 : Int32) (h : jxH) : jb_279 rc d 46 [(0, .ref a0), (1, .ref a1), (3, .int x3), (4, .int x4), (5, .null), (6, .int x6)] [] h =
  jb_279 rc d 4 [(0, .ref a0), (1, .ref a1), (3, .int (x3 &&& (((1 : Int32) <<< (x6 &&& 31)) ^^^ (-1 : Int32)))), (4, .int (x4 + (1 : Int32)))] [] h :=
  (jx_G_run (jx_X_grows rc jx_dflt jx_mt d) 64 _).trans rfl
-- RoomTrees$Step.<init>()V
set_option maxRecDepth 100000 in
theorem je_280 (rc : Nat → Nat × (Nat → Int32)) (d : Nat) (a0 : Nat) (h : jxH) : jx_C rc (d + 1) 280 [.ref a0] h =
  if jx_is (jx_at h a0) 6 = true then
  jx_cV (jx_C rc d 223 [.ref h.1] (jx_new h 3 (.inl (1, jx_dflt 1)))) fun h1 =>
  (jx_pF (jx_at h1 a0) 6 6 (.ref h.1)).bind fun e2 =>
  some (none, (jx_set h1 a0 e2))
  else none :=
  jx_enter ((jx_G_run (jx_X_grows rc jx_dflt jx_mt d) 10 (0, [(0, .ref a0)], [], h)).trans rfl)
-- RoomTrees$Step.mean(IIIII)V
noncomputable def jb_281 (rc : Nat → Nat × (Nat → Int32)) (d : Nat) (i : Nat) (ls : List (Nat × Value)) (st : List Value) (h : jxH) : jxR := jx_G rc jx_dflt (jx_X rc jx_dflt jx_mt d) jc_281 (i, ls, st, h)
set_option maxRecDepth 100000 in
theorem je_281 (rc : Nat → Nat × (Nat → Int32)) (d : Nat) (a0 : Nat) (x1 : Int32) (x2 : Int32) (x3 : Int32) (x4 : Int32) (x5 : Int32) (h : jxH) : jx_C rc (d + 1) 281 [.ref a0, .int x1, .int x2, .int x3, .int x4, .int x5] h =
  if jx_is (jx_at h a0) 6 = true then
  if x1 < 0 then
    jb_281 rc d 11 [(0, .ref a0), (1, .int x1), (2, .int x2), (3, .int x3), (4, .int x4), (5, .int x5)] [.int (0 : Int32)] h
  else
    if (Int32.ofNat (rc 1).1) ≤ x1 then
      jb_281 rc d 11 [(0, .ref a0), (1, .int x1), (2, .int x2), (3, .int x3), (4, .int x4), (5, .int x5)] [.int (0 : Int32)] h
    else
      if jx_out x1 (rc 1).1 = true then none else
      jb_281 rc d 11 [(0, .ref a0), (1, .int x1), (2, .int x2), (3, .int x3), (4, .int x4), (5, .int x5)] [.int ((rc 1).2 (x1).toNatClampNeg)] h
  else none :=
  jx_enter ((jx_G_run (jx_X_grows rc jx_dflt jx_mt d) 54 (0, [(0, .ref a0), (1, .int x1), (2, .int x2), (3, .int x3), (4, .int x4), (5, .int x5)], [], h)).trans rfl)
set_option maxRecDepth 100000 in
theorem je_281_11 (rc : Nat → Nat × (Nat → Int32)) (d : Nat) (a0 : Nat) (x1 : Int32) (x2 : Int32) (x3 : Int32) (x4 : Int32) (x5 : Int32) (s0 : Int32) (h : jxH) : jb_281 rc d 11 [(0, .ref a0), (1, .int x1), (2, .int x2), (3, .int x3), (4, .int x4), (5, .int x5)] [.int s0] h =
  (jx_pF (jx_at h a0) 6 0 (.int x1)).bind fun e1 =>
  if (s0 &&& (1 : Int32)) = 0 then
    (jx_pF (jx_at (jx_set h a0 e1) a0) 6 1 (.int (0 : Int32))).bind fun e2 =>
    if (s0 &&& (2 : Int32)) = 0 then
      jb_281 rc d 32 [(0, .ref a0), (4, .int x4), (5, .int x5), (6, .int s0)] [.int (0 : Int32), .ref a0] (jx_set (jx_set h a0 e1) a0 e2)
    else
      jb_281 rc d 32 [(0, .ref a0), (4, .int x4), (5, .int x5), (6, .int s0)] [.int x3, .ref a0] (jx_set (jx_set h a0 e1) a0 e2)
  else
    (jx_pF (jx_at (jx_set h a0 e1) a0) 6 1 (.int x2)).bind fun e3 =>
    if (s0 &&& (2 : Int32)) = 0 then
      jb_281 rc d 32 [(0, .ref a0), (4, .int x4), (5, .int x5), (6, .int s0)] [.int (0 : Int32), .ref a0] (jx_set (jx_set h a0 e1) a0 e3)
    else
      jb_281 rc d 32 [(0, .ref a0), (4, .int x4), (5, .int x5), (6, .int s0)] [.int x3, .ref a0] (jx_set (jx_set h a0 e1) a0 e3) :=
  (jx_G_run (jx_X_grows rc jx_dflt jx_mt d) 54 _).trans rfl
set_option maxRecDepth 100000 in
theorem je_281_32 (rc : Nat → Nat × (Nat → Int32)) (d : Nat) (a0 : Nat) (x4 : Int32) (x5 : Int32) (x6 : Int32) (s0 : Nat) (s1 : Int32) (h : jxH) : jb_281 rc d 32 [(0, .ref a0), (4, .int x4), (5, .int x5), (6, .int x6)] [.int s1, .ref s0] h =
  (jx_pF (jx_at h s0) 6 2 (.int s1)).bind fun e1 =>
  if (x6 &&& (4 : Int32)) = 0 then
    (jx_pF (jx_at (jx_set h s0 e1) a0) 6 3 (.int (0 : Int32))).bind fun e2 =>
    if (x6 &&& (8 : Int32)) = 0 then
      (jx_pF (jx_at (jx_set (jx_set h s0 e1) a0 e2) a0) 6 4 (.int (0 : Int32))).bind fun e3 =>
      some (none, (jx_set (jx_set (jx_set h s0 e1) a0 e2) a0 e3))
    else
      (jx_pF (jx_at (jx_set (jx_set h s0 e1) a0 e2) a0) 6 4 (.int x5)).bind fun e4 =>
      some (none, (jx_set (jx_set (jx_set h s0 e1) a0 e2) a0 e4))
  else
    (jx_pF (jx_at (jx_set h s0 e1) a0) 6 3 (.int x4)).bind fun e5 =>
    if (x6 &&& (8 : Int32)) = 0 then
      (jx_pF (jx_at (jx_set (jx_set h s0 e1) a0 e5) a0) 6 4 (.int (0 : Int32))).bind fun e6 =>
      some (none, (jx_set (jx_set (jx_set h s0 e1) a0 e5) a0 e6))
    else
      (jx_pF (jx_at (jx_set (jx_set h s0 e1) a0 e5) a0) 6 4 (.int x5)).bind fun e7 =>
      some (none, (jx_set (jx_set (jx_set h s0 e1) a0 e5) a0 e7)) :=
  (jx_G_run (jx_X_grows rc jx_dflt jx_mt d) 54 _).trans rfl
-- RoomTrees$Step.meanNumber(I)Z
set_option maxRecDepth 100000 in
theorem je_282 (rc : Nat → Nat × (Nat → Int32)) (d : Nat) (a0 : Nat) (x1 : Int32) (h : jxH) : jx_C rc (d + 1) 282 [.ref a0, .int x1] h =
  if jx_is (jx_at h a0) 6 = true then
  if x1 = (600 : Int32) then
    jx_cV (jx_C rc d 281 [.ref a0, .int (6 : Int32), .int (0 : Int32), .int (0 : Int32), .int (0 : Int32), .int (0 : Int32)] h) fun h1 =>
    if jx_bool (1 : Int32) = true then some (some (.int (1 : Int32)), h1) else none
  else
    if 0 ≤ x1 then
      if (100 : Int32) = 0 then none else if (100 : Int32) = 0 then none else jx_cV (jx_C rc d 281 [.ref a0, .int (x1 / (100 : Int32)), .int (x1 - x1 / (100 : Int32) * (100 : Int32)), .int (0 : Int32), .int (0 : Int32), .int (0 : Int32)] h) fun h2 =>
      (jx_gI (jx_at h2 a0) 6 0).bind fun v3 =>
      if v3 = 0 then
        if jx_bool (1 : Int32) = true then some (some (.int (1 : Int32)), h2) else none
      else
        (jx_gI (jx_at h2 a0) 6 0).bind fun v4 =>
        if v4 = (4 : Int32) then
          if jx_bool (1 : Int32) = true then some (some (.int (1 : Int32)), h2) else none
        else
          (jx_gI (jx_at h2 a0) 6 0).bind fun v5 =>
          if v5 = (5 : Int32) then
            if jx_bool (1 : Int32) = true then some (some (.int (1 : Int32)), h2) else none
          else
            if jx_bool (0 : Int32) = true then some (some (.int (0 : Int32)), h2) else none
    else
      if jx_bool (0 : Int32) = true then some (some (.int (0 : Int32)), h) else none
  else none :=
  jx_enter ((jx_G_run (jx_X_grows rc jx_dflt jx_mt d) 44 (0, [(0, .ref a0), (1, .int x1)], [], h)).trans rfl)
-- RoomTrees$Step.shrink(LRoomTrees$Forest;I)Z
set_option maxRecDepth 100000 in
theorem je_283 (rc : Nat → Nat × (Nat → Int32)) (d : Nat) (a0 : Nat) (a1 : Nat) (x2 : Int32) (h : jxH) : jx_C rc (d + 1) 283 [.ref a0, .ref a1, .int x2] h =
  if jx_is (jx_at h a0) 6 = true then
  jx_cI (jx_C rc d 228 [.ref a1, .int x2] h) fun v2 h1 =>
  if v2 = 0 then
    jx_cI (jx_C rc d 230 [.ref a1, .int x2] h1) fun v4 h3 =>
    if v4 = (1 : Int32) then
      jx_cV (jx_C rc d 281 [.ref a0, .int (5 : Int32), .int x2, .int (0 : Int32), .int (0 : Int32), .int (0 : Int32)] h3) fun h5 =>
      jx_cI (jx_C rc d 285 [.ref a0, .ref a1, .int (0 : Int32)] h5) fun v7 h6 =>
      if v7 = 0 then
        if jx_bool (1 : Int32) = true then some (some (.int (1 : Int32)), h6) else none
      else
        if jx_bool (0 : Int32) = true then some (some (.int (0 : Int32)), h6) else none
    else
      jx_cV (jx_C rc d 281 [.ref a0, .int (4 : Int32), .int x2, .int (0 : Int32), .int (0 : Int32), .int (0 : Int32)] h3) fun h8 =>
      jx_cI (jx_C rc d 285 [.ref a0, .ref a1, .int (0 : Int32)] h8) fun v10 h9 =>
      if v10 = 0 then
        if jx_bool (1 : Int32) = true then some (some (.int (1 : Int32)), h9) else none
      else
        if jx_bool (0 : Int32) = true then some (some (.int (0 : Int32)), h9) else none
  else
    jx_cV (jx_C rc d 281 [.ref a0, .int (0 : Int32), .int x2, .int (0 : Int32), .int (0 : Int32), .int (0 : Int32)] h1) fun h11 =>
    jx_cI (jx_C rc d 285 [.ref a0, .ref a1, .int (0 : Int32)] h11) fun v13 h12 =>
    if v13 = 0 then
      if jx_bool (1 : Int32) = true then some (some (.int (1 : Int32)), h12) else none
    else
      if jx_bool (0 : Int32) = true then some (some (.int (0 : Int32)), h12) else none
  else none :=
  jx_enter ((jx_G_run (jx_X_grows rc jx_dflt jx_mt d) 35 (0, [(0, .ref a0), (1, .ref a1), (2, .int x2)], [], h)).trans rfl)
-- RoomTrees$Step.seek(LRoomTrees$Forest;IIIZI)Z
noncomputable def jb_284 (rc : Nat → Nat × (Nat → Int32)) (d : Nat) (i : Nat) (ls : List (Nat × Value)) (st : List Value) (h : jxH) : jxR := jx_G rc jx_dflt (jx_X rc jx_dflt jx_mt d) jc_284 (i, ls, st, h)
set_option maxRecDepth 100000 in
theorem je_284 (rc : Nat → Nat × (Nat → Int32)) (d : Nat) (a0 : Nat) (a1 : Nat) (x2 : Int32) (x3 : Int32) (x4 : Int32) (x5 : Int32) (x6 : Int32) (h : jxH) : jx_C rc (d + 1) 284 [.ref a0, .ref a1, .int x2, .int x3, .int x4, .int x5, .int x6] h =
  if jx_is (jx_at h a0) 6 = true then
  jb_284 rc d 2 [(0, .ref a0), (1, .ref a1), (2, .int x2), (3, .int x3), (4, .int x4), (5, .int x5), (6, .int x6), (7, .int (0 : Int32))] [] h
  else none :=
  jx_enter ((jx_G_run (jx_X_grows rc jx_dflt jx_mt d) 46 (0, [(0, .ref a0), (1, .ref a1), (2, .int x2), (3, .int x3), (4, .int x4), (5, .int x5), (6, .int x6)], [], h)).trans rfl)
set_option maxRecDepth 100000 in
theorem je_284_2 (rc : Nat → Nat × (Nat → Int32)) (d : Nat) (a0 : Nat) (a1 : Nat) (x2 : Int32) (x3 : Int32) (x4 : Int32) (x5 : Int32) (x6 : Int32) (x7 : Int32) (h : jxH) : jb_284 rc d 2 [(0, .ref a0), (1, .ref a1), (2, .int x2), (3, .int x3), (4, .int x4), (5, .int x5), (6, .int x6), (7, .int x7)] [] h =
  if (12 : Int32) ≤ x7 then
    if jx_bool (0 : Int32) = true then some (some (.int (0 : Int32)), h) else none
  else
    if x5 = 0 then
      jb_284 rc d 12 [(0, .ref a0), (1, .ref a1), (2, .int x2), (3, .int x3), (4, .int x4), (5, .int x5), (6, .int x6), (7, .int x7)] [.int x7] h
    else
      jb_284 rc d 12 [(0, .ref a0), (1, .ref a1), (2, .int x2), (3, .int x3), (4, .int x4), (5, .int x5), (6, .int x6), (7, .int x7)] [.int ((11 : Int32) - x7)] h :=
  (jx_G_run (jx_X_grows rc jx_dflt jx_mt d) 46 _).trans rfl
set_option maxRecDepth 100000 in
theorem je_284_12 (rc : Nat → Nat × (Nat → Int32)) (d : Nat) (a0 : Nat) (a1 : Nat) (x2 : Int32) (x3 : Int32) (x4 : Int32) (x5 : Int32) (x6 : Int32) (x7 : Int32) (s0 : Int32) (h : jxH) : jb_284 rc d 12 [(0, .ref a0), (1, .ref a1), (2, .int x2), (3, .int x3), (4, .int x4), (5, .int x5), (6, .int x6), (7, .int x7)] [.int s0] h =
  if s0 < x4 then
    jb_284 rc d 2 [(0, .ref a0), (1, .ref a1), (2, .int x2), (3, .int x3), (4, .int x4), (5, .int x5), (6, .int x6), (7, .int (x7 + (1 : Int32)))] [] h
  else
    jx_cI (jx_C rc d 228 [.ref a1, .int s0] h) fun v2 h1 =>
    if v2 = x3 then
      jx_cI (jx_C rc d 230 [.ref a1, .int s0] h1) fun v4 h3 =>
      if x6 < v4 then
        jb_284 rc d 2 [(0, .ref a0), (1, .ref a1), (2, .int x2), (3, .int x3), (4, .int x4), (5, .int x5), (6, .int x6), (7, .int (x7 + (1 : Int32)))] [] h3
      else
        jx_cV (jx_C rc d 281 [.ref a0, .int x2, .int s0, .int (0 : Int32), .int (0 : Int32), .int (0 : Int32)] h3) fun h5 =>
        jx_cI (jx_C rc d 285 [.ref a0, .ref a1, .int (0 : Int32)] h5) fun v7 h6 =>
        if v7 = 0 then
          if jx_bool (1 : Int32) = true then some (some (.int (1 : Int32)), h6) else none
        else
          jb_284 rc d 2 [(0, .ref a0), (1, .ref a1), (2, .int x2), (3, .int x3), (4, .int x4), (5, .int x5), (6, .int x6), (7, .int (x7 + (1 : Int32)))] [] h6
    else
      jb_284 rc d 2 [(0, .ref a0), (1, .ref a1), (2, .int x2), (3, .int x3), (4, .int x4), (5, .int x5), (6, .int x6), (7, .int (x7 + (1 : Int32)))] [] h1 :=
  (jx_G_run (jx_X_grows rc jx_dflt jx_mt d) 46 _).trans rfl
-- RoomTrees$Step.refusal(LRoomTrees$Forest;Z)I
set_option maxRecDepth 100000 in
theorem je_285 (rc : Nat → Nat × (Nat → Int32)) (d : Nat) (a0 : Nat) (a1 : Nat) (x2 : Int32) (h : jxH) : jx_C rc (d + 1) 285 [.ref a0, .ref a1, .int x2] h =
  if jx_is (jx_at h a0) 6 = true then
  jx_cI (jx_C rc d 286 [.ref a0, .ref a1] h) fun v2 h1 =>
  if v2 = 0 then
    some (some (.int (1 : Int32)), h1)
  else
    jx_cI (jx_C rc d 287 [.ref a0, .ref a1] h1) fun v4 h3 =>
    if v4 = 0 then
      some (some (.int (3 : Int32)), h3)
    else
      (jx_gI (jx_at h3 a0) 6 0).bind fun v5 =>
      if v5 < 0 then
        if x2 = 0 then
          jx_cI (jx_C rc d 227 [.ref a1] h3) fun v7 h6 =>
          if (0 : Int32) ≤ ((12 : Int32) - v7) then
            jx_cI (jx_C rc d 288 [.ref a0, .ref a1] h6) fun v9 h8 =>
            if v9 = 0 then
              some (some (.int (0 : Int32)), h8)
            else
              some (some (.int (5 : Int32)), h8)
          else
            some (some (.int (4 : Int32)), h6)
        else
          some (some (.int (4 : Int32)), h3)
      else
        (jx_gI (jx_at h3 a0) 6 0).bind fun v10 =>
        if (Int32.ofNat (rc 2).1) ≤ v10 then
          if x2 = 0 then
            jx_cI (jx_C rc d 227 [.ref a1] h3) fun v12 h11 =>
            if (0 : Int32) ≤ ((12 : Int32) - v12) then
              jx_cI (jx_C rc d 288 [.ref a0, .ref a1] h11) fun v14 h13 =>
              if v14 = 0 then
                some (some (.int (0 : Int32)), h13)
              else
                some (some (.int (5 : Int32)), h13)
            else
              some (some (.int (4 : Int32)), h11)
          else
            some (some (.int (4 : Int32)), h3)
        else
          (jx_gI (jx_at h3 a0) 6 0).bind fun v15 =>
          if jx_out v15 (rc 2).1 = true then none else
          if x2 = 0 then
            jx_cI (jx_C rc d 227 [.ref a1] h3) fun v17 h16 =>
            if ((rc 2).2 (v15).toNatClampNeg) ≤ ((12 : Int32) - v17) then
              jx_cI (jx_C rc d 288 [.ref a0, .ref a1] h16) fun v19 h18 =>
              if v19 = 0 then
                some (some (.int (0 : Int32)), h18)
              else
                some (some (.int (5 : Int32)), h18)
            else
              some (some (.int (4 : Int32)), h16)
          else
            some (some (.int (4 : Int32)), h3)
  else none :=
  jx_enter ((jx_G_run (jx_X_grows rc jx_dflt jx_mt d) 47 (0, [(0, .ref a0), (1, .ref a1), (2, .int x2)], [], h)).trans rfl)
-- RoomTrees$Step.isTold(LRoomTrees$Forest;)Z
noncomputable def jb_286 (rc : Nat → Nat × (Nat → Int32)) (d : Nat) (i : Nat) (ls : List (Nat × Value)) (st : List Value) (h : jxH) : jxR := jx_G rc jx_dflt (jx_X rc jx_dflt jx_mt d) jc_286 (i, ls, st, h)
set_option maxRecDepth 100000 in
theorem je_286 (rc : Nat → Nat × (Nat → Int32)) (d : Nat) (a0 : Nat) (a1 : Nat) (h : jxH) : jx_C rc (d + 1) 286 [.ref a0, .ref a1] h =
  if jx_is (jx_at h a0) 6 = true then
  (jx_gI (jx_at h a0) 6 0).bind fun v1 =>
  if v1 < 0 then
    if jx_bool (0 : Int32) = true then some (some (.int (0 : Int32)), h) else none
  else
    (jx_gI (jx_at h a0) 6 0).bind fun v2 =>
    if v2 < (Int32.ofNat (rc 1).1) then
      (jx_gI (jx_at h a0) 6 0).bind fun v3 =>
      if jx_out v3 (rc 1).1 = true then none else
      if (((rc 1).2 (v3).toNatClampNeg) &&& (1 : Int32)) = 0 then
        if (((rc 1).2 (v3).toNatClampNeg) &&& (2 : Int32)) = 0 then
          jb_286 rc d 35 [(0, .ref a0), (1, .ref a1), (2, .int ((rc 1).2 (v3).toNatClampNeg))] [] h
        else
          (jx_gI (jx_at h a0) 6 2).bind fun v4 =>
          jx_cI (jx_C rc d 226 [.ref a1, .int v4] h) fun v6 h5 =>
          if v6 = 0 then
            if jx_bool (0 : Int32) = true then some (some (.int (0 : Int32)), h5) else none
          else
            jb_286 rc d 35 [(0, .ref a0), (1, .ref a1), (2, .int ((rc 1).2 (v3).toNatClampNeg))] [] h5
      else
        (jx_gI (jx_at h a0) 6 1).bind fun v7 =>
        jx_cI (jx_C rc d 226 [.ref a1, .int v7] h) fun v9 h8 =>
        if v9 = 0 then
          if jx_bool (0 : Int32) = true then some (some (.int (0 : Int32)), h8) else none
        else
          if (((rc 1).2 (v3).toNatClampNeg) &&& (2 : Int32)) = 0 then
            jb_286 rc d 35 [(0, .ref a0), (1, .ref a1), (2, .int ((rc 1).2 (v3).toNatClampNeg))] [] h8
          else
            (jx_gI (jx_at h8 a0) 6 2).bind fun v10 =>
            jx_cI (jx_C rc d 226 [.ref a1, .int v10] h8) fun v12 h11 =>
            if v12 = 0 then
              if jx_bool (0 : Int32) = true then some (some (.int (0 : Int32)), h11) else none
            else
              jb_286 rc d 35 [(0, .ref a0), (1, .ref a1), (2, .int ((rc 1).2 (v3).toNatClampNeg))] [] h11
    else
      if jx_bool (0 : Int32) = true then some (some (.int (0 : Int32)), h) else none
  else none :=
  jx_enter ((jx_G_run (jx_X_grows rc jx_dflt jx_mt d) 75 (0, [(0, .ref a0), (1, .ref a1)], [], h)).trans rfl)
set_option maxRecDepth 100000 in
theorem je_286_35 (rc : Nat → Nat × (Nat → Int32)) (d : Nat) (a0 : Nat) (a1 : Nat) (x2 : Int32) (h : jxH) : jb_286 rc d 35 [(0, .ref a0), (1, .ref a1), (2, .int x2)] [] h =
  (jx_gI (jx_at h a0) 6 0).bind fun v1 =>
  if v1 = (7 : Int32) then
    (jx_gI (jx_at h a0) 6 3).bind fun v2 =>
    jx_cI (jx_C rc d 61 [.int v2] h) fun v4 h3 =>
    if v4 = 0 then
      if jx_bool (0 : Int32) = true then some (some (.int (0 : Int32)), h3) else none
    else
      (jx_gI (jx_at h3 a0) 6 4).bind fun v5 =>
      (jx_gI (jx_at h3 a0) 6 1).bind fun v6 =>
      jx_cI (jx_C rc d 229 [.ref a1, .int v6] h3) fun v8 h7 =>
      if (v5 &&& (v8 ^^^ (-1 : Int32))) = 0 then
        if jx_bool (1 : Int32) = true then some (some (.int (1 : Int32)), h7) else none
      else
        if jx_bool (0 : Int32) = true then some (some (.int (0 : Int32)), h7) else none
  else
    if (x2 &&& (4 : Int32)) = 0 then
      if jx_bool (1 : Int32) = true then some (some (.int (1 : Int32)), h) else none
    else
      (jx_gI (jx_at h a0) 6 3).bind fun v9 =>
      if v9 = (1 : Int32) then
        if jx_bool (1 : Int32) = true then some (some (.int (1 : Int32)), h) else none
      else
        (jx_gI (jx_at h a0) 6 3).bind fun v10 =>
        if v10 = (-1 : Int32) then
          if jx_bool (1 : Int32) = true then some (some (.int (1 : Int32)), h) else none
        else
          if jx_bool (0 : Int32) = true then some (some (.int (0 : Int32)), h) else none :=
  (jx_G_run (jx_X_grows rc jx_dflt jx_mt d) 75 _).trans rfl
-- RoomTrees$Step.fits(LRoomTrees$Forest;)Z
set_option maxRecDepth 100000 in
theorem je_287 (rc : Nat → Nat × (Nat → Int32)) (d : Nat) (a0 : Nat) (a1 : Nat) (h : jxH) : jx_C rc (d + 1) 287 [.ref a0, .ref a1] h =
  if jx_is (jx_at h a0) 6 = true then
  (jx_gI (jx_at h a0) 6 1).bind fun v1 =>
  jx_cI (jx_C rc d 228 [.ref a1, .int v1] h) fun v3 h2 =>
  (jx_gI (jx_at h2 a0) 6 0).bind fun v4 =>
  if v4 = (0 : Int32) then
    if v3 = (1 : Int32) then
      (jx_gI (jx_at h2 a0) 6 1).bind fun v5 =>
      jx_cI (jx_C rc d 230 [.ref a1, .int v5] h2) fun v7 h6 =>
      if (2 : Int32) < v7 then
        if jx_bool (0 : Int32) = true then some (some (.int (0 : Int32)), h6) else none
      else
        if jx_bool (1 : Int32) = true then some (some (.int (1 : Int32)), h6) else none
    else
      if v3 = (-1 : Int32) then
        (jx_gI (jx_at h2 a0) 6 1).bind fun v8 =>
        jx_cI (jx_C rc d 230 [.ref a1, .int v8] h2) fun v10 h9 =>
        if (2 : Int32) < v10 then
          if jx_bool (0 : Int32) = true then some (some (.int (0 : Int32)), h9) else none
        else
          if jx_bool (1 : Int32) = true then some (some (.int (1 : Int32)), h9) else none
      else
        if jx_bool (0 : Int32) = true then some (some (.int (0 : Int32)), h2) else none
  else if v4 = ((0 : Int32) + 1) then
    (jx_gI (jx_at h2 a0) 6 1).bind fun v11 =>
    (jx_gI (jx_at h2 a0) 6 2).bind fun v12 =>
    jx_cI (jx_C rc d 231 [.ref a1, .int v11, .int v12] h2) fun v14 h13 =>
    if jx_bool v14 = true then some (some (.int v14), h13) else none
  else if v4 = (((0 : Int32) + 1) + 1) then
    if jx_bool (1 : Int32) = true then some (some (.int (1 : Int32)), h2) else none
  else if v4 = ((((0 : Int32) + 1) + 1) + 1) then
    if jx_bool (1 : Int32) = true then some (some (.int (1 : Int32)), h2) else none
  else if v4 = (((((0 : Int32) + 1) + 1) + 1) + 1) then
    if v3 = 0 then
      (jx_gI (jx_at h2 a0) 6 1).bind fun v15 =>
      jx_cI (jx_C rc d 230 [.ref a1, .int v15] h2) fun v17 h16 =>
      if v17 = (2 : Int32) then
        if jx_bool (1 : Int32) = true then some (some (.int (1 : Int32)), h16) else none
      else
        if jx_bool (0 : Int32) = true then some (some (.int (0 : Int32)), h16) else none
    else
      if jx_bool (0 : Int32) = true then some (some (.int (0 : Int32)), h2) else none
  else if v4 = ((((((0 : Int32) + 1) + 1) + 1) + 1) + 1) then
    if v3 = 0 then
      (jx_gI (jx_at h2 a0) 6 1).bind fun v18 =>
      jx_cI (jx_C rc d 230 [.ref a1, .int v18] h2) fun v20 h19 =>
      if v20 = (1 : Int32) then
        if jx_bool (1 : Int32) = true then some (some (.int (1 : Int32)), h19) else none
      else
        if jx_bool (0 : Int32) = true then some (some (.int (0 : Int32)), h19) else none
    else
      if jx_bool (0 : Int32) = true then some (some (.int (0 : Int32)), h2) else none
  else 
    if jx_bool (1 : Int32) = true then some (some (.int (1 : Int32)), h2) else none
  else none :=
  jx_enter ((jx_G_run (jx_X_grows rc jx_dflt jx_mt d) 59 (0, [(0, .ref a0), (1, .ref a1)], [], h)).trans rfl)
-- RoomTrees$Step.overloads(LRoomTrees$Forest;)Z
set_option maxRecDepth 100000 in
theorem je_288 (rc : Nat → Nat × (Nat → Int32)) (d : Nat) (a0 : Nat) (a1 : Nat) (h : jxH) : jx_C rc (d + 1) 288 [.ref a0, .ref a1] h =
  if jx_is (jx_at h a0) 6 = true then
  (jx_gI (jx_at h a0) 6 1).bind fun v1 =>
  jx_cI (jx_C rc d 228 [.ref a1, .int v1] h) fun v3 h2 =>
  (jx_gI (jx_at h2 a0) 6 1).bind fun v4 =>
  jx_cI (jx_C rc d 229 [.ref a1, .int v4] h2) fun v6 h5 =>
  jx_cI (jx_C rc d 67 [.int v6] h5) fun v8 h7 =>
  jx_cI (jx_C rc d 68 [.int v6] h7) fun v10 h9 =>
  (jx_gI (jx_at h9 a0) 6 0).bind fun v11 =>
  if v11 = (0 : Int32) then
    if v6 = 0 then
      if jx_bool (0 : Int32) = true then some (some (.int (0 : Int32)), h9) else none
    else
      jx_cI (jx_C rc d 228 [.ref a1, .int v8] h9) fun v13 h12 =>
      jx_cI (jx_C rc d 61 [.int (v13 - v3)] h12) fun v15 h14 =>
      if v15 = 0 then
        if jx_bool (1 : Int32) = true then some (some (.int (1 : Int32)), h14) else none
      else
        jx_cI (jx_C rc d 228 [.ref a1, .int v10] h14) fun v17 h16 =>
        jx_cI (jx_C rc d 61 [.int (v17 - v3)] h16) fun v19 h18 =>
        if v19 = 0 then
          if jx_bool (1 : Int32) = true then some (some (.int (1 : Int32)), h18) else none
        else
          if jx_bool (0 : Int32) = true then some (some (.int (0 : Int32)), h18) else none
  else if v11 = ((0 : Int32) + 1) then
    (jx_gI (jx_at h9 a0) 6 3).bind fun v20 =>
    jx_cI (jx_C rc d 61 [.int (v3 + v20)] h9) fun v22 h21 =>
    if v22 = 0 then
      if jx_bool (1 : Int32) = true then some (some (.int (1 : Int32)), h21) else none
    else
      (jx_gI (jx_at h21 a0) 6 2).bind fun v23 =>
      jx_cI (jx_C rc d 228 [.ref a1, .int v23] h21) fun v25 h24 =>
      (jx_gI (jx_at h24 a0) 6 3).bind fun v26 =>
      jx_cI (jx_C rc d 61 [.int (v25 + v26)] h24) fun v28 h27 =>
      if v28 = 0 then
        if jx_bool (1 : Int32) = true then some (some (.int (1 : Int32)), h27) else none
      else
        if jx_bool (0 : Int32) = true then some (some (.int (0 : Int32)), h27) else none
  else if v11 = (((0 : Int32) + 1) + 1) then
    (jx_gI (jx_at h9 a0) 6 3).bind fun v29 =>
    jx_cI (jx_C rc d 61 [.int (v3 + v29)] h9) fun v31 h30 =>
    if v31 = 0 then
      if jx_bool (1 : Int32) = true then some (some (.int (1 : Int32)), h30) else none
    else
      if jx_bool (0 : Int32) = true then some (some (.int (0 : Int32)), h30) else none
  else if v11 = ((((0 : Int32) + 1) + 1) + 1) then
    if jx_bool (0 : Int32) = true then some (some (.int (0 : Int32)), h9) else none
  else if v11 = (((((0 : Int32) + 1) + 1) + 1) + 1) then
    jx_cI (jx_C rc d 228 [.ref a1, .int v8] h9) fun v33 h32 =>
    jx_cI (jx_C rc d 228 [.ref a1, .int v10] h32) fun v35 h34 =>
    jx_cI (jx_C rc d 61 [.int (v33 + v35)] h34) fun v37 h36 =>
    if v37 = 0 then
      if jx_bool (1 : Int32) = true then some (some (.int (1 : Int32)), h36) else none
    else
      if jx_bool (0 : Int32) = true then some (some (.int (0 : Int32)), h36) else none
  else if v11 = ((((((0 : Int32) + 1) + 1) + 1) + 1) + 1) then
    if jx_bool (0 : Int32) = true then some (some (.int (0 : Int32)), h9) else none
  else if v11 = (((((((0 : Int32) + 1) + 1) + 1) + 1) + 1) + 1) then
    if jx_bool (0 : Int32) = true then some (some (.int (0 : Int32)), h9) else none
  else if v11 = ((((((((0 : Int32) + 1) + 1) + 1) + 1) + 1) + 1) + 1) then
    (jx_gI (jx_at h9 a0) 6 3).bind fun v38 =>
    jx_cI (jx_C rc d 61 [.int (v3 - v38)] h9) fun v40 h39 =>
    if v40 = 0 then
      if jx_bool (1 : Int32) = true then some (some (.int (1 : Int32)), h39) else none
    else
      if jx_bool (0 : Int32) = true then some (some (.int (0 : Int32)), h39) else none
  else 
    if jx_bool (0 : Int32) = true then some (some (.int (0 : Int32)), h9) else none
  else none :=
  jx_enter ((jx_G_run (jx_X_grows rc jx_dflt jx_mt d) 95 (0, [(0, .ref a0), (1, .ref a1)], [], h)).trans rfl)
-- RoomTrees$Step.signOn(LRoomTrees$Forest;)I
set_option maxRecDepth 100000 in
theorem je_289 (rc : Nat → Nat × (Nat → Int32)) (d : Nat) (a0 : Nat) (a1 : Nat) (h : jxH) : jx_C rc (d + 1) 289 [.ref a0, .ref a1] h =
  if jx_is (jx_at h a0) 6 = true then
  (jx_gI (jx_at h a0) 6 0).bind fun v1 =>
  if v1 = (0 : Int32) then
    (jx_gI (jx_at h a0) 6 1).bind fun v2 =>
    jx_cI (jx_C rc d 228 [.ref a1, .int v2] h) fun v4 h3 =>
    some (some (.int v4), h3)
  else if v1 = ((0 : Int32) + 1) then
    (jx_gI (jx_at h a0) 6 3).bind fun v5 =>
    some (some (.int v5), h)
  else if v1 = (((0 : Int32) + 1) + 1) then
    (jx_gI (jx_at h a0) 6 3).bind fun v6 =>
    some (some (.int v6), h)
  else if v1 = ((((0 : Int32) + 1) + 1) + 1) then
    (jx_gI (jx_at h a0) 6 3).bind fun v7 =>
    some (some (.int v7), h)
  else if v1 = (((((0 : Int32) + 1) + 1) + 1) + 1) then
    some (some (.int (-1 : Int32)), h)
  else if v1 = ((((((0 : Int32) + 1) + 1) + 1) + 1) + 1) then
    some (some (.int (-1 : Int32)), h)
  else if v1 = (((((((0 : Int32) + 1) + 1) + 1) + 1) + 1) + 1) then
    jx_cI (jx_C rc d 227 [.ref a1] h) fun v9 h8 =>
    if (v9 &&& (1 : Int32)) = 0 then
      some (some (.int (1 : Int32)), h8)
    else
      some (some (.int (-1 : Int32)), h8)
  else 
    some (some (.int (-1 : Int32)), h)
  else none :=
  jx_enter ((jx_G_run (jx_X_grows rc jx_dflt jx_mt d) 24 (0, [(0, .ref a0), (1, .ref a1)], [], h)).trans rfl)
-- RoomTrees$Step.act(LRoomTrees$Forest;)V
set_option maxRecDepth 100000 in
theorem je_290 (rc : Nat → Nat × (Nat → Int32)) (d : Nat) (a0 : Nat) (a1 : Nat) (h : jxH) : jx_C rc (d + 1) 290 [.ref a0, .ref a1] h =
  if jx_is (jx_at h a0) 6 = true then
  (jx_gI (jx_at h a0) 6 0).bind fun v1 =>
  if v1 = (0 : Int32) then
    jx_cV (jx_C rc d 291 [.ref a0, .ref a1] h) fun h2 =>
    some (none, h2)
  else if v1 = ((0 : Int32) + 1) then
    (jx_gI (jx_at h a0) 6 1).bind fun v3 =>
    (jx_gI (jx_at h a0) 6 2).bind fun v4 =>
    jx_cV (jx_C rc d 243 [.ref a1, .int v3, .int v4] h) fun h5 =>
    (jx_gI (jx_at h5 a0) 6 2).bind fun v6 =>
    (jx_gI (jx_at h5 a0) 6 3).bind fun v7 =>
    jx_cV (jx_C rc d 238 [.ref a1, .int v6, .int v7] h5) fun h8 =>
    jx_cI (jx_C rc d 292 [.ref a0, .ref a1] h8) fun v10 h9 =>
    (jx_gI (jx_at h9 a0) 6 2).bind fun v11 =>
    jx_cV (jx_C rc d 241 [.ref a1, .int v10, .int v11] h9) fun h12 =>
    some (none, h12)
  else if v1 = (((0 : Int32) + 1) + 1) then
    jx_cI (jx_C rc d 292 [.ref a0, .ref a1] h) fun v14 h13 =>
    some (none, h13)
  else if v1 = ((((0 : Int32) + 1) + 1) + 1) then
    (jx_gI (jx_at h a0) 6 3).bind fun v15 =>
    jx_cI (jx_C rc d 240 [.ref a1, .int v15] h) fun v17 h16 =>
    some (none, h16)
  else if v1 = (((((0 : Int32) + 1) + 1) + 1) + 1) then
    jx_cV (jx_C rc d 293 [.ref a0, .ref a1] h) fun h18 =>
    some (none, h18)
  else if v1 = ((((((0 : Int32) + 1) + 1) + 1) + 1) + 1) then
    (jx_gI (jx_at h a0) 6 1).bind fun v19 =>
    jx_cI (jx_C rc d 229 [.ref a1, .int v19] h) fun v21 h20 =>
    jx_cI (jx_C rc d 67 [.int v21] h20) fun v23 h22 =>
    jx_cV (jx_C rc d 245 [.ref a1, .int v23] h22) fun h24 =>
    (jx_gI (jx_at h24 a0) 6 1).bind fun v25 =>
    jx_cV (jx_C rc d 245 [.ref a1, .int v25] h24) fun h26 =>
    some (none, h26)
  else if v1 = (((((((0 : Int32) + 1) + 1) + 1) + 1) + 1) + 1) then
    jx_cV (jx_C rc d 239 [.ref a1] h) fun h27 =>
    some (none, h27)
  else if v1 = ((((((((0 : Int32) + 1) + 1) + 1) + 1) + 1) + 1) + 1) then
    jx_cV (jx_C rc d 294 [.ref a0, .ref a1] h) fun h28 =>
    some (none, h28)
  else 
    some (none, h)
  else none :=
  jx_enter ((jx_G_run (jx_X_grows rc jx_dflt jx_mt d) 64 (0, [(0, .ref a0), (1, .ref a1)], [], h)).trans rfl)
-- RoomTrees$Step.blowDown(LRoomTrees$Forest;)V
set_option maxRecDepth 100000 in
theorem je_291 (rc : Nat → Nat × (Nat → Int32)) (d : Nat) (a0 : Nat) (a1 : Nat) (h : jxH) : jx_C rc (d + 1) 291 [.ref a0, .ref a1] h =
  if jx_is (jx_at h a0) 6 = true then
  (jx_gI (jx_at h a0) 6 1).bind fun v1 =>
  jx_cI (jx_C rc d 228 [.ref a1, .int v1] h) fun v3 h2 =>
  (jx_gI (jx_at h2 a0) 6 1).bind fun v4 =>
  jx_cI (jx_C rc d 229 [.ref a1, .int v4] h2) fun v6 h5 =>
  jx_cI (jx_C rc d 67 [.int v6] h5) fun v8 h7 =>
  jx_cI (jx_C rc d 68 [.int v6] h7) fun v10 h9 =>
  (jx_gI (jx_at h9 a0) 6 1).bind fun v11 =>
  jx_cV (jx_C rc d 245 [.ref a1, .int v11] h9) fun h12 =>
  jx_cV (jx_C rc d 238 [.ref a1, .int v8, .int (-v3)] h12) fun h13 =>
  if v8 = v10 then
    some (none, h13)
  else
    jx_cV (jx_C rc d 238 [.ref a1, .int v10, .int (-v3)] h13) fun h14 =>
    jx_cV (jx_C rc d 241 [.ref a1, .int v8, .int v10] h14) fun h15 =>
    some (none, h15)
  else none :=
  jx_enter ((jx_G_run (jx_X_grows rc jx_dflt jx_mt d) 40 (0, [(0, .ref a0), (1, .ref a1)], [], h)).trans rfl)
-- RoomTrees$Step.bud(LRoomTrees$Forest;)I
set_option maxRecDepth 100000 in
theorem je_292 (rc : Nat → Nat × (Nat → Int32)) (d : Nat) (a0 : Nat) (a1 : Nat) (h : jxH) : jx_C rc (d + 1) 292 [.ref a0, .ref a1] h =
  if jx_is (jx_at h a0) 6 = true then
  (jx_gI (jx_at h a0) 6 3).bind fun v1 =>
  jx_cI (jx_C rc d 240 [.ref a1, .int v1] h) fun v3 h2 =>
  (jx_gI (jx_at h2 a0) 6 1).bind fun v4 =>
  (jx_gI (jx_at h2 a0) 6 3).bind fun v5 =>
  jx_cV (jx_C rc d 238 [.ref a1, .int v4, .int v5] h2) fun h6 =>
  (jx_gI (jx_at h6 a0) 6 1).bind fun v7 =>
  jx_cV (jx_C rc d 241 [.ref a1, .int v3, .int v7] h6) fun h8 =>
  some (some (.int v3), h8)
  else none :=
  jx_enter ((jx_G_run (jx_X_grows rc jx_dflt jx_mt d) 20 (0, [(0, .ref a0), (1, .ref a1)], [], h)).trans rfl)
-- RoomTrees$Step.absorb(LRoomTrees$Forest;)V
set_option maxRecDepth 100000 in
theorem je_293 (rc : Nat → Nat × (Nat → Int32)) (d : Nat) (a0 : Nat) (a1 : Nat) (h : jxH) : jx_C rc (d + 1) 293 [.ref a0, .ref a1] h =
  if jx_is (jx_at h a0) 6 = true then
  (jx_gI (jx_at h a0) 6 1).bind fun v1 =>
  jx_cI (jx_C rc d 229 [.ref a1, .int v1] h) fun v3 h2 =>
  jx_cI (jx_C rc d 67 [.int v3] h2) fun v5 h4 =>
  (jx_gI (jx_at h4 a0) 6 1).bind fun v6 =>
  jx_cI (jx_C rc d 229 [.ref a1, .int v6] h4) fun v8 h7 =>
  jx_cI (jx_C rc d 68 [.int v8] h7) fun v10 h9 =>
  (jx_gI (jx_at h9 a0) 6 1).bind fun v11 =>
  jx_cV (jx_C rc d 245 [.ref a1, .int v11] h9) fun h12 =>
  jx_cI (jx_C rc d 229 [.ref a1, .int v10] h12) fun v14 h13 =>
  jx_cI (jx_C rc d 228 [.ref a1, .int v10] h13) fun v16 h15 =>
  jx_cV (jx_C rc d 238 [.ref a1, .int v5, .int v16] h15) fun h17 =>
  jx_cV (jx_C rc d 245 [.ref a1, .int v10] h17) fun h18 =>
  jx_cV (jx_C rc d 242 [.ref a1, .int v5, .int v14] h18) fun h19 =>
  some (none, h19)
  else none :=
  jx_enter ((jx_G_run (jx_X_grows rc jx_dflt jx_mt d) 36 (0, [(0, .ref a0), (1, .ref a1)], [], h)).trans rfl)
-- RoomTrees$Step.draw(LRoomTrees$Forest;)V
set_option maxRecDepth 100000 in
theorem je_294 (rc : Nat → Nat × (Nat → Int32)) (d : Nat) (a0 : Nat) (a1 : Nat) (h : jxH) : jx_C rc (d + 1) 294 [.ref a0, .ref a1] h =
  if jx_is (jx_at h a0) 6 = true then
  jx_cI (jx_C rc d 240 [.ref a1, .int (0 : Int32)] h) fun v2 h1 =>
  (jx_gI (jx_at h1 a0) 6 3).bind fun v3 =>
  jx_cI (jx_C rc d 240 [.ref a1, .int v3] h1) fun v5 h4 =>
  (jx_gI (jx_at h4 a0) 6 1).bind fun v6 =>
  (jx_gI (jx_at h4 a0) 6 3).bind fun v7 =>
  jx_cV (jx_C rc d 238 [.ref a1, .int v6, .int (-v7)] h4) fun h8 =>
  (jx_gI (jx_at h8 a0) 6 1).bind fun v9 =>
  (jx_gI (jx_at h8 a0) 6 4).bind fun v10 =>
  jx_cV (jx_C rc d 244 [.ref a1, .int v9, .int v10] h8) fun h11 =>
  (jx_gI (jx_at h11 a0) 6 4).bind fun v12 =>
  jx_cV (jx_C rc d 242 [.ref a1, .int v5, .int v12] h11) fun h13 =>
  (jx_gI (jx_at h13 a0) 6 1).bind fun v14 =>
  jx_cV (jx_C rc d 241 [.ref a1, .int v14, .int v2] h13) fun h15 =>
  jx_cV (jx_C rc d 241 [.ref a1, .int v2, .int v5] h15) fun h16 =>
  some (none, h16)
  else none :=
  jx_enter ((jx_G_run (jx_X_grows rc jx_dflt jx_mt d) 39 (0, [(0, .ref a0), (1, .ref a1)], [], h)).trans rfl)
-- RoomTrees$Tape.<init>()V
set_option maxRecDepth 100000 in
theorem je_295 (rc : Nat → Nat × (Nat → Int32)) (d : Nat) (a0 : Nat) (h : jxH) : jx_C rc (d + 1) 295 [.ref a0] h =
  if jx_is (jx_at h a0) 7 = true then
  if (120 : Int32) < 0 ∨ 5000 < (120 : Int32) then none else
  (jx_pF (jx_at (jx_new h ((120 : Int32)).toNatClampNeg (jx_arr 0 ((120 : Int32)).toNatClampNeg)) a0) 7 0 (.ref h.1)).bind fun e1 =>
  if (12 : Int32) < 0 ∨ 5000 < (12 : Int32) then none else
  (jx_pF (jx_at (jx_new (jx_set (jx_new h ((120 : Int32)).toNatClampNeg (jx_arr 0 ((120 : Int32)).toNatClampNeg)) a0 e1) ((12 : Int32)).toNatClampNeg (jx_arr 0 ((12 : Int32)).toNatClampNeg)) a0) 7 1 (.ref (jx_set (jx_new h ((120 : Int32)).toNatClampNeg (jx_arr 0 ((120 : Int32)).toNatClampNeg)) a0 e1).1)).bind fun e2 =>
  some (none, (jx_set (jx_new (jx_set (jx_new h ((120 : Int32)).toNatClampNeg (jx_arr 0 ((120 : Int32)).toNatClampNeg)) a0 e1) ((12 : Int32)).toNatClampNeg (jx_arr 0 ((12 : Int32)).toNatClampNeg)) a0 e2))
  else none :=
  jx_enter ((jx_G_run (jx_X_grows rc jx_dflt jx_mt d) 13 (0, [(0, .ref a0)], [], h)).trans rfl)
-- RoomTrees$Tape.add(I)V
set_option maxRecDepth 100000 in
theorem je_296 (rc : Nat → Nat × (Nat → Int32)) (d : Nat) (a0 : Nat) (x1 : Int32) (h : jxH) : jx_C rc (d + 1) 296 [.ref a0, .int x1] h =
  if jx_is (jx_at h a0) 7 = true then
  (jx_gI (jx_at h a0) 7 2).bind fun v1 =>
  if v1 < 0 then
    some (none, h)
  else
    (jx_gI (jx_at h a0) 7 2).bind fun v2 =>
    if (120 : Int32) ≤ v2 then
      some (none, h)
    else
      (jx_gR (jx_at h a0) 7 0).bind fun b3 =>
      (jx_gI (jx_at h a0) 7 2).bind fun v4 =>
      (jx_sI (jx_at h b3) 0 v4 x1).bind fun e5 =>
      (jx_gI (jx_at (jx_set h b3 e5) a0) 7 2).bind fun v6 =>
      (jx_pF (jx_at (jx_set h b3 e5) a0) 7 2 (.int (v6 + (1 : Int32)))).bind fun e7 =>
      some (none, (jx_set (jx_set h b3 e5) a0 e7))
  else none :=
  jx_enter ((jx_G_run (jx_X_grows rc jx_dflt jx_mt d) 22 (0, [(0, .ref a0), (1, .int x1)], [], h)).trans rfl)
-- RoomTrees$Tape.read(LRoomTrees$Forest;)I
noncomputable def jb_297 (rc : Nat → Nat × (Nat → Int32)) (d : Nat) (i : Nat) (ls : List (Nat × Value)) (st : List Value) (h : jxH) : jxR := jx_G rc jx_dflt (jx_X rc jx_dflt jx_mt d) jc_297 (i, ls, st, h)
set_option maxRecDepth 100000 in
theorem je_297 (rc : Nat → Nat × (Nat → Int32)) (d : Nat) (a0 : Nat) (a1 : Nat) (h : jxH) : jx_C rc (d + 1) 297 [.ref a0, .ref a1] h =
  if jx_is (jx_at h a0) 7 = true then
  jx_cV (jx_C rc d 224 [.ref a1] h) fun h1 =>
  jx_cI (jx_C rc d 301 [.ref a0, .int (0 : Int32)] h1) fun v3 h2 =>
  jb_297 rc d 12 [(0, .ref a0), (1, .ref a1), (2, .int (-1 : Int32)), (3, .int (0 : Int32)), (4, .int v3), (5, .int (0 : Int32))] [] h2
  else none :=
  jx_enter ((jx_G_run (jx_X_grows rc jx_dflt jx_mt d) 96 (0, [(0, .ref a0), (1, .ref a1)], [], h)).trans rfl)
set_option maxRecDepth 100000 in
theorem je_297_12 (rc : Nat → Nat × (Nat → Int32)) (d : Nat) (a0 : Nat) (a1 : Nat) (x2 : Int32) (x3 : Int32) (x4 : Int32) (x5 : Int32) (h : jxH) : jb_297 rc d 12 [(0, .ref a0), (1, .ref a1), (2, .int x2), (3, .int x3), (4, .int x4), (5, .int x5)] [] h =
  if (120 : Int32) ≤ x5 then
    if 0 ≤ x2 then
      (jx_gI (jx_at h a0) 7 2).bind fun v1 =>
      some (some (.int v1), h)
    else
      jx_cI (jx_C rc d 227 [.ref a1] h) fun v3 h2 =>
      if v3 = 0 then
        (jx_gI (jx_at h2 a0) 7 2).bind fun v4 =>
        some (some (.int v4), h2)
      else
        some (some (.int (-1 : Int32)), h2)
  else
    (jx_gI (jx_at h a0) 7 2).bind fun v5 =>
    if v5 ≤ x4 then
      if 0 ≤ x2 then
        (jx_gI (jx_at h a0) 7 2).bind fun v6 =>
        some (some (.int v6), h)
      else
        jx_cI (jx_C rc d 227 [.ref a1] h) fun v8 h7 =>
        if v8 = 0 then
          (jx_gI (jx_at h7 a0) 7 2).bind fun v9 =>
          some (some (.int v9), h7)
        else
          some (some (.int (-1 : Int32)), h7)
    else
      jx_cI (jx_C rc d 299 [.ref a0, .int x4] h) fun v11 h10 =>
      if x3 = 0 then
        if v11 = (40 : Int32) then
          jx_cI (jx_C rc d 227 [.ref a1] h10) fun v13 h12 =>
          if (12 : Int32) ≤ v13 then
            if v11 = (41 : Int32) then
              jx_cI (jx_C rc d 59 [.int x2] h12) fun v15 h14 =>
              if v15 = 0 then
                some (some (.int x4), h14)
              else
                (jx_gR (jx_at h14 a0) 7 1).bind fun b16 =>
                (jx_aI (jx_at h14 b16) 0 x2).bind fun v17 =>
                jx_cI (jx_C rc d 301 [.ref a0, .int (x4 + (1 : Int32))] h14) fun v19 h18 =>
                jb_297 rc d 12 [(0, .ref a0), (1, .ref a1), (2, .int v17), (3, .int x3), (4, .int v19), (5, .int (x5 + (1 : Int32)))] [] h18
            else
              some (some (.int x4), h12)
          else
            jx_cI (jx_C rc d 298 [.ref a0, .ref a1, .int x2] h12) fun v21 h20 =>
            jx_cI (jx_C rc d 301 [.ref a0, .int (x4 + (1 : Int32))] h20) fun v23 h22 =>
            jb_297 rc d 12 [(0, .ref a0), (1, .ref a1), (2, .int v21), (3, .int (1 : Int32)), (4, .int v23), (5, .int (x5 + (1 : Int32)))] [] h22
        else
          if v11 = (41 : Int32) then
            jx_cI (jx_C rc d 59 [.int x2] h10) fun v25 h24 =>
            if v25 = 0 then
              some (some (.int x4), h24)
            else
              (jx_gR (jx_at h24 a0) 7 1).bind fun b26 =>
              (jx_aI (jx_at h24 b26) 0 x2).bind fun v27 =>
              jx_cI (jx_C rc d 301 [.ref a0, .int (x4 + (1 : Int32))] h24) fun v29 h28 =>
              jb_297 rc d 12 [(0, .ref a0), (1, .ref a1), (2, .int v27), (3, .int x3), (4, .int v29), (5, .int (x5 + (1 : Int32)))] [] h28
          else
            some (some (.int x4), h10)
      else
        jx_cI (jx_C rc d 302 [.ref a0, .int x4] h10) fun v31 h30 =>
        if v31 = 0 then
          some (some (.int x4), h30)
        else
          jx_cI (jx_C rc d 303 [.ref a0, .int x4, .int v31] h30) fun v33 h32 =>
          jx_cV (jx_C rc d 237 [.ref a1, .int x2, .int v33] h32) fun h34 =>
          jx_cI (jx_C rc d 301 [.ref a0, .int (x4 + v31)] h34) fun v36 h35 =>
          jb_297 rc d 12 [(0, .ref a0), (1, .ref a1), (2, .int x2), (3, .int (0 : Int32)), (4, .int v36), (5, .int (x5 + (1 : Int32)))] [] h35 :=
  (jx_G_run (jx_X_grows rc jx_dflt jx_mt d) 96 _).trans rfl
-- RoomTrees$Tape.hang(LRoomTrees$Forest;I)I
set_option maxRecDepth 100000 in
theorem je_298 (rc : Nat → Nat × (Nat → Int32)) (d : Nat) (a0 : Nat) (a1 : Nat) (x2 : Int32) (h : jxH) : jx_C rc (d + 1) 298 [.ref a0, .ref a1, .int x2] h =
  if jx_is (jx_at h a0) 7 = true then
  jx_cI (jx_C rc d 240 [.ref a1, .int (0 : Int32)] h) fun v2 h1 =>
  jx_cV (jx_C rc d 241 [.ref a1, .int v2, .int x2] h1) fun h3 =>
  jx_cI (jx_C rc d 59 [.int v2] h3) fun v5 h4 =>
  if v5 = 0 then
    some (some (.int v2), h4)
  else
    (jx_gR (jx_at h4 a0) 7 1).bind fun b6 =>
    (jx_sI (jx_at h4 b6) 0 v2 x2).bind fun e7 =>
    some (some (.int v2), (jx_set h4 b6 e7))
  else none :=
  jx_enter ((jx_G_run (jx_X_grows rc jx_dflt jx_mt d) 20 (0, [(0, .ref a0), (1, .ref a1), (2, .int x2)], [], h)).trans rfl)
-- RoomTrees$Tape.byteAt(I)I
set_option maxRecDepth 100000 in
theorem je_299 (rc : Nat → Nat × (Nat → Int32)) (d : Nat) (a0 : Nat) (x1 : Int32) (h : jxH) : jx_C rc (d + 1) 299 [.ref a0, .int x1] h =
  if jx_is (jx_at h a0) 7 = true then
  if x1 < 0 then
    some (some (.int (0 : Int32)), h)
  else
    (jx_gI (jx_at h a0) 7 2).bind fun v1 =>
    if v1 ≤ x1 then
      some (some (.int (0 : Int32)), h)
    else
      if (120 : Int32) ≤ x1 then
        some (some (.int (0 : Int32)), h)
      else
        (jx_gR (jx_at h a0) 7 0).bind fun b2 =>
        (jx_aI (jx_at h b2) 0 x1).bind fun v3 =>
        some (some (.int v3), h)
  else none :=
  jx_enter ((jx_G_run (jx_X_grows rc jx_dflt jx_mt d) 18 (0, [(0, .ref a0), (1, .int x1)], [], h)).trans rfl)
-- RoomTrees$Tape.isDigit(I)Z
set_option maxRecDepth 100000 in
theorem je_300 (rc : Nat → Nat × (Nat → Int32)) (d : Nat) (a0 : Nat) (x1 : Int32) (h : jxH) : jx_C rc (d + 1) 300 [.ref a0, .int x1] h =
  if jx_is (jx_at h a0) 7 = true then
  jx_cI (jx_C rc d 299 [.ref a0, .int x1] h) fun v2 h1 =>
  if v2 < (48 : Int32) then
    if jx_bool (0 : Int32) = true then some (some (.int (0 : Int32)), h1) else none
  else
    jx_cI (jx_C rc d 299 [.ref a0, .int x1] h1) fun v4 h3 =>
    if (57 : Int32) < v4 then
      if jx_bool (0 : Int32) = true then some (some (.int (0 : Int32)), h3) else none
    else
      if jx_bool (1 : Int32) = true then some (some (.int (1 : Int32)), h3) else none
  else none :=
  jx_enter ((jx_G_run (jx_X_grows rc jx_dflt jx_mt d) 16 (0, [(0, .ref a0), (1, .int x1)], [], h)).trans rfl)
-- RoomTrees$Tape.skipBlanks(I)I
noncomputable def jb_301 (rc : Nat → Nat × (Nat → Int32)) (d : Nat) (i : Nat) (ls : List (Nat × Value)) (st : List Value) (h : jxH) : jxR := jx_G rc jx_dflt (jx_X rc jx_dflt jx_mt d) jc_301 (i, ls, st, h)
set_option maxRecDepth 100000 in
theorem je_301 (rc : Nat → Nat × (Nat → Int32)) (d : Nat) (a0 : Nat) (x1 : Int32) (h : jxH) : jx_C rc (d + 1) 301 [.ref a0, .int x1] h =
  if jx_is (jx_at h a0) 7 = true then
  jb_301 rc d 2 [(0, .ref a0), (2, .int x1)] [] h
  else none :=
  jx_enter ((jx_G_run (jx_X_grows rc jx_dflt jx_mt d) 17 (0, [(0, .ref a0), (1, .int x1)], [], h)).trans rfl)
set_option maxRecDepth 100000 in
theorem je_301_2 (rc : Nat → Nat × (Nat → Int32)) (d : Nat) (a0 : Nat) (x2 : Int32) (h : jxH) : jb_301 rc d 2 [(0, .ref a0), (2, .int x2)] [] h =
  (jx_gI (jx_at h a0) 7 2).bind fun v1 =>
  if v1 ≤ x2 then
    some (some (.int x2), h)
  else
    jx_cI (jx_C rc d 299 [.ref a0, .int x2] h) fun v3 h2 =>
    if v3 = (32 : Int32) then
      jb_301 rc d 2 [(0, .ref a0), (2, .int (x2 + (1 : Int32)))] [] h2
    else
      some (some (.int x2), h2) :=
  (jx_G_run (jx_X_grows rc jx_dflt jx_mt d) 17 _).trans rfl
-- RoomTrees$Tape.weightSize(I)I
noncomputable def jb_302 (rc : Nat → Nat × (Nat → Int32)) (d : Nat) (i : Nat) (ls : List (Nat × Value)) (st : List Value) (h : jxH) : jxR := jx_G rc jx_dflt (jx_X rc jx_dflt jx_mt d) jc_302 (i, ls, st, h)
set_option maxRecDepth 100000 in
theorem je_302 (rc : Nat → Nat × (Nat → Int32)) (d : Nat) (a0 : Nat) (x1 : Int32) (h : jxH) : jx_C rc (d + 1) 302 [.ref a0, .int x1] h =
  if jx_is (jx_at h a0) 7 = true then
  jx_cI (jx_C rc d 299 [.ref a0, .int x1] h) fun v2 h1 =>
  if v2 = (45 : Int32) then
    jb_302 rc d 13 [(0, .ref a0), (1, .int x1), (2, .int (x1 + (1 : Int32))), (3, .int (0 : Int32))] [] h1
  else
    jb_302 rc d 13 [(0, .ref a0), (1, .int x1), (2, .int x1), (3, .int (0 : Int32))] [] h1
  else none :=
  jx_enter ((jx_G_run (jx_X_grows rc jx_dflt jx_mt d) 47 (0, [(0, .ref a0), (1, .int x1)], [], h)).trans rfl)
set_option maxRecDepth 100000 in
theorem je_302_13 (rc : Nat → Nat × (Nat → Int32)) (d : Nat) (a0 : Nat) (x1 : Int32) (x2 : Int32) (x3 : Int32) (h : jxH) : jb_302 rc d 13 [(0, .ref a0), (1, .int x1), (2, .int x2), (3, .int x3)] [] h =
  if (3 : Int32) ≤ x3 then
    jb_302 rc d 24 [(0, .ref a0), (1, .int x1), (2, .int x2), (3, .int x3)] [] h
  else
    jx_cI (jx_C rc d 300 [.ref a0, .int (x2 + x3)] h) fun v2 h1 =>
    if v2 = 0 then
      jb_302 rc d 24 [(0, .ref a0), (1, .int x1), (2, .int x2), (3, .int x3)] [] h1
    else
      jb_302 rc d 13 [(0, .ref a0), (1, .int x1), (2, .int x2), (3, .int (x3 + (1 : Int32)))] [] h1 :=
  (jx_G_run (jx_X_grows rc jx_dflt jx_mt d) 47 _).trans rfl
set_option maxRecDepth 100000 in
theorem je_302_24 (rc : Nat → Nat × (Nat → Int32)) (d : Nat) (a0 : Nat) (x1 : Int32) (x2 : Int32) (x3 : Int32) (h : jxH) : jb_302 rc d 24 [(0, .ref a0), (1, .int x1), (2, .int x2), (3, .int x3)] [] h =
  if x3 = 0 then
    some (some (.int (0 : Int32)), h)
  else
    if (2 : Int32) < x3 then
      some (some (.int (0 : Int32)), h)
    else
      jx_cI (jx_C rc d 303 [.ref a0, .int x1, .int ((x2 - x1) + x3)] h) fun v2 h1 =>
      jx_cI (jx_C rc d 61 [.int v2] h1) fun v4 h3 =>
      if v4 = 0 then
        some (some (.int (0 : Int32)), h3)
      else
        some (some (.int ((x2 - x1) + x3)), h3) :=
  (jx_G_run (jx_X_grows rc jx_dflt jx_mt d) 47 _).trans rfl
-- RoomTrees$Tape.weightAt(II)I
noncomputable def jb_303 (rc : Nat → Nat × (Nat → Int32)) (d : Nat) (i : Nat) (ls : List (Nat × Value)) (st : List Value) (h : jxH) : jxR := jx_G rc jx_dflt (jx_X rc jx_dflt jx_mt d) jc_303 (i, ls, st, h)
set_option maxRecDepth 100000 in
theorem je_303 (rc : Nat → Nat × (Nat → Int32)) (d : Nat) (a0 : Nat) (x1 : Int32) (x2 : Int32) (h : jxH) : jx_C rc (d + 1) 303 [.ref a0, .int x1, .int x2] h =
  if jx_is (jx_at h a0) 7 = true then
  jb_303 rc d 4 [(0, .ref a0), (1, .int x1), (2, .int x2), (3, .int (0 : Int32)), (4, .int x1)] [] h
  else none :=
  jx_enter ((jx_G_run (jx_X_grows rc jx_dflt jx_mt d) 39 (0, [(0, .ref a0), (1, .int x1), (2, .int x2)], [], h)).trans rfl)
set_option maxRecDepth 100000 in
theorem je_303_4 (rc : Nat → Nat × (Nat → Int32)) (d : Nat) (a0 : Nat) (x1 : Int32) (x2 : Int32) (x3 : Int32) (x4 : Int32) (h : jxH) : jb_303 rc d 4 [(0, .ref a0), (1, .int x1), (2, .int x2), (3, .int x3), (4, .int x4)] [] h =
  if (x1 + x2) ≤ x4 then
    jx_cI (jx_C rc d 299 [.ref a0, .int x1] h) fun v2 h1 =>
    if v2 = (45 : Int32) then
      some (some (.int (-x3)), h1)
    else
      some (some (.int x3), h1)
  else
    jx_cI (jx_C rc d 300 [.ref a0, .int x4] h) fun v4 h3 =>
    if v4 = 0 then
      jb_303 rc d 4 [(0, .ref a0), (1, .int x1), (2, .int x2), (3, .int x3), (4, .int (x4 + (1 : Int32)))] [] h3
    else
      jx_cI (jx_C rc d 299 [.ref a0, .int x4] h3) fun v6 h5 =>
      jb_303 rc d 4 [(0, .ref a0), (1, .int x1), (2, .int x2), (3, .int (((x3 * (10 : Int32)) + v6) - (48 : Int32))), (4, .int (x4 + (1 : Int32)))] [] h5 :=
  (jx_G_run (jx_X_grows rc jx_dflt jx_mt d) 39 _).trans rfl
-- RoomTrees$Text.<init>()V
set_option maxRecDepth 100000 in
theorem je_304 (rc : Nat → Nat × (Nat → Int32)) (d : Nat) (a0 : Nat) (h : jxH) : jx_C rc (d + 1) 304 [.ref a0] h =
  if jx_is (jx_at h a0) 8 = true then
  if (60 : Int32) < 0 ∨ 5000 < (60 : Int32) then none else
  (jx_pF (jx_at (jx_new h ((60 : Int32)).toNatClampNeg (jx_arr 2 ((60 : Int32)).toNatClampNeg)) a0) 8 0 (.ref h.1)).bind fun e1 =>
  some (none, (jx_set (jx_new h ((60 : Int32)).toNatClampNeg (jx_arr 2 ((60 : Int32)).toNatClampNeg)) a0 e1))
  else none :=
  jx_enter ((jx_G_run (jx_X_grows rc jx_dflt jx_mt d) 9 (0, [(0, .ref a0)], [], h)).trans rfl)
-- RoomTrees$Text.add(I)V
set_option maxRecDepth 100000 in
theorem je_305 (rc : Nat → Nat × (Nat → Int32)) (d : Nat) (a0 : Nat) (x1 : Int32) (h : jxH) : jx_C rc (d + 1) 305 [.ref a0, .int x1] h =
  if jx_is (jx_at h a0) 8 = true then
  (jx_gI (jx_at h a0) 8 1).bind fun v1 =>
  if v1 < 0 then
    some (none, h)
  else
    (jx_gI (jx_at h a0) 8 1).bind fun v2 =>
    if (60 : Int32) ≤ v2 then
      some (none, h)
    else
      (jx_gR (jx_at h a0) 8 0).bind fun b3 =>
      (jx_gI (jx_at h a0) 8 1).bind fun v4 =>
      (jx_sI (jx_at h b3) 2 v4 ((x1).toInt8.toInt32).toInt8.toInt32).bind fun e5 =>
      (jx_gI (jx_at (jx_set h b3 e5) a0) 8 1).bind fun v6 =>
      (jx_pF (jx_at (jx_set h b3 e5) a0) 8 1 (.int (v6 + (1 : Int32)))).bind fun e7 =>
      some (none, (jx_set (jx_set h b3 e5) a0 e7))
  else none :=
  jx_enter ((jx_G_run (jx_X_grows rc jx_dflt jx_mt d) 23 (0, [(0, .ref a0), (1, .int x1)], [], h)).trans rfl)
-- RoomTrees$Text.addWeight(I)V
noncomputable def jb_306 (rc : Nat → Nat × (Nat → Int32)) (d : Nat) (i : Nat) (ls : List (Nat × Value)) (st : List Value) (h : jxH) : jxR := jx_G rc jx_dflt (jx_X rc jx_dflt jx_mt d) jc_306 (i, ls, st, h)
set_option maxRecDepth 100000 in
theorem je_306 (rc : Nat → Nat × (Nat → Int32)) (d : Nat) (a0 : Nat) (x1 : Int32) (h : jxH) : jx_C rc (d + 1) 306 [.ref a0, .int x1] h =
  if jx_is (jx_at h a0) 8 = true then
  if 0 ≤ x1 then
    jb_306 rc d 6 [(0, .ref a0), (1, .int x1)] [.int x1] h
  else
    jb_306 rc d 6 [(0, .ref a0), (1, .int x1)] [.int (-x1)] h
  else none :=
  jx_enter ((jx_G_run (jx_X_grows rc jx_dflt jx_mt d) 32 (0, [(0, .ref a0), (1, .int x1)], [], h)).trans rfl)
set_option maxRecDepth 100000 in
theorem je_306_6 (rc : Nat → Nat × (Nat → Int32)) (d : Nat) (a0 : Nat) (x1 : Int32) (s0 : Int32) (h : jxH) : jb_306 rc d 6 [(0, .ref a0), (1, .int x1)] [.int s0] h =
  if 0 ≤ x1 then
    if s0 < (10 : Int32) then
      if (10 : Int32) = 0 then none else jx_cV (jx_C rc d 305 [.ref a0, .int ((48 : Int32) + (s0 - s0 / (10 : Int32) * (10 : Int32)))] h) fun h1 =>
      some (none, h1)
    else
      if (10 : Int32) = 0 then none else jx_cV (jx_C rc d 305 [.ref a0, .int ((48 : Int32) + (s0 / (10 : Int32)))] h) fun h2 =>
      if (10 : Int32) = 0 then none else jx_cV (jx_C rc d 305 [.ref a0, .int ((48 : Int32) + (s0 - s0 / (10 : Int32) * (10 : Int32)))] h2) fun h3 =>
      some (none, h3)
  else
    jx_cV (jx_C rc d 305 [.ref a0, .int (45 : Int32)] h) fun h4 =>
    if s0 < (10 : Int32) then
      if (10 : Int32) = 0 then none else jx_cV (jx_C rc d 305 [.ref a0, .int ((48 : Int32) + (s0 - s0 / (10 : Int32) * (10 : Int32)))] h4) fun h5 =>
      some (none, h5)
    else
      if (10 : Int32) = 0 then none else jx_cV (jx_C rc d 305 [.ref a0, .int ((48 : Int32) + (s0 / (10 : Int32)))] h4) fun h6 =>
      if (10 : Int32) = 0 then none else jx_cV (jx_C rc d 305 [.ref a0, .int ((48 : Int32) + (s0 - s0 / (10 : Int32) * (10 : Int32)))] h6) fun h7 =>
      some (none, h7) :=
  (jx_G_run (jx_X_grows rc jx_dflt jx_mt d) 32 _).trans rfl
-- RoomTrees$Text.addAll(LRoomTrees$Text;)V
set_option maxRecDepth 100000 in
theorem je_307 (rc : Nat → Nat × (Nat → Int32)) (d : Nat) (a0 : Nat) (a1 : Nat) (h : jxH) : jx_C rc (d + 1) 307 [.ref a0, .ref a1] h =
  if jx_is (jx_at h a0) 8 = true then
  (jx_gI (jx_at h a1) 8 1).bind fun v1 =>
  (jx_gI (jx_at h a0) 8 1).bind fun v2 =>
  jx_cI (jx_C rc d 331 [.int v1, .int ((60 : Int32) - v2)] h) fun v4 h3 =>
  jx_cI (jx_C rc d 330 [.int (0 : Int32), .int v4] h3) fun v6 h5 =>
  (jx_gI (jx_at h5 a0) 8 1).bind fun v7 =>
  if v7 < 0 then
    some (none, h5)
  else
    (jx_gR (jx_at h5 a1) 8 0).bind fun b8 =>
    (jx_gR (jx_at h5 a0) 8 0).bind fun b9 =>
    (jx_gI (jx_at h5 a0) 8 1).bind fun v10 =>
    (jx_cp (jx_at h5 b8) (jx_at h5 b9) 2 (0 : Int32) v10 v6).bind fun e11 =>
    (jx_gI (jx_at (jx_set h5 b9 e11) a0) 8 1).bind fun v12 =>
    (jx_pF (jx_at (jx_set h5 b9 e11) a0) 8 1 (.int (v12 + v6))).bind fun e13 =>
    some (none, (jx_set (jx_set h5 b9 e11) a0 e13))
  else none :=
  jx_enter ((jx_G_run (jx_X_grows rc jx_dflt jx_mt d) 31 (0, [(0, .ref a0), (1, .ref a1)], [], h)).trans rfl)
-- RoomTrees$Text.byteAt(I)I
set_option maxRecDepth 100000 in
theorem je_308 (rc : Nat → Nat × (Nat → Int32)) (d : Nat) (a0 : Nat) (x1 : Int32) (h : jxH) : jx_C rc (d + 1) 308 [.ref a0, .int x1] h =
  if jx_is (jx_at h a0) 8 = true then
  if x1 < 0 then
    some (some (.int (0 : Int32)), h)
  else
    if (60 : Int32) ≤ x1 then
      some (some (.int (0 : Int32)), h)
    else
      (jx_gR (jx_at h a0) 8 0).bind fun b1 =>
      (jx_aI (jx_at h b1) 2 x1).bind fun v2 =>
      some (some (.int v2.toInt8.toInt32), h)
  else none :=
  jx_enter ((jx_G_run (jx_X_grows rc jx_dflt jx_mt d) 14 (0, [(0, .ref a0), (1, .int x1)], [], h)).trans rfl)
-- RoomTrees$Text.isAhead(LRoomTrees$Text;)Z
noncomputable def jb_309 (rc : Nat → Nat × (Nat → Int32)) (d : Nat) (i : Nat) (ls : List (Nat × Value)) (st : List Value) (h : jxH) : jxR := jx_G rc jx_dflt (jx_X rc jx_dflt jx_mt d) jc_309 (i, ls, st, h)
set_option maxRecDepth 100000 in
theorem je_309 (rc : Nat → Nat × (Nat → Int32)) (d : Nat) (a0 : Nat) (a1 : Nat) (h : jxH) : jx_C rc (d + 1) 309 [.ref a0, .ref a1] h =
  if jx_is (jx_at h a0) 8 = true then
  (jx_gI (jx_at h a0) 8 1).bind fun v1 =>
  (jx_gI (jx_at h a1) 8 1).bind fun v2 =>
  jx_cI (jx_C rc d 331 [.int v1, .int v2] h) fun v4 h3 =>
  jb_309 rc d 8 [(0, .ref a0), (1, .ref a1), (2, .int v4), (3, .int (0 : Int32))] [] h3
  else none :=
  jx_enter ((jx_G_run (jx_X_grows rc jx_dflt jx_mt d) 49 (0, [(0, .ref a0), (1, .ref a1)], [], h)).trans rfl)
set_option maxRecDepth 100000 in
theorem je_309_8 (rc : Nat → Nat × (Nat → Int32)) (d : Nat) (a0 : Nat) (a1 : Nat) (x2 : Int32) (x3 : Int32) (h : jxH) : jb_309 rc d 8 [(0, .ref a0), (1, .ref a1), (2, .int x2), (3, .int x3)] [] h =
  if x2 ≤ x3 then
    (jx_gI (jx_at h a0) 8 1).bind fun v1 =>
    (jx_gI (jx_at h a1) 8 1).bind fun v2 =>
    if v2 ≤ v1 then
      if jx_bool (0 : Int32) = true then some (some (.int (0 : Int32)), h) else none
    else
      if jx_bool (1 : Int32) = true then some (some (.int (1 : Int32)), h) else none
  else
    if (60 : Int32) ≤ x3 then
      (jx_gI (jx_at h a0) 8 1).bind fun v3 =>
      (jx_gI (jx_at h a1) 8 1).bind fun v4 =>
      if v4 ≤ v3 then
        if jx_bool (0 : Int32) = true then some (some (.int (0 : Int32)), h) else none
      else
        if jx_bool (1 : Int32) = true then some (some (.int (1 : Int32)), h) else none
    else
      (jx_gR (jx_at h a0) 8 0).bind fun b5 =>
      (jx_aI (jx_at h b5) 2 x3).bind fun v6 =>
      (jx_gR (jx_at h a1) 8 0).bind fun b7 =>
      (jx_aI (jx_at h b7) 2 x3).bind fun v8 =>
      if v6.toInt8.toInt32 = v8.toInt8.toInt32 then
        jb_309 rc d 8 [(0, .ref a0), (1, .ref a1), (2, .int x2), (3, .int (x3 + (1 : Int32)))] [] h
      else
        (jx_gR (jx_at h a0) 8 0).bind fun b9 =>
        (jx_aI (jx_at h b9) 2 x3).bind fun v10 =>
        (jx_gR (jx_at h a1) 8 0).bind fun b11 =>
        (jx_aI (jx_at h b11) 2 x3).bind fun v12 =>
        if v12.toInt8.toInt32 ≤ v10.toInt8.toInt32 then
          if jx_bool (0 : Int32) = true then some (some (.int (0 : Int32)), h) else none
        else
          if jx_bool (1 : Int32) = true then some (some (.int (1 : Int32)), h) else none :=
  (jx_G_run (jx_X_grows rc jx_dflt jx_mt d) 49 _).trans rfl
-- RoomTrees$Text.isSame(LRoomTrees$Text;)Z
set_option maxRecDepth 100000 in
theorem je_310 (rc : Nat → Nat × (Nat → Int32)) (d : Nat) (a0 : Nat) (a1 : Nat) (h : jxH) : jx_C rc (d + 1) 310 [.ref a0, .ref a1] h =
  if jx_is (jx_at h a0) 8 = true then
  jx_cI (jx_C rc d 309 [.ref a0, .ref a1] h) fun v2 h1 =>
  if v2 = 0 then
    jx_cI (jx_C rc d 309 [.ref a1, .ref a0] h1) fun v4 h3 =>
    if v4 = 0 then
      if jx_bool (1 : Int32) = true then some (some (.int (1 : Int32)), h3) else none
    else
      if jx_bool (0 : Int32) = true then some (some (.int (0 : Int32)), h3) else none
  else
    if jx_bool (0 : Int32) = true then some (some (.int (0 : Int32)), h1) else none
  else none :=
  jx_enter ((jx_G_run (jx_X_grows rc jx_dflt jx_mt d) 14 (0, [(0, .ref a0), (1, .ref a1)], [], h)).trans rfl)
-- RoomTrees$Trail.<init>()V
noncomputable def jb_311 (rc : Nat → Nat × (Nat → Int32)) (d : Nat) (i : Nat) (ls : List (Nat × Value)) (st : List Value) (h : jxH) : jxR := jx_G rc jx_dflt (jx_X rc jx_dflt jx_mt d) jc_311 (i, ls, st, h)
set_option maxRecDepth 100000 in
theorem je_311 (rc : Nat → Nat × (Nat → Int32)) (d : Nat) (a0 : Nat) (h : jxH) : jx_C rc (d + 1) 311 [.ref a0] h =
  if jx_is (jx_at h a0) 9 = true then
  if (40 : Int32) < 0 ∨ 5000 < (40 : Int32) then none else
  (jx_pF (jx_at (jx_new h ((40 : Int32)).toNatClampNeg (jxQ 6 ((40 : Int32)).toNatClampNeg (fun _ => none))) a0) 9 0 (.ref h.1)).bind fun e1 =>
  jb_311 rc d 8 [(0, .ref a0), (1, .int (0 : Int32))] [] (jx_set (jx_new h ((40 : Int32)).toNatClampNeg (jxQ 6 ((40 : Int32)).toNatClampNeg (fun _ => none))) a0 e1)
  else none :=
  jx_enter ((jx_G_run (jx_X_grows rc jx_dflt jx_mt d) 23 (0, [(0, .ref a0)], [], h)).trans rfl)
set_option maxRecDepth 100000 in
theorem je_311_8 (rc : Nat → Nat × (Nat → Int32)) (d : Nat) (a0 : Nat) (x1 : Int32) (h : jxH) : jb_311 rc d 8 [(0, .ref a0), (1, .int x1)] [] h =
  if (40 : Int32) ≤ x1 then
    some (none, h)
  else
    (jx_gR (jx_at h a0) 9 0).bind fun b1 =>
    jx_cV (jx_C rc d 280 [.ref h.1] (jx_new h 7 (.inl (6, jx_dflt 6)))) fun h2 =>
    if jx_is (jx_at h2 h.1) 6 = true then (jx_sQ (jx_at h2 b1) 6 x1 (some h.1)).bind fun e3 =>
    jb_311 rc d 8 [(0, .ref a0), (1, .int (x1 + (1 : Int32)))] [] (jx_set h2 b1 e3) else none :=
  (jx_G_run (jx_X_grows rc jx_dflt jx_mt d) 23 _).trans rfl
-- RoomTrees$Trail.stepAt(I)LRoomTrees$Step;
set_option maxRecDepth 100000 in
theorem je_312 (rc : Nat → Nat × (Nat → Int32)) (d : Nat) (a0 : Nat) (x1 : Int32) (h : jxH) : jx_C rc (d + 1) 312 [.ref a0, .int x1] h =
  if jx_is (jx_at h a0) 9 = true then
  if x1 < 0 then
    some (some (.null), h)
  else
    if (40 : Int32) ≤ x1 then
      some (some (.null), h)
    else
      (jx_gR (jx_at h a0) 9 0).bind fun b1 =>
      (jx_aQ (jx_at h b1) 6 x1).bind fun o2 =>
      jx_mo o2 (fun b3 => some (some (.ref b3), h))
      (some (some (.null), h))
  else none :=
  jx_enter ((jx_G_run (jx_X_grows rc jx_dflt jx_mt d) 14 (0, [(0, .ref a0), (1, .int x1)], [], h)).trans rfl)
-- RoomTrees$Trail.clear()V
set_option maxRecDepth 100000 in
theorem je_313 (rc : Nat → Nat × (Nat → Int32)) (d : Nat) (a0 : Nat) (h : jxH) : jx_C rc (d + 1) 313 [.ref a0] h =
  if jx_is (jx_at h a0) 9 = true then
  (jx_pF (jx_at h a0) 9 1 (.int (0 : Int32))).bind fun e1 =>
  (jx_pF (jx_at (jx_set h a0 e1) a0) 9 2 (.int (0 : Int32))).bind fun e2 =>
  some (none, (jx_set (jx_set h a0 e1) a0 e2))
  else none :=
  jx_enter ((jx_G_run (jx_X_grows rc jx_dflt jx_mt d) 9 (0, [(0, .ref a0)], [], h)).trans rfl)
-- RoomTrees$Trail.perform(LRoomTrees$Step;LRoomTrees$Forest;)V
set_option maxRecDepth 100000 in
theorem je_314 (rc : Nat → Nat × (Nat → Int32)) (d : Nat) (a0 : Nat) (a1 : Nat) (a2 : Nat) (h : jxH) : jx_C rc (d + 1) 314 [.ref a0, .ref a1, .ref a2] h =
  if jx_is (jx_at h a0) 9 = true then
  (jx_gI (jx_at h a0) 9 1).bind fun v1 =>
  jx_cR (jx_C rc d 312 [.ref a0, .int v1] h) fun o3 h2 =>
  jx_mo o3 (fun b4 => (jx_gI (jx_at h2 a1) 6 0).bind fun v5 =>
    (jx_gI (jx_at h2 a1) 6 1).bind fun v6 =>
    (jx_gI (jx_at h2 a1) 6 2).bind fun v7 =>
    (jx_gI (jx_at h2 a1) 6 3).bind fun v8 =>
    (jx_gI (jx_at h2 a1) 6 4).bind fun v9 =>
    jx_cV (jx_C rc d 281 [.ref b4, .int v5, .int v6, .int v7, .int v8, .int v9] h2) fun h10 =>
    jx_cI (jx_C rc d 289 [.ref b4, .ref a2] h10) fun v12 h11 =>
    (jx_pF (jx_at h11 b4) 6 5 (.int v12)).bind fun e13 =>
    (jx_gR (jx_at (jx_set h11 b4 e13) b4) 6 6).bind fun b14 =>
    jx_cV (jx_C rc d 225 [.ref b14, .ref a2] (jx_set h11 b4 e13)) fun h15 =>
    jx_cV (jx_C rc d 290 [.ref b4, .ref a2] h15) fun h16 =>
    (jx_gI (jx_at h16 a0) 9 1).bind fun v17 =>
    (jx_pF (jx_at h16 a0) 9 1 (.int (v17 + (1 : Int32)))).bind fun e18 =>
    (jx_gI (jx_at (jx_set h16 a0 e18) a0) 9 1).bind fun v19 =>
    (jx_pF (jx_at (jx_set h16 a0 e18) a0) 9 2 (.int v19)).bind fun e20 =>
    some (none, (jx_set (jx_set h16 a0 e18) a0 e20)))
  (some (none, h2))
  else none :=
  jx_enter ((jx_G_run (jx_X_grows rc jx_dflt jx_mt d) 45 (0, [(0, .ref a0), (1, .ref a1), (2, .ref a2)], [], h)).trans rfl)
-- RoomTrees$Trail.back(LRoomTrees$Forest;)Z
set_option maxRecDepth 100000 in
theorem je_315 (rc : Nat → Nat × (Nat → Int32)) (d : Nat) (a0 : Nat) (a1 : Nat) (h : jxH) : jx_C rc (d + 1) 315 [.ref a0, .ref a1] h =
  if jx_is (jx_at h a0) 9 = true then
  (jx_gI (jx_at h a0) 9 1).bind fun v1 =>
  if v1 ≤ 0 then
    if jx_bool (0 : Int32) = true then some (some (.int (0 : Int32)), h) else none
  else
    (jx_gI (jx_at h a0) 9 1).bind fun v2 =>
    jx_cR (jx_C rc d 312 [.ref a0, .int (v2 - (1 : Int32))] h) fun o4 h3 =>
    jx_mo o4 (fun b5 => (jx_gR (jx_at h3 b5) 6 6).bind fun b6 =>
      jx_cV (jx_C rc d 225 [.ref a1, .ref b6] h3) fun h7 =>
      (jx_gI (jx_at h7 a0) 9 1).bind fun v8 =>
      (jx_pF (jx_at h7 a0) 9 1 (.int (v8 - (1 : Int32)))).bind fun e9 =>
      if jx_bool (1 : Int32) = true then some (some (.int (1 : Int32)), (jx_set h7 a0 e9)) else none)
    (if jx_bool (0 : Int32) = true then some (some (.int (0 : Int32)), h3) else none)
  else none :=
  jx_enter ((jx_G_run (jx_X_grows rc jx_dflt jx_mt d) 30 (0, [(0, .ref a0), (1, .ref a1)], [], h)).trans rfl)
-- RoomTrees$Trail.again(LRoomTrees$Forest;)Z
set_option maxRecDepth 100000 in
theorem je_316 (rc : Nat → Nat × (Nat → Int32)) (d : Nat) (a0 : Nat) (a1 : Nat) (h : jxH) : jx_C rc (d + 1) 316 [.ref a0, .ref a1] h =
  if jx_is (jx_at h a0) 9 = true then
  (jx_gI (jx_at h a0) 9 1).bind fun v1 =>
  (jx_gI (jx_at h a0) 9 2).bind fun v2 =>
  if v2 ≤ v1 then
    if jx_bool (0 : Int32) = true then some (some (.int (0 : Int32)), h) else none
  else
    (jx_gI (jx_at h a0) 9 1).bind fun v3 =>
    jx_cR (jx_C rc d 312 [.ref a0, .int v3] h) fun o5 h4 =>
    jx_mo o5 (fun b6 => jx_cV (jx_C rc d 290 [.ref b6, .ref a1] h4) fun h7 =>
      (jx_gI (jx_at h7 a0) 9 1).bind fun v8 =>
      (jx_pF (jx_at h7 a0) 9 1 (.int (v8 + (1 : Int32)))).bind fun e9 =>
      if jx_bool (1 : Int32) = true then some (some (.int (1 : Int32)), (jx_set h7 a0 e9)) else none)
    (if jx_bool (0 : Int32) = true then some (some (.int (0 : Int32)), h4) else none)
  else none :=
  jx_enter ((jx_G_run (jx_X_grows rc jx_dflt jx_mt d) 29 (0, [(0, .ref a0), (1, .ref a1)], [], h)).trans rfl)
-- RoomTrees$Trail.signs()I
noncomputable def jb_317 (rc : Nat → Nat × (Nat → Int32)) (d : Nat) (i : Nat) (ls : List (Nat × Value)) (st : List Value) (h : jxH) : jxR := jx_G rc jx_dflt (jx_X rc jx_dflt jx_mt d) jc_317 (i, ls, st, h)
set_option maxRecDepth 100000 in
theorem je_317 (rc : Nat → Nat × (Nat → Int32)) (d : Nat) (a0 : Nat) (h : jxH) : jx_C rc (d + 1) 317 [.ref a0] h =
  if jx_is (jx_at h a0) 9 = true then
  jb_317 rc d 4 [(0, .ref a0), (1, .int (1 : Int32)), (2, .int (0 : Int32))] [] h
  else none :=
  jx_enter ((jx_G_run (jx_X_grows rc jx_dflt jx_mt d) 31 (0, [(0, .ref a0)], [], h)).trans rfl)
set_option maxRecDepth 100000 in
theorem je_317_4 (rc : Nat → Nat × (Nat → Int32)) (d : Nat) (a0 : Nat) (x1 : Int32) (x2 : Int32) (h : jxH) : jb_317 rc d 4 [(0, .ref a0), (1, .int x1), (2, .int x2)] [] h =
  (jx_gI (jx_at h a0) 9 1).bind fun v1 =>
  if v1 ≤ x2 then
    some (some (.int x1), h)
  else
    if (40 : Int32) ≤ x2 then
      some (some (.int x1), h)
    else
      (jx_gR (jx_at h a0) 9 0).bind fun b2 =>
      (jx_aQ (jx_at h b2) 6 x2).bind fun o3 =>
      jx_mo o3 (fun b4 => (jx_gI (jx_at h b4) 6 5).bind fun v5 =>
        jb_317 rc d 4 [(0, .ref a0), (1, .int (x1 * v5)), (2, .int (x2 + (1 : Int32)))] [] h)
      (jb_317 rc d 4 [(0, .ref a0), (1, .int (x1 * (1 : Int32))), (2, .int (x2 + (1 : Int32)))] [] h) :=
  (jx_G_run (jx_X_grows rc jx_dflt jx_mt d) 31 _).trans rfl
-- RoomTrees$Walk.<init>()V
set_option maxRecDepth 100000 in
theorem je_318 (rc : Nat → Nat × (Nat → Int32)) (d : Nat) (a0 : Nat) (h : jxH) : jx_C rc (d + 1) 318 [.ref a0] h =
  if jx_is (jx_at h a0) 10 = true then
  if (12 : Int32) < 0 ∨ 5000 < (12 : Int32) then none else
  (jx_pF (jx_at (jx_new h ((12 : Int32)).toNatClampNeg (jx_arr 0 ((12 : Int32)).toNatClampNeg)) a0) 10 0 (.ref h.1)).bind fun e1 =>
  if (12 : Int32) < 0 ∨ 5000 < (12 : Int32) then none else
  (jx_pF (jx_at (jx_new (jx_set (jx_new h ((12 : Int32)).toNatClampNeg (jx_arr 0 ((12 : Int32)).toNatClampNeg)) a0 e1) ((12 : Int32)).toNatClampNeg (jx_arr 0 ((12 : Int32)).toNatClampNeg)) a0) 10 1 (.ref (jx_set (jx_new h ((12 : Int32)).toNatClampNeg (jx_arr 0 ((12 : Int32)).toNatClampNeg)) a0 e1).1)).bind fun e2 =>
  if (12 : Int32) < 0 ∨ 5000 < (12 : Int32) then none else
  (jx_pF (jx_at (jx_new (jx_set (jx_new (jx_set (jx_new h ((12 : Int32)).toNatClampNeg (jx_arr 0 ((12 : Int32)).toNatClampNeg)) a0 e1) ((12 : Int32)).toNatClampNeg (jx_arr 0 ((12 : Int32)).toNatClampNeg)) a0 e2) ((12 : Int32)).toNatClampNeg (jx_arr 0 ((12 : Int32)).toNatClampNeg)) a0) 10 2 (.ref (jx_set (jx_new (jx_set (jx_new h ((12 : Int32)).toNatClampNeg (jx_arr 0 ((12 : Int32)).toNatClampNeg)) a0 e1) ((12 : Int32)).toNatClampNeg (jx_arr 0 ((12 : Int32)).toNatClampNeg)) a0 e2).1)).bind fun e3 =>
  some (none, (jx_set (jx_new (jx_set (jx_new (jx_set (jx_new h ((12 : Int32)).toNatClampNeg (jx_arr 0 ((12 : Int32)).toNatClampNeg)) a0 e1) ((12 : Int32)).toNatClampNeg (jx_arr 0 ((12 : Int32)).toNatClampNeg)) a0 e2) ((12 : Int32)).toNatClampNeg (jx_arr 0 ((12 : Int32)).toNatClampNeg)) a0 e3))
  else none :=
  jx_enter ((jx_G_run (jx_X_grows rc jx_dflt jx_mt d) 17 (0, [(0, .ref a0)], [], h)).trans rfl)
-- RoomTrees$Walk.over(LRoomTrees$Forest;I)V
noncomputable def jb_319 (rc : Nat → Nat × (Nat → Int32)) (d : Nat) (i : Nat) (ls : List (Nat × Value)) (st : List Value) (h : jxH) : jxR := jx_G rc jx_dflt (jx_X rc jx_dflt jx_mt d) jc_319 (i, ls, st, h)
set_option maxRecDepth 100000 in
theorem je_319 (rc : Nat → Nat × (Nat → Int32)) (d : Nat) (a0 : Nat) (a1 : Nat) (x2 : Int32) (h : jxH) : jx_C rc (d + 1) 319 [.ref a0, .ref a1, .int x2] h =
  if jx_is (jx_at h a0) 10 = true then
  (jx_pF (jx_at h a0) 10 3 (.int (0 : Int32))).bind fun e1 =>
  (jx_pF (jx_at (jx_set h a0 e1) a0) 10 4 (.int (0 : Int32))).bind fun e2 =>
  jb_319 rc d 8 [(0, .ref a0), (1, .ref a1), (2, .int x2), (3, .int (0 : Int32))] [] (jx_set (jx_set h a0 e1) a0 e2)
  else none :=
  jx_enter ((jx_G_run (jx_X_grows rc jx_dflt jx_mt d) 30 (0, [(0, .ref a0), (1, .ref a1), (2, .int x2)], [], h)).trans rfl)
set_option maxRecDepth 100000 in
theorem je_319_8 (rc : Nat → Nat × (Nat → Int32)) (d : Nat) (a0 : Nat) (a1 : Nat) (x2 : Int32) (x3 : Int32) (h : jxH) : jb_319 rc d 8 [(0, .ref a0), (1, .ref a1), (2, .int x2), (3, .int x3)] [] h =
  if (12 : Int32) ≤ x3 then
    some (none, h)
  else
    jx_cI (jx_C rc d 60 [.int x3, .int x2] h) fun v2 h1 =>
    if v2 = 0 then
      jb_319 rc d 8 [(0, .ref a0), (1, .ref a1), (2, .int x2), (3, .int (x3 + (1 : Int32)))] [] h1
    else
      (jx_gI (jx_at h1 a0) 10 4).bind fun v3 =>
      jx_cI (jx_C rc d 60 [.int x3, .int v3] h1) fun v5 h4 =>
      if v5 = 0 then
        jx_cV (jx_C rc d 321 [.ref a0, .ref a1, .int x2, .int x3] h4) fun h6 =>
        jb_319 rc d 8 [(0, .ref a0), (1, .ref a1), (2, .int x2), (3, .int (x3 + (1 : Int32)))] [] h6
      else
        jb_319 rc d 8 [(0, .ref a0), (1, .ref a1), (2, .int x2), (3, .int (x3 + (1 : Int32)))] [] h4 :=
  (jx_G_run (jx_X_grows rc jx_dflt jx_mt d) 30 _).trans rfl
