-- RoomTrees.<init>()V
set_option maxRecDepth 100000 in
theorem je_0 (rc : Nat → Nat × (Nat → Int32)) (d : Nat) (a0 : Nat) (h : jxH) : jx_C rc (d + 1) 0 [.ref a0] h =
  if jx_is (jx_at h a0) 11 = true then
  if (8 : Int32) < 0 ∨ 5000 < (8 : Int32) then none else
  (jx_pF (jx_at (jx_new h ((8 : Int32)).toNatClampNeg (jx_arr 0 ((8 : Int32)).toNatClampNeg)) a0) 11 0 (.ref h.1)).bind fun e1 =>
  jx_cV (jx_C rc d 223 [.ref (jx_set (jx_new h ((8 : Int32)).toNatClampNeg (jx_arr 0 ((8 : Int32)).toNatClampNeg)) a0 e1).1] (jx_new (jx_set (jx_new h ((8 : Int32)).toNatClampNeg (jx_arr 0 ((8 : Int32)).toNatClampNeg)) a0 e1) 3 (.inl (1, jx_dflt 1)))) fun h2 =>
  (jx_pF (jx_at h2 a0) 11 1 (.ref (jx_set (jx_new h ((8 : Int32)).toNatClampNeg (jx_arr 0 ((8 : Int32)).toNatClampNeg)) a0 e1).1)).bind fun e3 =>
  jx_cV (jx_C rc d 223 [.ref (jx_set h2 a0 e3).1] (jx_new (jx_set h2 a0 e3) 3 (.inl (1, jx_dflt 1)))) fun h4 =>
  (jx_pF (jx_at h4 a0) 11 2 (.ref (jx_set h2 a0 e3).1)).bind fun e5 =>
  jx_cV (jx_C rc d 280 [.ref (jx_set h4 a0 e5).1] (jx_new (jx_set h4 a0 e5) 7 (.inl (6, jx_dflt 6)))) fun h6 =>
  (jx_pF (jx_at h6 a0) 11 3 (.ref (jx_set h4 a0 e5).1)).bind fun e7 =>
  jx_cV (jx_C rc d 311 [.ref (jx_set h6 a0 e7).1] (jx_new (jx_set h6 a0 e7) 3 (.inl (9, jx_dflt 9)))) fun h8 =>
  (jx_pF (jx_at h8 a0) 11 4 (.ref (jx_set h6 a0 e7).1)).bind fun e9 =>
  jx_cV (jx_C rc d 318 [.ref (jx_set h8 a0 e9).1] (jx_new (jx_set h8 a0 e9) 5 (.inl (10, jx_dflt 10)))) fun h10 =>
  (jx_pF (jx_at h10 a0) 11 5 (.ref (jx_set h8 a0 e9).1)).bind fun e11 =>
  jx_cV (jx_C rc d 248 [.ref (jx_set h10 a0 e11).1] (jx_new (jx_set h10 a0 e11) 12 (.inl (2, jx_dflt 2)))) fun h12 =>
  (jx_pF (jx_at h12 a0) 11 6 (.ref (jx_set h10 a0 e11).1)).bind fun e13 =>
  jx_cV (jx_C rc d 276 [.ref (jx_set h12 a0 e13).1] (jx_new (jx_set h12 a0 e13) 3 (.inl (5, jx_dflt 5)))) fun h14 =>
  (jx_pF (jx_at h14 a0) 11 7 (.ref (jx_set h12 a0 e13).1)).bind fun e15 =>
  jx_cV (jx_C rc d 304 [.ref (jx_set h14 a0 e15).1] (jx_new (jx_set h14 a0 e15) 2 (.inl (8, jx_dflt 8)))) fun h16 =>
  (jx_pF (jx_at h16 a0) 11 8 (.ref (jx_set h14 a0 e15).1)).bind fun e17 =>
  jx_cV (jx_C rc d 262 [.ref (jx_set h16 a0 e17).1] (jx_new (jx_set h16 a0 e17) 10 (.inl (3, jx_dflt 3)))) fun h18 =>
  (jx_pF (jx_at h18 a0) 11 9 (.ref (jx_set h16 a0 e17).1)).bind fun e19 =>
  jx_cV (jx_C rc d 295 [.ref (jx_set h18 a0 e19).1] (jx_new (jx_set h18 a0 e19) 3 (.inl (7, jx_dflt 7)))) fun h20 =>
  (jx_pF (jx_at h20 a0) 11 10 (.ref (jx_set h18 a0 e19).1)).bind fun e21 =>
  if (4 : Int32) < 0 ∨ 5000 < (4 : Int32) then none else
  (jx_pF (jx_at (jx_new (jx_set h20 a0 e21) ((4 : Int32)).toNatClampNeg (jxQ 4 ((4 : Int32)).toNatClampNeg (fun _ => none))) a0) 11 11 (.ref (jx_set h20 a0 e21).1)).bind fun e22 =>
  if (4 : Int32) < 0 ∨ 5000 < (4 : Int32) then none else
  (jx_pF (jx_at (jx_new (jx_set (jx_new (jx_set h20 a0 e21) ((4 : Int32)).toNatClampNeg (jxQ 4 ((4 : Int32)).toNatClampNeg (fun _ => none))) a0 e22) ((4 : Int32)).toNatClampNeg (jxQ 5 ((4 : Int32)).toNatClampNeg (fun _ => none))) a0) 11 12 (.ref (jx_set (jx_new (jx_set h20 a0 e21) ((4 : Int32)).toNatClampNeg (jxQ 4 ((4 : Int32)).toNatClampNeg (fun _ => none))) a0 e22).1)).bind fun e23 =>
  jx_cV (jx_C rc d 210 [.ref (jx_set (jx_new (jx_set (jx_new (jx_set h20 a0 e21) ((4 : Int32)).toNatClampNeg (jxQ 4 ((4 : Int32)).toNatClampNeg (fun _ => none))) a0 e22) ((4 : Int32)).toNatClampNeg (jxQ 5 ((4 : Int32)).toNatClampNeg (fun _ => none))) a0 e23).1] (jx_new (jx_set (jx_new (jx_set (jx_new (jx_set h20 a0 e21) ((4 : Int32)).toNatClampNeg (jxQ 4 ((4 : Int32)).toNatClampNeg (fun _ => none))) a0 e22) ((4 : Int32)).toNatClampNeg (jxQ 5 ((4 : Int32)).toNatClampNeg (fun _ => none))) a0 e23) 4 (.inl (0, jx_dflt 0)))) fun h24 =>
  (jx_pF (jx_at h24 a0) 11 13 (.ref (jx_set (jx_new (jx_set (jx_new (jx_set h20 a0 e21) ((4 : Int32)).toNatClampNeg (jxQ 4 ((4 : Int32)).toNatClampNeg (fun _ => none))) a0 e22) ((4 : Int32)).toNatClampNeg (jxQ 5 ((4 : Int32)).toNatClampNeg (fun _ => none))) a0 e23).1)).bind fun e25 =>
  jx_cV (jx_C rc d 223 [.ref (jx_set h24 a0 e25).1] (jx_new (jx_set h24 a0 e25) 3 (.inl (1, jx_dflt 1)))) fun h26 =>
  (jx_pF (jx_at h26 a0) 11 14 (.ref (jx_set h24 a0 e25).1)).bind fun e27 =>
  jx_cV (jx_C rc d 210 [.ref (jx_set h26 a0 e27).1] (jx_new (jx_set h26 a0 e27) 4 (.inl (0, jx_dflt 0)))) fun h28 =>
  (jx_pF (jx_at h28 a0) 11 15 (.ref (jx_set h26 a0 e27).1)).bind fun e29 =>
  some (none, (jx_set h28 a0 e29))
  else none :=
  jx_enter ((jx_G_run (jx_X_grows rc jx_dflt jx_mt d) 82 (0, [(0, .ref a0)], [], h)).trans rfl)
-- RoomTrees.vertex(I)I
set_option maxRecDepth 100000 in
theorem je_1 (rc : Nat → Nat × (Nat → Int32)) (d : Nat) (a0 : Nat) (x1 : Int32) (h : jxH) : jx_C rc (d + 1) 1 [.ref a0, .int x1] h =
  if jx_is (jx_at h a0) 11 = true then
  jx_cI (jx_C rc d 61 [.int x1] h) fun v2 h1 =>
  if v2 = 0 then
    jx_cI (jx_C rc d 53 [.ref a0, .int (1 : Int32)] h1) fun v4 h3 =>
    some (some (.int v4), h3)
  else
    (jx_gR (jx_at h1 a0) 11 1).bind fun b5 =>
    jx_cI (jx_C rc d 227 [.ref b5] h1) fun v7 h6 =>
    if v7 < (12 : Int32) then
      (jx_gR (jx_at h6 a0) 11 4).bind fun b8 =>
      jx_cV (jx_C rc d 313 [.ref b8] h6) fun h9 =>
      (jx_gR (jx_at h9 a0) 11 1).bind fun b10 =>
      jx_cI (jx_C rc d 240 [.ref b10, .int x1] h9) fun v12 h11 =>
      some (some (.int v12), h11)
    else
      jx_cI (jx_C rc d 53 [.ref a0, .int (4 : Int32)] h6) fun v14 h13 =>
      some (some (.int v14), h13)
  else none :=
  jx_enter ((jx_G_run (jx_X_grows rc jx_dflt jx_mt d) 26 (0, [(0, .ref a0), (1, .int x1)], [], h)).trans rfl)
-- RoomTrees.weigh(II)I
set_option maxRecDepth 100000 in
theorem je_2 (rc : Nat → Nat × (Nat → Int32)) (d : Nat) (a0 : Nat) (x1 : Int32) (x2 : Int32) (h : jxH) : jx_C rc (d + 1) 2 [.ref a0, .int x1, .int x2] h =
  if jx_is (jx_at h a0) 11 = true then
  (jx_gR (jx_at h a0) 11 1).bind fun b1 =>
  jx_cI (jx_C rc d 226 [.ref b1, .int x1] h) fun v3 h2 =>
  if v3 = 0 then
    jx_cI (jx_C rc d 53 [.ref a0, .int (1 : Int32)] h2) fun v5 h4 =>
    some (some (.int v5), h4)
  else
    jx_cI (jx_C rc d 61 [.int x2] h2) fun v7 h6 =>
    if v7 = 0 then
      jx_cI (jx_C rc d 53 [.ref a0, .int (1 : Int32)] h6) fun v9 h8 =>
      some (some (.int v9), h8)
    else
      (jx_gR (jx_at h6 a0) 11 1).bind fun b10 =>
      jx_cI (jx_C rc d 228 [.ref b10, .int x1] h6) fun v12 h11 =>
      (jx_gR (jx_at h11 a0) 11 1).bind fun b13 =>
      jx_cV (jx_C rc d 237 [.ref b13, .int x1, .int x2] h11) fun h14 =>
      (jx_gR (jx_at h14 a0) 11 4).bind fun b15 =>
      jx_cV (jx_C rc d 313 [.ref b15] h14) fun h16 =>
      some (some (.int v12), h16)
  else none :=
  jx_enter ((jx_G_run (jx_X_grows rc jx_dflt jx_mt d) 29 (0, [(0, .ref a0), (1, .int x1), (2, .int x2)], [], h)).trans rfl)
-- RoomTrees.tie(II)I
set_option maxRecDepth 100000 in
theorem je_3 (rc : Nat → Nat × (Nat → Int32)) (d : Nat) (a0 : Nat) (x1 : Int32) (x2 : Int32) (h : jxH) : jx_C rc (d + 1) 3 [.ref a0, .int x1, .int x2] h =
  if jx_is (jx_at h a0) 11 = true then
  (jx_gR (jx_at h a0) 11 1).bind fun b1 =>
  jx_cI (jx_C rc d 226 [.ref b1, .int x1] h) fun v3 h2 =>
  if v3 = 0 then
    jx_cI (jx_C rc d 53 [.ref a0, .int (1 : Int32)] h2) fun v5 h4 =>
    some (some (.int v5), h4)
  else
    (jx_gR (jx_at h2 a0) 11 1).bind fun b6 =>
    jx_cI (jx_C rc d 226 [.ref b6, .int x2] h2) fun v8 h7 =>
    if v8 = 0 then
      jx_cI (jx_C rc d 53 [.ref a0, .int (1 : Int32)] h7) fun v10 h9 =>
      some (some (.int v10), h9)
    else
      jx_cI (jx_C rc d 56 [.ref a0, .int x1] h7) fun v12 h11 =>
      jx_cI (jx_C rc d 60 [.int x2, .int v12] h11) fun v14 h13 =>
      if v14 = 0 then
        (jx_gR (jx_at h13 a0) 11 1).bind fun b15 =>
        jx_cV (jx_C rc d 241 [.ref b15, .int x1, .int x2] h13) fun h16 =>
        (jx_gR (jx_at h16 a0) 11 4).bind fun b17 =>
        jx_cV (jx_C rc d 313 [.ref b17] h16) fun h18 =>
        (jx_gR (jx_at h18 a0) 11 1).bind fun b19 =>
        jx_cI (jx_C rc d 233 [.ref b19] h18) fun v21 h20 =>
        some (some (.int v21), h20)
      else
        jx_cI (jx_C rc d 53 [.ref a0, .int (3 : Int32)] h13) fun v23 h22 =>
        some (some (.int v23), h22)
  else none :=
  jx_enter ((jx_G_run (jx_X_grows rc jx_dflt jx_mt d) 38 (0, [(0, .ref a0), (1, .int x1), (2, .int x2)], [], h)).trans rfl)
-- RoomTrees.cut(II)I
set_option maxRecDepth 100000 in
theorem je_4 (rc : Nat → Nat × (Nat → Int32)) (d : Nat) (a0 : Nat) (x1 : Int32) (x2 : Int32) (h : jxH) : jx_C rc (d + 1) 4 [.ref a0, .int x1, .int x2] h =
  if jx_is (jx_at h a0) 11 = true then
  (jx_gR (jx_at h a0) 11 1).bind fun b1 =>
  jx_cI (jx_C rc d 226 [.ref b1, .int x1] h) fun v3 h2 =>
  if v3 = 0 then
    jx_cI (jx_C rc d 53 [.ref a0, .int (1 : Int32)] h2) fun v5 h4 =>
    some (some (.int v5), h4)
  else
    (jx_gR (jx_at h2 a0) 11 1).bind fun b6 =>
    jx_cI (jx_C rc d 226 [.ref b6, .int x2] h2) fun v8 h7 =>
    if v8 = 0 then
      jx_cI (jx_C rc d 53 [.ref a0, .int (1 : Int32)] h7) fun v10 h9 =>
      some (some (.int v10), h9)
    else
      (jx_gR (jx_at h7 a0) 11 1).bind fun b11 =>
      jx_cI (jx_C rc d 231 [.ref b11, .int x1, .int x2] h7) fun v13 h12 =>
      if v13 = 0 then
        jx_cI (jx_C rc d 53 [.ref a0, .int (2 : Int32)] h12) fun v15 h14 =>
        some (some (.int v15), h14)
      else
        (jx_gR (jx_at h12 a0) 11 1).bind fun b16 =>
        jx_cV (jx_C rc d 243 [.ref b16, .int x1, .int x2] h12) fun h17 =>
        (jx_gR (jx_at h17 a0) 11 4).bind fun b18 =>
        jx_cV (jx_C rc d 313 [.ref b18] h17) fun h19 =>
        (jx_gR (jx_at h19 a0) 11 1).bind fun b20 =>
        jx_cI (jx_C rc d 233 [.ref b20] h19) fun v22 h21 =>
        some (some (.int v22), h21)
  else none :=
  jx_enter ((jx_G_run (jx_X_grows rc jx_dflt jx_mt d) 38 (0, [(0, .ref a0), (1, .int x1), (2, .int x2)], [], h)).trans rfl)
-- RoomTrees.take(I)I
set_option maxRecDepth 100000 in
theorem je_5 (rc : Nat → Nat × (Nat → Int32)) (d : Nat) (a0 : Nat) (x1 : Int32) (h : jxH) : jx_C rc (d + 1) 5 [.ref a0, .int x1] h =
  if jx_is (jx_at h a0) 11 = true then
  (jx_gR (jx_at h a0) 11 1).bind fun b1 =>
  jx_cI (jx_C rc d 226 [.ref b1, .int x1] h) fun v3 h2 =>
  if v3 = 0 then
    jx_cI (jx_C rc d 53 [.ref a0, .int (1 : Int32)] h2) fun v5 h4 =>
    some (some (.int v5), h4)
  else
    (jx_gR (jx_at h2 a0) 11 1).bind fun b6 =>
    jx_cI (jx_C rc d 228 [.ref b6, .int x1] h2) fun v8 h7 =>
    (jx_gR (jx_at h7 a0) 11 1).bind fun b9 =>
    jx_cV (jx_C rc d 245 [.ref b9, .int x1] h7) fun h10 =>
    (jx_gR (jx_at h10 a0) 11 4).bind fun b11 =>
    jx_cV (jx_C rc d 313 [.ref b11] h10) fun h12 =>
    some (some (.int v8), h12)
  else none :=
  jx_enter ((jx_G_run (jx_X_grows rc jx_dflt jx_mt d) 25 (0, [(0, .ref a0), (1, .int x1)], [], h)).trans rfl)
-- RoomTrees.at(II)I
set_option maxRecDepth 100000 in
theorem je_6 (rc : Nat → Nat × (Nat → Int32)) (d : Nat) (a0 : Nat) (x1 : Int32) (x2 : Int32) (h : jxH) : jx_C rc (d + 1) 6 [.ref a0, .int x1, .int x2] h =
  if jx_is (jx_at h a0) 11 = true then
  (jx_gR (jx_at h a0) 11 1).bind fun b1 =>
  jx_cI (jx_C rc d 226 [.ref b1, .int x1] h) fun v3 h2 =>
  if v3 = 0 then
    jx_cI (jx_C rc d 53 [.ref a0, .int (1 : Int32)] h2) fun v5 h4 =>
    some (some (.int v5), h4)
  else
    if x2 = (0 : Int32) then
      (jx_gR (jx_at h2 a0) 11 1).bind fun b6 =>
      jx_cI (jx_C rc d 228 [.ref b6, .int x1] h2) fun v8 h7 =>
      some (some (.int v8), h7)
    else if x2 = ((0 : Int32) + 1) then
      (jx_gR (jx_at h2 a0) 11 1).bind fun b9 =>
      jx_cI (jx_C rc d 230 [.ref b9, .int x1] h2) fun v11 h10 =>
      some (some (.int v11), h10)
    else if x2 = (((0 : Int32) + 1) + 1) then
      (jx_gR (jx_at h2 a0) 11 1).bind fun b12 =>
      jx_cI (jx_C rc d 229 [.ref b12, .int x1] h2) fun v14 h13 =>
      some (some (.int v14), h13)
    else if x2 = ((((0 : Int32) + 1) + 1) + 1) then
      jx_cI (jx_C rc d 56 [.ref a0, .int x1] h2) fun v16 h15 =>
      some (some (.int v16), h15)
    else if x2 = (((((0 : Int32) + 1) + 1) + 1) + 1) then
      (jx_gR (jx_at h2 a0) 11 3).bind fun b17 =>
      (jx_gR (jx_at h2 a0) 11 1).bind fun b18 =>
      jx_cI (jx_C rc d 283 [.ref b17, .ref b18, .int x1] h2) fun v20 h19 =>
      if v20 = 0 then
        some (some (.int (-1 : Int32)), h19)
      else
        (jx_gR (jx_at h19 a0) 11 3).bind fun b21 =>
        (jx_gI (jx_at h19 b21) 6 0).bind fun v22 =>
        some (some (.int v22), h19)
    else if x2 = ((((((0 : Int32) + 1) + 1) + 1) + 1) + 1) then
      (jx_gR (jx_at h2 a0) 11 5).bind fun b23 =>
      (jx_gR (jx_at h2 a0) 11 1).bind fun b24 =>
      jx_cV (jx_C rc d 320 [.ref b23, .ref b24, .int x1] h2) fun h25 =>
      (jx_gR (jx_at h25 a0) 11 5).bind fun b26 =>
      jx_cI (jx_C rc d 326 [.ref b26] h25) fun v28 h27 =>
      some (some (.int v28), h27)
    else 
      jx_cI (jx_C rc d 53 [.ref a0, .int (1 : Int32)] h2) fun v30 h29 =>
      some (some (.int v30), h29)
  else none :=
  jx_enter ((jx_G_run (jx_X_grows rc jx_dflt jx_mt d) 59 (0, [(0, .ref a0), (1, .int x1), (2, .int x2)], [], h)).trans rfl)
-- RoomTrees.table(II)I
set_option maxRecDepth 100000 in
theorem je_7 (rc : Nat → Nat × (Nat → Int32)) (d : Nat) (a0 : Nat) (x1 : Int32) (x2 : Int32) (h : jxH) : jx_C rc (d + 1) 7 [.ref a0, .int x1, .int x2] h =
  if jx_is (jx_at h a0) 11 = true then
  (jx_gR (jx_at h a0) 11 1).bind fun b1 =>
  jx_cI (jx_C rc d 226 [.ref b1, .int x1] h) fun v3 h2 =>
  if v3 = 0 then
    jx_cI (jx_C rc d 53 [.ref a0, .int (1 : Int32)] h2) fun v5 h4 =>
    some (some (.int v5), h4)
  else
    (jx_gR (jx_at h2 a0) 11 1).bind fun b6 =>
    jx_cI (jx_C rc d 226 [.ref b6, .int x2] h2) fun v8 h7 =>
    if v8 = 0 then
      jx_cI (jx_C rc d 53 [.ref a0, .int (1 : Int32)] h7) fun v10 h9 =>
      some (some (.int v10), h9)
    else
      if x1 = x2 then
        (jx_gR (jx_at h7 a0) 11 1).bind fun b11 =>
        jx_cI (jx_C rc d 228 [.ref b11, .int x1] h7) fun v13 h12 =>
        some (some (.int v13), h12)
      else
        (jx_gR (jx_at h7 a0) 11 1).bind fun b14 =>
        jx_cI (jx_C rc d 231 [.ref b14, .int x1, .int x2] h7) fun v16 h15 =>
        if v16 = 0 then
          some (some (.int (0 : Int32)), h15)
        else
          some (some (.int (1 : Int32)), h15)
  else none :=
  jx_enter ((jx_G_run (jx_X_grows rc jx_dflt jx_mt d) 34 (0, [(0, .ref a0), (1, .int x1), (2, .int x2)], [], h)).trans rfl)
-- RoomTrees.move(IIIII)I
set_option maxRecDepth 100000 in
theorem je_8 (rc : Nat → Nat × (Nat → Int32)) (d : Nat) (a0 : Nat) (x1 : Int32) (x2 : Int32) (x3 : Int32) (x4 : Int32) (x5 : Int32) (h : jxH) : jx_C rc (d + 1) 8 [.ref a0, .int x1, .int x2, .int x3, .int x4, .int x5] h =
  if jx_is (jx_at h a0) 11 = true then
  (jx_gR (jx_at h a0) 11 3).bind fun b1 =>
  jx_cV (jx_C rc d 281 [.ref b1, .int x1, .int x2, .int x3, .int x4, .int x5] h) fun h2 =>
  (jx_gR (jx_at h2 a0) 11 3).bind fun b3 =>
  (jx_gR (jx_at h2 a0) 11 1).bind fun b4 =>
  (jx_gR (jx_at h2 a0) 11 4).bind fun b5 =>
  (jx_gI (jx_at h2 b5) 9 1).bind fun v6 =>
  if v6 < (40 : Int32) then
    jx_cI (jx_C rc d 285 [.ref b3, .ref b4, .int (0 : Int32)] h2) fun v8 h7 =>
    if v8 = 0 then
      (jx_gR (jx_at h7 a0) 11 4).bind fun b9 =>
      (jx_gR (jx_at h7 a0) 11 3).bind fun b10 =>
      (jx_gR (jx_at h7 a0) 11 1).bind fun b11 =>
      jx_cV (jx_C rc d 314 [.ref b9, .ref b10, .ref b11] h7) fun h12 =>
      (jx_gR (jx_at h12 a0) 11 1).bind fun b13 =>
      jx_cI (jx_C rc d 227 [.ref b13] h12) fun v15 h14 =>
      some (some (.int v15), h14)
    else
      jx_cI (jx_C rc d 53 [.ref a0, .int v8] h7) fun v17 h16 =>
      some (some (.int v17), h16)
  else
    jx_cI (jx_C rc d 285 [.ref b3, .ref b4, .int (1 : Int32)] h2) fun v19 h18 =>
    if v19 = 0 then
      (jx_gR (jx_at h18 a0) 11 4).bind fun b20 =>
      (jx_gR (jx_at h18 a0) 11 3).bind fun b21 =>
      (jx_gR (jx_at h18 a0) 11 1).bind fun b22 =>
      jx_cV (jx_C rc d 314 [.ref b20, .ref b21, .ref b22] h18) fun h23 =>
      (jx_gR (jx_at h23 a0) 11 1).bind fun b24 =>
      jx_cI (jx_C rc d 227 [.ref b24] h23) fun v26 h25 =>
      some (some (.int v26), h25)
    else
      jx_cI (jx_C rc d 53 [.ref a0, .int v19] h18) fun v28 h27 =>
      some (some (.int v28), h27)
  else none :=
  jx_enter ((jx_G_run (jx_X_grows rc jx_dflt jx_mt d) 41 (0, [(0, .ref a0), (1, .int x1), (2, .int x2), (3, .int x3), (4, .int x4), (5, .int x5)], [], h)).trans rfl)
-- RoomTrees.undo()I
set_option maxRecDepth 100000 in
theorem je_9 (rc : Nat → Nat × (Nat → Int32)) (d : Nat) (a0 : Nat) (h : jxH) : jx_C rc (d + 1) 9 [.ref a0] h =
  if jx_is (jx_at h a0) 11 = true then
  (jx_gR (jx_at h a0) 11 4).bind fun b1 =>
  (jx_gR (jx_at h a0) 11 1).bind fun b2 =>
  jx_cI (jx_C rc d 315 [.ref b1, .ref b2] h) fun v4 h3 =>
  if v4 = 0 then
    jx_cI (jx_C rc d 53 [.ref a0, .int (2 : Int32)] h3) fun v6 h5 =>
    some (some (.int v6), h5)
  else
    (jx_gR (jx_at h3 a0) 11 4).bind fun b7 =>
    (jx_gI (jx_at h3 b7) 9 1).bind fun v8 =>
    some (some (.int v8), h3)
  else none :=
  jx_enter ((jx_G_run (jx_X_grows rc jx_dflt jx_mt d) 16 (0, [(0, .ref a0)], [], h)).trans rfl)
-- RoomTrees.redo()I
set_option maxRecDepth 100000 in
theorem je_10 (rc : Nat → Nat × (Nat → Int32)) (d : Nat) (a0 : Nat) (h : jxH) : jx_C rc (d + 1) 10 [.ref a0] h =
  if jx_is (jx_at h a0) 11 = true then
  (jx_gR (jx_at h a0) 11 4).bind fun b1 =>
  (jx_gR (jx_at h a0) 11 1).bind fun b2 =>
  jx_cI (jx_C rc d 316 [.ref b1, .ref b2] h) fun v4 h3 =>
  if v4 = 0 then
    jx_cI (jx_C rc d 53 [.ref a0, .int (2 : Int32)] h3) fun v6 h5 =>
    some (some (.int v6), h5)
  else
    (jx_gR (jx_at h3 a0) 11 4).bind fun b7 =>
    (jx_gI (jx_at h3 b7) 9 1).bind fun v8 =>
    some (some (.int v8), h3)
  else none :=
  jx_enter ((jx_G_run (jx_X_grows rc jx_dflt jx_mt d) 16 (0, [(0, .ref a0)], [], h)).trans rfl)
-- RoomTrees.trail(II)I
set_option maxRecDepth 100000 in
theorem je_11 (rc : Nat → Nat × (Nat → Int32)) (d : Nat) (a0 : Nat) (x1 : Int32) (x2 : Int32) (h : jxH) : jx_C rc (d + 1) 11 [.ref a0, .int x1, .int x2] h =
  if jx_is (jx_at h a0) 11 = true then
  if x2 < 0 then
    jx_cI (jx_C rc d 53 [.ref a0, .int (1 : Int32)] h) fun v2 h1 =>
    some (some (.int v2), h1)
  else
    if x2 ≤ (4 : Int32) then
      (jx_gR (jx_at h a0) 11 4).bind fun b3 =>
      (jx_gI (jx_at h b3) 9 1).bind fun v4 =>
      if v4 ≤ x1 then
        jx_cI (jx_C rc d 53 [.ref a0, .int (2 : Int32)] h) fun v6 h5 =>
        some (some (.int v6), h5)
      else
        (jx_gR (jx_at h a0) 11 4).bind fun b7 =>
        jx_cR (jx_C rc d 312 [.ref b7, .int x1] h) fun o9 h8 =>
        jx_mo o9 (fun b10 => if x2 = (0 : Int32) then
            (jx_gI (jx_at h8 b10) 6 0).bind fun v11 =>
            some (some (.int v11), h8)
          else if x2 = ((0 : Int32) + 1) then
            (jx_gI (jx_at h8 b10) 6 1).bind fun v12 =>
            some (some (.int v12), h8)
          else if x2 = (((0 : Int32) + 1) + 1) then
            (jx_gI (jx_at h8 b10) 6 2).bind fun v13 =>
            some (some (.int v13), h8)
          else if x2 = ((((0 : Int32) + 1) + 1) + 1) then
            (jx_gI (jx_at h8 b10) 6 3).bind fun v14 =>
            some (some (.int v14), h8)
          else 
            (jx_gI (jx_at h8 b10) 6 4).bind fun v15 =>
            some (some (.int v15), h8))
        (jx_cI (jx_C rc d 53 [.ref a0, .int (2 : Int32)] h8) fun v17 h16 =>
          some (some (.int v17), h16))
    else
      jx_cI (jx_C rc d 53 [.ref a0, .int (1 : Int32)] h) fun v19 h18 =>
      some (some (.int v19), h18)
  else none :=
  jx_enter ((jx_G_run (jx_X_grows rc jx_dflt jx_mt d) 46 (0, [(0, .ref a0), (1, .int x1), (2, .int x2)], [], h)).trans rfl)
-- RoomTrees.factor()I
set_option maxRecDepth 100000 in
theorem je_12 (rc : Nat → Nat × (Nat → Int32)) (d : Nat) (a0 : Nat) (h : jxH) : jx_C rc (d + 1) 12 [.ref a0] h =
  if jx_is (jx_at h a0) 11 = true then
  (jx_gR (jx_at h a0) 11 4).bind fun b1 =>
  jx_cI (jx_C rc d 317 [.ref b1] h) fun v3 h2 =>
  some (some (.int v3), h2)
  else none :=
  jx_enter ((jx_G_run (jx_X_grows rc jx_dflt jx_mt d) 6 (0, [(0, .ref a0)], [], h)).trans rfl)
-- RoomTrees.minor(I)I
set_option maxRecDepth 100000 in
theorem je_13 (rc : Nat → Nat × (Nat → Int32)) (d : Nat) (a0 : Nat) (x1 : Int32) (h : jxH) : jx_C rc (d + 1) 13 [.ref a0, .int x1] h =
  if jx_is (jx_at h a0) 11 = true then
  (jx_gR (jx_at h a0) 11 1).bind fun b1 =>
  (jx_gI (jx_at h b1) 1 2).bind fun v2 =>
  if (x1 &&& (v2 ^^^ (-1 : Int32))) = 0 then
    (jx_gR (jx_at h a0) 11 6).bind fun b3 =>
    (jx_gR (jx_at h a0) 11 1).bind fun b4 =>
    jx_cL (jx_C rc d 249 [.ref b3, .ref b4, .int x1] h) fun v6 h5 =>
    jx_cI (jx_C rc d 54 [.ref a0, .long v6] h5) fun v8 h7 =>
    some (some (.int v8), h7)
  else
    jx_cI (jx_C rc d 53 [.ref a0, .int (1 : Int32)] h) fun v10 h9 =>
    some (some (.int v10), h9)
  else none :=
  jx_enter ((jx_G_run (jx_X_grows rc jx_dflt jx_mt d) 23 (0, [(0, .ref a0), (1, .int x1)], [], h)).trans rfl)
-- RoomTrees.det()I
set_option maxRecDepth 100000 in
theorem je_14 (rc : Nat → Nat × (Nat → Int32)) (d : Nat) (a0 : Nat) (h : jxH) : jx_C rc (d + 1) 14 [.ref a0] h =
  if jx_is (jx_at h a0) 11 = true then
  (jx_gR (jx_at h a0) 11 6).bind fun b1 =>
  (jx_gR (jx_at h a0) 11 1).bind fun b2 =>
  (jx_gR (jx_at h a0) 11 1).bind fun b3 =>
  (jx_gI (jx_at h b3) 1 2).bind fun v4 =>
  jx_cL (jx_C rc d 249 [.ref b1, .ref b2, .int v4] h) fun v6 h5 =>
  jx_cI (jx_C rc d 54 [.ref a0, .long v6] h5) fun v8 h7 =>
  some (some (.int v8), h7)
  else none :=
  jx_enter ((jx_G_run (jx_X_grows rc jx_dflt jx_mt d) 13 (0, [(0, .ref a0)], [], h)).trans rfl)
-- RoomTrees.link(III)I
set_option maxRecDepth 100000 in
theorem je_15 (rc : Nat → Nat × (Nat → Int32)) (d : Nat) (a0 : Nat) (x1 : Int32) (x2 : Int32) (x3 : Int32) (h : jxH) : jx_C rc (d + 1) 15 [.ref a0, .int x1, .int x2, .int x3] h =
  if jx_is (jx_at h a0) 11 = true then
  (jx_gR (jx_at h a0) 11 1).bind fun b1 =>
  jx_cI (jx_C rc d 226 [.ref b1, .int x1] h) fun v3 h2 =>
  if v3 = 0 then
    jx_cI (jx_C rc d 53 [.ref a0, .int (1 : Int32)] h2) fun v5 h4 =>
    some (some (.int v5), h4)
  else
    (jx_gR (jx_at h2 a0) 11 1).bind fun b6 =>
    jx_cI (jx_C rc d 226 [.ref b6, .int x2] h2) fun v8 h7 =>
    if v8 = 0 then
      jx_cI (jx_C rc d 53 [.ref a0, .int (1 : Int32)] h7) fun v10 h9 =>
      some (some (.int v10), h9)
    else
      jx_cI (jx_C rc d 62 [.int x3] h7) fun v12 h11 =>
      if v12 = 0 then
        jx_cI (jx_C rc d 53 [.ref a0, .int (1 : Int32)] h11) fun v14 h13 =>
        some (some (.int v14), h13)
      else
        (jx_gR (jx_at h11 a0) 11 6).bind fun b15 =>
        (jx_gR (jx_at h11 a0) 11 1).bind fun b16 =>
        jx_cI (jx_C rc d 253 [.ref b15, .ref b16, .int x1, .int x2] h11) fun v18 h17 =>
        if v18 = 0 then
          jx_cI (jx_C rc d 53 [.ref a0, .int (3 : Int32)] h17) fun v20 h19 =>
          some (some (.int v20), h19)
        else
          if x3 = 0 then
            (jx_gR (jx_at h17 a0) 11 6).bind fun b21 =>
            (jx_gL (jx_at h17 b21) 2 4).bind fun v22 =>
            jx_cI (jx_C rc d 54 [.ref a0, .long v22] h17) fun v24 h23 =>
            some (some (.int v24), h23)
          else
            (jx_gR (jx_at h17 a0) 11 6).bind fun b25 =>
            (jx_gL (jx_at h17 b25) 2 5).bind fun v26 =>
            jx_cI (jx_C rc d 54 [.ref a0, .long v26] h17) fun v28 h27 =>
            some (some (.int v28), h27)
  else none :=
  jx_enter ((jx_G_run (jx_X_grows rc jx_dflt jx_mt d) 43 (0, [(0, .ref a0), (1, .int x1), (2, .int x2), (3, .int x3)], [], h)).trans rfl)
-- RoomTrees.inertia(I)I
set_option maxRecDepth 100000 in
theorem je_16 (rc : Nat → Nat × (Nat → Int32)) (d : Nat) (a0 : Nat) (x1 : Int32) (h : jxH) : jx_C rc (d + 1) 16 [.ref a0, .int x1] h =
  if jx_is (jx_at h a0) 11 = true then
  if x1 < 0 then
    jx_cI (jx_C rc d 53 [.ref a0, .int (1 : Int32)] h) fun v2 h1 =>
    some (some (.int v2), h1)
  else
    if x1 ≤ (2 : Int32) then
      (jx_gR (jx_at h a0) 11 6).bind fun b3 =>
      (jx_gR (jx_at h a0) 11 1).bind fun b4 =>
      jx_cV (jx_C rc d 256 [.ref b3, .ref b4, .int (0 : Int32)] h) fun h5 =>
      if x1 = 0 then
        (jx_gR (jx_at h5 a0) 11 6).bind fun b6 =>
        (jx_gI (jx_at h5 b6) 2 7).bind fun v7 =>
        some (some (.int v7), h5)
      else
        if x1 = (1 : Int32) then
          (jx_gR (jx_at h5 a0) 11 6).bind fun b8 =>
          (jx_gI (jx_at h5 b8) 2 8).bind fun v9 =>
          some (some (.int v9), h5)
        else
          (jx_gR (jx_at h5 a0) 11 6).bind fun b10 =>
          (jx_gI (jx_at h5 b10) 2 9).bind fun v11 =>
          some (some (.int v11), h5)
    else
      jx_cI (jx_C rc d 53 [.ref a0, .int (1 : Int32)] h) fun v13 h12 =>
      some (some (.int v13), h12)
  else none :=
  jx_enter ((jx_G_run (jx_X_grows rc jx_dflt jx_mt d) 34 (0, [(0, .ref a0), (1, .int x1)], [], h)).trans rfl)
-- RoomTrees.kernel(I)I
set_option maxRecDepth 100000 in
theorem je_17 (rc : Nat → Nat × (Nat → Int32)) (d : Nat) (a0 : Nat) (x1 : Int32) (h : jxH) : jx_C rc (d + 1) 17 [.ref a0, .int x1] h =
  if jx_is (jx_at h a0) 11 = true then
  jx_cI (jx_C rc d 63 [.int x1] h) fun v2 h1 =>
  if v2 = 0 then
    jx_cI (jx_C rc d 53 [.ref a0, .int (1 : Int32)] h1) fun v4 h3 =>
    some (some (.int v4), h3)
  else
    (jx_gR (jx_at h1 a0) 11 6).bind fun b5 =>
    (jx_gR (jx_at h1 a0) 11 1).bind fun b6 =>
    jx_cV (jx_C rc d 256 [.ref b5, .ref b6, .int x1] h1) fun h7 =>
    (jx_gR (jx_at h7 a0) 11 6).bind fun b8 =>
    (jx_gI (jx_at h7 b8) 2 9).bind fun v9 =>
    some (some (.int v9), h7)
  else none :=
  jx_enter ((jx_G_run (jx_X_grows rc jx_dflt jx_mt d) 19 (0, [(0, .ref a0), (1, .int x1)], [], h)).trans rfl)
-- RoomTrees.wu(I)I
set_option maxRecDepth 100000 in
theorem je_18 (rc : Nat → Nat × (Nat → Int32)) (d : Nat) (a0 : Nat) (x1 : Int32) (h : jxH) : jx_C rc (d + 1) 18 [.ref a0, .int x1] h =
  if jx_is (jx_at h a0) 11 = true then
  jx_cI (jx_C rc d 62 [.int x1] h) fun v2 h1 =>
  if v2 = 0 then
    jx_cI (jx_C rc d 53 [.ref a0, .int (1 : Int32)] h1) fun v4 h3 =>
    some (some (.int v4), h3)
  else
    (jx_gR (jx_at h1 a0) 11 6).bind fun b5 =>
    (jx_gR (jx_at h1 a0) 11 1).bind fun b6 =>
    jx_cV (jx_C rc d 258 [.ref b5, .ref b6] h1) fun h7 =>
    if x1 = 0 then
      (jx_gR (jx_at h7 a0) 11 6).bind fun b8 =>
      (jx_gI (jx_at h7 b8) 2 10).bind fun v9 =>
      some (some (.int ((1 : Int32) <<< (v9 &&& 31))), h7)
    else
      (jx_gR (jx_at h7 a0) 11 6).bind fun b10 =>
      (jx_gI (jx_at h7 b10) 2 11).bind fun v11 =>
      some (some (.int v11), h7)
  else none :=
  jx_enter ((jx_G_run (jx_X_grows rc jx_dflt jx_mt d) 26 (0, [(0, .ref a0), (1, .int x1)], [], h)).trans rfl)
-- RoomTrees.mu()I
set_option maxRecDepth 100000 in
theorem je_19 (rc : Nat → Nat × (Nat → Int32)) (d : Nat) (a0 : Nat) (h : jxH) : jx_C rc (d + 1) 19 [.ref a0] h =
  if jx_is (jx_at h a0) 11 = true then
  (jx_gR (jx_at h a0) 11 6).bind fun b1 =>
  (jx_gR (jx_at h a0) 11 1).bind fun b2 =>
  (jx_gR (jx_at h a0) 11 1).bind fun b3 =>
  (jx_gI (jx_at h b3) 1 2).bind fun v4 =>
  jx_cL (jx_C rc d 249 [.ref b1, .ref b2, .int v4] h) fun v6 h5 =>
  if (lg_cmp (v6 &&& (1 : Int64)) (0 : Int64)) = 0 then
    jx_cI (jx_C rc d 53 [.ref a0, .int (3 : Int32)] h5) fun v8 h7 =>
    some (some (.int v8), h7)
  else
    (jx_gR (jx_at h5 a0) 11 6).bind fun b9 =>
    (jx_gR (jx_at h5 a0) 11 1).bind fun b10 =>
    jx_cV (jx_C rc d 256 [.ref b9, .ref b10, .int (0 : Int32)] h5) fun h11 =>
    (jx_gR (jx_at h11 a0) 11 6).bind fun b12 =>
    (jx_gR (jx_at h11 a0) 11 1).bind fun b13 =>
    jx_cV (jx_C rc d 258 [.ref b12, .ref b13] h11) fun h14 =>
    (jx_gR (jx_at h14 a0) 11 6).bind fun b15 =>
    (jx_gI (jx_at h14 b15) 2 7).bind fun v16 =>
    (jx_gR (jx_at h14 a0) 11 6).bind fun b17 =>
    (jx_gI (jx_at h14 b17) 2 8).bind fun v18 =>
    (jx_gR (jx_at h14 a0) 11 1).bind fun b19 =>
    (jx_gR (jx_at h14 a0) 11 6).bind fun b20 =>
    (jx_gI (jx_at h14 b20) 2 11).bind fun v21 =>
    jx_cI (jx_C rc d 236 [.ref b19, .int v21] h14) fun v23 h22 =>
    some (some (.int ((v16 - v18) - v23)), h22)
  else none :=
  jx_enter ((jx_G_run (jx_X_grows rc jx_dflt jx_mt d) 45 (0, [(0, .ref a0)], [], h)).trans rfl)
-- RoomTrees.fraction(III)I
set_option maxRecDepth 100000 in
theorem je_20 (rc : Nat → Nat × (Nat → Int32)) (d : Nat) (a0 : Nat) (x1 : Int32) (x2 : Int32) (x3 : Int32) (h : jxH) : jx_C rc (d + 1) 20 [.ref a0, .int x1, .int x2, .int x3] h =
  if jx_is (jx_at h a0) 11 = true then
  (jx_gR (jx_at h a0) 11 1).bind fun b1 =>
  jx_cI (jx_C rc d 226 [.ref b1, .int x1] h) fun v3 h2 =>
  if v3 = 0 then
    jx_cI (jx_C rc d 53 [.ref a0, .int (1 : Int32)] h2) fun v5 h4 =>
    some (some (.int v5), h4)
  else
    (jx_gR (jx_at h2 a0) 11 1).bind fun b6 =>
    jx_cI (jx_C rc d 226 [.ref b6, .int x2] h2) fun v8 h7 =>
    if v8 = 0 then
      jx_cI (jx_C rc d 53 [.ref a0, .int (1 : Int32)] h7) fun v10 h9 =>
      some (some (.int v10), h9)
    else
      jx_cI (jx_C rc d 62 [.int x3] h7) fun v12 h11 =>
      if v12 = 0 then
        jx_cI (jx_C rc d 53 [.ref a0, .int (1 : Int32)] h11) fun v14 h13 =>
        some (some (.int v14), h13)
      else
        (jx_gR (jx_at h11 a0) 11 6).bind fun b15 =>
        (jx_gR (jx_at h11 a0) 11 1).bind fun b16 =>
        jx_cI (jx_C rc d 254 [.ref b15, .ref b16, .int x1, .int x2] h11) fun v18 h17 =>
        if v18 = 0 then
          jx_cI (jx_C rc d 53 [.ref a0, .int (2 : Int32)] h17) fun v20 h19 =>
          some (some (.int v20), h19)
        else
          if x3 = 0 then
            (jx_gR (jx_at h17 a0) 11 6).bind fun b21 =>
            (jx_gL (jx_at h17 b21) 2 4).bind fun v22 =>
            jx_cI (jx_C rc d 54 [.ref a0, .long v22] h17) fun v24 h23 =>
            some (some (.int v24), h23)
          else
            (jx_gR (jx_at h17 a0) 11 6).bind fun b25 =>
            (jx_gL (jx_at h17 b25) 2 5).bind fun v26 =>
            jx_cI (jx_C rc d 54 [.ref a0, .long v26] h17) fun v28 h27 =>
            some (some (.int v28), h27)
  else none :=
  jx_enter ((jx_G_run (jx_X_grows rc jx_dflt jx_mt d) 43 (0, [(0, .ref a0), (1, .int x1), (2, .int x2), (3, .int x3)], [], h)).trans rfl)
-- RoomTrees.room(II)I
set_option maxRecDepth 100000 in
theorem je_21 (rc : Nat → Nat × (Nat → Int32)) (d : Nat) (a0 : Nat) (x1 : Int32) (x2 : Int32) (h : jxH) : jx_C rc (d + 1) 21 [.ref a0, .int x1, .int x2] h =
  if jx_is (jx_at h a0) 11 = true then
  (jx_gR (jx_at h a0) 11 1).bind fun b1 =>
  jx_cI (jx_C rc d 226 [.ref b1, .int x1] h) fun v3 h2 =>
  if v3 = 0 then
    jx_cI (jx_C rc d 53 [.ref a0, .int (1 : Int32)] h2) fun v5 h4 =>
    some (some (.int v5), h4)
  else
    jx_cI (jx_C rc d 62 [.int x2] h2) fun v7 h6 =>
    if v7 = 0 then
      jx_cI (jx_C rc d 53 [.ref a0, .int (1 : Int32)] h6) fun v9 h8 =>
      some (some (.int v9), h8)
    else
      jx_cI (jx_C rc d 56 [.ref a0, .int x1] h6) fun v11 h10 =>
      (jx_gR (jx_at h10 a0) 11 1).bind fun b12 =>
      jx_cI (jx_C rc d 235 [.ref b12, .int v11] h10) fun v14 h13 =>
      if v14 = 0 then
        jx_cI (jx_C rc d 53 [.ref a0, .int (3 : Int32)] h13) fun v16 h15 =>
        some (some (.int v16), h15)
      else
        (jx_gR (jx_at h13 a0) 11 6).bind fun b17 =>
        (jx_gR (jx_at h13 a0) 11 1).bind fun b18 =>
        jx_cV (jx_C rc d 255 [.ref b17, .ref b18, .int v11] h13) fun h19 =>
        (jx_gR (jx_at h19 a0) 11 6).bind fun b20 =>
        (jx_gL (jx_at h19 b20) 2 4).bind fun v21 =>
        if (lg_cmp v21 (1073741823 : Int64)) ≤ 0 then
          if x2 = 0 then
            (jx_gR (jx_at h19 a0) 11 6).bind fun b22 =>
            (jx_gL (jx_at h19 b22) 2 4).bind fun v23 =>
            jx_cI (jx_C rc d 54 [.ref a0, .long v23] h19) fun v25 h24 =>
            some (some (.int v25), h24)
          else
            (jx_gR (jx_at h19 a0) 11 6).bind fun b26 =>
            (jx_gL (jx_at h19 b26) 2 5).bind fun v27 =>
            jx_cI (jx_C rc d 54 [.ref a0, .long v27] h19) fun v29 h28 =>
            some (some (.int v29), h28)
        else
          jx_cI (jx_C rc d 53 [.ref a0, .int (5 : Int32)] h19) fun v31 h30 =>
          some (some (.int v31), h30)
  else none :=
  jx_enter ((jx_G_run (jx_X_grows rc jx_dflt jx_mt d) 55 (0, [(0, .ref a0), (1, .int x1), (2, .int x2)], [], h)).trans rfl)
-- RoomTrees.oneRoom(II)I
set_option maxRecDepth 100000 in
theorem je_22 (rc : Nat → Nat × (Nat → Int32)) (d : Nat) (a0 : Nat) (x1 : Int32) (x2 : Int32) (h : jxH) : jx_C rc (d + 1) 22 [.ref a0, .int x1, .int x2] h =
  if jx_is (jx_at h a0) 11 = true then
  (jx_gR (jx_at h a0) 11 1).bind fun b1 =>
  jx_cI (jx_C rc d 226 [.ref b1, .int x1] h) fun v3 h2 =>
  if v3 = 0 then
    jx_cI (jx_C rc d 53 [.ref a0, .int (1 : Int32)] h2) fun v5 h4 =>
    some (some (.int v5), h4)
  else
    (jx_gR (jx_at h2 a0) 11 1).bind fun b6 =>
    jx_cI (jx_C rc d 226 [.ref b6, .int x2] h2) fun v8 h7 =>
    if v8 = 0 then
      jx_cI (jx_C rc d 53 [.ref a0, .int (1 : Int32)] h7) fun v10 h9 =>
      some (some (.int v10), h9)
    else
      jx_cI (jx_C rc d 56 [.ref a0, .int x1] h7) fun v12 h11 =>
      jx_cI (jx_C rc d 56 [.ref a0, .int x2] h11) fun v14 h13 =>
      (jx_gR (jx_at h13 a0) 11 1).bind fun b15 =>
      jx_cI (jx_C rc d 235 [.ref b15, .int v12] h13) fun v17 h16 =>
      if v17 = 0 then
        jx_cI (jx_C rc d 53 [.ref a0, .int (3 : Int32)] h16) fun v19 h18 =>
        some (some (.int v19), h18)
      else
        (jx_gR (jx_at h16 a0) 11 1).bind fun b20 =>
        jx_cI (jx_C rc d 235 [.ref b20, .int v14] h16) fun v22 h21 =>
        if v22 = 0 then
          jx_cI (jx_C rc d 53 [.ref a0, .int (3 : Int32)] h21) fun v24 h23 =>
          some (some (.int v24), h23)
        else
          (jx_gR (jx_at h21 a0) 11 6).bind fun b25 =>
          (jx_gR (jx_at h21 a0) 11 1).bind fun b26 =>
          jx_cV (jx_C rc d 255 [.ref b25, .ref b26, .int v12] h21) fun h27 =>
          (jx_gR (jx_at h27 a0) 11 6).bind fun b28 =>
          (jx_gL (jx_at h27 b28) 2 4).bind fun v29 =>
          (jx_gR (jx_at h27 a0) 11 6).bind fun b30 =>
          (jx_gL (jx_at h27 b30) 2 5).bind fun v31 =>
          (jx_gR (jx_at h27 a0) 11 6).bind fun b32 =>
          (jx_gR (jx_at h27 a0) 11 1).bind fun b33 =>
          jx_cV (jx_C rc d 255 [.ref b32, .ref b33, .int v14] h27) fun h34 =>
          if 0 < (lg_cmp v29 (1073741823 : Int64)) then
            jx_cI (jx_C rc d 53 [.ref a0, .int (5 : Int32)] h34) fun v36 h35 =>
            some (some (.int v36), h35)
          else
            (jx_gR (jx_at h34 a0) 11 6).bind fun b37 =>
            (jx_gL (jx_at h34 b37) 2 4).bind fun v38 =>
            if (lg_cmp v38 (1073741823 : Int64)) ≤ 0 then
              (jx_gR (jx_at h34 a0) 11 6).bind fun b39 =>
              (jx_gL (jx_at h34 b39) 2 4).bind fun v40 =>
              if (lg_cmp v29 v40) = 0 then
                (jx_gR (jx_at h34 a0) 11 6).bind fun b41 =>
                (jx_gL (jx_at h34 b41) 2 5).bind fun v42 =>
                if (lg_cmp v31 v42) = 0 then
                  some (some (.int (1 : Int32)), h34)
                else
                  if (lg_cmp v29 (0 : Int64)) ≤ 0 then
                    some (some (.int (0 : Int32)), h34)
                  else
                    (jx_gR (jx_at h34 a0) 11 6).bind fun b43 =>
                    (jx_gL (jx_at h34 b43) 2 5).bind fun v44 =>
                    if v29 = 0 then none else if (lg_cmp ((v31 * v44) - (v31 * v44) / v29 * v29) (1 : Int64)) = 0 then
                      some (some (.int (1 : Int32)), h34)
                    else
                      some (some (.int (0 : Int32)), h34)
              else
                some (some (.int (0 : Int32)), h34)
            else
              jx_cI (jx_C rc d 53 [.ref a0, .int (5 : Int32)] h34) fun v46 h45 =>
              some (some (.int v46), h45)
  else none :=
  jx_enter ((jx_G_run (jx_X_grows rc jx_dflt jx_mt d) 106 (0, [(0, .ref a0), (1, .int x1), (2, .int x2)], [], h)).trans rfl)
-- RoomTrees.chain(III)I
set_option maxRecDepth 100000 in
theorem je_23 (rc : Nat → Nat × (Nat → Int32)) (d : Nat) (a0 : Nat) (x1 : Int32) (x2 : Int32) (x3 : Int32) (h : jxH) : jx_C rc (d + 1) 23 [.ref a0, .int x1, .int x2, .int x3] h =
  if jx_is (jx_at h a0) 11 = true then
  jx_cI (jx_C rc d 66 [.int x1, .int x2] h) fun v2 h1 =>
  if v2 = 0 then
    jx_cI (jx_C rc d 53 [.ref a0, .int (1 : Int32)] h1) fun v4 h3 =>
    some (some (.int v4), h3)
  else
    if (-1 : Int32) ≤ x3 then
      jx_cL (jx_C rc d 69 [.long (x1).toInt64, .long (x2).toInt64] h1) fun v6 h5 =>
      if (lg_cmp v6 (1 : Int64)) = 0 then
        jx_cI (jx_C rc d 70 [.int x1, .int x2, .int x3] h5) fun v8 h7 =>
        if v8 = 0 then
          jx_cI (jx_C rc d 53 [.ref a0, .int (2 : Int32)] h7) fun v10 h9 =>
          some (some (.int v10), h9)
        else
          some (some (.int v8), h7)
      else
        jx_cI (jx_C rc d 53 [.ref a0, .int (3 : Int32)] h5) fun v12 h11 =>
        some (some (.int v12), h11)
    else
      jx_cI (jx_C rc d 53 [.ref a0, .int (1 : Int32)] h1) fun v14 h13 =>
      some (some (.int v14), h13)
  else none :=
  jx_enter ((jx_G_run (jx_X_grows rc jx_dflt jx_mt d) 38 (0, [(0, .ref a0), (1, .int x1), (2, .int x2), (3, .int x3)], [], h)).trans rfl)
-- RoomTrees.plant(II)I
noncomputable def jb_24 (rc : Nat → Nat × (Nat → Int32)) (d : Nat) (i : Nat) (ls : List (Nat × Value)) (st : List Value) (h : jxH) : jxR := jx_G rc jx_dflt (jx_X rc jx_dflt jx_mt d) jc_24 (i, ls, st, h)
set_option maxRecDepth 100000 in
theorem je_24 (rc : Nat → Nat × (Nat → Int32)) (d : Nat) (a0 : Nat) (x1 : Int32) (x2 : Int32) (h : jxH) : jx_C rc (d + 1) 24 [.ref a0, .int x1, .int x2] h =
  if jx_is (jx_at h a0) 11 = true then
  jx_cI (jx_C rc d 66 [.int x1, .int x2] h) fun v2 h1 =>
  if v2 = 0 then
    jx_cI (jx_C rc d 53 [.ref a0, .int (1 : Int32)] h1) fun v4 h3 =>
    some (some (.int v4), h3)
  else
    jx_cL (jx_C rc d 69 [.long (x1).toInt64, .long (x2).toInt64] h1) fun v6 h5 =>
    if (lg_cmp v6 (1 : Int64)) = 0 then
      jx_cI (jx_C rc d 70 [.int x1, .int x2, .int (-1 : Int32)] h5) fun v8 h7 =>
      (jx_gR (jx_at h7 a0) 11 1).bind fun b9 =>
      jx_cI (jx_C rc d 227 [.ref b9] h7) fun v11 h10 =>
      if v8 ≤ ((12 : Int32) - v11) then
        jb_24 rc d 38 [(0, .ref a0), (1, .int x1), (2, .int x2), (3, .int v8), (4, .int (0 : Int32))] [] h10
      else
        jx_cI (jx_C rc d 53 [.ref a0, .int (4 : Int32)] h10) fun v13 h12 =>
        some (some (.int v13), h12)
    else
      jx_cI (jx_C rc d 53 [.ref a0, .int (3 : Int32)] h5) fun v15 h14 =>
      some (some (.int v15), h14)
  else none :=
  jx_enter ((jx_G_run (jx_X_grows rc jx_dflt jx_mt d) 95 (0, [(0, .ref a0), (1, .int x1), (2, .int x2)], [], h)).trans rfl)
set_option maxRecDepth 100000 in
theorem je_24_38 (rc : Nat → Nat × (Nat → Int32)) (d : Nat) (a0 : Nat) (x1 : Int32) (x2 : Int32) (x3 : Int32) (x4 : Int32) (h : jxH) : jb_24 rc d 38 [(0, .ref a0), (1, .int x1), (2, .int x2), (3, .int x3), (4, .int x4)] [] h =
  if x3 ≤ x4 then
    (jx_gR (jx_at h a0) 11 1).bind fun b1 =>
    jx_cI (jx_C rc d 70 [.int x1, .int x2, .int (0 : Int32)] h) fun v3 h2 =>
    jx_cI (jx_C rc d 240 [.ref b1, .int (-v3)] h2) fun v5 h4 =>
    jb_24 rc d 67 [(0, .ref a0), (1, .int x1), (2, .int x2), (3, .int x3), (4, .int v5), (5, .int v5), (6, .int (1 : Int32))] [] h4
  else
    jx_cI (jx_C rc d 70 [.int x1, .int x2, .int x4] h) fun v7 h6 =>
    jx_cI (jx_C rc d 61 [.int (-v7)] h6) fun v9 h8 =>
    if v9 = 0 then
      jx_cI (jx_C rc d 53 [.ref a0, .int (5 : Int32)] h8) fun v11 h10 =>
      some (some (.int v11), h10)
    else
      jb_24 rc d 38 [(0, .ref a0), (1, .int x1), (2, .int x2), (3, .int x3), (4, .int (x4 + (1 : Int32)))] [] h8 :=
  (jx_G_run (jx_X_grows rc jx_dflt jx_mt d) 95 _).trans rfl
set_option maxRecDepth 100000 in
theorem je_24_67 (rc : Nat → Nat × (Nat → Int32)) (d : Nat) (a0 : Nat) (x1 : Int32) (x2 : Int32) (x3 : Int32) (x4 : Int32) (x5 : Int32) (x6 : Int32) (h : jxH) : jb_24 rc d 67 [(0, .ref a0), (1, .int x1), (2, .int x2), (3, .int x3), (4, .int x4), (5, .int x5), (6, .int x6)] [] h =
  if x3 ≤ x6 then
    (jx_gR (jx_at h a0) 11 4).bind fun b1 =>
    jx_cV (jx_C rc d 313 [.ref b1] h) fun h2 =>
    some (some (.int x4), h2)
  else
    (jx_gR (jx_at h a0) 11 1).bind fun b3 =>
    jx_cI (jx_C rc d 70 [.int x1, .int x2, .int x6] h) fun v5 h4 =>
    jx_cI (jx_C rc d 240 [.ref b3, .int (-v5)] h4) fun v7 h6 =>
    (jx_gR (jx_at h6 a0) 11 1).bind fun b8 =>
    jx_cV (jx_C rc d 241 [.ref b8, .int x5, .int v7] h6) fun h9 =>
    jb_24 rc d 67 [(0, .ref a0), (1, .int x1), (2, .int x2), (3, .int x3), (4, .int x4), (5, .int v7), (6, .int (x6 + (1 : Int32)))] [] h9 :=
  (jx_G_run (jx_X_grows rc jx_dflt jx_mt d) 95 _).trans rfl
-- RoomTrees.feed(JI)I
noncomputable def jb_25 (rc : Nat → Nat × (Nat → Int32)) (d : Nat) (i : Nat) (ls : List (Nat × Value)) (st : List Value) (h : jxH) : jxR := jx_G rc jx_dflt (jx_X rc jx_dflt jx_mt d) jc_25 (i, ls, st, h)
set_option maxRecDepth 100000 in
theorem je_25 (rc : Nat → Nat × (Nat → Int32)) (d : Nat) (a0 : Nat) (x1 : Int64) (x3 : Int32) (h : jxH) : jx_C rc (d + 1) 25 [.ref a0, .long x1, .int x3] h =
  if jx_is (jx_at h a0) 11 = true then
  if x3 < (1 : Int32) then
    jx_cI (jx_C rc d 53 [.ref a0, .int (1 : Int32)] h) fun v2 h1 =>
    some (some (.int v2), h1)
  else
    if x3 ≤ (8 : Int32) then
      (jx_gR (jx_at h a0) 11 10).bind fun b3 =>
      (jx_gI (jx_at h b3) 7 2).bind fun v4 =>
      if (v4 + x3) ≤ (120 : Int32) then
        jb_25 rc d 23 [(0, .ref a0), (1, .long x1), (3, .int x3), (4, .int (0 : Int32))] [] h
      else
        jx_cI (jx_C rc d 53 [.ref a0, .int (4 : Int32)] h) fun v6 h5 =>
        some (some (.int v6), h5)
    else
      jx_cI (jx_C rc d 53 [.ref a0, .int (1 : Int32)] h) fun v8 h7 =>
      some (some (.int v8), h7)
  else none :=
  jx_enter ((jx_G_run (jx_X_grows rc jx_dflt jx_mt d) 45 (0, [(0, .ref a0), (1, .long x1), (3, .int x3)], [], h)).trans rfl)
set_option maxRecDepth 100000 in
theorem je_25_23 (rc : Nat → Nat × (Nat → Int32)) (d : Nat) (a0 : Nat) (x1 : Int64) (x3 : Int32) (x4 : Int32) (h : jxH) : jb_25 rc d 23 [(0, .ref a0), (1, .long x1), (3, .int x3), (4, .int x4)] [] h =
  if x3 ≤ x4 then
    (jx_gR (jx_at h a0) 11 10).bind fun b1 =>
    (jx_gI (jx_at h b1) 7 2).bind fun v2 =>
    some (some (.int v2), h)
  else
    (jx_gR (jx_at h a0) 11 10).bind fun b3 =>
    jx_cV (jx_C rc d 296 [.ref b3, .int (((x1 >>> ((((8 : Int32) * x4)).toInt64 &&& 63)) &&& (255 : Int64))).toInt32] h) fun h4 =>
    jb_25 rc d 23 [(0, .ref a0), (1, .long x1), (3, .int x3), (4, .int (x4 + (1 : Int32)))] [] h4 :=
  (jx_G_run (jx_X_grows rc jx_dflt jx_mt d) 45 _).trans rfl
-- RoomTrees.forest()I
set_option maxRecDepth 100000 in
theorem je_26 (rc : Nat → Nat × (Nat → Int32)) (d : Nat) (a0 : Nat) (h : jxH) : jx_C rc (d + 1) 26 [.ref a0] h =
  if jx_is (jx_at h a0) 11 = true then
  (jx_gR (jx_at h a0) 11 10).bind fun b1 =>
  (jx_gR (jx_at h a0) 11 2).bind fun b2 =>
  jx_cI (jx_C rc d 297 [.ref b1, .ref b2] h) fun v4 h3 =>
  (jx_gR (jx_at h3 a0) 11 10).bind fun b5 =>
  (jx_pF (jx_at h3 b5) 7 2 (.int (0 : Int32))).bind fun e6 =>
  if v4 < 0 then
    (jx_gR (jx_at (jx_set h3 b5 e6) a0) 11 2).bind fun b7 =>
    jx_cI (jx_C rc d 55 [.ref a0, .ref b7] (jx_set h3 b5 e6)) fun v9 h8 =>
    some (some (.int v9), h8)
  else
    some (some (.int ((-10 : Int32) - v4)), (jx_set h3 b5 e6))
  else none :=
  jx_enter ((jx_G_run (jx_X_grows rc jx_dflt jx_mt d) 23 (0, [(0, .ref a0)], [], h)).trans rfl)
-- RoomTrees.least(I)I
set_option maxRecDepth 100000 in
theorem je_27 (rc : Nat → Nat × (Nat → Int32)) (d : Nat) (a0 : Nat) (x1 : Int32) (h : jxH) : jx_C rc (d + 1) 27 [.ref a0, .int x1] h =
  if jx_is (jx_at h a0) 11 = true then
  if (-1 : Int32) ≤ x1 then
    (jx_gR (jx_at h a0) 11 7).bind fun b1 =>
    (jx_gR (jx_at h a0) 11 1).bind fun b2 =>
    (jx_gR (jx_at h a0) 11 8).bind fun b3 =>
    jx_cV (jx_C rc d 277 [.ref b1, .ref b2, .ref b3] h) fun h4 =>
    if x1 = (-1 : Int32) then
      (jx_gR (jx_at h4 a0) 11 8).bind fun b5 =>
      (jx_gI (jx_at h4 b5) 8 1).bind fun v6 =>
      some (some (.int v6), h4)
    else
      (jx_gR (jx_at h4 a0) 11 8).bind fun b7 =>
      (jx_gI (jx_at h4 b7) 8 1).bind fun v8 =>
      if v8 ≤ x1 then
        jx_cI (jx_C rc d 53 [.ref a0, .int (2 : Int32)] h4) fun v10 h9 =>
        some (some (.int v10), h9)
      else
        (jx_gR (jx_at h4 a0) 11 8).bind fun b11 =>
        jx_cI (jx_C rc d 308 [.ref b11, .int x1] h4) fun v13 h12 =>
        some (some (.int v13), h12)
  else
    jx_cI (jx_C rc d 53 [.ref a0, .int (1 : Int32)] h) fun v15 h14 =>
    some (some (.int v15), h14)
  else none :=
  jx_enter ((jx_G_run (jx_X_grows rc jx_dflt jx_mt d) 37 (0, [(0, .ref a0), (1, .int x1)], [], h)).trans rfl)
-- RoomTrees.keep(I)I
set_option maxRecDepth 100000 in
theorem je_28 (rc : Nat → Nat × (Nat → Int32)) (d : Nat) (a0 : Nat) (x1 : Int32) (h : jxH) : jx_C rc (d + 1) 28 [.ref a0, .int x1] h =
  if jx_is (jx_at h a0) 11 = true then
  if x1 < 0 then
    jx_cI (jx_C rc d 53 [.ref a0, .int (1 : Int32)] h) fun v2 h1 =>
    some (some (.int v2), h1)
  else
    if x1 < (4 : Int32) then
      jx_cV (jx_C rc d 223 [.ref h.1] (jx_new h 3 (.inl (1, jx_dflt 1)))) fun h3 =>
      (jx_gR (jx_at h3 a0) 11 1).bind fun b4 =>
      jx_cV (jx_C rc d 225 [.ref h.1, .ref b4] h3) fun h5 =>
      (jx_gR (jx_at h5 a0) 11 11).bind fun b6 =>
      if jx_is (jx_at h5 h.1) 1 = true then (jx_sQ (jx_at h5 b6) 4 x1 (some h.1)).bind fun e7 =>
      jx_cI (jx_C rc d 227 [.ref h.1] (jx_set h5 b6 e7)) fun v9 h8 =>
      some (some (.int v9), h8) else none
    else
      jx_cI (jx_C rc d 53 [.ref a0, .int (1 : Int32)] h) fun v11 h10 =>
      some (some (.int v11), h10)
  else none :=
  jx_enter ((jx_G_run (jx_X_grows rc jx_dflt jx_mt d) 27 (0, [(0, .ref a0), (1, .int x1)], [], h)).trans rfl)
-- RoomTrees.fetch(I)I
set_option maxRecDepth 100000 in
theorem je_29 (rc : Nat → Nat × (Nat → Int32)) (d : Nat) (a0 : Nat) (x1 : Int32) (h : jxH) : jx_C rc (d + 1) 29 [.ref a0, .int x1] h =
  if jx_is (jx_at h a0) 11 = true then
  if x1 < 0 then
    jx_cI (jx_C rc d 53 [.ref a0, .int (1 : Int32)] h) fun v2 h1 =>
    some (some (.int v2), h1)
  else
    if x1 < (4 : Int32) then
      (jx_gR (jx_at h a0) 11 11).bind fun b3 =>
      (jx_aQ (jx_at h b3) 4 x1).bind fun o4 =>
      jx_mo o4 (fun b5 => jx_cI (jx_C rc d 55 [.ref a0, .ref b5] h) fun v7 h6 =>
        some (some (.int v7), h6))
      (jx_cI (jx_C rc d 53 [.ref a0, .int (7 : Int32)] h) fun v9 h8 =>
        some (some (.int v9), h8))
    else
      jx_cI (jx_C rc d 53 [.ref a0, .int (1 : Int32)] h) fun v11 h10 =>
      some (some (.int v11), h10)
  else none :=
  jx_enter ((jx_G_run (jx_X_grows rc jx_dflt jx_mt d) 26 (0, [(0, .ref a0), (1, .int x1)], [], h)).trans rfl)
-- RoomTrees.drop(I)I
set_option maxRecDepth 100000 in
theorem je_30 (rc : Nat → Nat × (Nat → Int32)) (d : Nat) (a0 : Nat) (x1 : Int32) (h : jxH) : jx_C rc (d + 1) 30 [.ref a0, .int x1] h =
  if jx_is (jx_at h a0) 11 = true then
  if x1 < 0 then
    jx_cI (jx_C rc d 53 [.ref a0, .int (1 : Int32)] h) fun v2 h1 =>
    some (some (.int v2), h1)
  else
    if x1 < (4 : Int32) then
      (jx_gR (jx_at h a0) 11 11).bind fun b3 =>
      (jx_aQ (jx_at h b3) 4 x1).bind fun o4 =>
      jx_mo o4 (fun b5 => (jx_gR (jx_at h a0) 11 11).bind fun b6 =>
        (jx_sQ (jx_at h b6) 4 x1 none).bind fun e7 =>
        if (1 : Int32) = 0 then
          some (some (.int (0 : Int32)), (jx_set h b6 e7))
        else
          some (some (.int (1 : Int32)), (jx_set h b6 e7)))
      ((jx_gR (jx_at h a0) 11 11).bind fun b8 =>
        (jx_sQ (jx_at h b8) 4 x1 none).bind fun e9 =>
        if (0 : Int32) = 0 then
          some (some (.int (0 : Int32)), (jx_set h b8 e9))
        else
          some (some (.int (1 : Int32)), (jx_set h b8 e9)))
    else
      jx_cI (jx_C rc d 53 [.ref a0, .int (1 : Int32)] h) fun v11 h10 =>
      some (some (.int v11), h10)
  else none :=
  jx_enter ((jx_G_run (jx_X_grows rc jx_dflt jx_mt d) 31 (0, [(0, .ref a0), (1, .int x1)], [], h)).trans rfl)
-- RoomTrees.alike(I)I
set_option maxRecDepth 100000 in
theorem je_31 (rc : Nat → Nat × (Nat → Int32)) (d : Nat) (a0 : Nat) (x1 : Int32) (h : jxH) : jx_C rc (d + 1) 31 [.ref a0, .int x1] h =
  if jx_is (jx_at h a0) 11 = true then
  if x1 < 0 then
    jx_cI (jx_C rc d 53 [.ref a0, .int (1 : Int32)] h) fun v2 h1 =>
    some (some (.int v2), h1)
  else
    if x1 < (4 : Int32) then
      (jx_gR (jx_at h a0) 11 11).bind fun b3 =>
      (jx_aQ (jx_at h b3) 4 x1).bind fun o4 =>
      jx_mo o4 (fun b5 => (jx_gR (jx_at h a0) 11 9).bind fun b6 =>
        jx_cV (jx_C rc d 268 [.ref b6, .ref b5] h) fun h7 =>
        (jx_gR (jx_at h7 a0) 11 9).bind fun b8 =>
        (jx_gR (jx_at h7 a0) 11 1).bind fun b9 =>
        jx_cI (jx_C rc d 269 [.ref b8, .ref b9] h7) fun v11 h10 =>
        if v11 = 0 then
          some (some (.int (0 : Int32)), h10)
        else
          some (some (.int (1 : Int32)), h10))
      (jx_cI (jx_C rc d 53 [.ref a0, .int (7 : Int32)] h) fun v13 h12 =>
        some (some (.int v13), h12))
    else
      jx_cI (jx_C rc d 53 [.ref a0, .int (1 : Int32)] h) fun v15 h14 =>
      some (some (.int v15), h14)
  else none :=
  jx_enter ((jx_G_run (jx_X_grows rc jx_dflt jx_mt d) 36 (0, [(0, .ref a0), (1, .int x1)], [], h)).trans rfl)
-- RoomTrees.worker(II)I
set_option maxRecDepth 100000 in
theorem je_32 (rc : Nat → Nat × (Nat → Int32)) (d : Nat) (a0 : Nat) (x1 : Int32) (x2 : Int32) (h : jxH) : jx_C rc (d + 1) 32 [.ref a0, .int x1, .int x2] h =
  if jx_is (jx_at h a0) 11 = true then
  jx_cI (jx_C rc d 64 [.int x1] h) fun v2 h1 =>
  if v2 = 0 then
    jx_cI (jx_C rc d 53 [.ref a0, .int (1 : Int32)] h1) fun v4 h3 =>
    some (some (.int v4), h3)
  else
    jx_cI (jx_C rc d 65 [.int x2] h1) fun v6 h5 =>
    if v6 = 0 then
      jx_cI (jx_C rc d 53 [.ref a0, .int (1 : Int32)] h5) fun v8 h7 =>
      some (some (.int v8), h7)
    else
      (jx_gR (jx_at h5 a0) 11 13).bind fun b9 =>
      jx_cI (jx_C rc d 213 [.ref b9, .int x1, .int x2] h5) fun v11 h10 =>
      if 0 ≤ v11 then
        some (some (.int v11), h10)
      else
        jx_cI (jx_C rc d 53 [.ref a0, .int (4 : Int32)] h10) fun v13 h12 =>
        some (some (.int v13), h12)
  else none :=
  jx_enter ((jx_G_run (jx_X_grows rc jx_dflt jx_mt d) 26 (0, [(0, .ref a0), (1, .int x1), (2, .int x2)], [], h)).trans rfl)
-- RoomTrees.workerIs(II)I
set_option maxRecDepth 100000 in
theorem je_33 (rc : Nat → Nat × (Nat → Int32)) (d : Nat) (a0 : Nat) (x1 : Int32) (x2 : Int32) (h : jxH) : jx_C rc (d + 1) 33 [.ref a0, .int x1, .int x2] h =
  if jx_is (jx_at h a0) 11 = true then
  (jx_gR (jx_at h a0) 11 13).bind fun b1 =>
  jx_cI (jx_C rc d 212 [.ref b1, .int x1] h) fun v3 h2 =>
  if v3 = 0 then
    jx_cI (jx_C rc d 53 [.ref a0, .int (1 : Int32)] h2) fun v5 h4 =>
    some (some (.int v5), h4)
  else
    if x2 = (0 : Int32) then
      (jx_gR (jx_at h2 a0) 11 13).bind fun b6 =>
      jx_cI (jx_C rc d 216 [.ref b6, .int x1] h2) fun v8 h7 =>
      some (some (.int v8), h7)
    else if x2 = ((0 : Int32) + 1) then
      (jx_gR (jx_at h2 a0) 11 13).bind fun b9 =>
      jx_cI (jx_C rc d 217 [.ref b9, .int x1] h2) fun v11 h10 =>
      some (some (.int v11), h10)
    else if x2 = (((0 : Int32) + 1) + 1) then
      (jx_gR (jx_at h2 a0) 11 13).bind fun b12 =>
      jx_cI (jx_C rc d 218 [.ref b12, .int x1] h2) fun v14 h13 =>
      some (some (.int v14), h13)
    else if x2 = ((((0 : Int32) + 1) + 1) + 1) then
      (jx_gR (jx_at h2 a0) 11 13).bind fun b15 =>
      jx_cI (jx_C rc d 216 [.ref b15, .int x1] h2) fun v17 h16 =>
      (jx_gR (jx_at h16 a0) 11 13).bind fun b18 =>
      jx_cI (jx_C rc d 217 [.ref b18, .int x1] h16) fun v20 h19 =>
      jx_cI (jx_C rc d 221 [.int v17, .int v20] h19) fun v22 h21 =>
      some (some (.int v22), h21)
    else 
      jx_cI (jx_C rc d 53 [.ref a0, .int (1 : Int32)] h2) fun v24 h23 =>
      some (some (.int v24), h23)
  else none :=
  jx_enter ((jx_G_run (jx_X_grows rc jx_dflt jx_mt d) 42 (0, [(0, .ref a0), (1, .int x1), (2, .int x2)], [], h)).trans rfl)
-- RoomTrees.become(II)I
set_option maxRecDepth 100000 in
theorem je_34 (rc : Nat → Nat × (Nat → Int32)) (d : Nat) (a0 : Nat) (x1 : Int32) (x2 : Int32) (h : jxH) : jx_C rc (d + 1) 34 [.ref a0, .int x1, .int x2] h =
  if jx_is (jx_at h a0) 11 = true then
  (jx_gR (jx_at h a0) 11 13).bind fun b1 =>
  jx_cI (jx_C rc d 212 [.ref b1, .int x1] h) fun v3 h2 =>
  if v3 = 0 then
    jx_cI (jx_C rc d 53 [.ref a0, .int (1 : Int32)] h2) fun v5 h4 =>
    some (some (.int v5), h4)
  else
    jx_cI (jx_C rc d 64 [.int x2] h2) fun v7 h6 =>
    if v7 = 0 then
      jx_cI (jx_C rc d 53 [.ref a0, .int (1 : Int32)] h6) fun v9 h8 =>
      some (some (.int v9), h8)
    else
      (jx_gR (jx_at h6 a0) 11 13).bind fun b10 =>
      jx_cI (jx_C rc d 216 [.ref b10, .int x1] h6) fun v12 h11 =>
      (jx_gR (jx_at h11 a0) 11 13).bind fun b13 =>
      jx_cV (jx_C rc d 214 [.ref b13, .int x1, .int x2] h11) fun h14 =>
      some (some (.int v12), h14)
  else none :=
  jx_enter ((jx_G_run (jx_X_grows rc jx_dflt jx_mt d) 26 (0, [(0, .ref a0), (1, .int x1), (2, .int x2)], [], h)).trans rfl)
-- RoomTrees.as(II)I
set_option maxRecDepth 100000 in
theorem je_35 (rc : Nat → Nat × (Nat → Int32)) (d : Nat) (a0 : Nat) (x1 : Int32) (x2 : Int32) (h : jxH) : jx_C rc (d + 1) 35 [.ref a0, .int x1, .int x2] h =
  if jx_is (jx_at h a0) 11 = true then
  (jx_gR (jx_at h a0) 11 13).bind fun b1 =>
  jx_cI (jx_C rc d 212 [.ref b1, .int x1] h) fun v3 h2 =>
  if v3 = 0 then
    jx_cI (jx_C rc d 53 [.ref a0, .int (1 : Int32)] h2) fun v5 h4 =>
    some (some (.int v5), h4)
  else
    jx_cI (jx_C rc d 64 [.int x2] h2) fun v7 h6 =>
    if v7 = 0 then
      jx_cI (jx_C rc d 53 [.ref a0, .int (1 : Int32)] h6) fun v9 h8 =>
      some (some (.int v9), h8)
    else
      (jx_gR (jx_at h6 a0) 11 13).bind fun b10 =>
      jx_cI (jx_C rc d 216 [.ref b10, .int x1] h6) fun v12 h11 =>
      jx_cI (jx_C rc d 220 [.int v12, .int x2] h11) fun v14 h13 =>
      if v14 = 0 then
        jx_cI (jx_C rc d 53 [.ref a0, .int (6 : Int32)] h13) fun v16 h15 =>
        some (some (.int v16), h15)
      else
        (jx_gR (jx_at h13 a0) 11 13).bind fun b17 =>
        jx_cI (jx_C rc d 217 [.ref b17, .int x1] h13) fun v19 h18 =>
        some (some (.int v19), h18)
  else none :=
  jx_enter ((jx_G_run (jx_X_grows rc jx_dflt jx_mt d) 30 (0, [(0, .ref a0), (1, .int x1), (2, .int x2)], [], h)).trans rfl)
-- RoomTrees.next(II)I
set_option maxRecDepth 100000 in
theorem je_36 (rc : Nat → Nat × (Nat → Int32)) (d : Nat) (a0 : Nat) (x1 : Int32) (x2 : Int32) (h : jxH) : jx_C rc (d + 1) 36 [.ref a0, .int x1, .int x2] h =
  if jx_is (jx_at h a0) 11 = true then
  (jx_gR (jx_at h a0) 11 13).bind fun b1 =>
  jx_cI (jx_C rc d 212 [.ref b1, .int x1] h) fun v3 h2 =>
  if v3 = 0 then
    jx_cI (jx_C rc d 53 [.ref a0, .int (1 : Int32)] h2) fun v5 h4 =>
    some (some (.int v5), h4)
  else
    jx_cI (jx_C rc d 62 [.int x2] h2) fun v7 h6 =>
    if v7 = 0 then
      jx_cI (jx_C rc d 53 [.ref a0, .int (1 : Int32)] h6) fun v9 h8 =>
      some (some (.int v9), h8)
    else
      (jx_gR (jx_at h6 a0) 11 3).bind fun b10 =>
      (jx_gR (jx_at h6 a0) 11 1).bind fun b11 =>
      (jx_gR (jx_at h6 a0) 11 13).bind fun b12 =>
      jx_cI (jx_C rc d 216 [.ref b12, .int x1] h6) fun v14 h13 =>
      (jx_gR (jx_at h13 a0) 11 13).bind fun b15 =>
      jx_cI (jx_C rc d 217 [.ref b15, .int x1] h13) fun v17 h16 =>
      jx_cI (jx_C rc d 222 [.ref b10, .ref b11, .int v14, .int v17] h16) fun v19 h18 =>
      if v19 = 0 then
        jx_cI (jx_C rc d 53 [.ref a0, .int (2 : Int32)] h18) fun v21 h20 =>
        some (some (.int v21), h20)
      else
        if x2 = 0 then
          (jx_gR (jx_at h18 a0) 11 3).bind fun b22 =>
          (jx_gI (jx_at h18 b22) 6 0).bind fun v23 =>
          some (some (.int v23), h18)
        else
          (jx_gR (jx_at h18 a0) 11 3).bind fun b24 =>
          (jx_gI (jx_at h18 b24) 6 1).bind fun v25 =>
          some (some (.int v25), h18)
  else none :=
  jx_enter ((jx_G_run (jx_X_grows rc jx_dflt jx_mt d) 42 (0, [(0, .ref a0), (1, .int x1), (2, .int x2)], [], h)).trans rfl)
-- RoomTrees.work(II)I
noncomputable def jb_37 (rc : Nat → Nat × (Nat → Int32)) (d : Nat) (i : Nat) (ls : List (Nat × Value)) (st : List Value) (h : jxH) : jxR := jx_G rc jx_dflt (jx_X rc jx_dflt jx_mt d) jc_37 (i, ls, st, h)
set_option maxRecDepth 100000 in
theorem je_37 (rc : Nat → Nat × (Nat → Int32)) (d : Nat) (a0 : Nat) (x1 : Int32) (x2 : Int32) (h : jxH) : jx_C rc (d + 1) 37 [.ref a0, .int x1, .int x2] h =
  if jx_is (jx_at h a0) 11 = true then
  (jx_gR (jx_at h a0) 11 13).bind fun b1 =>
  jx_cI (jx_C rc d 212 [.ref b1, .int x1] h) fun v3 h2 =>
  if v3 = 0 then
    jx_cI (jx_C rc d 53 [.ref a0, .int (1 : Int32)] h2) fun v5 h4 =>
    some (some (.int v5), h4)
  else
    if x2 < (1 : Int32) then
      jx_cI (jx_C rc d 53 [.ref a0, .int (1 : Int32)] h2) fun v7 h6 =>
      some (some (.int v7), h6)
    else
      if x2 ≤ (12 : Int32) then
        (jx_gR (jx_at h2 a0) 11 4).bind fun b8 =>
        (jx_gI (jx_at h2 b8) 9 1).bind fun v9 =>
        if (v9 + x2) ≤ (40 : Int32) then
          (jx_gR (jx_at h2 a0) 11 13).bind fun b10 =>
          jx_cI (jx_C rc d 216 [.ref b10, .int x1] h2) fun v12 h11 =>
          (jx_gR (jx_at h11 a0) 11 13).bind fun b13 =>
          jx_cI (jx_C rc d 217 [.ref b13, .int x1] h11) fun v15 h14 =>
          jb_37 rc d 38 [(0, .ref a0), (1, .int x1), (2, .int x2), (3, .int v12), (4, .int v15), (5, .int (0 : Int32))] [] h14
        else
          jx_cI (jx_C rc d 53 [.ref a0, .int (4 : Int32)] h2) fun v17 h16 =>
          some (some (.int v17), h16)
      else
        jx_cI (jx_C rc d 53 [.ref a0, .int (1 : Int32)] h2) fun v19 h18 =>
        some (some (.int v19), h18)
  else none :=
  jx_enter ((jx_G_run (jx_X_grows rc jx_dflt jx_mt d) 67 (0, [(0, .ref a0), (1, .int x1), (2, .int x2)], [], h)).trans rfl)
set_option maxRecDepth 100000 in
theorem je_37_38 (rc : Nat → Nat × (Nat → Int32)) (d : Nat) (a0 : Nat) (x1 : Int32) (x2 : Int32) (x3 : Int32) (x4 : Int32) (x5 : Int32) (h : jxH) : jb_37 rc d 38 [(0, .ref a0), (1, .int x1), (2, .int x2), (3, .int x3), (4, .int x4), (5, .int x5)] [] h =
  if x2 ≤ x5 then
    (jx_gR (jx_at h a0) 11 13).bind fun b1 =>
    jx_cV (jx_C rc d 215 [.ref b1, .int x1, .int x5] h) fun h2 =>
    some (some (.int x5), h2)
  else
    (jx_gR (jx_at h a0) 11 3).bind fun b3 =>
    (jx_gR (jx_at h a0) 11 1).bind fun b4 =>
    jx_cI (jx_C rc d 222 [.ref b3, .ref b4, .int x3, .int x4] h) fun v6 h5 =>
    if v6 = 0 then
      (jx_gR (jx_at h5 a0) 11 13).bind fun b7 =>
      jx_cV (jx_C rc d 215 [.ref b7, .int x1, .int x5] h5) fun h8 =>
      some (some (.int x5), h8)
    else
      (jx_gR (jx_at h5 a0) 11 4).bind fun b9 =>
      (jx_gR (jx_at h5 a0) 11 3).bind fun b10 =>
      (jx_gR (jx_at h5 a0) 11 1).bind fun b11 =>
      jx_cV (jx_C rc d 314 [.ref b9, .ref b10, .ref b11] h5) fun h12 =>
      jb_37 rc d 38 [(0, .ref a0), (1, .int x1), (2, .int x2), (3, .int x3), (4, .int x4), (5, .int (x5 + (1 : Int32)))] [] h12 :=
  (jx_G_run (jx_X_grows rc jx_dflt jx_mt d) 67 _).trans rfl
-- RoomTrees.rest(II)I
set_option maxRecDepth 100000 in
theorem je_38 (rc : Nat → Nat × (Nat → Int32)) (d : Nat) (a0 : Nat) (x1 : Int32) (x2 : Int32) (h : jxH) : jx_C rc (d + 1) 38 [.ref a0, .int x1, .int x2] h =
  if jx_is (jx_at h a0) 11 = true then
  (jx_gR (jx_at h a0) 11 13).bind fun b1 =>
  jx_cI (jx_C rc d 212 [.ref b1, .int x1] h) fun v3 h2 =>
  if v3 = 0 then
    jx_cI (jx_C rc d 53 [.ref a0, .int (1 : Int32)] h2) fun v5 h4 =>
    some (some (.int v5), h4)
  else
    if x2 < 0 then
      jx_cI (jx_C rc d 53 [.ref a0, .int (1 : Int32)] h2) fun v7 h6 =>
      some (some (.int v7), h6)
    else
      if x2 ≤ (2 : Int32) then
        (jx_gR (jx_at h2 a0) 11 13).bind fun b8 =>
        jx_cI (jx_C rc d 216 [.ref b8, .int x1] h2) fun v10 h9 =>
        (jx_gR (jx_at h9 a0) 11 13).bind fun b11 =>
        jx_cI (jx_C rc d 217 [.ref b11, .int x1] h9) fun v13 h12 =>
        jx_cI (jx_C rc d 57 [.ref a0, .int v10, .int v13] h12) fun v15 h14 =>
        if x2 = 0 then
          some (some (.int v15), h14)
        else
          if x2 = (1 : Int32) then
            (jx_gR (jx_at h14 a0) 11 2).bind fun b16 =>
            jx_cI (jx_C rc d 227 [.ref b16] h14) fun v18 h17 =>
            some (some (.int v18), h17)
          else
            (jx_gR (jx_at h14 a0) 11 2).bind fun b19 =>
            jx_cI (jx_C rc d 234 [.ref b19] h14) fun v21 h20 =>
            some (some (.int v21), h20)
      else
        jx_cI (jx_C rc d 53 [.ref a0, .int (1 : Int32)] h2) fun v23 h22 =>
        some (some (.int v23), h22)
  else none :=
  jx_enter ((jx_G_run (jx_X_grows rc jx_dflt jx_mt d) 42 (0, [(0, .ref a0), (1, .int x1), (2, .int x2)], [], h)).trans rfl)
-- RoomTrees.best(I)I
noncomputable def jb_39 (rc : Nat → Nat × (Nat → Int32)) (d : Nat) (i : Nat) (ls : List (Nat × Value)) (st : List Value) (h : jxH) : jxR := jx_G rc jx_dflt (jx_X rc jx_dflt jx_mt d) jc_39 (i, ls, st, h)
set_option maxRecDepth 100000 in
theorem je_39 (rc : Nat → Nat × (Nat → Int32)) (d : Nat) (a0 : Nat) (x1 : Int32) (h : jxH) : jx_C rc (d + 1) 39 [.ref a0, .int x1] h =
  if jx_is (jx_at h a0) 11 = true then
  jx_cI (jx_C rc d 65 [.int x1] h) fun v2 h1 =>
  if v2 = 0 then
    jx_cI (jx_C rc d 53 [.ref a0, .int (1 : Int32)] h1) fun v4 h3 =>
    some (some (.int v4), h3)
  else
    jb_39 rc d 13 [(0, .ref a0), (1, .int x1), (2, .int (-1 : Int32)), (3, .int (13 : Int32)), (4, .int (0 : Int32))] [] h1
  else none :=
  jx_enter ((jx_G_run (jx_X_grows rc jx_dflt jx_mt d) 38 (0, [(0, .ref a0), (1, .int x1)], [], h)).trans rfl)
set_option maxRecDepth 100000 in
theorem je_39_13 (rc : Nat → Nat × (Nat → Int32)) (d : Nat) (a0 : Nat) (x1 : Int32) (x2 : Int32) (x3 : Int32) (x4 : Int32) (h : jxH) : jb_39 rc d 13 [(0, .ref a0), (1, .int x1), (2, .int x2), (3, .int x3), (4, .int x4)] [] h =
  if (6 : Int32) ≤ x4 then
    some (some (.int x2), h)
  else
    jx_cI (jx_C rc d 57 [.ref a0, .int x4, .int x1] h) fun v2 h1 =>
    (jx_gR (jx_at h1 a0) 11 2).bind fun b3 =>
    jx_cI (jx_C rc d 227 [.ref b3] h1) fun v5 h4 =>
    if x3 ≤ v5 then
      jb_39 rc d 13 [(0, .ref a0), (1, .int x1), (2, .int x2), (3, .int x3), (4, .int (x4 + (1 : Int32)))] [] h4
    else
      (jx_gR (jx_at h4 a0) 11 2).bind fun b6 =>
      jx_cI (jx_C rc d 227 [.ref b6] h4) fun v8 h7 =>
      jb_39 rc d 13 [(0, .ref a0), (1, .int x1), (2, .int x4), (3, .int v8), (4, .int (x4 + (1 : Int32)))] [] h7 :=
  (jx_G_run (jx_X_grows rc jx_dflt jx_mt d) 38 _).trans rfl
-- RoomTrees.fewest(II)I
set_option maxRecDepth 100000 in
theorem je_40 (rc : Nat → Nat × (Nat → Int32)) (d : Nat) (a0 : Nat) (x1 : Int32) (x2 : Int32) (h : jxH) : jx_C rc (d + 1) 40 [.ref a0, .int x1, .int x2] h =
  if jx_is (jx_at h a0) 11 = true then
  if x1 < 0 then
    jx_cI (jx_C rc d 53 [.ref a0, .int (1 : Int32)] h) fun v2 h1 =>
    some (some (.int v2), h1)
  else
    if (4 : Int32) < x1 then
      jx_cI (jx_C rc d 53 [.ref a0, .int (1 : Int32)] h) fun v4 h3 =>
      some (some (.int v4), h3)
    else
      if x2 < 0 then
        jx_cI (jx_C rc d 53 [.ref a0, .int (1 : Int32)] h) fun v6 h5 =>
        some (some (.int v6), h5)
      else
        if x2 ≤ (2 : Int32) then
          (jx_gR (jx_at h a0) 11 9).bind fun b7 =>
          (jx_gR (jx_at h a0) 11 1).bind fun b8 =>
          jx_cV (jx_C rc d 265 [.ref b7, .ref b8, .int x1] h) fun h9 =>
          if x2 = 0 then
            (jx_gR (jx_at h9 a0) 11 9).bind fun b10 =>
            (jx_gI (jx_at h9 b10) 3 7).bind fun v11 =>
            some (some (.int v11), h9)
          else
            if x2 = (1 : Int32) then
              (jx_gR (jx_at h9 a0) 11 9).bind fun b12 =>
              (jx_gI (jx_at h9 b12) 3 8).bind fun v13 =>
              some (some (.int v13), h9)
            else
              (jx_gR (jx_at h9 a0) 11 9).bind fun b14 =>
              (jx_gI (jx_at h9 b14) 3 9).bind fun v15 =>
              some (some (.int v15), h9)
        else
          jx_cI (jx_C rc d 53 [.ref a0, .int (1 : Int32)] h) fun v17 h16 =>
          some (some (.int v17), h16)
  else none :=
  jx_enter ((jx_G_run (jx_X_grows rc jx_dflt jx_mt d) 39 (0, [(0, .ref a0), (1, .int x1), (2, .int x2)], [], h)).trans rfl)
-- RoomTrees.reach(II)I
noncomputable def jb_41 (rc : Nat → Nat × (Nat → Int32)) (d : Nat) (i : Nat) (ls : List (Nat × Value)) (st : List Value) (h : jxH) : jxR := jx_G rc jx_dflt (jx_X rc jx_dflt jx_mt d) jc_41 (i, ls, st, h)
set_option maxRecDepth 100000 in
theorem je_41 (rc : Nat → Nat × (Nat → Int32)) (d : Nat) (a0 : Nat) (x1 : Int32) (x2 : Int32) (h : jxH) : jx_C rc (d + 1) 41 [.ref a0, .int x1, .int x2] h =
  if jx_is (jx_at h a0) 11 = true then
  if x1 < 0 then
    jx_cI (jx_C rc d 53 [.ref a0, .int (1 : Int32)] h) fun v2 h1 =>
    some (some (.int v2), h1)
  else
    if (4 : Int32) ≤ x1 then
      jx_cI (jx_C rc d 53 [.ref a0, .int (1 : Int32)] h) fun v4 h3 =>
      some (some (.int v4), h3)
    else
      if x2 < 0 then
        jx_cI (jx_C rc d 53 [.ref a0, .int (1 : Int32)] h) fun v6 h5 =>
        some (some (.int v6), h5)
      else
        if x2 ≤ (3 : Int32) then
          (jx_gR (jx_at h a0) 11 11).bind fun b7 =>
          (jx_aQ (jx_at h b7) 4 x1).bind fun o8 =>
          jx_mo o8 (fun b9 => (jx_gR (jx_at h a0) 11 9).bind fun b10 =>
            jx_cV (jx_C rc d 268 [.ref b10, .ref b9] h) fun h11 =>
            (jx_gR (jx_at h11 a0) 11 9).bind fun b12 =>
            (jx_gR (jx_at h11 a0) 11 1).bind fun b13 =>
            jx_cV (jx_C rc d 264 [.ref b12, .ref b13] h11) fun h14 =>
            jb_41 rc d 36 [(0, .ref a0), (2, .int x2), (4, .int (0 : Int32))] [] h14)
          (jx_cI (jx_C rc d 53 [.ref a0, .int (7 : Int32)] h) fun v16 h15 =>
            some (some (.int v16), h15))
        else
          jx_cI (jx_C rc d 53 [.ref a0, .int (1 : Int32)] h) fun v18 h17 =>
          some (some (.int v18), h17)
  else none :=
  jx_enter ((jx_G_run (jx_X_grows rc jx_dflt jx_mt d) 55 (0, [(0, .ref a0), (1, .int x1), (2, .int x2)], [], h)).trans rfl)
set_option maxRecDepth 100000 in
theorem je_41_36 (rc : Nat → Nat × (Nat → Int32)) (d : Nat) (a0 : Nat) (x2 : Int32) (x4 : Int32) (h : jxH) : jb_41 rc d 36 [(0, .ref a0), (2, .int x2), (4, .int x4)] [] h =
  if x2 < x4 then
    jx_cI (jx_C rc d 53 [.ref a0, .int (2 : Int32)] h) fun v2 h1 =>
    some (some (.int v2), h1)
  else
    (jx_gR (jx_at h a0) 11 9).bind fun b3 =>
    jx_cI (jx_C rc d 270 [.ref b3, .int (0 : Int32), .int x4] h) fun v5 h4 =>
    if v5 = 0 then
      jb_41 rc d 36 [(0, .ref a0), (2, .int x2), (4, .int (x4 + (1 : Int32)))] [] h4
    else
      some (some (.int x4), h4) :=
  (jx_G_run (jx_X_grows rc jx_dflt jx_mt d) 55 _).trans rfl
-- RoomTrees.sheet(III)I
noncomputable def jb_42 (rc : Nat → Nat × (Nat → Int32)) (d : Nat) (i : Nat) (ls : List (Nat × Value)) (st : List Value) (h : jxH) : jxR := jx_G rc jx_dflt (jx_X rc jx_dflt jx_mt d) jc_42 (i, ls, st, h)
set_option maxRecDepth 100000 in
theorem je_42 (rc : Nat → Nat × (Nat → Int32)) (d : Nat) (a0 : Nat) (x1 : Int32) (x2 : Int32) (x3 : Int32) (h : jxH) : jx_C rc (d + 1) 42 [.ref a0, .int x1, .int x2, .int x3] h =
  if jx_is (jx_at h a0) 11 = true then
  if x1 < 0 then
    jx_cI (jx_C rc d 53 [.ref a0, .int (1 : Int32)] h) fun v2 h1 =>
    some (some (.int v2), h1)
  else
    if (4 : Int32) ≤ x1 then
      jx_cI (jx_C rc d 53 [.ref a0, .int (1 : Int32)] h) fun v4 h3 =>
      some (some (.int v4), h3)
    else
      if x2 = 0 then
        jb_42 rc d 20 [(0, .ref a0), (1, .int x1), (2, .int x2), (3, .int x3)] [] h
      else
        if x2 = (8 : Int32) then
          jb_42 rc d 20 [(0, .ref a0), (1, .int x1), (2, .int x2), (3, .int x3)] [] h
        else
          if x2 = (16 : Int32) then
            jb_42 rc d 20 [(0, .ref a0), (1, .int x1), (2, .int x2), (3, .int x3)] [] h
          else
            if x2 = (32 : Int32) then
              jb_42 rc d 20 [(0, .ref a0), (1, .int x1), (2, .int x2), (3, .int x3)] [] h
            else
              jx_cI (jx_C rc d 53 [.ref a0, .int (1 : Int32)] h) fun v6 h5 =>
              some (some (.int v6), h5)
  else none :=
  jx_enter ((jx_G_run (jx_X_grows rc jx_dflt jx_mt d) 55 (0, [(0, .ref a0), (1, .int x1), (2, .int x2), (3, .int x3)], [], h)).trans rfl)
set_option maxRecDepth 100000 in
theorem je_42_20 (rc : Nat → Nat × (Nat → Int32)) (d : Nat) (a0 : Nat) (x1 : Int32) (x2 : Int32) (x3 : Int32) (h : jxH) : jb_42 rc d 20 [(0, .ref a0), (1, .int x1), (2, .int x2), (3, .int x3)] [] h =
  if x2 = 0 then
    (jx_gR (jx_at h a0) 11 12).bind fun b1 =>
    (jx_sQ (jx_at h b1) 5 x1 none).bind fun e2 =>
    some (some (.int (1 : Int32)), (jx_set h b1 e2))
  else
    if 0 ≤ x3 then
      if x3 ≤ (24 : Int32) then
        (jx_gR (jx_at h a0) 11 12).bind fun b3 =>
        jx_cV (jx_C rc d 271 [.ref h.1, .int x2, .int x3] (jx_new h 2 (.inl (4, jx_dflt 4)))) fun h4 =>
        if jx_is (jx_at h4 h.1) 4 = true then (jx_sQ (jx_at h4 b3) 5 x1 (some h.1)).bind fun e5 =>
        some (some (.int (1 : Int32)), (jx_set h4 b3 e5)) else none
      else
        jx_cI (jx_C rc d 53 [.ref a0, .int (1 : Int32)] h) fun v7 h6 =>
        some (some (.int v7), h6)
    else
      jx_cI (jx_C rc d 53 [.ref a0, .int (3 : Int32)] h) fun v9 h8 =>
      some (some (.int v9), h8) :=
  (jx_G_run (jx_X_grows rc jx_dflt jx_mt d) 55 _).trans rfl
-- RoomTrees.put(III)I
set_option maxRecDepth 100000 in
theorem je_43 (rc : Nat → Nat × (Nat → Int32)) (d : Nat) (a0 : Nat) (x1 : Int32) (x2 : Int32) (x3 : Int32) (h : jxH) : jx_C rc (d + 1) 43 [.ref a0, .int x1, .int x2, .int x3] h =
  if jx_is (jx_at h a0) 11 = true then
  if x1 < 0 then
    jx_cI (jx_C rc d 53 [.ref a0, .int (1 : Int32)] h) fun v2 h1 =>
    some (some (.int v2), h1)
  else
    if x1 < (4 : Int32) then
      (jx_gR (jx_at h a0) 11 12).bind fun b3 =>
      (jx_aQ (jx_at h b3) 5 x1).bind fun o4 =>
      jx_mo o4 (fun b5 => jx_cI (jx_C rc d 272 [.ref b5, .int x2] h) fun v7 h6 =>
        if v7 = 0 then
          jx_cI (jx_C rc d 53 [.ref a0, .int (1 : Int32)] h6) fun v9 h8 =>
          some (some (.int v9), h8)
        else
          jx_cV (jx_C rc d 275 [.ref b5, .int x2, .int x3] h6) fun h10 =>
          some (some (.int (1 : Int32)), h10))
      (jx_cI (jx_C rc d 53 [.ref a0, .int (7 : Int32)] h) fun v12 h11 =>
        some (some (.int v12), h11))
    else
      jx_cI (jx_C rc d 53 [.ref a0, .int (1 : Int32)] h) fun v14 h13 =>
      some (some (.int v14), h13)
  else none :=
  jx_enter ((jx_G_run (jx_X_grows rc jx_dflt jx_mt d) 36 (0, [(0, .ref a0), (1, .int x1), (2, .int x2), (3, .int x3)], [], h)).trans rfl)
-- RoomTrees.number(II)I
set_option maxRecDepth 100000 in
theorem je_44 (rc : Nat → Nat × (Nat → Int32)) (d : Nat) (a0 : Nat) (x1 : Int32) (x2 : Int32) (h : jxH) : jx_C rc (d + 1) 44 [.ref a0, .int x1, .int x2] h =
  if jx_is (jx_at h a0) 11 = true then
  if x1 < 0 then
    jx_cI (jx_C rc d 53 [.ref a0, .int (1 : Int32)] h) fun v2 h1 =>
    some (some (.int v2), h1)
  else
    if x1 < (4 : Int32) then
      (jx_gR (jx_at h a0) 11 12).bind fun b3 =>
      (jx_aQ (jx_at h b3) 5 x1).bind fun o4 =>
      jx_mo o4 (fun b5 => jx_cI (jx_C rc d 272 [.ref b5, .int x2] h) fun v7 h6 =>
        if v7 = 0 then
          jx_cI (jx_C rc d 53 [.ref a0, .int (1 : Int32)] h6) fun v9 h8 =>
          some (some (.int v9), h8)
        else
          jx_cI (jx_C rc d 274 [.ref b5, .int x2] h6) fun v11 h10 =>
          some (some (.int v11), h10))
      (jx_cI (jx_C rc d 53 [.ref a0, .int (7 : Int32)] h) fun v13 h12 =>
        some (some (.int v13), h12))
    else
      jx_cI (jx_C rc d 53 [.ref a0, .int (1 : Int32)] h) fun v15 h14 =>
      some (some (.int v15), h14)
  else none :=
  jx_enter ((jx_G_run (jx_X_grows rc jx_dflt jx_mt d) 34 (0, [(0, .ref a0), (1, .int x1), (2, .int x2)], [], h)).trans rfl)
-- RoomTrees.copy(IIIII)I
set_option maxRecDepth 100000 in
theorem je_45 (rc : Nat → Nat × (Nat → Int32)) (d : Nat) (a0 : Nat) (x1 : Int32) (x2 : Int32) (x3 : Int32) (x4 : Int32) (x5 : Int32) (h : jxH) : jx_C rc (d + 1) 45 [.ref a0, .int x1, .int x2, .int x3, .int x4, .int x5] h =
  if jx_is (jx_at h a0) 11 = true then
  if x1 < 0 then
    jx_cI (jx_C rc d 53 [.ref a0, .int (1 : Int32)] h) fun v2 h1 =>
    some (some (.int v2), h1)
  else
    if (4 : Int32) ≤ x1 then
      jx_cI (jx_C rc d 53 [.ref a0, .int (1 : Int32)] h) fun v4 h3 =>
      some (some (.int v4), h3)
    else
      if x3 < 0 then
        jx_cI (jx_C rc d 53 [.ref a0, .int (1 : Int32)] h) fun v6 h5 =>
        some (some (.int v6), h5)
      else
        if x3 < (4 : Int32) then
          (jx_gR (jx_at h a0) 11 12).bind fun b7 =>
          (jx_aQ (jx_at h b7) 5 x1).bind fun o8 =>
          jx_mo o8 (fun b9 => (jx_gR (jx_at h a0) 11 12).bind fun b10 =>
            (jx_aQ (jx_at h b10) 5 x3).bind fun o11 =>
            jx_mo o11 (fun b12 => (jx_gI (jx_at h b9) 4 0).bind fun v13 =>
              (jx_gI (jx_at h b12) 4 0).bind fun v14 =>
              if v13 = v14 then
                jx_cI (jx_C rc d 273 [.ref b9, .int x2, .int x5] h) fun v16 h15 =>
                if v16 = 0 then
                  jx_cI (jx_C rc d 53 [.ref a0, .int (1 : Int32)] h15) fun v18 h17 =>
                  some (some (.int v18), h17)
                else
                  jx_cI (jx_C rc d 273 [.ref b12, .int x4, .int x5] h15) fun v20 h19 =>
                  if v20 = 0 then
                    jx_cI (jx_C rc d 53 [.ref a0, .int (1 : Int32)] h19) fun v22 h21 =>
                    some (some (.int v22), h21)
                  else
                    (jx_gR (jx_at h19 b9) 4 1).bind fun b23 =>
                    (jx_gR (jx_at h19 b12) 4 1).bind fun b24 =>
                    (jx_cp (jx_at h19 b23) (jx_at h19 b24) 0 x2 x4 x5).bind fun e25 =>
                    some (some (.int x5), (jx_set h19 b24 e25))
              else
                jx_cI (jx_C rc d 53 [.ref a0, .int (6 : Int32)] h) fun v27 h26 =>
                some (some (.int v27), h26))
            (jx_cI (jx_C rc d 53 [.ref a0, .int (7 : Int32)] h) fun v29 h28 =>
              some (some (.int v29), h28)))
          ((jx_gR (jx_at h a0) 11 12).bind fun b30 =>
            (jx_aQ (jx_at h b30) 5 x3).bind fun o31 =>
            jx_mo o31 (fun b32 => jx_cI (jx_C rc d 53 [.ref a0, .int (7 : Int32)] h) fun v34 h33 =>
              some (some (.int v34), h33))
            (jx_cI (jx_C rc d 53 [.ref a0, .int (7 : Int32)] h) fun v36 h35 =>
              some (some (.int v36), h35)))
        else
          jx_cI (jx_C rc d 53 [.ref a0, .int (1 : Int32)] h) fun v38 h37 =>
          some (some (.int v38), h37)
  else none :=
  jx_enter ((jx_G_run (jx_X_grows rc jx_dflt jx_mt d) 67 (0, [(0, .ref a0), (1, .int x1), (2, .int x2), (3, .int x3), (4, .int x4), (5, .int x5)], [], h)).trans rfl)
-- RoomTrees.weighAll(I)I
noncomputable def jb_46 (rc : Nat → Nat × (Nat → Int32)) (d : Nat) (i : Nat) (ls : List (Nat × Value)) (st : List Value) (h : jxH) : jxR := jx_G rc jx_dflt (jx_X rc jx_dflt jx_mt d) jc_46 (i, ls, st, h)
set_option maxRecDepth 100000 in
theorem je_46 (rc : Nat → Nat × (Nat → Int32)) (d : Nat) (a0 : Nat) (x1 : Int32) (h : jxH) : jx_C rc (d + 1) 46 [.ref a0, .int x1] h =
  if jx_is (jx_at h a0) 11 = true then
  if x1 < 0 then
    jx_cI (jx_C rc d 53 [.ref a0, .int (1 : Int32)] h) fun v2 h1 =>
    some (some (.int v2), h1)
  else
    if x1 < (4 : Int32) then
      (jx_gR (jx_at h a0) 11 12).bind fun b3 =>
      (jx_aQ (jx_at h b3) 5 x1).bind fun o4 =>
      jx_mo o4 (fun b5 => jb_46 rc d 22 [(0, .ref a0), (2, .ref b5), (3, .int (0 : Int32))] [] h)
      (jx_cI (jx_C rc d 53 [.ref a0, .int (7 : Int32)] h) fun v7 h6 =>
        some (some (.int v7), h6))
    else
      jx_cI (jx_C rc d 53 [.ref a0, .int (1 : Int32)] h) fun v9 h8 =>
      some (some (.int v9), h8)
  else none :=
  jx_enter ((jx_G_run (jx_X_grows rc jx_dflt jx_mt d) 55 (0, [(0, .ref a0), (1, .int x1)], [], h)).trans rfl)
set_option maxRecDepth 100000 in
theorem je_46_22 (rc : Nat → Nat × (Nat → Int32)) (d : Nat) (a0 : Nat) (a2 : Nat) (x3 : Int32) (h : jxH) : jb_46 rc d 22 [(0, .ref a0), (2, .ref a2), (3, .int x3)] [] h =
  if (12 : Int32) ≤ x3 then
    (jx_gR (jx_at h a0) 11 4).bind fun b1 =>
    jx_cV (jx_C rc d 313 [.ref b1] h) fun h2 =>
    some (some (.int x3), h2)
  else
    jx_cI (jx_C rc d 272 [.ref a2, .int x3] h) fun v4 h3 =>
    if v4 = 0 then
      (jx_gR (jx_at h3 a0) 11 4).bind fun b5 =>
      jx_cV (jx_C rc d 313 [.ref b5] h3) fun h6 =>
      some (some (.int x3), h6)
    else
      (jx_gR (jx_at h3 a0) 11 1).bind fun b7 =>
      jx_cI (jx_C rc d 226 [.ref b7, .int x3] h3) fun v9 h8 =>
      if v9 = 0 then
        (jx_gR (jx_at h8 a0) 11 4).bind fun b10 =>
        jx_cV (jx_C rc d 313 [.ref b10] h8) fun h11 =>
        some (some (.int x3), h11)
      else
        jx_cI (jx_C rc d 274 [.ref a2, .int x3] h8) fun v13 h12 =>
        jx_cI (jx_C rc d 61 [.int v13] h12) fun v15 h14 =>
        if v15 = 0 then
          (jx_gR (jx_at h14 a0) 11 4).bind fun b16 =>
          jx_cV (jx_C rc d 313 [.ref b16] h14) fun h17 =>
          some (some (.int x3), h17)
        else
          (jx_gR (jx_at h14 a0) 11 1).bind fun b18 =>
          jx_cI (jx_C rc d 274 [.ref a2, .int x3] h14) fun v20 h19 =>
          jx_cV (jx_C rc d 237 [.ref b18, .int x3, .int v20] h19) fun h21 =>
          jb_46 rc d 22 [(0, .ref a0), (2, .ref a2), (3, .int (x3 + (1 : Int32)))] [] h21 :=
  (jx_G_run (jx_X_grows rc jx_dflt jx_mt d) 55 _).trans rfl
-- RoomTrees.book(I)I
noncomputable def jb_47 (rc : Nat → Nat × (Nat → Int32)) (d : Nat) (i : Nat) (ls : List (Nat × Value)) (st : List Value) (h : jxH) : jxR := jx_G rc jx_dflt (jx_X rc jx_dflt jx_mt d) jc_47 (i, ls, st, h)
set_option maxRecDepth 100000 in
theorem je_47 (rc : Nat → Nat × (Nat → Int32)) (d : Nat) (a0 : Nat) (x1 : Int32) (h : jxH) : jx_C rc (d + 1) 47 [.ref a0, .int x1] h =
  if jx_is (jx_at h a0) 11 = true then
  if x1 < 0 then
    jx_cI (jx_C rc d 53 [.ref a0, .int (1 : Int32)] h) fun v2 h1 =>
    some (some (.int v2), h1)
  else
    if x1 < (4 : Int32) then
      (jx_gR (jx_at h a0) 11 12).bind fun b3 =>
      (jx_aQ (jx_at h b3) 5 x1).bind fun o4 =>
      jx_mo o4 (fun b5 => jb_47 rc d 22 [(0, .ref a0), (2, .ref b5), (3, .int (0 : Int32))] [] h)
      (jx_cI (jx_C rc d 53 [.ref a0, .int (7 : Int32)] h) fun v7 h6 =>
        some (some (.int v7), h6))
    else
      jx_cI (jx_C rc d 53 [.ref a0, .int (1 : Int32)] h) fun v9 h8 =>
      some (some (.int v9), h8)
  else none :=
  jx_enter ((jx_G_run (jx_X_grows rc jx_dflt jx_mt d) 49 (0, [(0, .ref a0), (1, .int x1)], [], h)).trans rfl)
set_option maxRecDepth 100000 in
theorem je_47_22 (rc : Nat → Nat × (Nat → Int32)) (d : Nat) (a0 : Nat) (a2 : Nat) (x3 : Int32) (h : jxH) : jb_47 rc d 22 [(0, .ref a0), (2, .ref a2), (3, .int x3)] [] h =
  if (12 : Int32) ≤ x3 then
    some (some (.int x3), h)
  else
    jx_cI (jx_C rc d 272 [.ref a2, .int x3] h) fun v2 h1 =>
    if v2 = 0 then
      some (some (.int x3), h1)
    else
      (jx_gR (jx_at h1 a0) 11 1).bind fun b3 =>
      jx_cI (jx_C rc d 226 [.ref b3, .int x3] h1) fun v5 h4 =>
      if v5 = 0 then
        jx_cV (jx_C rc d 275 [.ref a2, .int x3, .int (99 : Int32)] h4) fun h6 =>
        jb_47 rc d 22 [(0, .ref a0), (2, .ref a2), (3, .int (x3 + (1 : Int32)))] [] h6
      else
        (jx_gR (jx_at h4 a0) 11 1).bind fun b7 =>
        jx_cI (jx_C rc d 228 [.ref b7, .int x3] h4) fun v9 h8 =>
        jx_cV (jx_C rc d 275 [.ref a2, .int x3, .int v9] h8) fun h10 =>
        jb_47 rc d 22 [(0, .ref a0), (2, .ref a2), (3, .int (x3 + (1 : Int32)))] [] h10 :=
  (jx_G_run (jx_X_grows rc jx_dflt jx_mt d) 49 _).trans rfl
-- RoomTrees.plays(II)I
noncomputable def jb_48 (rc : Nat → Nat × (Nat → Int32)) (d : Nat) (i : Nat) (ls : List (Nat × Value)) (st : List Value) (h : jxH) : jxR := jx_G rc jx_dflt (jx_X rc jx_dflt jx_mt d) jc_48 (i, ls, st, h)
set_option maxRecDepth 100000 in
theorem je_48 (rc : Nat → Nat × (Nat → Int32)) (d : Nat) (a0 : Nat) (x1 : Int32) (x2 : Int32) (h : jxH) : jx_C rc (d + 1) 48 [.ref a0, .int x1, .int x2] h =
  if jx_is (jx_at h a0) 11 = true then
  if x1 < 0 then
    jx_cI (jx_C rc d 53 [.ref a0, .int (1 : Int32)] h) fun v2 h1 =>
    some (some (.int v2), h1)
  else
    if (4 : Int32) ≤ x1 then
      jx_cI (jx_C rc d 53 [.ref a0, .int (1 : Int32)] h) fun v4 h3 =>
      some (some (.int v4), h3)
    else
      jx_cI (jx_C rc d 62 [.int x2] h) fun v6 h5 =>
      if v6 = 0 then
        jx_cI (jx_C rc d 53 [.ref a0, .int (1 : Int32)] h5) fun v8 h7 =>
        some (some (.int v8), h7)
      else
        (jx_gR (jx_at h5 a0) 11 12).bind fun b9 =>
        (jx_aQ (jx_at h5 b9) 5 x1).bind fun o10 =>
        jx_mo o10 (fun b11 => (jx_gR (jx_at h5 a0) 11 2).bind fun b12 =>
          (jx_gR (jx_at h5 a0) 11 1).bind fun b13 =>
          jx_cV (jx_C rc d 225 [.ref b12, .ref b13] h5) fun h14 =>
          jb_48 rc d 30 [(0, .ref a0), (2, .int x2), (3, .ref b11), (4, .int (0 : Int32))] [] h14)
        (jx_cI (jx_C rc d 53 [.ref a0, .int (7 : Int32)] h5) fun v16 h15 =>
          some (some (.int v16), h15))
  else none :=
  jx_enter ((jx_G_run (jx_X_grows rc jx_dflt jx_mt d) 68 (0, [(0, .ref a0), (1, .int x1), (2, .int x2)], [], h)).trans rfl)
set_option maxRecDepth 100000 in
theorem je_48_30 (rc : Nat → Nat × (Nat → Int32)) (d : Nat) (a0 : Nat) (x2 : Int32) (a3 : Nat) (x4 : Int32) (h : jxH) : jb_48 rc d 30 [(0, .ref a0), (2, .int x2), (3, .ref a3), (4, .int x4)] [] h =
  if (24 : Int32) ≤ x4 then
    if x2 = 0 then
      some (some (.int x4), h)
    else
      (jx_gR (jx_at h a0) 11 2).bind fun b1 =>
      jx_cI (jx_C rc d 227 [.ref b1] h) fun v3 h2 =>
      some (some (.int v3), h2)
  else
    jx_cI (jx_C rc d 272 [.ref a3, .int x4] h) fun v5 h4 =>
    if v5 = 0 then
      if x2 = 0 then
        some (some (.int x4), h4)
      else
        (jx_gR (jx_at h4 a0) 11 2).bind fun b6 =>
        jx_cI (jx_C rc d 227 [.ref b6] h4) fun v8 h7 =>
        some (some (.int v8), h7)
    else
      (jx_gR (jx_at h4 a0) 11 3).bind fun b9 =>
      jx_cI (jx_C rc d 274 [.ref a3, .int x4] h4) fun v11 h10 =>
      jx_cI (jx_C rc d 282 [.ref b9, .int v11] h10) fun v13 h12 =>
      if v13 = 0 then
        if x2 = 0 then
          some (some (.int x4), h12)
        else
          (jx_gR (jx_at h12 a0) 11 2).bind fun b14 =>
          jx_cI (jx_C rc d 227 [.ref b14] h12) fun v16 h15 =>
          some (some (.int v16), h15)
      else
        (jx_gR (jx_at h12 a0) 11 3).bind fun b17 =>
        (jx_gR (jx_at h12 a0) 11 2).bind fun b18 =>
        jx_cI (jx_C rc d 285 [.ref b17, .ref b18, .int (0 : Int32)] h12) fun v20 h19 =>
        if v20 = 0 then
          (jx_gR (jx_at h19 a0) 11 3).bind fun b21 =>
          (jx_gR (jx_at h19 a0) 11 2).bind fun b22 =>
          jx_cV (jx_C rc d 290 [.ref b21, .ref b22] h19) fun h23 =>
          jb_48 rc d 30 [(0, .ref a0), (2, .int x2), (3, .ref a3), (4, .int (x4 + (1 : Int32)))] [] h23
        else
          if x2 = 0 then
            some (some (.int x4), h19)
          else
            (jx_gR (jx_at h19 a0) 11 2).bind fun b24 =>
            jx_cI (jx_C rc d 227 [.ref b24] h19) fun v26 h25 =>
            some (some (.int v26), h25) :=
  (jx_G_run (jx_X_grows rc jx_dflt jx_mt d) 68 _).trans rfl
-- RoomTrees.image()I
set_option maxRecDepth 100000 in
theorem je_49 (rc : Nat → Nat × (Nat → Int32)) (d : Nat) (a0 : Nat) (h : jxH) : jx_C rc (d + 1) 49 [.ref a0] h =
  if jx_is (jx_at h a0) 11 = true then
  (jx_gR (jx_at h a0) 11 14).bind fun b1 =>
  (jx_gR (jx_at h a0) 11 1).bind fun b2 =>
  jx_cV (jx_C rc d 225 [.ref b1, .ref b2] h) fun h3 =>
  (jx_gR (jx_at h3 a0) 11 15).bind fun b4 =>
  (jx_gR (jx_at h3 a0) 11 13).bind fun b5 =>
  jx_cV (jx_C rc d 211 [.ref b4, .ref b5] h3) fun h6 =>
  if jx_bool (1 : Int32) = true then (jx_pF (jx_at h6 a0) 11 16 (.int (1 : Int32))).bind fun e7 =>
  (jx_gR (jx_at (jx_set h6 a0 e7) a0) 11 1).bind fun b8 =>
  jx_cI (jx_C rc d 227 [.ref b8] (jx_set h6 a0 e7)) fun v10 h9 =>
  some (some (.int v10), h9) else none
  else none :=
  jx_enter ((jx_G_run (jx_X_grows rc jx_dflt jx_mt d) 19 (0, [(0, .ref a0)], [], h)).trans rfl)
-- RoomTrees.restore()I
set_option maxRecDepth 100000 in
theorem je_50 (rc : Nat → Nat × (Nat → Int32)) (d : Nat) (a0 : Nat) (h : jxH) : jx_C rc (d + 1) 50 [.ref a0] h =
  if jx_is (jx_at h a0) 11 = true then
  (jx_gI (jx_at h a0) 11 16).bind fun v1 =>
  if v1 = 0 then
    jx_cI (jx_C rc d 53 [.ref a0, .int (2 : Int32)] h) fun v3 h2 =>
    some (some (.int v3), h2)
  else
    (jx_gR (jx_at h a0) 11 13).bind fun b4 =>
    (jx_gR (jx_at h a0) 11 15).bind fun b5 =>
    jx_cV (jx_C rc d 211 [.ref b4, .ref b5] h) fun h6 =>
    (jx_gR (jx_at h6 a0) 11 14).bind fun b7 =>
    jx_cI (jx_C rc d 55 [.ref a0, .ref b7] h6) fun v9 h8 =>
    some (some (.int v9), h8)
  else none :=
  jx_enter ((jx_G_run (jx_X_grows rc jx_dflt jx_mt d) 19 (0, [(0, .ref a0)], [], h)).trans rfl)
-- RoomTrees.count(I)I
set_option maxRecDepth 100000 in
theorem je_51 (rc : Nat → Nat × (Nat → Int32)) (d : Nat) (a0 : Nat) (x1 : Int32) (h : jxH) : jx_C rc (d + 1) 51 [.ref a0, .int x1] h =
  if jx_is (jx_at h a0) 11 = true then
  if x1 = (0 : Int32) then
    (jx_gR (jx_at h a0) 11 1).bind fun b1 =>
    jx_cI (jx_C rc d 227 [.ref b1] h) fun v3 h2 =>
    some (some (.int v3), h2)
  else if x1 = ((0 : Int32) + 1) then
    (jx_gR (jx_at h a0) 11 1).bind fun b4 =>
    jx_cI (jx_C rc d 233 [.ref b4] h) fun v6 h5 =>
    some (some (.int v6), h5)
  else if x1 = (((0 : Int32) + 1) + 1) then
    (jx_gR (jx_at h a0) 11 1).bind fun b7 =>
    jx_cI (jx_C rc d 232 [.ref b7] h) fun v9 h8 =>
    some (some (.int v9), h8)
  else if x1 = ((((0 : Int32) + 1) + 1) + 1) then
    (jx_gR (jx_at h a0) 11 1).bind fun b10 =>
    jx_cI (jx_C rc d 234 [.ref b10] h) fun v12 h11 =>
    some (some (.int v12), h11)
  else if x1 = (((((0 : Int32) + 1) + 1) + 1) + 1) then
    (jx_gR (jx_at h a0) 11 4).bind fun b13 =>
    (jx_gI (jx_at h b13) 9 1).bind fun v14 =>
    some (some (.int v14), h)
  else if x1 = ((((((0 : Int32) + 1) + 1) + 1) + 1) + 1) then
    (jx_gR (jx_at h a0) 11 4).bind fun b15 =>
    (jx_gI (jx_at h b15) 9 2).bind fun v16 =>
    (jx_gR (jx_at h a0) 11 4).bind fun b17 =>
    (jx_gI (jx_at h b17) 9 1).bind fun v18 =>
    some (some (.int (v16 - v18)), h)
  else if x1 = (((((((0 : Int32) + 1) + 1) + 1) + 1) + 1) + 1) then
    (jx_gR (jx_at h a0) 11 13).bind fun b19 =>
    (jx_gI (jx_at h b19) 0 3).bind fun v20 =>
    some (some (.int v20), h)
  else if x1 = ((((((((0 : Int32) + 1) + 1) + 1) + 1) + 1) + 1) + 1) then
    (jx_gR (jx_at h a0) 11 10).bind fun b21 =>
    (jx_gI (jx_at h b21) 7 2).bind fun v22 =>
    some (some (.int v22), h)
  else if x1 = (((((((((0 : Int32) + 1) + 1) + 1) + 1) + 1) + 1) + 1) + 1) then
    jx_cI (jx_C rc d 58 [.ref a0] h) fun v24 h23 =>
    some (some (.int v24), h23)
  else if x1 = ((((((((((0 : Int32) + 1) + 1) + 1) + 1) + 1) + 1) + 1) + 1) + 1) then
    (jx_gR (jx_at h a0) 11 13).bind fun b25 =>
    jx_cI (jx_C rc d 219 [.ref b25] h) fun v27 h26 =>
    some (some (.int v27), h26)
  else 
    jx_cI (jx_C rc d 53 [.ref a0, .int (1 : Int32)] h) fun v29 h28 =>
    some (some (.int v29), h28)
  else none :=
  jx_enter ((jx_G_run (jx_X_grows rc jx_dflt jx_mt d) 51 (0, [(0, .ref a0), (1, .int x1)], [], h)).trans rfl)
-- RoomTrees.told(I)I
set_option maxRecDepth 100000 in
theorem je_52 (rc : Nat → Nat × (Nat → Int32)) (d : Nat) (a0 : Nat) (x1 : Int32) (h : jxH) : jx_C rc (d + 1) 52 [.ref a0, .int x1] h =
  if jx_is (jx_at h a0) 11 = true then
  if x1 < (1 : Int32) then
    jx_cI (jx_C rc d 53 [.ref a0, .int (1 : Int32)] h) fun v2 h1 =>
    some (some (.int v2), h1)
  else
    if x1 ≤ (7 : Int32) then
      (jx_gR (jx_at h a0) 11 0).bind fun b3 =>
      (jx_aI (jx_at h b3) 0 x1).bind fun v4 =>
      some (some (.int v4), h)
    else
      jx_cI (jx_C rc d 53 [.ref a0, .int (1 : Int32)] h) fun v6 h5 =>
      some (some (.int v6), h5)
  else none :=
  jx_enter ((jx_G_run (jx_X_grows rc jx_dflt jx_mt d) 17 (0, [(0, .ref a0), (1, .int x1)], [], h)).trans rfl)
-- RoomTrees.refuse(I)I
set_option maxRecDepth 100000 in
theorem je_53 (rc : Nat → Nat × (Nat → Int32)) (d : Nat) (a0 : Nat) (x1 : Int32) (h : jxH) : jx_C rc (d + 1) 53 [.ref a0, .int x1] h =
  if jx_is (jx_at h a0) 11 = true then
  if x1 ≤ 0 then
    some (some (.int ((-1100000000 : Int32) - x1)), h)
  else
    (jx_gR (jx_at h a0) 11 0).bind fun b1 =>
    (jx_len (jx_at h b1)).bind fun n2 =>
    if (Int32.ofNat n2) ≤ x1 then
      some (some (.int ((-1100000000 : Int32) - x1)), h)
    else
      (jx_gR (jx_at h a0) 11 0).bind fun b3 =>
      (jx_aI (jx_at h b3) 0 x1).bind fun v4 =>
      (jx_sI (jx_at h b3) 0 x1 (v4 + (1 : Int32))).bind fun e5 =>
      some (some (.int ((-1100000000 : Int32) - x1)), (jx_set h b3 e5))
  else none :=
  jx_enter ((jx_G_run (jx_X_grows rc jx_dflt jx_mt d) 21 (0, [(0, .ref a0), (1, .int x1)], [], h)).trans rfl)
-- RoomTrees.tell(J)I
set_option maxRecDepth 100000 in
theorem je_54 (rc : Nat → Nat × (Nat → Int32)) (d : Nat) (a0 : Nat) (x1 : Int64) (h : jxH) : jx_C rc (d + 1) 54 [.ref a0, .long x1] h =
  if jx_is (jx_at h a0) 11 = true then
  if (lg_cmp x1 (-1073741824 : Int64)) < 0 then
    jx_cI (jx_C rc d 53 [.ref a0, .int (5 : Int32)] h) fun v2 h1 =>
    some (some (.int v2), h1)
  else
    if (lg_cmp x1 (1073741823 : Int64)) ≤ 0 then
      some (some (.int ((x1).toInt32)), h)
    else
      jx_cI (jx_C rc d 53 [.ref a0, .int (5 : Int32)] h) fun v4 h3 =>
      some (some (.int v4), h3)
  else none :=
  jx_enter ((jx_G_run (jx_X_grows rc jx_dflt jx_mt d) 17 (0, [(0, .ref a0), (1, .long x1)], [], h)).trans rfl)
-- RoomTrees.swap(LRoomTrees$Forest;)I
set_option maxRecDepth 100000 in
theorem je_55 (rc : Nat → Nat × (Nat → Int32)) (d : Nat) (a0 : Nat) (a1 : Nat) (h : jxH) : jx_C rc (d + 1) 55 [.ref a0, .ref a1] h =
  if jx_is (jx_at h a0) 11 = true then
  (jx_gR (jx_at h a0) 11 1).bind fun b1 =>
  jx_cV (jx_C rc d 225 [.ref b1, .ref a1] h) fun h2 =>
  (jx_gR (jx_at h2 a0) 11 4).bind fun b3 =>
  jx_cV (jx_C rc d 313 [.ref b3] h2) fun h4 =>
  (jx_gR (jx_at h4 a0) 11 1).bind fun b5 =>
  jx_cI (jx_C rc d 227 [.ref b5] h4) fun v7 h6 =>
  some (some (.int v7), h6)
  else none :=
  jx_enter ((jx_G_run (jx_X_grows rc jx_dflt jx_mt d) 13 (0, [(0, .ref a0), (1, .ref a1)], [], h)).trans rfl)
-- RoomTrees.treeOf(I)I
set_option maxRecDepth 100000 in
theorem je_56 (rc : Nat → Nat × (Nat → Int32)) (d : Nat) (a0 : Nat) (x1 : Int32) (h : jxH) : jx_C rc (d + 1) 56 [.ref a0, .int x1] h =
  if jx_is (jx_at h a0) 11 = true then
  (jx_gR (jx_at h a0) 11 5).bind fun b1 =>
  (jx_gR (jx_at h a0) 11 1).bind fun b2 =>
  jx_cV (jx_C rc d 320 [.ref b1, .ref b2, .int x1] h) fun h3 =>
  (jx_gR (jx_at h3 a0) 11 5).bind fun b4 =>
  (jx_gI (jx_at h3 b4) 10 4).bind fun v5 =>
  some (some (.int v5), h3)
  else none :=
  jx_enter ((jx_G_run (jx_X_grows rc jx_dflt jx_mt d) 12 (0, [(0, .ref a0), (1, .int x1)], [], h)).trans rfl)
-- RoomTrees.thinkToTheEnd(II)I
noncomputable def jb_57 (rc : Nat → Nat × (Nat → Int32)) (d : Nat) (i : Nat) (ls : List (Nat × Value)) (st : List Value) (h : jxH) : jxR := jx_G rc jx_dflt (jx_X rc jx_dflt jx_mt d) jc_57 (i, ls, st, h)
set_option maxRecDepth 100000 in
theorem je_57 (rc : Nat → Nat × (Nat → Int32)) (d : Nat) (a0 : Nat) (x1 : Int32) (x2 : Int32) (h : jxH) : jx_C rc (d + 1) 57 [.ref a0, .int x1, .int x2] h =
  if jx_is (jx_at h a0) 11 = true then
  (jx_gR (jx_at h a0) 11 2).bind fun b1 =>
  (jx_gR (jx_at h a0) 11 1).bind fun b2 =>
  jx_cV (jx_C rc d 225 [.ref b1, .ref b2] h) fun h3 =>
  jb_57 rc d 7 [(0, .ref a0), (1, .int x1), (2, .int x2), (3, .int (0 : Int32))] [] h3
  else none :=
  jx_enter ((jx_G_run (jx_X_grows rc jx_dflt jx_mt d) 29 (0, [(0, .ref a0), (1, .int x1), (2, .int x2)], [], h)).trans rfl)
set_option maxRecDepth 100000 in
theorem je_57_7 (rc : Nat → Nat × (Nat → Int32)) (d : Nat) (a0 : Nat) (x1 : Int32) (x2 : Int32) (x3 : Int32) (h : jxH) : jb_57 rc d 7 [(0, .ref a0), (1, .int x1), (2, .int x2), (3, .int x3)] [] h =
  if (12 : Int32) ≤ x3 then
    some (some (.int x3), h)
  else
    (jx_gR (jx_at h a0) 11 3).bind fun b1 =>
    (jx_gR (jx_at h a0) 11 2).bind fun b2 =>
    jx_cI (jx_C rc d 222 [.ref b1, .ref b2, .int x1, .int x2] h) fun v4 h3 =>
    if v4 = 0 then
      some (some (.int x3), h3)
    else
      (jx_gR (jx_at h3 a0) 11 3).bind fun b5 =>
      (jx_gR (jx_at h3 a0) 11 2).bind fun b6 =>
      jx_cV (jx_C rc d 290 [.ref b5, .ref b6] h3) fun h7 =>
      jb_57 rc d 7 [(0, .ref a0), (1, .int x1), (2, .int x2), (3, .int (x3 + (1 : Int32)))] [] h7 :=
  (jx_G_run (jx_X_grows rc jx_dflt jx_mt d) 29 _).trans rfl
-- RoomTrees.shelvesHeld()I
noncomputable def jb_58 (rc : Nat → Nat × (Nat → Int32)) (d : Nat) (i : Nat) (ls : List (Nat × Value)) (st : List Value) (h : jxH) : jxR := jx_G rc jx_dflt (jx_X rc jx_dflt jx_mt d) jc_58 (i, ls, st, h)
set_option maxRecDepth 100000 in
theorem je_58 (rc : Nat → Nat × (Nat → Int32)) (d : Nat) (a0 : Nat) (h : jxH) : jx_C rc (d + 1) 58 [.ref a0] h =
  if jx_is (jx_at h a0) 11 = true then
  jb_58 rc d 4 [(0, .ref a0), (1, .int (0 : Int32)), (2, .int (0 : Int32))] [] h
  else none :=
  jx_enter ((jx_G_run (jx_X_grows rc jx_dflt jx_mt d) 24 (0, [(0, .ref a0)], [], h)).trans rfl)
set_option maxRecDepth 100000 in
theorem je_58_4 (rc : Nat → Nat × (Nat → Int32)) (d : Nat) (a0 : Nat) (x1 : Int32) (x2 : Int32) (h : jxH) : jb_58 rc d 4 [(0, .ref a0), (1, .int x1), (2, .int x2)] [] h =
  if (4 : Int32) ≤ x2 then
    some (some (.int x1), h)
  else
    (jx_gR (jx_at h a0) 11 11).bind fun b1 =>
    (jx_aQ (jx_at h b1) 4 x2).bind fun o2 =>
    jx_mo o2 (fun b3 => jb_58 rc d 4 [(0, .ref a0), (1, .int (x1 + (1 : Int32))), (2, .int (x2 + (1 : Int32)))] [] h)
    (jb_58 rc d 4 [(0, .ref a0), (1, .int (x1 + (0 : Int32))), (2, .int (x2 + (1 : Int32)))] [] h) :=
  (jx_G_run (jx_X_grows rc jx_dflt jx_mt d) 24 _).trans rfl
-- RoomTrees.isPlace(I)Z
set_option maxRecDepth 100000 in
theorem je_59 (rc : Nat → Nat × (Nat → Int32)) (d : Nat) (x0 : Int32) (h : jxH) : jx_C rc (d + 1) 59 [.int x0] h =
  if x0 < 0 then
    if jx_bool (0 : Int32) = true then some (some (.int (0 : Int32)), h) else none
  else
    if (12 : Int32) ≤ x0 then
      if jx_bool (0 : Int32) = true then some (some (.int (0 : Int32)), h) else none
    else
      if jx_bool (1 : Int32) = true then some (some (.int (1 : Int32)), h) else none :=
  (jx_G_run (jx_X_grows rc jx_dflt jx_mt d) 11 (0, [(0, .int x0)], [], h)).trans rfl
-- RoomTrees.isIn(II)Z
set_option maxRecDepth 100000 in
theorem je_60 (rc : Nat → Nat × (Nat → Int32)) (d : Nat) (x0 : Int32) (x1 : Int32) (h : jxH) : jx_C rc (d + 1) 60 [.int x0, .int x1] h =
  if x0 < 0 then
    if jx_bool (0 : Int32) = true then some (some (.int (0 : Int32)), h) else none
  else
    if (12 : Int32) ≤ x0 then
      if jx_bool (0 : Int32) = true then some (some (.int (0 : Int32)), h) else none
    else
      if ((x1 >>> (x0 &&& 31)) &&& (1 : Int32)) = 0 then
        if jx_bool (0 : Int32) = true then some (some (.int (0 : Int32)), h) else none
      else
        if jx_bool (1 : Int32) = true then some (some (.int (1 : Int32)), h) else none :=
  (jx_G_run (jx_X_grows rc jx_dflt jx_mt d) 17 (0, [(0, .int x0), (1, .int x1)], [], h)).trans rfl
-- RoomTrees.isWeight(I)Z
set_option maxRecDepth 100000 in
theorem je_61 (rc : Nat → Nat × (Nat → Int32)) (d : Nat) (x0 : Int32) (h : jxH) : jx_C rc (d + 1) 61 [.int x0] h =
  if x0 < (-30 : Int32) then
    if jx_bool (0 : Int32) = true then some (some (.int (0 : Int32)), h) else none
  else
    if (30 : Int32) < x0 then
      if jx_bool (0 : Int32) = true then some (some (.int (0 : Int32)), h) else none
    else
      if jx_bool (1 : Int32) = true then some (some (.int (1 : Int32)), h) else none :=
  (jx_G_run (jx_X_grows rc jx_dflt jx_mt d) 12 (0, [(0, .int x0)], [], h)).trans rfl
-- RoomTrees.isPart(I)Z
set_option maxRecDepth 100000 in
theorem je_62 (rc : Nat → Nat × (Nat → Int32)) (d : Nat) (x0 : Int32) (h : jxH) : jx_C rc (d + 1) 62 [.int x0] h =
  if x0 = 0 then
    if jx_bool (1 : Int32) = true then some (some (.int (1 : Int32)), h) else none
  else
    if x0 = (1 : Int32) then
      if jx_bool (1 : Int32) = true then some (some (.int (1 : Int32)), h) else none
    else
      if jx_bool (0 : Int32) = true then some (some (.int (0 : Int32)), h) else none :=
  (jx_G_run (jx_X_grows rc jx_dflt jx_mt d) 11 (0, [(0, .int x0)], [], h)).trans rfl
-- RoomTrees.isPrime(I)Z
set_option maxRecDepth 100000 in
theorem je_63 (rc : Nat → Nat × (Nat → Int32)) (d : Nat) (x0 : Int32) (h : jxH) : jx_C rc (d + 1) 63 [.int x0] h =
  if x0 = (2 : Int32) then
    if jx_bool (1 : Int32) = true then some (some (.int (1 : Int32)), h) else none
  else
    if x0 = (3 : Int32) then
      if jx_bool (1 : Int32) = true then some (some (.int (1 : Int32)), h) else none
    else
      if x0 = (5 : Int32) then
        if jx_bool (1 : Int32) = true then some (some (.int (1 : Int32)), h) else none
      else
        if x0 = (7 : Int32) then
          if jx_bool (1 : Int32) = true then some (some (.int (1 : Int32)), h) else none
        else
          if x0 = (11 : Int32) then
            if jx_bool (1 : Int32) = true then some (some (.int (1 : Int32)), h) else none
          else
            if x0 = (13 : Int32) then
              if jx_bool (1 : Int32) = true then some (some (.int (1 : Int32)), h) else none
            else
              if jx_bool (0 : Int32) = true then some (some (.int (0 : Int32)), h) else none :=
  (jx_G_run (jx_X_grows rc jx_dflt jx_mt d) 24 (0, [(0, .int x0)], [], h)).trans rfl
-- RoomTrees.isWorkerKind(I)Z
set_option maxRecDepth 100000 in
theorem je_64 (rc : Nat → Nat × (Nat → Int32)) (d : Nat) (x0 : Int32) (h : jxH) : jx_C rc (d + 1) 64 [.int x0] h =
  if x0 < 0 then
    if jx_bool (0 : Int32) = true then some (some (.int (0 : Int32)), h) else none
  else
    if (6 : Int32) ≤ x0 then
      if jx_bool (0 : Int32) = true then some (some (.int (0 : Int32)), h) else none
    else
      if jx_bool (1 : Int32) = true then some (some (.int (1 : Int32)), h) else none :=
  (jx_G_run (jx_X_grows rc jx_dflt jx_mt d) 11 (0, [(0, .int x0)], [], h)).trans rfl
-- RoomTrees.isStart(I)Z
set_option maxRecDepth 100000 in
theorem je_65 (rc : Nat → Nat × (Nat → Int32)) (d : Nat) (x0 : Int32) (h : jxH) : jx_C rc (d + 1) 65 [.int x0] h =
  if x0 < 0 then
    if jx_bool (0 : Int32) = true then some (some (.int (0 : Int32)), h) else none
  else
    if (9 : Int32) < x0 then
      if jx_bool (0 : Int32) = true then some (some (.int (0 : Int32)), h) else none
    else
      if jx_bool (1 : Int32) = true then some (some (.int (1 : Int32)), h) else none :=
  (jx_G_run (jx_X_grows rc jx_dflt jx_mt d) 11 (0, [(0, .int x0)], [], h)).trans rfl
-- RoomTrees.isChain(II)Z
set_option maxRecDepth 100000 in
theorem je_66 (rc : Nat → Nat × (Nat → Int32)) (d : Nat) (x0 : Int32) (x1 : Int32) (h : jxH) : jx_C rc (d + 1) 66 [.int x0, .int x1] h =
  if x0 < (2 : Int32) then
    if jx_bool (0 : Int32) = true then some (some (.int (0 : Int32)), h) else none
  else
    if (999 : Int32) < x0 then
      if jx_bool (0 : Int32) = true then some (some (.int (0 : Int32)), h) else none
    else
      if x1 < (1 : Int32) then
        if jx_bool (0 : Int32) = true then some (some (.int (0 : Int32)), h) else none
      else
        if x0 ≤ x1 then
          if jx_bool (0 : Int32) = true then some (some (.int (0 : Int32)), h) else none
        else
          if jx_bool (1 : Int32) = true then some (some (.int (1 : Int32)), h) else none :=
  (jx_G_run (jx_X_grows rc jx_dflt jx_mt d) 18 (0, [(0, .int x0), (1, .int x1)], [], h)).trans rfl
-- RoomTrees.leastOf(I)I
noncomputable def jb_67 (rc : Nat → Nat × (Nat → Int32)) (d : Nat) (i : Nat) (ls : List (Nat × Value)) (st : List Value) (h : jxH) : jxR := jx_G rc jx_dflt (jx_X rc jx_dflt jx_mt d) jc_67 (i, ls, st, h)
set_option maxRecDepth 100000 in
theorem je_67 (rc : Nat → Nat × (Nat → Int32)) (d : Nat) (x0 : Int32) (h : jxH) : jx_C rc (d + 1) 67 [.int x0] h =
  jb_67 rc d 2 [(0, .int x0), (1, .int (0 : Int32))] [] h :=
  (jx_G_run (jx_X_grows rc jx_dflt jx_mt d) 19 (0, [(0, .int x0)], [], h)).trans rfl
set_option maxRecDepth 100000 in
theorem je_67_2 (rc : Nat → Nat × (Nat → Int32)) (d : Nat) (x0 : Int32) (x1 : Int32) (h : jxH) : jb_67 rc d 2 [(0, .int x0), (1, .int x1)] [] h =
  if (12 : Int32) ≤ x1 then
    some (some (.int (-1 : Int32)), h)
  else
    if ((x0 >>> (x1 &&& 31)) &&& (1 : Int32)) = 0 then
      jb_67 rc d 2 [(0, .int x0), (1, .int (x1 + (1 : Int32)))] [] h
    else
      some (some (.int x1), h) :=
  (jx_G_run (jx_X_grows rc jx_dflt jx_mt d) 19 _).trans rfl
-- RoomTrees.greatestOf(I)I
noncomputable def jb_68 (rc : Nat → Nat × (Nat → Int32)) (d : Nat) (i : Nat) (ls : List (Nat × Value)) (st : List Value) (h : jxH) : jxR := jx_G rc jx_dflt (jx_X rc jx_dflt jx_mt d) jc_68 (i, ls, st, h)
set_option maxRecDepth 100000 in
theorem je_68 (rc : Nat → Nat × (Nat → Int32)) (d : Nat) (x0 : Int32) (h : jxH) : jx_C rc (d + 1) 68 [.int x0] h =
  jb_68 rc d 2 [(0, .int x0), (1, .int (11 : Int32))] [] h :=
  (jx_G_run (jx_X_grows rc jx_dflt jx_mt d) 18 (0, [(0, .int x0)], [], h)).trans rfl
set_option maxRecDepth 100000 in
theorem je_68_2 (rc : Nat → Nat × (Nat → Int32)) (d : Nat) (x0 : Int32) (x1 : Int32) (h : jxH) : jb_68 rc d 2 [(0, .int x0), (1, .int x1)] [] h =
  if x1 < 0 then
    some (some (.int (-1 : Int32)), h)
  else
    if ((x0 >>> (x1 &&& 31)) &&& (1 : Int32)) = 0 then
      jb_68 rc d 2 [(0, .int x0), (1, .int (x1 + (-1 : Int32)))] [] h
    else
      some (some (.int x1), h) :=
  (jx_G_run (jx_X_grows rc jx_dflt jx_mt d) 18 _).trans rfl
-- RoomTrees.commonDivisor(JJ)J
noncomputable def jb_69 (rc : Nat → Nat × (Nat → Int32)) (d : Nat) (i : Nat) (ls : List (Nat × Value)) (st : List Value) (h : jxH) : jxR := jx_G rc jx_dflt (jx_X rc jx_dflt jx_mt d) jc_69 (i, ls, st, h)
set_option maxRecDepth 100000 in
theorem je_69 (rc : Nat → Nat × (Nat → Int32)) (d : Nat) (x0 : Int64) (x2 : Int64) (h : jxH) : jx_C rc (d + 1) 69 [.long x0, .long x2] h =
  if 0 ≤ (lg_cmp x0 (0 : Int64)) then
    if 0 ≤ (lg_cmp x2 (0 : Int64)) then
      jb_69 rc d 20 [(4, .long x0), (6, .long x2), (8, .int (0 : Int32))] [] h
    else
      jb_69 rc d 20 [(4, .long x0), (6, .long (-x2)), (8, .int (0 : Int32))] [] h
  else
    if 0 ≤ (lg_cmp x2 (0 : Int64)) then
      jb_69 rc d 20 [(4, .long (-x0)), (6, .long x2), (8, .int (0 : Int32))] [] h
    else
      jb_69 rc d 20 [(4, .long (-x0)), (6, .long (-x2)), (8, .int (0 : Int32))] [] h :=
  (jx_G_run (jx_X_grows rc jx_dflt jx_mt d) 41 (0, [(0, .long x0), (2, .long x2)], [], h)).trans rfl
set_option maxRecDepth 100000 in
theorem je_69_20 (rc : Nat → Nat × (Nat → Int32)) (d : Nat) (x4 : Int64) (x6 : Int64) (x8 : Int32) (h : jxH) : jb_69 rc d 20 [(4, .long x4), (6, .long x6), (8, .int x8)] [] h =
  if (100 : Int32) ≤ x8 then
    some (some (.long x4), h)
  else
    if (lg_cmp x6 (0 : Int64)) = 0 then
      some (some (.long x4), h)
    else
      if x6 = 0 then none else jb_69 rc d 20 [(4, .long x6), (6, .long (x4 - x4 / x6 * x6)), (8, .int (x8 + (1 : Int32)))] [] h :=
  (jx_G_run (jx_X_grows rc jx_dflt jx_mt d) 41 _).trans rfl
-- RoomTrees.chainNumber(III)I
noncomputable def jb_70 (rc : Nat → Nat × (Nat → Int32)) (d : Nat) (i : Nat) (ls : List (Nat × Value)) (st : List Value) (h : jxH) : jxR := jx_G rc jx_dflt (jx_X rc jx_dflt jx_mt d) jc_70 (i, ls, st, h)
set_option maxRecDepth 100000 in
theorem je_70 (rc : Nat → Nat × (Nat → Int32)) (d : Nat) (x0 : Int32) (x1 : Int32) (x2 : Int32) (h : jxH) : jx_C rc (d + 1) 70 [.int x0, .int x1, .int x2] h =
  jb_70 rc d 6 [(2, .int x2), (3, .int x0), (4, .int x1), (5, .int (0 : Int32))] [] h :=
  (jx_G_run (jx_X_grows rc jx_dflt jx_mt d) 45 (0, [(0, .int x0), (1, .int x1), (2, .int x2)], [], h)).trans rfl
set_option maxRecDepth 100000 in
theorem je_70_6 (rc : Nat → Nat × (Nat → Int32)) (d : Nat) (x2 : Int32) (x3 : Int32) (x4 : Int32) (x5 : Int32) (h : jxH) : jb_70 rc d 6 [(2, .int x2), (3, .int x3), (4, .int x4), (5, .int x5)] [] h =
  if (999 : Int32) ≤ x5 then
    if x2 = (-1 : Int32) then
      some (some (.int x5), h)
    else
      some (some (.int (0 : Int32)), h)
  else
    if x4 ≤ 0 then
      if x2 = (-1 : Int32) then
        some (some (.int x5), h)
      else
        some (some (.int (0 : Int32)), h)
    else
      if x4 = 0 then none else if x5 = x2 then
        some (some (.int (((x3 + x4) - (1 : Int32)) / x4)), h)
      else
        jb_70 rc d 6 [(2, .int x2), (3, .int x4), (4, .int (((((x3 + x4) - (1 : Int32)) / x4) * x4) - x3)), (5, .int (x5 + (1 : Int32)))] [] h :=
  (jx_G_run (jx_X_grows rc jx_dflt jx_mt d) 45 _).trans rfl
-- RoomTreesModel.<init>()V
noncomputable def jb_71 (rc : Nat → Nat × (Nat → Int32)) (d : Nat) (i : Nat) (ls : List (Nat × Value)) (st : List Value) (h : jxH) : jxR := jx_G rc jx_dflt (jx_X rc jx_dflt jx_mt d) jc_71 (i, ls, st, h)
set_option maxRecDepth 100000 in
theorem je_71 (rc : Nat → Nat × (Nat → Int32)) (d : Nat) (a0 : Nat) (h : jxH) : jx_C rc (d + 1) 71 [.ref a0] h =
  if jx_is (jx_at h a0) 12 = true then
  if (8 : Int32) < 0 ∨ 5000 < (8 : Int32) then none else
  (jx_pF (jx_at (jx_new h ((8 : Int32)).toNatClampNeg (jx_arr 0 ((8 : Int32)).toNatClampNeg)) a0) 12 0 (.ref h.1)).bind fun e1 =>
  if (25 : Int32) < 0 ∨ 5000 < (25 : Int32) then none else
  (jx_pF (jx_at (jx_new (jx_set (jx_new h ((8 : Int32)).toNatClampNeg (jx_arr 0 ((8 : Int32)).toNatClampNeg)) a0 e1) ((25 : Int32)).toNatClampNeg (jx_arr 0 ((25 : Int32)).toNatClampNeg)) a0) 12 1 (.ref (jx_set (jx_new h ((8 : Int32)).toNatClampNeg (jx_arr 0 ((8 : Int32)).toNatClampNeg)) a0 e1).1)).bind fun e2 =>
  jb_71 rc d 10 [(0, .ref a0)] [] (jx_set (jx_new (jx_set (jx_new h ((8 : Int32)).toNatClampNeg (jx_arr 0 ((8 : Int32)).toNatClampNeg)) a0 e1) ((25 : Int32)).toNatClampNeg (jx_arr 0 ((25 : Int32)).toNatClampNeg)) a0 e2)
  else none :=
  jx_enter ((jx_G_run (jx_X_grows rc jx_dflt jx_mt d) 10 (0, [(0, .ref a0)], [], h)).trans rfl)
set_option maxRecDepth 100000 in
theorem je_71_10 (rc : Nat → Nat × (Nat → Int32)) (d : Nat) (a0 : Nat) (h : jxH) : jb_71 rc d 10 [(0, .ref a0)] [] h =
  if (41 : Int32) < 0 ∨ 5000 < (41 : Int32) ∨ (25 : Int32) < 0 ∨ 5000 < (25 : Int32) then none else
  (jx_pF (jx_at (jx_inner h ((41 : Int32)).toNatClampNeg ((25 : Int32)).toNatClampNeg) a0) 12 2 (.ref h.1)).bind fun e1 =>
  if (240 : Int32) < 0 ∨ 5000 < (240 : Int32) then none else
  (jx_pF (jx_at (jx_new (jx_set (jx_inner h ((41 : Int32)).toNatClampNeg ((25 : Int32)).toNatClampNeg) a0 e1) ((240 : Int32)).toNatClampNeg (jx_arr 0 ((240 : Int32)).toNatClampNeg)) a0) 12 3 (.ref (jx_set (jx_inner h ((41 : Int32)).toNatClampNeg ((25 : Int32)).toNatClampNeg) a0 e1).1)).bind fun e2 =>
  jb_71 rc d 19 [(0, .ref a0)] [] (jx_set (jx_new (jx_set (jx_inner h ((41 : Int32)).toNatClampNeg ((25 : Int32)).toNatClampNeg) a0 e1) ((240 : Int32)).toNatClampNeg (jx_arr 0 ((240 : Int32)).toNatClampNeg)) a0 e2) :=
  (jx_G_run (jx_X_grows rc jx_dflt jx_mt d) 9 _).trans rfl
set_option maxRecDepth 100000 in
theorem je_71_19 (rc : Nat → Nat × (Nat → Int32)) (d : Nat) (a0 : Nat) (h : jxH) : jb_71 rc d 19 [(0, .ref a0)] [] h =
  if (4096 : Int32) < 0 ∨ 5000 < (4096 : Int32) then none else
  (jx_pF (jx_at (jx_new h ((4096 : Int32)).toNatClampNeg (jx_arr 1 ((4096 : Int32)).toNatClampNeg)) a0) 12 6 (.ref h.1)).bind fun e1 =>
  if (4096 : Int32) < 0 ∨ 5000 < (4096 : Int32) then none else
  (jx_pF (jx_at (jx_new (jx_set (jx_new h ((4096 : Int32)).toNatClampNeg (jx_arr 1 ((4096 : Int32)).toNatClampNeg)) a0 e1) ((4096 : Int32)).toNatClampNeg (jx_arr 1 ((4096 : Int32)).toNatClampNeg)) a0) 12 7 (.ref (jx_set (jx_new h ((4096 : Int32)).toNatClampNeg (jx_arr 1 ((4096 : Int32)).toNatClampNeg)) a0 e1).1)).bind fun e2 =>
  jb_71 rc d 27 [(0, .ref a0)] [] (jx_set (jx_new (jx_set (jx_new h ((4096 : Int32)).toNatClampNeg (jx_arr 1 ((4096 : Int32)).toNatClampNeg)) a0 e1) ((4096 : Int32)).toNatClampNeg (jx_arr 1 ((4096 : Int32)).toNatClampNeg)) a0 e2) :=
  (jx_G_run (jx_X_grows rc jx_dflt jx_mt d) 8 _).trans rfl
set_option maxRecDepth 100000 in
theorem je_71_27 (rc : Nat → Nat × (Nat → Int32)) (d : Nat) (a0 : Nat) (h : jxH) : jb_71 rc d 27 [(0, .ref a0)] [] h =
  if (13 : Int32) < 0 ∨ 5000 < (13 : Int32) then none else
  (jx_pF (jx_at (jx_new h ((13 : Int32)).toNatClampNeg (jx_arr 1 ((13 : Int32)).toNatClampNeg)) a0) 12 8 (.ref h.1)).bind fun e1 =>
  if (12 : Int32) < 0 ∨ 5000 < (12 : Int32) ∨ (12 : Int32) < 0 ∨ 5000 < (12 : Int32) then none else
  (jx_pF (jx_at (jx_inner (jx_set (jx_new h ((13 : Int32)).toNatClampNeg (jx_arr 1 ((13 : Int32)).toNatClampNeg)) a0 e1) ((12 : Int32)).toNatClampNeg ((12 : Int32)).toNatClampNeg) a0) 12 9 (.ref (jx_set (jx_new h ((13 : Int32)).toNatClampNeg (jx_arr 1 ((13 : Int32)).toNatClampNeg)) a0 e1).1)).bind fun e2 =>
  jb_71 rc d 36 [(0, .ref a0)] [] (jx_set (jx_inner (jx_set (jx_new h ((13 : Int32)).toNatClampNeg (jx_arr 1 ((13 : Int32)).toNatClampNeg)) a0 e1) ((12 : Int32)).toNatClampNeg ((12 : Int32)).toNatClampNeg) a0 e2) :=
  (jx_G_run (jx_X_grows rc jx_dflt jx_mt d) 9 _).trans rfl
set_option maxRecDepth 100000 in
theorem je_71_36 (rc : Nat → Nat × (Nat → Int32)) (d : Nat) (a0 : Nat) (h : jxH) : jb_71 rc d 36 [(0, .ref a0)] [] h =
  if (120 : Int32) < 0 ∨ 5000 < (120 : Int32) then none else
  (jx_pF (jx_at (jx_new h ((120 : Int32)).toNatClampNeg (jx_arr 0 ((120 : Int32)).toNatClampNeg)) a0) 12 10 (.ref h.1)).bind fun e1 =>
  if (25 : Int32) < 0 ∨ 5000 < (25 : Int32) then none else
  (jx_pF (jx_at (jx_new (jx_set (jx_new h ((120 : Int32)).toNatClampNeg (jx_arr 0 ((120 : Int32)).toNatClampNeg)) a0 e1) ((25 : Int32)).toNatClampNeg (jx_arr 0 ((25 : Int32)).toNatClampNeg)) a0) 12 14 (.ref (jx_set (jx_new h ((120 : Int32)).toNatClampNeg (jx_arr 0 ((120 : Int32)).toNatClampNeg)) a0 e1).1)).bind fun e2 =>
  jb_71 rc d 44 [(0, .ref a0)] [] (jx_set (jx_new (jx_set (jx_new h ((120 : Int32)).toNatClampNeg (jx_arr 0 ((120 : Int32)).toNatClampNeg)) a0 e1) ((25 : Int32)).toNatClampNeg (jx_arr 0 ((25 : Int32)).toNatClampNeg)) a0 e2) :=
  (jx_G_run (jx_X_grows rc jx_dflt jx_mt d) 8 _).trans rfl
set_option maxRecDepth 100000 in
theorem je_71_44 (rc : Nat → Nat × (Nat → Int32)) (d : Nat) (a0 : Nat) (h : jxH) : jb_71 rc d 44 [(0, .ref a0)] [] h =
  if (12 : Int32) < 0 ∨ 5000 < (12 : Int32) then none else
  (jx_pF (jx_at (jx_new h ((12 : Int32)).toNatClampNeg (jx_arr 0 ((12 : Int32)).toNatClampNeg)) a0) 12 15 (.ref h.1)).bind fun e1 =>
  if (12 : Int32) < 0 ∨ 5000 < (12 : Int32) ∨ (64 : Int32) < 0 ∨ 5000 < (64 : Int32) then none else
  (jx_pF (jx_at (jx_inner (jx_set (jx_new h ((12 : Int32)).toNatClampNeg (jx_arr 0 ((12 : Int32)).toNatClampNeg)) a0 e1) ((12 : Int32)).toNatClampNeg ((64 : Int32)).toNatClampNeg) a0) 12 16 (.ref (jx_set (jx_new h ((12 : Int32)).toNatClampNeg (jx_arr 0 ((12 : Int32)).toNatClampNeg)) a0 e1).1)).bind fun e2 =>
  jb_71 rc d 53 [(0, .ref a0)] [] (jx_set (jx_inner (jx_set (jx_new h ((12 : Int32)).toNatClampNeg (jx_arr 0 ((12 : Int32)).toNatClampNeg)) a0 e1) ((12 : Int32)).toNatClampNeg ((64 : Int32)).toNatClampNeg) a0 e2) :=
  (jx_G_run (jx_X_grows rc jx_dflt jx_mt d) 9 _).trans rfl
set_option maxRecDepth 100000 in
theorem je_71_53 (rc : Nat → Nat × (Nat → Int32)) (d : Nat) (a0 : Nat) (h : jxH) : jb_71 rc d 53 [(0, .ref a0)] [] h =
  if (12 : Int32) < 0 ∨ 5000 < (12 : Int32) then none else
  (jx_pF (jx_at (jx_new h ((12 : Int32)).toNatClampNeg (jx_arr 0 ((12 : Int32)).toNatClampNeg)) a0) 12 17 (.ref h.1)).bind fun e1 =>
  if (12 : Int32) < 0 ∨ 5000 < (12 : Int32) ∨ (64 : Int32) < 0 ∨ 5000 < (64 : Int32) then none else
  (jx_pF (jx_at (jx_inner (jx_set (jx_new h ((12 : Int32)).toNatClampNeg (jx_arr 0 ((12 : Int32)).toNatClampNeg)) a0 e1) ((12 : Int32)).toNatClampNeg ((64 : Int32)).toNatClampNeg) a0) 12 18 (.ref (jx_set (jx_new h ((12 : Int32)).toNatClampNeg (jx_arr 0 ((12 : Int32)).toNatClampNeg)) a0 e1).1)).bind fun e2 =>
  jb_71 rc d 62 [(0, .ref a0)] [] (jx_set (jx_inner (jx_set (jx_new h ((12 : Int32)).toNatClampNeg (jx_arr 0 ((12 : Int32)).toNatClampNeg)) a0 e1) ((12 : Int32)).toNatClampNeg ((64 : Int32)).toNatClampNeg) a0 e2) :=
  (jx_G_run (jx_X_grows rc jx_dflt jx_mt d) 9 _).trans rfl
set_option maxRecDepth 100000 in
theorem je_71_62 (rc : Nat → Nat × (Nat → Int32)) (d : Nat) (a0 : Nat) (h : jxH) : jb_71 rc d 62 [(0, .ref a0)] [] h =
  if (12 : Int32) < 0 ∨ 5000 < (12 : Int32) then none else
  (jx_pF (jx_at (jx_new h ((12 : Int32)).toNatClampNeg (jx_arr 0 ((12 : Int32)).toNatClampNeg)) a0) 12 19 (.ref h.1)).bind fun e1 =>
  if (64 : Int32) < 0 ∨ 5000 < (64 : Int32) then none else
  (jx_pF (jx_at (jx_new (jx_set (jx_new h ((12 : Int32)).toNatClampNeg (jx_arr 0 ((12 : Int32)).toNatClampNeg)) a0 e1) ((64 : Int32)).toNatClampNeg (jx_arr 0 ((64 : Int32)).toNatClampNeg)) a0) 12 20 (.ref (jx_set (jx_new h ((12 : Int32)).toNatClampNeg (jx_arr 0 ((12 : Int32)).toNatClampNeg)) a0 e1).1)).bind fun e2 =>
  jb_71 rc d 70 [(0, .ref a0)] [] (jx_set (jx_new (jx_set (jx_new h ((12 : Int32)).toNatClampNeg (jx_arr 0 ((12 : Int32)).toNatClampNeg)) a0 e1) ((64 : Int32)).toNatClampNeg (jx_arr 0 ((64 : Int32)).toNatClampNeg)) a0 e2) :=
  (jx_G_run (jx_X_grows rc jx_dflt jx_mt d) 8 _).trans rfl
set_option maxRecDepth 100000 in
theorem je_71_70 (rc : Nat → Nat × (Nat → Int32)) (d : Nat) (a0 : Nat) (h : jxH) : jb_71 rc d 70 [(0, .ref a0)] [] h =
  if (4 : Int32) < 0 ∨ 5000 < (4 : Int32) ∨ (25 : Int32) < 0 ∨ 5000 < (25 : Int32) then none else
  (jx_pF (jx_at (jx_inner h ((4 : Int32)).toNatClampNeg ((25 : Int32)).toNatClampNeg) a0) 12 22 (.ref h.1)).bind fun e1 =>
  if (4 : Int32) < 0 ∨ 5000 < (4 : Int32) then none else
  (jx_pF (jx_at (jx_new (jx_set (jx_inner h ((4 : Int32)).toNatClampNeg ((25 : Int32)).toNatClampNeg) a0 e1) ((4 : Int32)).toNatClampNeg (jx_arr 3 ((4 : Int32)).toNatClampNeg)) a0) 12 23 (.ref (jx_set (jx_inner h ((4 : Int32)).toNatClampNeg ((25 : Int32)).toNatClampNeg) a0 e1).1)).bind fun e2 =>
  jb_71 rc d 79 [(0, .ref a0)] [] (jx_set (jx_new (jx_set (jx_inner h ((4 : Int32)).toNatClampNeg ((25 : Int32)).toNatClampNeg) a0 e1) ((4 : Int32)).toNatClampNeg (jx_arr 3 ((4 : Int32)).toNatClampNeg)) a0 e2) :=
  (jx_G_run (jx_X_grows rc jx_dflt jx_mt d) 9 _).trans rfl
set_option maxRecDepth 100000 in
theorem je_71_79 (rc : Nat → Nat × (Nat → Int32)) (d : Nat) (a0 : Nat) (h : jxH) : jb_71 rc d 79 [(0, .ref a0)] [] h =
  if (64 : Int32) < 0 ∨ 5000 < (64 : Int32) then none else
  (jx_pF (jx_at (jx_new h ((64 : Int32)).toNatClampNeg (jx_arr 0 ((64 : Int32)).toNatClampNeg)) a0) 12 24 (.ref h.1)).bind fun e1 =>
  if (18 : Int32) < 0 ∨ 5000 < (18 : Int32) then none else
  (jx_pF (jx_at (jx_new (jx_set (jx_new h ((64 : Int32)).toNatClampNeg (jx_arr 0 ((64 : Int32)).toNatClampNeg)) a0 e1) ((18 : Int32)).toNatClampNeg (jx_arr 0 ((18 : Int32)).toNatClampNeg)) a0) 12 26 (.ref (jx_set (jx_new h ((64 : Int32)).toNatClampNeg (jx_arr 0 ((64 : Int32)).toNatClampNeg)) a0 e1).1)).bind fun e2 =>
  jb_71 rc d 87 [(0, .ref a0)] [] (jx_set (jx_new (jx_set (jx_new h ((64 : Int32)).toNatClampNeg (jx_arr 0 ((64 : Int32)).toNatClampNeg)) a0 e1) ((18 : Int32)).toNatClampNeg (jx_arr 0 ((18 : Int32)).toNatClampNeg)) a0 e2) :=
  (jx_G_run (jx_X_grows rc jx_dflt jx_mt d) 8 _).trans rfl
set_option maxRecDepth 100000 in
theorem je_71_87 (rc : Nat → Nat × (Nat → Int32)) (d : Nat) (a0 : Nat) (h : jxH) : jb_71 rc d 87 [(0, .ref a0)] [] h =
  if (6 : Int32) < 0 ∨ 5000 < (6 : Int32) ∨ (25 : Int32) < 0 ∨ 5000 < (25 : Int32) then none else
  (jx_pF (jx_at (jx_inner h ((6 : Int32)).toNatClampNeg ((25 : Int32)).toNatClampNeg) a0) 12 28 (.ref h.1)).bind fun e1 =>
  if (4 : Int32) < 0 ∨ 5000 < (4 : Int32) then none else
  (jx_pF (jx_at (jx_new (jx_set (jx_inner h ((6 : Int32)).toNatClampNeg ((25 : Int32)).toNatClampNeg) a0 e1) ((4 : Int32)).toNatClampNeg (jx_arr 0 ((4 : Int32)).toNatClampNeg)) a0) 12 32 (.ref (jx_set (jx_inner h ((6 : Int32)).toNatClampNeg ((25 : Int32)).toNatClampNeg) a0 e1).1)).bind fun e2 =>
  jb_71 rc d 96 [(0, .ref a0)] [] (jx_set (jx_new (jx_set (jx_inner h ((6 : Int32)).toNatClampNeg ((25 : Int32)).toNatClampNeg) a0 e1) ((4 : Int32)).toNatClampNeg (jx_arr 0 ((4 : Int32)).toNatClampNeg)) a0 e2) :=
  (jx_G_run (jx_X_grows rc jx_dflt jx_mt d) 9 _).trans rfl
set_option maxRecDepth 100000 in
theorem je_71_96 (rc : Nat → Nat × (Nat → Int32)) (d : Nat) (a0 : Nat) (h : jxH) : jb_71 rc d 96 [(0, .ref a0)] [] h =
  if (4 : Int32) < 0 ∨ 5000 < (4 : Int32) then none else
  (jx_pF (jx_at (jx_new h ((4 : Int32)).toNatClampNeg (jx_arr 0 ((4 : Int32)).toNatClampNeg)) a0) 12 33 (.ref h.1)).bind fun e1 =>
  if (96 : Int32) < 0 ∨ 5000 < (96 : Int32) then none else
  (jx_pF (jx_at (jx_new (jx_set (jx_new h ((4 : Int32)).toNatClampNeg (jx_arr 0 ((4 : Int32)).toNatClampNeg)) a0 e1) ((96 : Int32)).toNatClampNeg (jx_arr 0 ((96 : Int32)).toNatClampNeg)) a0) 12 34 (.ref (jx_set (jx_new h ((4 : Int32)).toNatClampNeg (jx_arr 0 ((4 : Int32)).toNatClampNeg)) a0 e1).1)).bind fun e2 =>
  jb_71 rc d 104 [(0, .ref a0)] [] (jx_set (jx_new (jx_set (jx_new h ((4 : Int32)).toNatClampNeg (jx_arr 0 ((4 : Int32)).toNatClampNeg)) a0 e1) ((96 : Int32)).toNatClampNeg (jx_arr 0 ((96 : Int32)).toNatClampNeg)) a0 e2) :=
  (jx_G_run (jx_X_grows rc jx_dflt jx_mt d) 8 _).trans rfl
set_option maxRecDepth 100000 in
theorem je_71_104 (rc : Nat → Nat × (Nat → Int32)) (d : Nat) (a0 : Nat) (h : jxH) : jb_71 rc d 104 [(0, .ref a0)] [] h =
  if (24 : Int32) < 0 ∨ 5000 < (24 : Int32) then none else
  (jx_pF (jx_at (jx_new h ((24 : Int32)).toNatClampNeg (jx_arr 0 ((24 : Int32)).toNatClampNeg)) a0) 12 35 (.ref h.1)).bind fun e1 =>
  if (25 : Int32) < 0 ∨ 5000 < (25 : Int32) then none else
  (jx_pF (jx_at (jx_new (jx_set (jx_new h ((24 : Int32)).toNatClampNeg (jx_arr 0 ((24 : Int32)).toNatClampNeg)) a0 e1) ((25 : Int32)).toNatClampNeg (jx_arr 0 ((25 : Int32)).toNatClampNeg)) a0) 12 36 (.ref (jx_set (jx_new h ((24 : Int32)).toNatClampNeg (jx_arr 0 ((24 : Int32)).toNatClampNeg)) a0 e1).1)).bind fun e2 =>
  jb_71 rc d 112 [(0, .ref a0)] [] (jx_set (jx_new (jx_set (jx_new h ((24 : Int32)).toNatClampNeg (jx_arr 0 ((24 : Int32)).toNatClampNeg)) a0 e1) ((25 : Int32)).toNatClampNeg (jx_arr 0 ((25 : Int32)).toNatClampNeg)) a0 e2) :=
  (jx_G_run (jx_X_grows rc jx_dflt jx_mt d) 8 _).trans rfl
set_option maxRecDepth 100000 in
theorem je_71_112 (rc : Nat → Nat × (Nat → Int32)) (d : Nat) (a0 : Nat) (h : jxH) : jb_71 rc d 112 [(0, .ref a0)] [] h =
  if (18 : Int32) < 0 ∨ 5000 < (18 : Int32) then none else
  (jx_pF (jx_at (jx_new h ((18 : Int32)).toNatClampNeg (jx_arr 0 ((18 : Int32)).toNatClampNeg)) a0) 12 37 (.ref h.1)).bind fun e1 =>
  some (none, (jx_set (jx_new h ((18 : Int32)).toNatClampNeg (jx_arr 0 ((18 : Int32)).toNatClampNeg)) a0 e1)) :=
  (jx_G_run (jx_X_grows rc jx_dflt jx_mt d) 7 _).trans rfl
-- RoomTreesModel.in(JJJ)Z
set_option maxRecDepth 100000 in
theorem je_72 (rc : Nat → Nat × (Nat → Int32)) (d : Nat) (x0 : Int64) (x2 : Int64) (x4 : Int64) (h : jxH) : jx_C rc (d + 1) 72 [.long x0, .long x2, .long x4] h =
  if (lg_cmp x0 x2) < 0 then
    if jx_bool (0 : Int32) = true then some (some (.int (0 : Int32)), h) else none
  else
    if 0 < (lg_cmp x0 x4) then
      if jx_bool (0 : Int32) = true then some (some (.int (0 : Int32)), h) else none
    else
      if jx_bool (1 : Int32) = true then some (some (.int (1 : Int32)), h) else none :=
  (jx_G_run (jx_X_grows rc jx_dflt jx_mt d) 14 (0, [(0, .long x0), (2, .long x2), (4, .long x4)], [], h)).trans rfl
-- RoomTreesModel.error(I)I
set_option maxRecDepth 100000 in
theorem je_73 (rc : Nat → Nat × (Nat → Int32)) (d : Nat) (a0 : Nat) (x1 : Int32) (h : jxH) : jx_C rc (d + 1) 73 [.ref a0, .int x1] h =
  if jx_is (jx_at h a0) 12 = true then
  (jx_gR (jx_at h a0) 12 0).bind fun b1 =>
  (jx_aI (jx_at h b1) 0 x1).bind fun v2 =>
  (jx_sI (jx_at h b1) 0 x1 (v2 + (1 : Int32))).bind fun e3 =>
  some (some (.int ((-1100000000 : Int32) - x1)), (jx_set h b1 e3))
  else none :=
  jx_enter ((jx_G_run (jx_X_grows rc jx_dflt jx_mt d) 14 (0, [(0, .ref a0), (1, .int x1)], [], h)).trans rfl)
-- RoomTreesModel.copies([I[I)V
noncomputable def jb_74 (rc : Nat → Nat × (Nat → Int32)) (d : Nat) (i : Nat) (ls : List (Nat × Value)) (st : List Value) (h : jxH) : jxR := jx_G rc jx_dflt (jx_X rc jx_dflt jx_mt d) jc_74 (i, ls, st, h)
set_option maxRecDepth 100000 in
theorem je_74 (rc : Nat → Nat × (Nat → Int32)) (d : Nat) (a0 : Nat) (a1 : Nat) (h : jxH) : jx_C rc (d + 1) 74 [.ref a0, .ref a1] h =
  jb_74 rc d 2 [(0, .ref a0), (1, .ref a1), (2, .int (0 : Int32))] [] h :=
  (jx_G_run (jx_X_grows rc jx_dflt jx_mt d) 16 (0, [(0, .ref a0), (1, .ref a1)], [], h)).trans rfl
set_option maxRecDepth 100000 in
theorem je_74_2 (rc : Nat → Nat × (Nat → Int32)) (d : Nat) (a0 : Nat) (a1 : Nat) (x2 : Int32) (h : jxH) : jb_74 rc d 2 [(0, .ref a0), (1, .ref a1), (2, .int x2)] [] h =
  if (25 : Int32) ≤ x2 then
    some (none, h)
  else
    (jx_aI (jx_at h a0) 0 x2).bind fun v1 =>
    (jx_sI (jx_at h a1) 0 x2 v1).bind fun e2 =>
    jb_74 rc d 2 [(0, .ref a0), (1, .ref a1), (2, .int (x2 + (1 : Int32)))] [] (jx_set h a1 e2) :=
  (jx_G_run (jx_X_grows rc jx_dflt jx_mt d) 16 _).trans rfl
-- RoomTreesModel.has(II)Z
set_option maxRecDepth 100000 in
theorem je_75 (rc : Nat → Nat × (Nat → Int32)) (d : Nat) (x0 : Int32) (x1 : Int32) (h : jxH) : jx_C rc (d + 1) 75 [.int x0, .int x1] h =
  if ((x0 >>> (x1 &&& 31)) &&& (1 : Int32)) = (1 : Int32) then
    if jx_bool (1 : Int32) = true then some (some (.int (1 : Int32)), h) else none
  else
    if jx_bool (0 : Int32) = true then some (some (.int (0 : Int32)), h) else none :=
  (jx_G_run (jx_X_grows rc jx_dflt jx_mt d) 13 (0, [(0, .int x0), (1, .int x1)], [], h)).trans rfl
-- RoomTreesModel.many(I)I
noncomputable def jb_76 (rc : Nat → Nat × (Nat → Int32)) (d : Nat) (i : Nat) (ls : List (Nat × Value)) (st : List Value) (h : jxH) : jxR := jx_G rc jx_dflt (jx_X rc jx_dflt jx_mt d) jc_76 (i, ls, st, h)
set_option maxRecDepth 100000 in
theorem je_76 (rc : Nat → Nat × (Nat → Int32)) (d : Nat) (x0 : Int32) (h : jxH) : jx_C rc (d + 1) 76 [.int x0] h =
  jb_76 rc d 4 [(0, .int x0), (1, .int (0 : Int32)), (2, .int (0 : Int32))] [] h :=
  (jx_G_run (jx_X_grows rc jx_dflt jx_mt d) 21 (0, [(0, .int x0)], [], h)).trans rfl
set_option maxRecDepth 100000 in
theorem je_76_4 (rc : Nat → Nat × (Nat → Int32)) (d : Nat) (x0 : Int32) (x1 : Int32) (x2 : Int32) (h : jxH) : jb_76 rc d 4 [(0, .int x0), (1, .int x1), (2, .int x2)] [] h =
  if (12 : Int32) ≤ x2 then
    some (some (.int x1), h)
  else
    jb_76 rc d 4 [(0, .int x0), (1, .int (x1 + ((x0 >>> (x2 &&& 31)) &&& (1 : Int32)))), (2, .int (x2 + (1 : Int32)))] [] h :=
  (jx_G_run (jx_X_grows rc jx_dflt jx_mt d) 21 _).trans rfl
-- RoomTreesModel.lowest(I)I
noncomputable def jb_77 (rc : Nat → Nat × (Nat → Int32)) (d : Nat) (i : Nat) (ls : List (Nat × Value)) (st : List Value) (h : jxH) : jxR := jx_G rc jx_dflt (jx_X rc jx_dflt jx_mt d) jc_77 (i, ls, st, h)
set_option maxRecDepth 100000 in
theorem je_77 (rc : Nat → Nat × (Nat → Int32)) (d : Nat) (x0 : Int32) (h : jxH) : jx_C rc (d + 1) 77 [.int x0] h =
  jb_77 rc d 2 [(0, .int x0), (1, .int (0 : Int32))] [] h :=
  (jx_G_run (jx_X_grows rc jx_dflt jx_mt d) 12 (0, [(0, .int x0)], [], h)).trans rfl
set_option maxRecDepth 100000 in
theorem je_77_2 (rc : Nat → Nat × (Nat → Int32)) (d : Nat) (x0 : Int32) (x1 : Int32) (h : jxH) : jb_77 rc d 2 [(0, .int x0), (1, .int x1)] [] h =
  jx_cI (jx_C rc d 75 [.int x0, .int x1] h) fun v2 h1 =>
  if v2 = 0 then
    jb_77 rc d 2 [(0, .int x0), (1, .int (x1 + (1 : Int32)))] [] h1
  else
    some (some (.int x1), h1) :=
  (jx_G_run (jx_X_grows rc jx_dflt jx_mt d) 12 _).trans rfl
-- RoomTreesModel.isThere([II)Z
set_option maxRecDepth 100000 in
theorem je_78 (rc : Nat → Nat × (Nat → Int32)) (d : Nat) (a0 : Nat) (x1 : Int32) (h : jxH) : jx_C rc (d + 1) 78 [.ref a0, .int x1] h =
  jx_cI (jx_C rc d 72 [.long (x1).toInt64, .long (0 : Int64), .long (11 : Int64)] h) fun v2 h1 =>
  if v2 = 0 then
    if jx_bool (0 : Int32) = true then some (some (.int (0 : Int32)), h1) else none
  else
    (jx_aI (jx_at h1 a0) 0 (0 : Int32)).bind fun v3 =>
    jx_cI (jx_C rc d 75 [.int v3, .int x1] h1) fun v5 h4 =>
    if v5 = 0 then
      if jx_bool (0 : Int32) = true then some (some (.int (0 : Int32)), h4) else none
    else
      if jx_bool (1 : Int32) = true then some (some (.int (1 : Int32)), h4) else none :=
  (jx_G_run (jx_X_grows rc jx_dflt jx_mt d) 18 (0, [(0, .ref a0), (1, .int x1)], [], h)).trans rfl
-- RoomTreesModel.isVertex(I)Z
set_option maxRecDepth 100000 in
theorem je_79 (rc : Nat → Nat × (Nat → Int32)) (d : Nat) (a0 : Nat) (x1 : Int32) (h : jxH) : jx_C rc (d + 1) 79 [.ref a0, .int x1] h =
  if jx_is (jx_at h a0) 12 = true then
  (jx_gR (jx_at h a0) 12 1).bind fun b1 =>
  jx_cI (jx_C rc d 78 [.ref b1, .int x1] h) fun v3 h2 =>
  if jx_bool v3 = true then some (some (.int v3), h2) else none
  else none :=
  jx_enter ((jx_G_run (jx_X_grows rc jx_dflt jx_mt d) 7 (0, [(0, .ref a0), (1, .int x1)], [], h)).trans rfl)
-- RoomTreesModel.isWeight(I)Z
set_option maxRecDepth 100000 in
theorem je_80 (rc : Nat → Nat × (Nat → Int32)) (d : Nat) (x0 : Int32) (h : jxH) : jx_C rc (d + 1) 80 [.int x0] h =
  jx_cI (jx_C rc d 72 [.long (x0).toInt64, .long (-30 : Int64), .long (30 : Int64)] h) fun v2 h1 =>
  if jx_bool v2 = true then some (some (.int v2), h1) else none :=
  (jx_G_run (jx_X_grows rc jx_dflt jx_mt d) 8 (0, [(0, .int x0)], [], h)).trans rfl
-- RoomTreesModel.comes([II)I
set_option maxRecDepth 100000 in
theorem je_81 (rc : Nat → Nat × (Nat → Int32)) (d : Nat) (a0 : Nat) (x1 : Int32) (h : jxH) : jx_C rc (d + 1) 81 [.ref a0, .int x1] h =
  (jx_aI (jx_at h a0) 0 (0 : Int32)).bind fun v1 =>
  jx_cI (jx_C rc d 77 [.int (v1 ^^^ (-1 : Int32))] h) fun v3 h2 =>
  (jx_aI (jx_at h2 a0) 0 (0 : Int32)).bind fun v4 =>
  (jx_sI (jx_at h2 a0) 0 (0 : Int32) (v4 ||| ((1 : Int32) <<< (v3 &&& 31)))).bind fun e5 =>
  (jx_sI (jx_at (jx_set h2 a0 e5) a0) 0 ((1 : Int32) + v3) x1).bind fun e6 =>
  (jx_sI (jx_at (jx_set (jx_set h2 a0 e5) a0 e6) a0) 0 ((13 : Int32) + v3) (0 : Int32)).bind fun e7 =>
  some (some (.int v3), (jx_set (jx_set (jx_set h2 a0 e5) a0 e6) a0 e7)) :=
  (jx_G_run (jx_X_grows rc jx_dflt jx_mt d) 32 (0, [(0, .ref a0), (1, .int x1)], [], h)).trans rfl
-- RoomTreesModel.ties([III)V
set_option maxRecDepth 100000 in
theorem je_82 (rc : Nat → Nat × (Nat → Int32)) (d : Nat) (a0 : Nat) (x1 : Int32) (x2 : Int32) (h : jxH) : jx_C rc (d + 1) 82 [.ref a0, .int x1, .int x2] h =
  (jx_aI (jx_at h a0) 0 ((13 : Int32) + x1)).bind fun v1 =>
  (jx_sI (jx_at h a0) 0 ((13 : Int32) + x1) (v1 ||| ((1 : Int32) <<< (x2 &&& 31)))).bind fun e2 =>
  (jx_aI (jx_at (jx_set h a0 e2) a0) 0 ((13 : Int32) + x2)).bind fun v3 =>
  (jx_sI (jx_at (jx_set h a0 e2) a0) 0 ((13 : Int32) + x2) (v3 ||| ((1 : Int32) <<< (x1 &&& 31)))).bind fun e4 =>
  some (none, (jx_set (jx_set h a0 e2) a0 e4)) :=
  (jx_G_run (jx_X_grows rc jx_dflt jx_mt d) 25 (0, [(0, .ref a0), (1, .int x1), (2, .int x2)], [], h)).trans rfl
-- RoomTreesModel.cuts([III)V
set_option maxRecDepth 100000 in
theorem je_83 (rc : Nat → Nat × (Nat → Int32)) (d : Nat) (a0 : Nat) (x1 : Int32) (x2 : Int32) (h : jxH) : jx_C rc (d + 1) 83 [.ref a0, .int x1, .int x2] h =
  (jx_aI (jx_at h a0) 0 ((13 : Int32) + x1)).bind fun v1 =>
  (jx_sI (jx_at h a0) 0 ((13 : Int32) + x1) (v1 &&& (((1 : Int32) <<< (x2 &&& 31)) ^^^ (-1 : Int32)))).bind fun e2 =>
  (jx_aI (jx_at (jx_set h a0 e2) a0) 0 ((13 : Int32) + x2)).bind fun v3 =>
  (jx_sI (jx_at (jx_set h a0 e2) a0) 0 ((13 : Int32) + x2) (v3 &&& (((1 : Int32) <<< (x1 &&& 31)) ^^^ (-1 : Int32)))).bind fun e4 =>
  some (none, (jx_set (jx_set h a0 e2) a0 e4)) :=
  (jx_G_run (jx_X_grows rc jx_dflt jx_mt d) 29 (0, [(0, .ref a0), (1, .int x1), (2, .int x2)], [], h)).trans rfl
-- RoomTreesModel.leaves([II)V
noncomputable def jb_84 (rc : Nat → Nat × (Nat → Int32)) (d : Nat) (i : Nat) (ls : List (Nat × Value)) (st : List Value) (h : jxH) : jxR := jx_G rc jx_dflt (jx_X rc jx_dflt jx_mt d) jc_84 (i, ls, st, h)
set_option maxRecDepth 100000 in
theorem je_84 (rc : Nat → Nat × (Nat → Int32)) (d : Nat) (a0 : Nat) (x1 : Int32) (h : jxH) : jx_C rc (d + 1) 84 [.ref a0, .int x1] h =
  jb_84 rc d 2 [(0, .ref a0), (1, .int x1), (2, .int (0 : Int32))] [] h :=
  (jx_G_run (jx_X_grows rc jx_dflt jx_mt d) 46 (0, [(0, .ref a0), (1, .int x1)], [], h)).trans rfl
set_option maxRecDepth 100000 in
theorem je_84_2 (rc : Nat → Nat × (Nat → Int32)) (d : Nat) (a0 : Nat) (x1 : Int32) (x2 : Int32) (h : jxH) : jb_84 rc d 2 [(0, .ref a0), (1, .int x1), (2, .int x2)] [] h =
  if (12 : Int32) ≤ x2 then
    (jx_sI (jx_at h a0) 0 ((13 : Int32) + x1) (0 : Int32)).bind fun e1 =>
    (jx_sI (jx_at (jx_set h a0 e1) a0) 0 ((1 : Int32) + x1) (0 : Int32)).bind fun e2 =>
    (jx_aI (jx_at (jx_set (jx_set h a0 e1) a0 e2) a0) 0 (0 : Int32)).bind fun v3 =>
    (jx_sI (jx_at (jx_set (jx_set h a0 e1) a0 e2) a0) 0 (0 : Int32) (v3 &&& (((1 : Int32) <<< (x1 &&& 31)) ^^^ (-1 : Int32)))).bind fun e4 =>
    some (none, (jx_set (jx_set (jx_set h a0 e1) a0 e2) a0 e4))
  else
    (jx_aI (jx_at h a0) 0 ((13 : Int32) + x2)).bind fun v5 =>
    (jx_sI (jx_at h a0) 0 ((13 : Int32) + x2) (v5 &&& (((1 : Int32) <<< (x1 &&& 31)) ^^^ (-1 : Int32)))).bind fun e6 =>
    jb_84 rc d 2 [(0, .ref a0), (1, .int x1), (2, .int (x2 + (1 : Int32)))] [] (jx_set h a0 e6) :=
  (jx_G_run (jx_X_grows rc jx_dflt jx_mt d) 46 _).trans rfl
-- RoomTreesModel.treeOf([II)I
noncomputable def jb_85 (rc : Nat → Nat × (Nat → Int32)) (d : Nat) (i : Nat) (ls : List (Nat × Value)) (st : List Value) (h : jxH) : jxR := jx_G rc jx_dflt (jx_X rc jx_dflt jx_mt d) jc_85 (i, ls, st, h)
set_option maxRecDepth 100000 in
theorem je_85 (rc : Nat → Nat × (Nat → Int32)) (d : Nat) (a0 : Nat) (x1 : Int32) (h : jxH) : jx_C rc (d + 1) 85 [.ref a0, .int x1] h =
  jb_85 rc d 6 [(0, .ref a0), (2, .int ((1 : Int32) <<< (x1 &&& 31))), (3, .int (0 : Int32))] [] h :=
  (jx_G_run (jx_X_grows rc jx_dflt jx_mt d) 37 (0, [(0, .ref a0), (1, .int x1)], [], h)).trans rfl
set_option maxRecDepth 100000 in
theorem je_85_6 (rc : Nat → Nat × (Nat → Int32)) (d : Nat) (a0 : Nat) (x2 : Int32) (x3 : Int32) (h : jxH) : jb_85 rc d 6 [(0, .ref a0), (2, .int x2), (3, .int x3)] [] h =
  if x3 = x2 then
    some (some (.int x2), h)
  else
    jb_85 rc d 13 [(0, .ref a0), (2, .int x2), (3, .int x2), (4, .int (0 : Int32))] [] h :=
  (jx_G_run (jx_X_grows rc jx_dflt jx_mt d) 37 _).trans rfl
set_option maxRecDepth 100000 in
theorem je_85_13 (rc : Nat → Nat × (Nat → Int32)) (d : Nat) (a0 : Nat) (x2 : Int32) (x3 : Int32) (x4 : Int32) (h : jxH) : jb_85 rc d 13 [(0, .ref a0), (2, .int x2), (3, .int x3), (4, .int x4)] [] h =
  if (12 : Int32) ≤ x4 then
    jb_85 rc d 6 [(0, .ref a0), (2, .int x2), (3, .int x3)] [] h
  else
    jx_cI (jx_C rc d 75 [.int x2, .int x4] h) fun v2 h1 =>
    if v2 = 0 then
      jb_85 rc d 13 [(0, .ref a0), (2, .int (x2 ||| (0 : Int32))), (3, .int x3), (4, .int (x4 + (1 : Int32)))] [] h1
    else
      (jx_aI (jx_at h1 a0) 0 ((13 : Int32) + x4)).bind fun v3 =>
      jb_85 rc d 13 [(0, .ref a0), (2, .int (x2 ||| v3)), (3, .int x3), (4, .int (x4 + (1 : Int32)))] [] h1 :=
  (jx_G_run (jx_X_grows rc jx_dflt jx_mt d) 37 _).trans rfl
-- RoomTreesModel.trees([I)I
noncomputable def jb_86 (rc : Nat → Nat × (Nat → Int32)) (d : Nat) (i : Nat) (ls : List (Nat × Value)) (st : List Value) (h : jxH) : jxR := jx_G rc jx_dflt (jx_X rc jx_dflt jx_mt d) jc_86 (i, ls, st, h)
set_option maxRecDepth 100000 in
theorem je_86 (rc : Nat → Nat × (Nat → Int32)) (d : Nat) (a0 : Nat) (h : jxH) : jx_C rc (d + 1) 86 [.ref a0] h =
  jb_86 rc d 4 [(0, .ref a0), (1, .int (0 : Int32)), (2, .int (0 : Int32))] [] h :=
  (jx_G_run (jx_X_grows rc jx_dflt jx_mt d) 31 (0, [(0, .ref a0)], [], h)).trans rfl
set_option maxRecDepth 100000 in
theorem je_86_4 (rc : Nat → Nat × (Nat → Int32)) (d : Nat) (a0 : Nat) (x1 : Int32) (x2 : Int32) (h : jxH) : jb_86 rc d 4 [(0, .ref a0), (1, .int x1), (2, .int x2)] [] h =
  if (12 : Int32) ≤ x2 then
    some (some (.int x1), h)
  else
    (jx_aI (jx_at h a0) 0 (0 : Int32)).bind fun v1 =>
    jx_cI (jx_C rc d 75 [.int v1, .int x2] h) fun v3 h2 =>
    if v3 = 0 then
      jb_86 rc d 4 [(0, .ref a0), (1, .int (x1 + (0 : Int32))), (2, .int (x2 + (1 : Int32)))] [] h2
    else
      jx_cI (jx_C rc d 85 [.ref a0, .int x2] h2) fun v5 h4 =>
      jx_cI (jx_C rc d 77 [.int v5] h4) fun v7 h6 =>
      if v7 = x2 then
        jb_86 rc d 4 [(0, .ref a0), (1, .int (x1 + (1 : Int32))), (2, .int (x2 + (1 : Int32)))] [] h6
      else
        jb_86 rc d 4 [(0, .ref a0), (1, .int (x1 + (0 : Int32))), (2, .int (x2 + (1 : Int32)))] [] h6 :=
  (jx_G_run (jx_X_grows rc jx_dflt jx_mt d) 31 _).trans rfl
-- RoomTreesModel.lightest([II)I
set_option maxRecDepth 100000 in
theorem je_87 (rc : Nat → Nat × (Nat → Int32)) (d : Nat) (a0 : Nat) (x1 : Int32) (h : jxH) : jx_C rc (d + 1) 87 [.ref a0, .int x1] h =
  (jx_aI (jx_at h a0) 0 ((13 : Int32) + x1)).bind fun v1 =>
  jx_cI (jx_C rc d 77 [.int v1] h) fun v3 h2 =>
  some (some (.int v3), h2) :=
  (jx_G_run (jx_X_grows rc jx_dflt jx_mt d) 9 (0, [(0, .ref a0), (1, .int x1)], [], h)).trans rfl
-- RoomTreesModel.other([II)I
set_option maxRecDepth 100000 in
theorem je_88 (rc : Nat → Nat × (Nat → Int32)) (d : Nat) (a0 : Nat) (x1 : Int32) (h : jxH) : jx_C rc (d + 1) 88 [.ref a0, .int x1] h =
  (jx_aI (jx_at h a0) 0 ((13 : Int32) + x1)).bind fun v1 =>
  (jx_aI (jx_at h a0) 0 ((13 : Int32) + x1)).bind fun v2 =>
  jx_cI (jx_C rc d 77 [.int (v1 &&& (v2 - (1 : Int32)))] h) fun v4 h3 =>
  some (some (.int v4), h3) :=
  (jx_G_run (jx_X_grows rc jx_dflt jx_mt d) 17 (0, [(0, .ref a0), (1, .int x1)], [], h)).trans rfl
-- RoomTreesModel.isAsTold([IIIIII)Z
noncomputable def jb_89 (rc : Nat → Nat × (Nat → Int32)) (d : Nat) (i : Nat) (ls : List (Nat × Value)) (st : List Value) (h : jxH) : jxR := jx_G rc jx_dflt (jx_X rc jx_dflt jx_mt d) jc_89 (i, ls, st, h)
set_option maxRecDepth 100000 in
theorem je_89 (rc : Nat → Nat × (Nat → Int32)) (d : Nat) (a0 : Nat) (x1 : Int32) (x2 : Int32) (x3 : Int32) (x4 : Int32) (x5 : Int32) (h : jxH) : jx_C rc (d + 1) 89 [.ref a0, .int x1, .int x2, .int x3, .int x4, .int x5] h =
  jx_cI (jx_C rc d 72 [.long (x1).toInt64, .long (0 : Int64), .long (7 : Int64)] h) fun v2 h1 =>
  if v2 = 0 then
    if jx_bool (0 : Int32) = true then some (some (.int (0 : Int32)), h1) else none
  else
    if x1 = (3 : Int32) then
      if x1 = (1 : Int32) then
        jx_cI (jx_C rc d 78 [.ref a0, .int x3] h1) fun v4 h3 =>
        if v4 = 0 then
          if jx_bool (0 : Int32) = true then some (some (.int (0 : Int32)), h3) else none
        else
          jb_89 rc d 27 [(0, .ref a0), (1, .int x1), (2, .int x2), (4, .int x4), (5, .int x5)] [] h3
      else
        jb_89 rc d 27 [(0, .ref a0), (1, .int x1), (2, .int x2), (4, .int x4), (5, .int x5)] [] h1
    else
      if x1 = (6 : Int32) then
        if x1 = (1 : Int32) then
          jx_cI (jx_C rc d 78 [.ref a0, .int x3] h1) fun v6 h5 =>
          if v6 = 0 then
            if jx_bool (0 : Int32) = true then some (some (.int (0 : Int32)), h5) else none
          else
            jb_89 rc d 27 [(0, .ref a0), (1, .int x1), (2, .int x2), (4, .int x4), (5, .int x5)] [] h5
        else
          jb_89 rc d 27 [(0, .ref a0), (1, .int x1), (2, .int x2), (4, .int x4), (5, .int x5)] [] h1
      else
        jx_cI (jx_C rc d 78 [.ref a0, .int x2] h1) fun v8 h7 =>
        if v8 = 0 then
          if jx_bool (0 : Int32) = true then some (some (.int (0 : Int32)), h7) else none
        else
          if x1 = (1 : Int32) then
            jx_cI (jx_C rc d 78 [.ref a0, .int x3] h7) fun v10 h9 =>
            if v10 = 0 then
              if jx_bool (0 : Int32) = true then some (some (.int (0 : Int32)), h9) else none
            else
              jb_89 rc d 27 [(0, .ref a0), (1, .int x1), (2, .int x2), (4, .int x4), (5, .int x5)] [] h9
          else
            jb_89 rc d 27 [(0, .ref a0), (1, .int x1), (2, .int x2), (4, .int x4), (5, .int x5)] [] h7 :=
  (jx_G_run (jx_X_grows rc jx_dflt jx_mt d) 63 (0, [(0, .ref a0), (1, .int x1), (2, .int x2), (3, .int x3), (4, .int x4), (5, .int x5)], [], h)).trans rfl
set_option maxRecDepth 100000 in
theorem je_89_27 (rc : Nat → Nat × (Nat → Int32)) (d : Nat) (a0 : Nat) (x1 : Int32) (x2 : Int32) (x4 : Int32) (x5 : Int32) (h : jxH) : jb_89 rc d 27 [(0, .ref a0), (1, .int x1), (2, .int x2), (4, .int x4), (5, .int x5)] [] h =
  jx_cI (jx_C rc d 72 [.long (x1).toInt64, .long (1 : Int64), .long (3 : Int64)] h) fun v2 h1 =>
  if v2 = 0 then
    if x1 = (7 : Int32) then
      jx_cI (jx_C rc d 80 [.int x4] h1) fun v4 h3 =>
      if v4 = 0 then
        if jx_bool (0 : Int32) = true then some (some (.int (0 : Int32)), h3) else none
      else
        (jx_aI (jx_at h3 a0) 0 ((13 : Int32) + x2)).bind fun v5 =>
        if (x5 &&& (v5 ^^^ (-1 : Int32))) = 0 then
          if jx_bool (1 : Int32) = true then some (some (.int (1 : Int32)), h3) else none
        else
          if jx_bool (0 : Int32) = true then some (some (.int (0 : Int32)), h3) else none
    else
      if jx_bool (1 : Int32) = true then some (some (.int (1 : Int32)), h1) else none
  else
    if x4 = (1 : Int32) then
      if x1 = (7 : Int32) then
        jx_cI (jx_C rc d 80 [.int x4] h1) fun v7 h6 =>
        if v7 = 0 then
          if jx_bool (0 : Int32) = true then some (some (.int (0 : Int32)), h6) else none
        else
          (jx_aI (jx_at h6 a0) 0 ((13 : Int32) + x2)).bind fun v8 =>
          if (x5 &&& (v8 ^^^ (-1 : Int32))) = 0 then
            if jx_bool (1 : Int32) = true then some (some (.int (1 : Int32)), h6) else none
          else
            if jx_bool (0 : Int32) = true then some (some (.int (0 : Int32)), h6) else none
      else
        if jx_bool (1 : Int32) = true then some (some (.int (1 : Int32)), h1) else none
    else
      if x4 = (-1 : Int32) then
        if x1 = (7 : Int32) then
          jx_cI (jx_C rc d 80 [.int x4] h1) fun v10 h9 =>
          if v10 = 0 then
            if jx_bool (0 : Int32) = true then some (some (.int (0 : Int32)), h9) else none
          else
            (jx_aI (jx_at h9 a0) 0 ((13 : Int32) + x2)).bind fun v11 =>
            if (x5 &&& (v11 ^^^ (-1 : Int32))) = 0 then
              if jx_bool (1 : Int32) = true then some (some (.int (1 : Int32)), h9) else none
            else
              if jx_bool (0 : Int32) = true then some (some (.int (0 : Int32)), h9) else none
        else
          if jx_bool (1 : Int32) = true then some (some (.int (1 : Int32)), h1) else none
      else
        if jx_bool (0 : Int32) = true then some (some (.int (0 : Int32)), h1) else none :=
  (jx_G_run (jx_X_grows rc jx_dflt jx_mt d) 63 _).trans rfl
-- RoomTreesModel.canBe([IIII)Z
noncomputable def jb_90 (rc : Nat → Nat × (Nat → Int32)) (d : Nat) (i : Nat) (ls : List (Nat × Value)) (st : List Value) (h : jxH) : jxR := jx_G rc jx_dflt (jx_X rc jx_dflt jx_mt d) jc_90 (i, ls, st, h)
set_option maxRecDepth 100000 in
theorem je_90 (rc : Nat → Nat × (Nat → Int32)) (d : Nat) (a0 : Nat) (x1 : Int32) (x2 : Int32) (x3 : Int32) (h : jxH) : jx_C rc (d + 1) 90 [.ref a0, .int x1, .int x2, .int x3] h =
  if x1 = (3 : Int32) then
    if x1 = (3 : Int32) then
      jb_90 rc d 28 [(0, .ref a0), (1, .int x1), (2, .int x2), (3, .int x3), (4, .int (0 : Int32))] [.int (0 : Int32)] h
    else
      if x1 = (6 : Int32) then
        jb_90 rc d 28 [(0, .ref a0), (1, .int x1), (2, .int x2), (3, .int x3), (4, .int (0 : Int32))] [.int (0 : Int32)] h
      else
        (jx_aI (jx_at h a0) 0 ((13 : Int32) + x2)).bind fun v1 =>
        jx_cI (jx_C rc d 76 [.int v1] h) fun v3 h2 =>
        jb_90 rc d 28 [(0, .ref a0), (1, .int x1), (2, .int x2), (3, .int x3), (4, .int (0 : Int32))] [.int v3] h2
  else
    if x1 = (6 : Int32) then
      if x1 = (3 : Int32) then
        jb_90 rc d 28 [(0, .ref a0), (1, .int x1), (2, .int x2), (3, .int x3), (4, .int (0 : Int32))] [.int (0 : Int32)] h
      else
        if x1 = (6 : Int32) then
          jb_90 rc d 28 [(0, .ref a0), (1, .int x1), (2, .int x2), (3, .int x3), (4, .int (0 : Int32))] [.int (0 : Int32)] h
        else
          (jx_aI (jx_at h a0) 0 ((13 : Int32) + x2)).bind fun v4 =>
          jx_cI (jx_C rc d 76 [.int v4] h) fun v6 h5 =>
          jb_90 rc d 28 [(0, .ref a0), (1, .int x1), (2, .int x2), (3, .int x3), (4, .int (0 : Int32))] [.int v6] h5
    else
      (jx_aI (jx_at h a0) 0 ((1 : Int32) + x2)).bind fun v7 =>
      if x1 = (3 : Int32) then
        jb_90 rc d 28 [(0, .ref a0), (1, .int x1), (2, .int x2), (3, .int x3), (4, .int v7)] [.int (0 : Int32)] h
      else
        if x1 = (6 : Int32) then
          jb_90 rc d 28 [(0, .ref a0), (1, .int x1), (2, .int x2), (3, .int x3), (4, .int v7)] [.int (0 : Int32)] h
        else
          (jx_aI (jx_at h a0) 0 ((13 : Int32) + x2)).bind fun v8 =>
          jx_cI (jx_C rc d 76 [.int v8] h) fun v10 h9 =>
          jb_90 rc d 28 [(0, .ref a0), (1, .int x1), (2, .int x2), (3, .int x3), (4, .int v7)] [.int v10] h9 :=
  (jx_G_run (jx_X_grows rc jx_dflt jx_mt d) 74 (0, [(0, .ref a0), (1, .int x1), (2, .int x2), (3, .int x3)], [], h)).trans rfl
set_option maxRecDepth 100000 in
theorem je_90_28 (rc : Nat → Nat × (Nat → Int32)) (d : Nat) (a0 : Nat) (x1 : Int32) (x2 : Int32) (x3 : Int32) (x4 : Int32) (s0 : Int32) (h : jxH) : jb_90 rc d 28 [(0, .ref a0), (1, .int x1), (2, .int x2), (3, .int x3), (4, .int x4)] [.int s0] h =
  if x1 = (0 : Int32) then
    if x4 = (1 : Int32) then
      if (2 : Int32) < s0 then
        if jx_bool (0 : Int32) = true then some (some (.int (0 : Int32)), h) else none
      else
        if jx_bool (1 : Int32) = true then some (some (.int (1 : Int32)), h) else none
    else
      if x4 = (-1 : Int32) then
        if (2 : Int32) < s0 then
          if jx_bool (0 : Int32) = true then some (some (.int (0 : Int32)), h) else none
        else
          if jx_bool (1 : Int32) = true then some (some (.int (1 : Int32)), h) else none
      else
        if jx_bool (0 : Int32) = true then some (some (.int (0 : Int32)), h) else none
  else if x1 = ((0 : Int32) + 1) then
    (jx_aI (jx_at h a0) 0 ((13 : Int32) + x2)).bind fun v1 =>
    jx_cI (jx_C rc d 75 [.int v1, .int x3] h) fun v3 h2 =>
    if jx_bool v3 = true then some (some (.int v3), h2) else none
  else if x1 = (((0 : Int32) + 1) + 1) then
    if jx_bool (1 : Int32) = true then some (some (.int (1 : Int32)), h) else none
  else if x1 = ((((0 : Int32) + 1) + 1) + 1) then
    if jx_bool (1 : Int32) = true then some (some (.int (1 : Int32)), h) else none
  else if x1 = (((((0 : Int32) + 1) + 1) + 1) + 1) then
    if x4 = 0 then
      if s0 = (2 : Int32) then
        if jx_bool (1 : Int32) = true then some (some (.int (1 : Int32)), h) else none
      else
        if jx_bool (0 : Int32) = true then some (some (.int (0 : Int32)), h) else none
    else
      if jx_bool (0 : Int32) = true then some (some (.int (0 : Int32)), h) else none
  else if x1 = ((((((0 : Int32) + 1) + 1) + 1) + 1) + 1) then
    if x4 = 0 then
      if s0 = (1 : Int32) then
        if jx_bool (1 : Int32) = true then some (some (.int (1 : Int32)), h) else none
      else
        if jx_bool (0 : Int32) = true then some (some (.int (0 : Int32)), h) else none
    else
      if jx_bool (0 : Int32) = true then some (some (.int (0 : Int32)), h) else none
  else 
    if jx_bool (1 : Int32) = true then some (some (.int (1 : Int32)), h) else none :=
  (jx_G_run (jx_X_grows rc jx_dflt jx_mt d) 74 _).trans rfl
-- RoomTreesModel.room(I)I
set_option maxRecDepth 100000 in
theorem je_91 (rc : Nat → Nat × (Nat → Int32)) (d : Nat) (x0 : Int32) (h : jxH) : jx_C rc (d + 1) 91 [.int x0] h =
  if x0 = (7 : Int32) then
    some (some (.int (2 : Int32)), h)
  else
    jx_cI (jx_C rc d 72 [.long (x0).toInt64, .long (1 : Int64), .long (3 : Int64)] h) fun v2 h1 =>
    if v2 = 0 then
      some (some (.int (0 : Int32)), h1)
    else
      some (some (.int (1 : Int32)), h1) :=
  (jx_G_run (jx_X_grows rc jx_dflt jx_mt d) 17 (0, [(0, .int x0)], [], h)).trans rfl
-- RoomTreesModel.isLight([IIIII)Z
noncomputable def jb_92 (rc : Nat → Nat × (Nat → Int32)) (d : Nat) (i : Nat) (ls : List (Nat × Value)) (st : List Value) (h : jxH) : jxR := jx_G rc jx_dflt (jx_X rc jx_dflt jx_mt d) jc_92 (i, ls, st, h)
set_option maxRecDepth 100000 in
theorem je_92 (rc : Nat → Nat × (Nat → Int32)) (d : Nat) (a0 : Nat) (x1 : Int32) (x2 : Int32) (x3 : Int32) (x4 : Int32) (h : jxH) : jx_C rc (d + 1) 92 [.ref a0, .int x1, .int x2, .int x3, .int x4] h =
  if x1 = (0 : Int32) then
    jb_92 rc d 6 [(0, .ref a0), (2, .int x2), (5, .int (1 : Int32)), (6, .int (0 : Int32))] [] h
  else if x1 = ((0 : Int32) + 1) then
    (jx_aI (jx_at h a0) 0 ((1 : Int32) + x2)).bind fun v1 =>
    jx_cI (jx_C rc d 80 [.int (v1 + x4)] h) fun v3 h2 =>
    if v3 = 0 then
      if jx_bool (0 : Int32) = true then some (some (.int (0 : Int32)), h2) else none
    else
      (jx_aI (jx_at h2 a0) 0 ((1 : Int32) + x3)).bind fun v4 =>
      jx_cI (jx_C rc d 80 [.int (v4 + x4)] h2) fun v6 h5 =>
      if v6 = 0 then
        if jx_bool (0 : Int32) = true then some (some (.int (0 : Int32)), h5) else none
      else
        if jx_bool (1 : Int32) = true then some (some (.int (1 : Int32)), h5) else none
  else if x1 = (((0 : Int32) + 1) + 1) then
    (jx_aI (jx_at h a0) 0 ((1 : Int32) + x2)).bind fun v7 =>
    jx_cI (jx_C rc d 80 [.int (v7 + x4)] h) fun v9 h8 =>
    if jx_bool v9 = true then some (some (.int v9), h8) else none
  else if x1 = ((((0 : Int32) + 1) + 1) + 1) then
    if jx_bool (1 : Int32) = true then some (some (.int (1 : Int32)), h) else none
  else if x1 = (((((0 : Int32) + 1) + 1) + 1) + 1) then
    jx_cI (jx_C rc d 87 [.ref a0, .int x2] h) fun v11 h10 =>
    (jx_aI (jx_at h10 a0) 0 ((1 : Int32) + v11)).bind fun v12 =>
    jx_cI (jx_C rc d 88 [.ref a0, .int x2] h10) fun v14 h13 =>
    (jx_aI (jx_at h13 a0) 0 ((1 : Int32) + v14)).bind fun v15 =>
    jx_cI (jx_C rc d 80 [.int (v12 + v15)] h13) fun v17 h16 =>
    if jx_bool v17 = true then some (some (.int v17), h16) else none
  else if x1 = ((((((0 : Int32) + 1) + 1) + 1) + 1) + 1) then
    if jx_bool (1 : Int32) = true then some (some (.int (1 : Int32)), h) else none
  else if x1 = (((((((0 : Int32) + 1) + 1) + 1) + 1) + 1) + 1) then
    if jx_bool (1 : Int32) = true then some (some (.int (1 : Int32)), h) else none
  else if x1 = ((((((((0 : Int32) + 1) + 1) + 1) + 1) + 1) + 1) + 1) then
    (jx_aI (jx_at h a0) 0 ((1 : Int32) + x2)).bind fun v18 =>
    jx_cI (jx_C rc d 80 [.int (v18 - x4)] h) fun v20 h19 =>
    if jx_bool v20 = true then some (some (.int v20), h19) else none
  else 
    if jx_bool (1 : Int32) = true then some (some (.int (1 : Int32)), h) else none :=
  (jx_G_run (jx_X_grows rc jx_dflt jx_mt d) 101 (0, [(0, .ref a0), (1, .int x1), (2, .int x2), (3, .int x3), (4, .int x4)], [], h)).trans rfl
set_option maxRecDepth 100000 in
theorem je_92_6 (rc : Nat → Nat × (Nat → Int32)) (d : Nat) (a0 : Nat) (x2 : Int32) (x5 : Int32) (x6 : Int32) (h : jxH) : jb_92 rc d 6 [(0, .ref a0), (2, .int x2), (5, .int x5), (6, .int x6)] [] h =
  if (12 : Int32) ≤ x6 then
    if jx_bool x5 = true then some (some (.int x5), h) else none
  else
    (jx_aI (jx_at h a0) 0 ((13 : Int32) + x2)).bind fun v1 =>
    jx_cI (jx_C rc d 75 [.int v1, .int x6] h) fun v3 h2 =>
    if v3 = 0 then
      jb_92 rc d 6 [(0, .ref a0), (2, .int x2), (5, .int (x5 &&& (1 : Int32))), (6, .int (x6 + (1 : Int32)))] [] h2
    else
      (jx_aI (jx_at h2 a0) 0 ((1 : Int32) + x6)).bind fun v4 =>
      (jx_aI (jx_at h2 a0) 0 ((1 : Int32) + x2)).bind fun v5 =>
      jx_cI (jx_C rc d 80 [.int (v4 - v5)] h2) fun v7 h6 =>
      if v7 = 0 then
        jb_92 rc d 6 [(0, .ref a0), (2, .int x2), (5, .int (x5 &&& (0 : Int32))), (6, .int (x6 + (1 : Int32)))] [] h6
      else
        jb_92 rc d 6 [(0, .ref a0), (2, .int x2), (5, .int (x5 &&& (1 : Int32))), (6, .int (x6 + (1 : Int32)))] [] h6 :=
  (jx_G_run (jx_X_grows rc jx_dflt jx_mt d) 101 _).trans rfl
-- RoomTreesModel.refused([IIIIII)I
set_option maxRecDepth 100000 in
theorem je_93 (rc : Nat → Nat × (Nat → Int32)) (d : Nat) (a0 : Nat) (x1 : Int32) (x2 : Int32) (x3 : Int32) (x4 : Int32) (x5 : Int32) (h : jxH) : jx_C rc (d + 1) 93 [.ref a0, .int x1, .int x2, .int x3, .int x4, .int x5] h =
  jx_cI (jx_C rc d 89 [.ref a0, .int x1, .int x2, .int x3, .int x4, .int x5] h) fun v2 h1 =>
  if v2 = 0 then
    some (some (.int (1 : Int32)), h1)
  else
    jx_cI (jx_C rc d 90 [.ref a0, .int x1, .int x2, .int x3] h1) fun v4 h3 =>
    if v4 = 0 then
      some (some (.int (3 : Int32)), h3)
    else
      (jx_aI (jx_at h3 a0) 0 (0 : Int32)).bind fun v5 =>
      jx_cI (jx_C rc d 76 [.int v5] h3) fun v7 h6 =>
      jx_cI (jx_C rc d 91 [.int x1] h6) fun v9 h8 =>
      if (v7 + v9) ≤ (12 : Int32) then
        jx_cI (jx_C rc d 92 [.ref a0, .int x1, .int x2, .int x3, .int x4] h8) fun v11 h10 =>
        if v11 = 0 then
          some (some (.int (5 : Int32)), h10)
        else
          some (some (.int (0 : Int32)), h10)
      else
        some (some (.int (4 : Int32)), h8) :=
  (jx_G_run (jx_X_grows rc jx_dflt jx_mt d) 42 (0, [(0, .ref a0), (1, .int x1), (2, .int x2), (3, .int x3), (4, .int x4), (5, .int x5)], [], h)).trans rfl
-- RoomTreesModel.signOf([IIII)I
set_option maxRecDepth 100000 in
theorem je_94 (rc : Nat → Nat × (Nat → Int32)) (d : Nat) (a0 : Nat) (x1 : Int32) (x2 : Int32) (x3 : Int32) (h : jxH) : jx_C rc (d + 1) 94 [.ref a0, .int x1, .int x2, .int x3] h =
  if x1 = 0 then
    (jx_aI (jx_at h a0) 0 ((1 : Int32) + x2)).bind fun v1 =>
    some (some (.int v1), h)
  else
    jx_cI (jx_C rc d 72 [.long (x1).toInt64, .long (1 : Int64), .long (3 : Int64)] h) fun v3 h2 =>
    if v3 = 0 then
      if x1 = (6 : Int32) then
        (jx_aI (jx_at h2 a0) 0 (0 : Int32)).bind fun v4 =>
        jx_cI (jx_C rc d 76 [.int v4] h2) fun v6 h5 =>
        if (2 : Int32) = 0 then none else if (v6 - v6 / (2 : Int32) * (2 : Int32)) = 0 then
          some (some (.int (1 : Int32)), h5)
        else
          some (some (.int (-1 : Int32)), h5)
      else
        some (some (.int (-1 : Int32)), h2)
    else
      some (some (.int x3), h2) :=
  (jx_G_run (jx_X_grows rc jx_dflt jx_mt d) 32 (0, [(0, .ref a0), (1, .int x1), (2, .int x2), (3, .int x3)], [], h)).trans rfl
