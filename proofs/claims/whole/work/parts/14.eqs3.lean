-- RoomTreesModel.layText([I)V
noncomputable def jb_166 (rc : Nat → Nat × (Nat → Int32)) (d : Nat) (i : Nat) (ls : List (Nat × Value)) (st : List Value) (h : jxH) : jxR := jx_G rc jx_dflt (jx_X rc jx_dflt jx_mt d) jc_166 (i, ls, st, h)
set_option maxRecDepth 100000 in
theorem je_166 (rc : Nat → Nat × (Nat → Int32)) (d : Nat) (a0 : Nat) (a1 : Nat) (h : jxH) : jx_C rc (d + 1) 166 [.ref a0, .ref a1] h =
  if jx_is (jx_at h a0) 12 = true then
  jb_166 rc d 4 [(0, .ref a0), (1, .ref a1), (2, .int (0 : Int32)), (3, .int (0 : Int32))] [] h
  else none :=
  jx_enter ((jx_G_run (jx_X_grows rc jx_dflt jx_mt d) 113 (0, [(0, .ref a0), (1, .ref a1)], [], h)).trans rfl)
set_option maxRecDepth 100000 in
theorem je_166_4 (rc : Nat → Nat × (Nat → Int32)) (d : Nat) (a0 : Nat) (a1 : Nat) (x2 : Int32) (x3 : Int32) (h : jxH) : jb_166 rc d 4 [(0, .ref a0), (1, .ref a1), (2, .int x2), (3, .int x3)] [] h =
  if (12 : Int32) ≤ x3 then
    (jx_pF (jx_at h a0) 12 21 (.int (0 : Int32))).bind fun e1 =>
    jb_166 rc d 34 [(0, .ref a0), (2, .int x2)] [] (jx_set h a0 e1)
  else
    (jx_aI (jx_at h a1) 0 (0 : Int32)).bind fun v2 =>
    jx_cI (jx_C rc d 75 [.int v2, .int x3] h) fun v4 h3 =>
    if v4 = 0 then
      jb_166 rc d 4 [(0, .ref a0), (1, .ref a1), (2, .int x2), (3, .int (x3 + (1 : Int32)))] [] h3
    else
      jx_cI (jx_C rc d 85 [.ref a1, .int x3] h3) fun v6 h5 =>
      jx_cI (jx_C rc d 77 [.int v6] h5) fun v8 h7 =>
      if v8 = x3 then
        jx_cV (jx_C rc d 165 [.ref a0, .ref a1, .int x3] h7) fun h9 =>
        jb_166 rc d 4 [(0, .ref a0), (1, .ref a1), (2, .int (x2 ||| ((1 : Int32) <<< (x3 &&& 31)))), (3, .int (x3 + (1 : Int32)))] [] h9
      else
        jb_166 rc d 4 [(0, .ref a0), (1, .ref a1), (2, .int x2), (3, .int (x3 + (1 : Int32)))] [] h7 :=
  (jx_G_run (jx_X_grows rc jx_dflt jx_mt d) 113 _).trans rfl
set_option maxRecDepth 100000 in
theorem je_166_34 (rc : Nat → Nat × (Nat → Int32)) (d : Nat) (a0 : Nat) (x2 : Int32) (h : jxH) : jb_166 rc d 34 [(0, .ref a0), (2, .int x2)] [] h =
  if x2 = 0 then
    some (none, h)
  else
    jx_cI (jx_C rc d 77 [.int x2] h) fun v2 h1 =>
    jb_166 rc d 43 [(0, .ref a0), (2, .int x2), (3, .int v2), (4, .int (v2 + (1 : Int32)))] [] h1 :=
  (jx_G_run (jx_X_grows rc jx_dflt jx_mt d) 113 _).trans rfl
set_option maxRecDepth 100000 in
theorem je_166_43 (rc : Nat → Nat × (Nat → Int32)) (d : Nat) (a0 : Nat) (x2 : Int32) (x3 : Int32) (x4 : Int32) (h : jxH) : jb_166 rc d 43 [(0, .ref a0), (2, .int x2), (3, .int x3), (4, .int x4)] [] h =
  if (12 : Int32) ≤ x4 then
    jb_166 rc d 76 [(0, .ref a0), (2, .int x2), (3, .int x3), (4, .int (0 : Int32))] [] h
  else
    jx_cI (jx_C rc d 75 [.int x2, .int x4] h) fun v2 h1 =>
    if v2 = 0 then
      jb_166 rc d 43 [(0, .ref a0), (2, .int x2), (3, .int x3), (4, .int (x4 + (1 : Int32)))] [] h1
    else
      (jx_gR (jx_at h1 a0) 12 18).bind fun b3 =>
      (jx_aQ (jx_at h1 b3) 8 x4).bind fun o4 =>
      jx_mo o4 (fun b5 => (jx_gR (jx_at h1 a0) 12 19).bind fun b6 =>
        (jx_aI (jx_at h1 b6) 0 x4).bind fun v7 =>
        (jx_gR (jx_at h1 a0) 12 18).bind fun b8 =>
        (jx_aQ (jx_at h1 b8) 8 x3).bind fun o9 =>
        jx_mo o9 (fun b10 => (jx_gR (jx_at h1 a0) 12 19).bind fun b11 =>
          (jx_aI (jx_at h1 b11) 0 x3).bind fun v12 =>
          jx_cI (jx_C rc d 162 [.ref b5, .int v7, .ref b10, .int v12] h1) fun v14 h13 =>
          if v14 = 0 then
            jb_166 rc d 43 [(0, .ref a0), (2, .int x2), (3, .int x3), (4, .int (x4 + (1 : Int32)))] [] h13
          else
            jb_166 rc d 43 [(0, .ref a0), (2, .int x2), (3, .int x4), (4, .int (x4 + (1 : Int32)))] [] h13)
        ((jx_gR (jx_at h1 a0) 12 19).bind fun b15 =>
          (jx_aI (jx_at h1 b15) 0 x3).bind fun v16 =>
          jx_cI (jx_C rc d 162 [.ref b5, .int v7, .null, .int v16] h1) fun v18 h17 =>
          if v18 = 0 then
            jb_166 rc d 43 [(0, .ref a0), (2, .int x2), (3, .int x3), (4, .int (x4 + (1 : Int32)))] [] h17
          else
            jb_166 rc d 43 [(0, .ref a0), (2, .int x2), (3, .int x4), (4, .int (x4 + (1 : Int32)))] [] h17))
      ((jx_gR (jx_at h1 a0) 12 19).bind fun b19 =>
        (jx_aI (jx_at h1 b19) 0 x4).bind fun v20 =>
        (jx_gR (jx_at h1 a0) 12 18).bind fun b21 =>
        (jx_aQ (jx_at h1 b21) 8 x3).bind fun o22 =>
        jx_mo o22 (fun b23 => (jx_gR (jx_at h1 a0) 12 19).bind fun b24 =>
          (jx_aI (jx_at h1 b24) 0 x3).bind fun v25 =>
          jx_cI (jx_C rc d 162 [.null, .int v20, .ref b23, .int v25] h1) fun v27 h26 =>
          if v27 = 0 then
            jb_166 rc d 43 [(0, .ref a0), (2, .int x2), (3, .int x3), (4, .int (x4 + (1 : Int32)))] [] h26
          else
            jb_166 rc d 43 [(0, .ref a0), (2, .int x2), (3, .int x4), (4, .int (x4 + (1 : Int32)))] [] h26)
        ((jx_gR (jx_at h1 a0) 12 19).bind fun b28 =>
          (jx_aI (jx_at h1 b28) 0 x3).bind fun v29 =>
          jx_cI (jx_C rc d 162 [.null, .int v20, .null, .int v29] h1) fun v31 h30 =>
          if v31 = 0 then
            jb_166 rc d 43 [(0, .ref a0), (2, .int x2), (3, .int x3), (4, .int (x4 + (1 : Int32)))] [] h30
          else
            jb_166 rc d 43 [(0, .ref a0), (2, .int x2), (3, .int x4), (4, .int (x4 + (1 : Int32)))] [] h30)) :=
  (jx_G_run (jx_X_grows rc jx_dflt jx_mt d) 113 _).trans rfl
set_option maxRecDepth 100000 in
theorem je_166_76 (rc : Nat → Nat × (Nat → Int32)) (d : Nat) (a0 : Nat) (x2 : Int32) (x3 : Int32) (x4 : Int32) (h : jxH) : jb_166 rc d 76 [(0, .ref a0), (2, .int x2), (3, .int x3), (4, .int x4)] [] h =
  (jx_gR (jx_at h a0) 12 19).bind fun b1 =>
  (jx_aI (jx_at h b1) 0 x3).bind fun v2 =>
  if v2 ≤ x4 then
    jb_166 rc d 34 [(0, .ref a0), (2, .int (x2 &&& (((1 : Int32) <<< (x3 &&& 31)) ^^^ (-1 : Int32))))] [] h
  else
    (jx_gR (jx_at h a0) 12 20).bind fun b3 =>
    (jx_gI (jx_at h a0) 12 21).bind fun v4 =>
    (jx_gR (jx_at h a0) 12 18).bind fun b5 =>
    (jx_aQ (jx_at h b5) 8 x3).bind fun o6 =>
    jx_mo o6 (fun b7 => (jx_aI (jx_at h b7) 0 x4).bind fun v8 =>
      (jx_sI (jx_at h b3) 0 v4 v8).bind fun e9 =>
      (jx_gI (jx_at (jx_set h b3 e9) a0) 12 21).bind fun v10 =>
      (jx_pF (jx_at (jx_set h b3 e9) a0) 12 21 (.int (v10 + (1 : Int32)))).bind fun e11 =>
      jb_166 rc d 76 [(0, .ref a0), (2, .int x2), (3, .int x3), (4, .int (x4 + (1 : Int32)))] [] (jx_set (jx_set h b3 e9) a0 e11))
    (none) :=
  (jx_G_run (jx_X_grows rc jx_dflt jx_mt d) 113 _).trans rfl
-- RoomTreesModel.least(I)I
set_option maxRecDepth 100000 in
theorem je_167 (rc : Nat → Nat × (Nat → Int32)) (d : Nat) (a0 : Nat) (x1 : Int32) (h : jxH) : jx_C rc (d + 1) 167 [.ref a0, .int x1] h =
  if jx_is (jx_at h a0) 12 = true then
  if (-1 : Int32) ≤ x1 then
    (jx_gR (jx_at h a0) 12 1).bind fun b1 =>
    jx_cV (jx_C rc d 166 [.ref a0, .ref b1] h) fun h2 =>
    if 0 ≤ x1 then
      (jx_gI (jx_at h2 a0) 12 21).bind fun v3 =>
      if v3 ≤ x1 then
        jx_cI (jx_C rc d 73 [.ref a0, .int (2 : Int32)] h2) fun v5 h4 =>
        some (some (.int v5), h4)
      else
        (jx_gR (jx_at h2 a0) 12 20).bind fun b6 =>
        (jx_aI (jx_at h2 b6) 0 x1).bind fun v7 =>
        some (some (.int v7), h2)
    else
      (jx_gI (jx_at h2 a0) 12 21).bind fun v8 =>
      some (some (.int v8), h2)
  else
    jx_cI (jx_C rc d 73 [.ref a0, .int (1 : Int32)] h) fun v10 h9 =>
    some (some (.int v10), h9)
  else none :=
  jx_enter ((jx_G_run (jx_X_grows rc jx_dflt jx_mt d) 31 (0, [(0, .ref a0), (1, .int x1)], [], h)).trans rfl)
-- RoomTreesModel.isFour(I)Z
set_option maxRecDepth 100000 in
theorem je_168 (rc : Nat → Nat × (Nat → Int32)) (d : Nat) (x0 : Int32) (h : jxH) : jx_C rc (d + 1) 168 [.int x0] h =
  jx_cI (jx_C rc d 72 [.long (x0).toInt64, .long (0 : Int64), .long (3 : Int64)] h) fun v2 h1 =>
  if jx_bool v2 = true then some (some (.int v2), h1) else none :=
  (jx_G_run (jx_X_grows rc jx_dflt jx_mt d) 8 (0, [(0, .int x0)], [], h)).trans rfl
-- RoomTreesModel.keep(I)I
set_option maxRecDepth 100000 in
theorem je_169 (rc : Nat → Nat × (Nat → Int32)) (d : Nat) (a0 : Nat) (x1 : Int32) (h : jxH) : jx_C rc (d + 1) 169 [.ref a0, .int x1] h =
  if jx_is (jx_at h a0) 12 = true then
  jx_cI (jx_C rc d 168 [.int x1] h) fun v2 h1 =>
  if v2 = 0 then
    jx_cI (jx_C rc d 73 [.ref a0, .int (1 : Int32)] h1) fun v4 h3 =>
    some (some (.int v4), h3)
  else
    (jx_gR (jx_at h1 a0) 12 1).bind fun b5 =>
    (jx_gR (jx_at h1 a0) 12 22).bind fun b6 =>
    (jx_aQ (jx_at h1 b6) 8 x1).bind fun o7 =>
    jx_mo o7 (fun b8 => jx_cV (jx_C rc d 74 [.ref b5, .ref b8] h1) fun h9 =>
      (jx_gR (jx_at h9 a0) 12 23).bind fun b10 =>
      if jx_bool (1 : Int32) = true then (jx_sI (jx_at h9 b10) 3 x1 (1 : Int32)).bind fun e11 =>
      (jx_gR (jx_at (jx_set h9 b10 e11) a0) 12 1).bind fun b12 =>
      (jx_aI (jx_at (jx_set h9 b10 e11) b12) 0 (0 : Int32)).bind fun v13 =>
      jx_cI (jx_C rc d 76 [.int v13] (jx_set h9 b10 e11)) fun v15 h14 =>
      some (some (.int v15), h14) else none)
    (jx_cV (jx_C rc d 74 [.ref b5, .null] h1) fun h16 =>
      (jx_gR (jx_at h16 a0) 12 23).bind fun b17 =>
      if jx_bool (1 : Int32) = true then (jx_sI (jx_at h16 b17) 3 x1 (1 : Int32)).bind fun e18 =>
      (jx_gR (jx_at (jx_set h16 b17 e18) a0) 12 1).bind fun b19 =>
      (jx_aI (jx_at (jx_set h16 b17 e18) b19) 0 (0 : Int32)).bind fun v20 =>
      jx_cI (jx_C rc d 76 [.int v20] (jx_set h16 b17 e18)) fun v22 h21 =>
      some (some (.int v22), h21) else none)
  else none :=
  jx_enter ((jx_G_run (jx_X_grows rc jx_dflt jx_mt d) 27 (0, [(0, .ref a0), (1, .int x1)], [], h)).trans rfl)
-- RoomTreesModel.fetch(I)I
set_option maxRecDepth 100000 in
theorem je_170 (rc : Nat → Nat × (Nat → Int32)) (d : Nat) (a0 : Nat) (x1 : Int32) (h : jxH) : jx_C rc (d + 1) 170 [.ref a0, .int x1] h =
  if jx_is (jx_at h a0) 12 = true then
  jx_cI (jx_C rc d 168 [.int x1] h) fun v2 h1 =>
  if v2 = 0 then
    jx_cI (jx_C rc d 73 [.ref a0, .int (1 : Int32)] h1) fun v4 h3 =>
    some (some (.int v4), h3)
  else
    (jx_gR (jx_at h1 a0) 12 23).bind fun b5 =>
    (jx_aI (jx_at h1 b5) 3 x1).bind fun v6 =>
    if v6 = 0 then
      jx_cI (jx_C rc d 73 [.ref a0, .int (7 : Int32)] h1) fun v8 h7 =>
      some (some (.int v8), h7)
    else
      jx_cV (jx_C rc d 100 [.ref a0] h1) fun h9 =>
      (jx_gR (jx_at h9 a0) 12 22).bind fun b10 =>
      (jx_aQ (jx_at h9 b10) 8 x1).bind fun o11 =>
      jx_mo o11 (fun b12 => (jx_gR (jx_at h9 a0) 12 1).bind fun b13 =>
        jx_cV (jx_C rc d 74 [.ref b12, .ref b13] h9) fun h14 =>
        (jx_gR (jx_at h14 a0) 12 1).bind fun b15 =>
        (jx_aI (jx_at h14 b15) 0 (0 : Int32)).bind fun v16 =>
        jx_cI (jx_C rc d 76 [.int v16] h14) fun v18 h17 =>
        some (some (.int v18), h17))
      ((jx_gR (jx_at h9 a0) 12 1).bind fun b19 =>
        jx_cV (jx_C rc d 74 [.null, .ref b19] h9) fun h20 =>
        (jx_gR (jx_at h20 a0) 12 1).bind fun b21 =>
        (jx_aI (jx_at h20 b21) 0 (0 : Int32)).bind fun v22 =>
        jx_cI (jx_C rc d 76 [.int v22] h20) fun v24 h23 =>
        some (some (.int v24), h23))
  else none :=
  jx_enter ((jx_G_run (jx_X_grows rc jx_dflt jx_mt d) 33 (0, [(0, .ref a0), (1, .int x1)], [], h)).trans rfl)
-- RoomTreesModel.drop(I)I
set_option maxRecDepth 100000 in
theorem je_171 (rc : Nat → Nat × (Nat → Int32)) (d : Nat) (a0 : Nat) (x1 : Int32) (h : jxH) : jx_C rc (d + 1) 171 [.ref a0, .int x1] h =
  if jx_is (jx_at h a0) 12 = true then
  jx_cI (jx_C rc d 168 [.int x1] h) fun v2 h1 =>
  if v2 = 0 then
    jx_cI (jx_C rc d 73 [.ref a0, .int (1 : Int32)] h1) fun v4 h3 =>
    some (some (.int v4), h3)
  else
    (jx_gR (jx_at h1 a0) 12 23).bind fun b5 =>
    (jx_aI (jx_at h1 b5) 3 x1).bind fun v6 =>
    if v6 = 0 then
      (jx_gR (jx_at h1 a0) 12 23).bind fun b7 =>
      if jx_bool (0 : Int32) = true then (jx_sI (jx_at h1 b7) 3 x1 (0 : Int32)).bind fun e8 =>
      some (some (.int (0 : Int32)), (jx_set h1 b7 e8)) else none
    else
      (jx_gR (jx_at h1 a0) 12 23).bind fun b9 =>
      if jx_bool (0 : Int32) = true then (jx_sI (jx_at h1 b9) 3 x1 (0 : Int32)).bind fun e10 =>
      some (some (.int (1 : Int32)), (jx_set h1 b9 e10)) else none
  else none :=
  jx_enter ((jx_G_run (jx_X_grows rc jx_dflt jx_mt d) 25 (0, [(0, .ref a0), (1, .int x1)], [], h)).trans rfl)
-- RoomTreesModel.layDue([I)V
noncomputable def jb_172 (rc : Nat → Nat × (Nat → Int32)) (d : Nat) (i : Nat) (ls : List (Nat × Value)) (st : List Value) (h : jxH) : jxR := jx_G rc jx_dflt (jx_X rc jx_dflt jx_mt d) jc_172 (i, ls, st, h)
set_option maxRecDepth 100000 in
theorem je_172 (rc : Nat → Nat × (Nat → Int32)) (d : Nat) (a0 : Nat) (a1 : Nat) (h : jxH) : jx_C rc (d + 1) 172 [.ref a0, .ref a1] h =
  if jx_is (jx_at h a0) 12 = true then
  jx_cV (jx_C rc d 166 [.ref a0, .ref a1] h) fun h1 =>
  (jx_gI (jx_at h1 a0) 12 21).bind fun v2 =>
  (jx_pF (jx_at h1 a0) 12 25 (.int v2)).bind fun e3 =>
  jb_172 rc d 9 [(0, .ref a0), (2, .int (0 : Int32))] [] (jx_set h1 a0 e3)
  else none :=
  jx_enter ((jx_G_run (jx_X_grows rc jx_dflt jx_mt d) 26 (0, [(0, .ref a0), (1, .ref a1)], [], h)).trans rfl)
set_option maxRecDepth 100000 in
theorem je_172_9 (rc : Nat → Nat × (Nat → Int32)) (d : Nat) (a0 : Nat) (x2 : Int32) (h : jxH) : jb_172 rc d 9 [(0, .ref a0), (2, .int x2)] [] h =
  (jx_gI (jx_at h a0) 12 25).bind fun v1 =>
  if v1 ≤ x2 then
    some (none, h)
  else
    (jx_gR (jx_at h a0) 12 24).bind fun b2 =>
    (jx_gR (jx_at h a0) 12 20).bind fun b3 =>
    (jx_aI (jx_at h b3) 0 x2).bind fun v4 =>
    (jx_sI (jx_at h b2) 0 x2 v4).bind fun e5 =>
    jb_172 rc d 9 [(0, .ref a0), (2, .int (x2 + (1 : Int32)))] [] (jx_set h b2 e5) :=
  (jx_G_run (jx_X_grows rc jx_dflt jx_mt d) 26 _).trans rfl
-- RoomTreesModel.isDue([I)Z
noncomputable def jb_173 (rc : Nat → Nat × (Nat → Int32)) (d : Nat) (i : Nat) (ls : List (Nat × Value)) (st : List Value) (h : jxH) : jxR := jx_G rc jx_dflt (jx_X rc jx_dflt jx_mt d) jc_173 (i, ls, st, h)
set_option maxRecDepth 100000 in
theorem je_173 (rc : Nat → Nat × (Nat → Int32)) (d : Nat) (a0 : Nat) (a1 : Nat) (h : jxH) : jx_C rc (d + 1) 173 [.ref a0, .ref a1] h =
  if jx_is (jx_at h a0) 12 = true then
  jx_cV (jx_C rc d 166 [.ref a0, .ref a1] h) fun h1 =>
  (jx_gI (jx_at h1 a0) 12 21).bind fun v2 =>
  (jx_gI (jx_at h1 a0) 12 25).bind fun v3 =>
  if v2 = v3 then
    jb_173 rc d 14 [(0, .ref a0), (2, .int (1 : Int32)), (3, .int (0 : Int32))] [] h1
  else
    jb_173 rc d 14 [(0, .ref a0), (2, .int (0 : Int32)), (3, .int (0 : Int32))] [] h1
  else none :=
  jx_enter ((jx_G_run (jx_X_grows rc jx_dflt jx_mt d) 39 (0, [(0, .ref a0), (1, .ref a1)], [], h)).trans rfl)
set_option maxRecDepth 100000 in
theorem je_173_14 (rc : Nat → Nat × (Nat → Int32)) (d : Nat) (a0 : Nat) (x2 : Int32) (x3 : Int32) (h : jxH) : jb_173 rc d 14 [(0, .ref a0), (2, .int x2), (3, .int x3)] [] h =
  (jx_gI (jx_at h a0) 12 25).bind fun v1 =>
  if v1 ≤ x3 then
    if jx_bool x2 = true then some (some (.int x2), h) else none
  else
    if x2 = 0 then
      if jx_bool x2 = true then some (some (.int x2), h) else none
    else
      (jx_gR (jx_at h a0) 12 20).bind fun b2 =>
      (jx_aI (jx_at h b2) 0 x3).bind fun v3 =>
      (jx_gR (jx_at h a0) 12 24).bind fun b4 =>
      (jx_aI (jx_at h b4) 0 x3).bind fun v5 =>
      if v3 = v5 then
        jb_173 rc d 14 [(0, .ref a0), (2, .int (1 : Int32)), (3, .int (x3 + (1 : Int32)))] [] h
      else
        jb_173 rc d 14 [(0, .ref a0), (2, .int (0 : Int32)), (3, .int (x3 + (1 : Int32)))] [] h :=
  (jx_G_run (jx_X_grows rc jx_dflt jx_mt d) 39 _).trans rfl
-- RoomTreesModel.alike(I)I
set_option maxRecDepth 100000 in
theorem je_174 (rc : Nat → Nat × (Nat → Int32)) (d : Nat) (a0 : Nat) (x1 : Int32) (h : jxH) : jx_C rc (d + 1) 174 [.ref a0, .int x1] h =
  if jx_is (jx_at h a0) 12 = true then
  jx_cI (jx_C rc d 168 [.int x1] h) fun v2 h1 =>
  if v2 = 0 then
    jx_cI (jx_C rc d 73 [.ref a0, .int (1 : Int32)] h1) fun v4 h3 =>
    some (some (.int v4), h3)
  else
    (jx_gR (jx_at h1 a0) 12 23).bind fun b5 =>
    (jx_aI (jx_at h1 b5) 3 x1).bind fun v6 =>
    if v6 = 0 then
      jx_cI (jx_C rc d 73 [.ref a0, .int (7 : Int32)] h1) fun v8 h7 =>
      some (some (.int v8), h7)
    else
      (jx_gR (jx_at h1 a0) 12 22).bind fun b9 =>
      (jx_aQ (jx_at h1 b9) 8 x1).bind fun o10 =>
      jx_mo o10 (fun b11 => jx_cV (jx_C rc d 172 [.ref a0, .ref b11] h1) fun h12 =>
        (jx_gR (jx_at h12 a0) 12 1).bind fun b13 =>
        jx_cI (jx_C rc d 173 [.ref a0, .ref b13] h12) fun v15 h14 =>
        if v15 = 0 then
          some (some (.int (0 : Int32)), h14)
        else
          some (some (.int (1 : Int32)), h14))
      (jx_cV (jx_C rc d 172 [.ref a0, .null] h1) fun h16 =>
        (jx_gR (jx_at h16 a0) 12 1).bind fun b17 =>
        jx_cI (jx_C rc d 173 [.ref a0, .ref b17] h16) fun v19 h18 =>
        if v19 = 0 then
          some (some (.int (0 : Int32)), h18)
        else
          some (some (.int (1 : Int32)), h18))
  else none :=
  jx_enter ((jx_G_run (jx_X_grows rc jx_dflt jx_mt d) 33 (0, [(0, .ref a0), (1, .int x1)], [], h)).trans rfl)
-- RoomTreesModel.isWorker(I)Z
set_option maxRecDepth 100000 in
theorem je_175 (rc : Nat → Nat × (Nat → Int32)) (d : Nat) (a0 : Nat) (x1 : Int32) (h : jxH) : jx_C rc (d + 1) 175 [.ref a0, .int x1] h =
  if jx_is (jx_at h a0) 12 = true then
  (jx_gI (jx_at h a0) 12 27).bind fun v1 =>
  jx_cI (jx_C rc d 72 [.long (x1).toInt64, .long (0 : Int64), .long ((v1 - (1 : Int32))).toInt64] h) fun v3 h2 =>
  if jx_bool v3 = true then some (some (.int v3), h2) else none
  else none :=
  jx_enter ((jx_G_run (jx_X_grows rc jx_dflt jx_mt d) 12 (0, [(0, .ref a0), (1, .int x1)], [], h)).trans rfl)
-- RoomTreesModel.worker(II)I
set_option maxRecDepth 100000 in
theorem je_176 (rc : Nat → Nat × (Nat → Int32)) (d : Nat) (a0 : Nat) (x1 : Int32) (x2 : Int32) (h : jxH) : jx_C rc (d + 1) 176 [.ref a0, .int x1, .int x2] h =
  if jx_is (jx_at h a0) 12 = true then
  jx_cI (jx_C rc d 72 [.long (x1).toInt64, .long (0 : Int64), .long (5 : Int64)] h) fun v2 h1 =>
  if v2 = 0 then
    jx_cI (jx_C rc d 73 [.ref a0, .int (1 : Int32)] h1) fun v4 h3 =>
    some (some (.int v4), h3)
  else
    jx_cI (jx_C rc d 72 [.long (x2).toInt64, .long (0 : Int64), .long (9 : Int64)] h1) fun v6 h5 =>
    if v6 = 0 then
      jx_cI (jx_C rc d 73 [.ref a0, .int (1 : Int32)] h5) fun v8 h7 =>
      some (some (.int v8), h7)
    else
      (jx_gI (jx_at h5 a0) 12 27).bind fun v9 =>
      if v9 = (6 : Int32) then
        jx_cI (jx_C rc d 73 [.ref a0, .int (4 : Int32)] h5) fun v11 h10 =>
        some (some (.int v11), h10)
      else
        (jx_gR (jx_at h5 a0) 12 26).bind fun b12 =>
        (jx_gI (jx_at h5 a0) 12 27).bind fun v13 =>
        (jx_sI (jx_at h5 b12) 0 ((3 : Int32) * v13) x1).bind fun e14 =>
        (jx_gR (jx_at (jx_set h5 b12 e14) a0) 12 26).bind fun b15 =>
        (jx_gI (jx_at (jx_set h5 b12 e14) a0) 12 27).bind fun v16 =>
        (jx_sI (jx_at (jx_set h5 b12 e14) b15) 0 (((3 : Int32) * v16) + (1 : Int32)) x2).bind fun e17 =>
        (jx_gR (jx_at (jx_set (jx_set h5 b12 e14) b15 e17) a0) 12 26).bind fun b18 =>
        (jx_gI (jx_at (jx_set (jx_set h5 b12 e14) b15 e17) a0) 12 27).bind fun v19 =>
        (jx_sI (jx_at (jx_set (jx_set h5 b12 e14) b15 e17) b18) 0 (((3 : Int32) * v19) + (2 : Int32)) (0 : Int32)).bind fun e20 =>
        (jx_gI (jx_at (jx_set (jx_set (jx_set h5 b12 e14) b15 e17) b18 e20) a0) 12 27).bind fun v21 =>
        (jx_pF (jx_at (jx_set (jx_set (jx_set h5 b12 e14) b15 e17) b18 e20) a0) 12 27 (.int (v21 + (1 : Int32)))).bind fun e22 =>
        (jx_gI (jx_at (jx_set (jx_set (jx_set (jx_set h5 b12 e14) b15 e17) b18 e20) a0 e22) a0) 12 27).bind fun v23 =>
        some (some (.int (v23 - (1 : Int32))), (jx_set (jx_set (jx_set (jx_set h5 b12 e14) b15 e17) b18 e20) a0 e22))
  else none :=
  jx_enter ((jx_G_run (jx_X_grows rc jx_dflt jx_mt d) 65 (0, [(0, .ref a0), (1, .int x1), (2, .int x2)], [], h)).trans rfl)
-- RoomTreesModel.cost(II)I
set_option maxRecDepth 100000 in
theorem je_177 (rc : Nat → Nat × (Nat → Int32)) (d : Nat) (x0 : Int32) (x1 : Int32) (h : jxH) : jx_C rc (d + 1) 177 [.int x0, .int x1] h =
  if x0 = (1 : Int32) then
    some (some (.int (((2 : Int32) * x1) + (2 : Int32))), h)
  else if x0 = ((1 : Int32) + 1) then
    some (some (.int (x1 + (1 : Int32))), h)
  else if x0 = (((1 : Int32) + 1) + 1) then
    some (some (.int (((2 : Int32) * x1) + (7 : Int32))), h)
  else if x0 = ((((1 : Int32) + 1) + 1) + 1) then
    some (some (.int (((3 : Int32) * x1) + (3 : Int32))), h)
  else if x0 = (((((1 : Int32) + 1) + 1) + 1) + 1) then
    some (some (.int (x1 - (3 : Int32))), h)
  else 
    some (some (.int (x1 + (1 : Int32))), h) :=
  (jx_G_run (jx_X_grows rc jx_dflt jx_mt d) 30 (0, [(0, .int x0), (1, .int x1)], [], h)).trans rfl
-- RoomTreesModel.workerIs(II)I
set_option maxRecDepth 100000 in
theorem je_178 (rc : Nat → Nat × (Nat → Int32)) (d : Nat) (a0 : Nat) (x1 : Int32) (x2 : Int32) (h : jxH) : jx_C rc (d + 1) 178 [.ref a0, .int x1, .int x2] h =
  if jx_is (jx_at h a0) 12 = true then
  jx_cI (jx_C rc d 175 [.ref a0, .int x1] h) fun v2 h1 =>
  if v2 = 0 then
    jx_cI (jx_C rc d 73 [.ref a0, .int (1 : Int32)] h1) fun v4 h3 =>
    some (some (.int v4), h3)
  else
    jx_cI (jx_C rc d 72 [.long (x2).toInt64, .long (0 : Int64), .long (3 : Int64)] h1) fun v6 h5 =>
    if v6 = 0 then
      jx_cI (jx_C rc d 73 [.ref a0, .int (1 : Int32)] h5) fun v8 h7 =>
      some (some (.int v8), h7)
    else
      if (3 : Int32) ≤ x2 then
        (jx_gR (jx_at h5 a0) 12 26).bind fun b9 =>
        (jx_aI (jx_at h5 b9) 0 ((3 : Int32) * x1)).bind fun v10 =>
        (jx_gR (jx_at h5 a0) 12 26).bind fun b11 =>
        (jx_aI (jx_at h5 b11) 0 (((3 : Int32) * x1) + (1 : Int32))).bind fun v12 =>
        jx_cI (jx_C rc d 177 [.int v10, .int v12] h5) fun v14 h13 =>
        some (some (.int v14), h13)
      else
        (jx_gR (jx_at h5 a0) 12 26).bind fun b15 =>
        (jx_aI (jx_at h5 b15) 0 (((3 : Int32) * x1) + x2)).bind fun v16 =>
        some (some (.int v16), h5)
  else none :=
  jx_enter ((jx_G_run (jx_X_grows rc jx_dflt jx_mt d) 44 (0, [(0, .ref a0), (1, .int x1), (2, .int x2)], [], h)).trans rfl)
-- RoomTreesModel.become(II)I
set_option maxRecDepth 100000 in
theorem je_179 (rc : Nat → Nat × (Nat → Int32)) (d : Nat) (a0 : Nat) (x1 : Int32) (x2 : Int32) (h : jxH) : jx_C rc (d + 1) 179 [.ref a0, .int x1, .int x2] h =
  if jx_is (jx_at h a0) 12 = true then
  jx_cI (jx_C rc d 175 [.ref a0, .int x1] h) fun v2 h1 =>
  if v2 = 0 then
    jx_cI (jx_C rc d 73 [.ref a0, .int (1 : Int32)] h1) fun v4 h3 =>
    some (some (.int v4), h3)
  else
    jx_cI (jx_C rc d 72 [.long (x2).toInt64, .long (0 : Int64), .long (5 : Int64)] h1) fun v6 h5 =>
    if v6 = 0 then
      jx_cI (jx_C rc d 73 [.ref a0, .int (1 : Int32)] h5) fun v8 h7 =>
      some (some (.int v8), h7)
    else
      (jx_gR (jx_at h5 a0) 12 26).bind fun b9 =>
      (jx_aI (jx_at h5 b9) 0 ((3 : Int32) * x1)).bind fun v10 =>
      (jx_gR (jx_at h5 a0) 12 26).bind fun b11 =>
      (jx_sI (jx_at h5 b11) 0 ((3 : Int32) * x1) x2).bind fun e12 =>
      some (some (.int v10), (jx_set h5 b11 e12))
  else none :=
  jx_enter ((jx_G_run (jx_X_grows rc jx_dflt jx_mt d) 32 (0, [(0, .ref a0), (1, .int x1), (2, .int x2)], [], h)).trans rfl)
-- RoomTreesModel.as(II)I
noncomputable def jb_180 (rc : Nat → Nat × (Nat → Int32)) (d : Nat) (i : Nat) (ls : List (Nat × Value)) (st : List Value) (h : jxH) : jxR := jx_G rc jx_dflt (jx_X rc jx_dflt jx_mt d) jc_180 (i, ls, st, h)
set_option maxRecDepth 100000 in
theorem je_180 (rc : Nat → Nat × (Nat → Int32)) (d : Nat) (a0 : Nat) (x1 : Int32) (x2 : Int32) (h : jxH) : jx_C rc (d + 1) 180 [.ref a0, .int x1, .int x2] h =
  if jx_is (jx_at h a0) 12 = true then
  jx_cI (jx_C rc d 175 [.ref a0, .int x1] h) fun v2 h1 =>
  if v2 = 0 then
    jx_cI (jx_C rc d 73 [.ref a0, .int (1 : Int32)] h1) fun v4 h3 =>
    some (some (.int v4), h3)
  else
    jx_cI (jx_C rc d 72 [.long (x2).toInt64, .long (0 : Int64), .long (5 : Int64)] h1) fun v6 h5 =>
    if v6 = 0 then
      jx_cI (jx_C rc d 73 [.ref a0, .int (1 : Int32)] h5) fun v8 h7 =>
      some (some (.int v8), h7)
    else
      (jx_gR (jx_at h5 a0) 12 26).bind fun b9 =>
      (jx_aI (jx_at h5 b9) 0 ((3 : Int32) * x1)).bind fun v10 =>
      if x2 = 0 then
        if (1 : Int32) = 0 then
          jx_cI (jx_C rc d 73 [.ref a0, .int (6 : Int32)] h5) fun v12 h11 =>
          some (some (.int v12), h11)
        else
          (jx_gR (jx_at h5 a0) 12 26).bind fun b13 =>
          (jx_aI (jx_at h5 b13) 0 (((3 : Int32) * x1) + (1 : Int32))).bind fun v14 =>
          some (some (.int v14), h5)
      else
        if x2 = v10 then
          if (1 : Int32) = 0 then
            jx_cI (jx_C rc d 73 [.ref a0, .int (6 : Int32)] h5) fun v16 h15 =>
            some (some (.int v16), h15)
          else
            (jx_gR (jx_at h5 a0) 12 26).bind fun b17 =>
            (jx_aI (jx_at h5 b17) 0 (((3 : Int32) * x1) + (1 : Int32))).bind fun v18 =>
            some (some (.int v18), h5)
        else
          if x2 = (1 : Int32) then
            if v10 = (3 : Int32) then
              if (1 : Int32) = 0 then
                jx_cI (jx_C rc d 73 [.ref a0, .int (6 : Int32)] h5) fun v20 h19 =>
                some (some (.int v20), h19)
              else
                (jx_gR (jx_at h5 a0) 12 26).bind fun b21 =>
                (jx_aI (jx_at h5 b21) 0 (((3 : Int32) * x1) + (1 : Int32))).bind fun v22 =>
                some (some (.int v22), h5)
            else
              jb_180 rc d 32 [(0, .ref a0), (1, .int x1), (2, .int x2), (3, .int v10)] [] h5
          else
            jb_180 rc d 32 [(0, .ref a0), (1, .int x1), (2, .int x2), (3, .int v10)] [] h5
  else none :=
  jx_enter ((jx_G_run (jx_X_grows rc jx_dflt jx_mt d) 59 (0, [(0, .ref a0), (1, .int x1), (2, .int x2)], [], h)).trans rfl)
set_option maxRecDepth 100000 in
theorem je_180_32 (rc : Nat → Nat × (Nat → Int32)) (d : Nat) (a0 : Nat) (x1 : Int32) (x2 : Int32) (x3 : Int32) (h : jxH) : jb_180 rc d 32 [(0, .ref a0), (1, .int x1), (2, .int x2), (3, .int x3)] [] h =
  if x2 = (2 : Int32) then
    if x3 = (4 : Int32) then
      if (1 : Int32) = 0 then
        jx_cI (jx_C rc d 73 [.ref a0, .int (6 : Int32)] h) fun v2 h1 =>
        some (some (.int v2), h1)
      else
        (jx_gR (jx_at h a0) 12 26).bind fun b3 =>
        (jx_aI (jx_at h b3) 0 (((3 : Int32) * x1) + (1 : Int32))).bind fun v4 =>
        some (some (.int v4), h)
    else
      if (0 : Int32) = 0 then
        jx_cI (jx_C rc d 73 [.ref a0, .int (6 : Int32)] h) fun v6 h5 =>
        some (some (.int v6), h5)
      else
        (jx_gR (jx_at h a0) 12 26).bind fun b7 =>
        (jx_aI (jx_at h b7) 0 (((3 : Int32) * x1) + (1 : Int32))).bind fun v8 =>
        some (some (.int v8), h)
  else
    if (0 : Int32) = 0 then
      jx_cI (jx_C rc d 73 [.ref a0, .int (6 : Int32)] h) fun v10 h9 =>
      some (some (.int v10), h9)
    else
      (jx_gR (jx_at h a0) 12 26).bind fun b11 =>
      (jx_aI (jx_at h b11) 0 (((3 : Int32) * x1) + (1 : Int32))).bind fun v12 =>
      some (some (.int v12), h) :=
  (jx_G_run (jx_X_grows rc jx_dflt jx_mt d) 59 _).trans rfl
-- RoomTreesModel.found([IIIIIZ)I
noncomputable def jb_181 (rc : Nat → Nat × (Nat → Int32)) (d : Nat) (i : Nat) (ls : List (Nat × Value)) (st : List Value) (h : jxH) : jxR := jx_G rc jx_dflt (jx_X rc jx_dflt jx_mt d) jc_181 (i, ls, st, h)
set_option maxRecDepth 100000 in
theorem je_181 (rc : Nat → Nat × (Nat → Int32)) (d : Nat) (a0 : Nat) (x1 : Int32) (x2 : Int32) (x3 : Int32) (x4 : Int32) (x5 : Int32) (h : jxH) : jx_C rc (d + 1) 181 [.ref a0, .int x1, .int x2, .int x3, .int x4, .int x5] h =
  jb_181 rc d 4 [(0, .ref a0), (1, .int x1), (3, .int x3), (4, .int x4), (5, .int x5), (6, .int (-1 : Int32)), (7, .int x2)] [] h :=
  (jx_G_run (jx_X_grows rc jx_dflt jx_mt d) 54 (0, [(0, .ref a0), (1, .int x1), (2, .int x2), (3, .int x3), (4, .int x4), (5, .int x5)], [], h)).trans rfl
set_option maxRecDepth 100000 in
theorem je_181_4 (rc : Nat → Nat × (Nat → Int32)) (d : Nat) (a0 : Nat) (x1 : Int32) (x3 : Int32) (x4 : Int32) (x5 : Int32) (x6 : Int32) (x7 : Int32) (h : jxH) : jb_181 rc d 4 [(0, .ref a0), (1, .int x1), (3, .int x3), (4, .int x4), (5, .int x5), (6, .int x6), (7, .int x7)] [] h =
  if (12 : Int32) ≤ x7 then
    some (some (.int x6), h)
  else
    jx_cI (jx_C rc d 78 [.ref a0, .int x7] h) fun v2 h1 =>
    if v2 = 0 then
      jb_181 rc d 37 [(0, .ref a0), (1, .int x1), (3, .int x3), (4, .int x4), (5, .int x5), (6, .int x6), (7, .int x7)] [.int (0 : Int32)] h1
    else
      (jx_aI (jx_at h1 a0) 0 ((1 : Int32) + x7)).bind fun v3 =>
      if v3 = x3 then
        (jx_aI (jx_at h1 a0) 0 ((13 : Int32) + x7)).bind fun v4 =>
        jx_cI (jx_C rc d 76 [.int v4] h1) fun v6 h5 =>
        if x4 < v6 then
          jb_181 rc d 37 [(0, .ref a0), (1, .int x1), (3, .int x3), (4, .int x4), (5, .int x5), (6, .int x6), (7, .int x7)] [.int (0 : Int32)] h5
        else
          jx_cI (jx_C rc d 93 [.ref a0, .int x1, .int x7, .int (0 : Int32), .int (0 : Int32), .int (0 : Int32)] h5) fun v8 h7 =>
          if v8 = 0 then
            jb_181 rc d 37 [(0, .ref a0), (1, .int x1), (3, .int x3), (4, .int x4), (5, .int x5), (6, .int x6), (7, .int x7)] [.int (1 : Int32)] h7
          else
            jb_181 rc d 37 [(0, .ref a0), (1, .int x1), (3, .int x3), (4, .int x4), (5, .int x5), (6, .int x6), (7, .int x7)] [.int (0 : Int32)] h7
      else
        jb_181 rc d 37 [(0, .ref a0), (1, .int x1), (3, .int x3), (4, .int x4), (5, .int x5), (6, .int x6), (7, .int x7)] [.int (0 : Int32)] h1 :=
  (jx_G_run (jx_X_grows rc jx_dflt jx_mt d) 54 _).trans rfl
set_option maxRecDepth 100000 in
theorem je_181_37 (rc : Nat → Nat × (Nat → Int32)) (d : Nat) (a0 : Nat) (x1 : Int32) (x3 : Int32) (x4 : Int32) (x5 : Int32) (x6 : Int32) (x7 : Int32) (s0 : Int32) (h : jxH) : jb_181 rc d 37 [(0, .ref a0), (1, .int x1), (3, .int x3), (4, .int x4), (5, .int x5), (6, .int x6), (7, .int x7)] [.int s0] h =
  if s0 = 0 then
    jb_181 rc d 4 [(0, .ref a0), (1, .int x1), (3, .int x3), (4, .int x4), (5, .int x5), (6, .int x6), (7, .int (x7 + (1 : Int32)))] [] h
  else
    if x5 = 0 then
      if 0 ≤ x6 then
        jb_181 rc d 4 [(0, .ref a0), (1, .int x1), (3, .int x3), (4, .int x4), (5, .int x5), (6, .int x6), (7, .int (x7 + (1 : Int32)))] [] h
      else
        jb_181 rc d 4 [(0, .ref a0), (1, .int x1), (3, .int x3), (4, .int x4), (5, .int x5), (6, .int x7), (7, .int (x7 + (1 : Int32)))] [] h
    else
      jb_181 rc d 4 [(0, .ref a0), (1, .int x1), (3, .int x3), (4, .int x4), (5, .int x5), (6, .int x7), (7, .int (x7 + (1 : Int32)))] [] h :=
  (jx_G_run (jx_X_grows rc jx_dflt jx_mt d) 54 _).trans rfl
-- RoomTreesModel.nextOf([III)I
noncomputable def jb_182 (rc : Nat → Nat × (Nat → Int32)) (d : Nat) (i : Nat) (ls : List (Nat × Value)) (st : List Value) (h : jxH) : jxR := jx_G rc jx_dflt (jx_X rc jx_dflt jx_mt d) jc_182 (i, ls, st, h)
set_option maxRecDepth 100000 in
theorem je_182 (rc : Nat → Nat × (Nat → Int32)) (d : Nat) (a0 : Nat) (x1 : Int32) (x2 : Int32) (h : jxH) : jx_C rc (d + 1) 182 [.ref a0, .int x1, .int x2] h =
  if x1 = (4 : Int32) then
    jx_cI (jx_C rc d 181 [.ref a0, .int (5 : Int32), .int x2, .int (0 : Int32), .int (12 : Int32), .int (0 : Int32)] h) fun v2 h1 =>
    if v2 < 0 then
      jb_182 rc d 19 [(0, .ref a0), (1, .int x1), (2, .int x2)] [] h1
    else
      some (some (.int ((500 : Int32) + v2)), h1)
  else
    jb_182 rc d 19 [(0, .ref a0), (1, .int x1), (2, .int x2)] [] h :=
  (jx_G_run (jx_X_grows rc jx_dflt jx_mt d) 82 (0, [(0, .ref a0), (1, .int x1), (2, .int x2)], [], h)).trans rfl
set_option maxRecDepth 100000 in
theorem je_182_19 (rc : Nat → Nat × (Nat → Int32)) (d : Nat) (a0 : Nat) (x1 : Int32) (x2 : Int32) (h : jxH) : jb_182 rc d 19 [(0, .ref a0), (1, .int x1), (2, .int x2)] [] h =
  if x1 = (2 : Int32) then
    jb_182 rc d 25 [(0, .ref a0), (1, .int x1), (2, .int x2)] [] h
  else
    if x1 = (4 : Int32) then
      jb_182 rc d 25 [(0, .ref a0), (1, .int x1), (2, .int x2)] [] h
    else
      if x1 = (5 : Int32) then
        if x1 = (3 : Int32) then
          jb_182 rc d 55 [(0, .ref a0), (1, .int x1), (2, .int x2)] [.int (1 : Int32), .int (1 : Int32), .int (-1 : Int32), .int x2, .int (0 : Int32), .ref a0] h
        else
          jb_182 rc d 55 [(0, .ref a0), (1, .int x1), (2, .int x2)] [.int (0 : Int32), .int (1 : Int32), .int (-1 : Int32), .int x2, .int (0 : Int32), .ref a0] h
      else
        if x1 = (3 : Int32) then
          jb_182 rc d 55 [(0, .ref a0), (1, .int x1), (2, .int x2)] [.int (1 : Int32), .int (12 : Int32), .int (-1 : Int32), .int x2, .int (0 : Int32), .ref a0] h
        else
          jb_182 rc d 55 [(0, .ref a0), (1, .int x1), (2, .int x2)] [.int (0 : Int32), .int (12 : Int32), .int (-1 : Int32), .int x2, .int (0 : Int32), .ref a0] h :=
  (jx_G_run (jx_X_grows rc jx_dflt jx_mt d) 82 _).trans rfl
set_option maxRecDepth 100000 in
theorem je_182_25 (rc : Nat → Nat × (Nat → Int32)) (d : Nat) (a0 : Nat) (x1 : Int32) (x2 : Int32) (h : jxH) : jb_182 rc d 25 [(0, .ref a0), (1, .int x1), (2, .int x2)] [] h =
  jx_cI (jx_C rc d 181 [.ref a0, .int (4 : Int32), .int x2, .int (0 : Int32), .int (12 : Int32), .int (0 : Int32)] h) fun v2 h1 =>
  if v2 < 0 then
    if x1 = (5 : Int32) then
      if x1 = (3 : Int32) then
        jb_182 rc d 55 [(0, .ref a0), (1, .int x1), (2, .int x2)] [.int (1 : Int32), .int (1 : Int32), .int (-1 : Int32), .int x2, .int (0 : Int32), .ref a0] h1
      else
        jb_182 rc d 55 [(0, .ref a0), (1, .int x1), (2, .int x2)] [.int (0 : Int32), .int (1 : Int32), .int (-1 : Int32), .int x2, .int (0 : Int32), .ref a0] h1
    else
      if x1 = (3 : Int32) then
        jb_182 rc d 55 [(0, .ref a0), (1, .int x1), (2, .int x2)] [.int (1 : Int32), .int (12 : Int32), .int (-1 : Int32), .int x2, .int (0 : Int32), .ref a0] h1
      else
        jb_182 rc d 55 [(0, .ref a0), (1, .int x1), (2, .int x2)] [.int (0 : Int32), .int (12 : Int32), .int (-1 : Int32), .int x2, .int (0 : Int32), .ref a0] h1
  else
    some (some (.int ((400 : Int32) + v2)), h1) :=
  (jx_G_run (jx_X_grows rc jx_dflt jx_mt d) 82 _).trans rfl
set_option maxRecDepth 100000 in
theorem je_182_55 (rc : Nat → Nat × (Nat → Int32)) (d : Nat) (a0 : Nat) (x1 : Int32) (x2 : Int32) (s0 : Nat) (s1 : Int32) (s2 : Int32) (s3 : Int32) (s4 : Int32) (s5 : Int32) (h : jxH) : jb_182 rc d 55 [(0, .ref a0), (1, .int x1), (2, .int x2)] [.int s5, .int s4, .int s3, .int s2, .int s1, .ref s0] h =
  jx_cI (jx_C rc d 181 [.ref s0, .int s1, .int s2, .int s3, .int s4, .int s5] h) fun v2 h1 =>
  if 0 ≤ v2 then
    some (some (.int v2), h1)
  else
    if x1 = (1 : Int32) then
      if x1 = (3 : Int32) then
        jx_cI (jx_C rc d 181 [.ref a0, .int (0 : Int32), .int x2, .int (1 : Int32), .int (12 : Int32), .int (1 : Int32)] h1) fun v4 h3 =>
        some (some (.int v4), h3)
      else
        jx_cI (jx_C rc d 181 [.ref a0, .int (0 : Int32), .int x2, .int (1 : Int32), .int (12 : Int32), .int (0 : Int32)] h1) fun v6 h5 =>
        some (some (.int v6), h5)
    else
      if x1 = (3 : Int32) then
        if x1 = (3 : Int32) then
          jx_cI (jx_C rc d 181 [.ref a0, .int (0 : Int32), .int x2, .int (1 : Int32), .int (12 : Int32), .int (1 : Int32)] h1) fun v8 h7 =>
          some (some (.int v8), h7)
        else
          jx_cI (jx_C rc d 181 [.ref a0, .int (0 : Int32), .int x2, .int (1 : Int32), .int (12 : Int32), .int (0 : Int32)] h1) fun v10 h9 =>
          some (some (.int v10), h9)
      else
        some (some (.int v2), h1) :=
  (jx_G_run (jx_X_grows rc jx_dflt jx_mt d) 82 _).trans rfl
-- RoomTreesModel.next(II)I
set_option maxRecDepth 100000 in
theorem je_183 (rc : Nat → Nat × (Nat → Int32)) (d : Nat) (a0 : Nat) (x1 : Int32) (x2 : Int32) (h : jxH) : jx_C rc (d + 1) 183 [.ref a0, .int x1, .int x2] h =
  if jx_is (jx_at h a0) 12 = true then
  jx_cI (jx_C rc d 175 [.ref a0, .int x1] h) fun v2 h1 =>
  if v2 = 0 then
    jx_cI (jx_C rc d 73 [.ref a0, .int (1 : Int32)] h1) fun v4 h3 =>
    some (some (.int v4), h3)
  else
    jx_cI (jx_C rc d 72 [.long (x2).toInt64, .long (0 : Int64), .long (1 : Int64)] h1) fun v6 h5 =>
    if v6 = 0 then
      jx_cI (jx_C rc d 73 [.ref a0, .int (1 : Int32)] h5) fun v8 h7 =>
      some (some (.int v8), h7)
    else
      (jx_gR (jx_at h5 a0) 12 1).bind fun b9 =>
      (jx_gR (jx_at h5 a0) 12 26).bind fun b10 =>
      (jx_aI (jx_at h5 b10) 0 ((3 : Int32) * x1)).bind fun v11 =>
      (jx_gR (jx_at h5 a0) 12 26).bind fun b12 =>
      (jx_aI (jx_at h5 b12) 0 (((3 : Int32) * x1) + (1 : Int32))).bind fun v13 =>
      jx_cI (jx_C rc d 182 [.ref b9, .int v11, .int v13] h5) fun v15 h14 =>
      if 0 ≤ v15 then
        if x2 = 0 then
          if (100 : Int32) = 0 then none else some (some (.int (v15 / (100 : Int32))), h14)
        else
          if (100 : Int32) = 0 then none else some (some (.int (v15 - v15 / (100 : Int32) * (100 : Int32))), h14)
      else
        jx_cI (jx_C rc d 73 [.ref a0, .int (2 : Int32)] h14) fun v17 h16 =>
        some (some (.int v17), h16)
  else none :=
  jx_enter ((jx_G_run (jx_X_grows rc jx_dflt jx_mt d) 50 (0, [(0, .ref a0), (1, .int x1), (2, .int x2)], [], h)).trans rfl)
-- RoomTreesModel.work(II)I
noncomputable def jb_184 (rc : Nat → Nat × (Nat → Int32)) (d : Nat) (i : Nat) (ls : List (Nat × Value)) (st : List Value) (h : jxH) : jxR := jx_G rc jx_dflt (jx_X rc jx_dflt jx_mt d) jc_184 (i, ls, st, h)
set_option maxRecDepth 100000 in
theorem je_184 (rc : Nat → Nat × (Nat → Int32)) (d : Nat) (a0 : Nat) (x1 : Int32) (x2 : Int32) (h : jxH) : jx_C rc (d + 1) 184 [.ref a0, .int x1, .int x2] h =
  if jx_is (jx_at h a0) 12 = true then
  jx_cI (jx_C rc d 175 [.ref a0, .int x1] h) fun v2 h1 =>
  if v2 = 0 then
    jx_cI (jx_C rc d 73 [.ref a0, .int (1 : Int32)] h1) fun v4 h3 =>
    some (some (.int v4), h3)
  else
    jx_cI (jx_C rc d 72 [.long (x2).toInt64, .long (1 : Int64), .long (12 : Int64)] h1) fun v6 h5 =>
    if v6 = 0 then
      jx_cI (jx_C rc d 73 [.ref a0, .int (1 : Int32)] h5) fun v8 h7 =>
      some (some (.int v8), h7)
    else
      (jx_gI (jx_at h5 a0) 12 4).bind fun v9 =>
      if (v9 + x2) ≤ (40 : Int32) then
        (jx_gR (jx_at h5 a0) 12 1).bind fun b10 =>
        (jx_gR (jx_at h5 a0) 12 26).bind fun b11 =>
        (jx_aI (jx_at h5 b11) 0 ((3 : Int32) * x1)).bind fun v12 =>
        (jx_gR (jx_at h5 a0) 12 26).bind fun b13 =>
        (jx_aI (jx_at h5 b13) 0 (((3 : Int32) * x1) + (1 : Int32))).bind fun v14 =>
        jx_cI (jx_C rc d 182 [.ref b10, .int v12, .int v14] h5) fun v16 h15 =>
        jb_184 rc d 44 [(0, .ref a0), (1, .int x1), (2, .int x2), (3, .int (0 : Int32)), (4, .int v16)] [] h15
      else
        jx_cI (jx_C rc d 73 [.ref a0, .int (4 : Int32)] h5) fun v18 h17 =>
        some (some (.int v18), h17)
  else none :=
  jx_enter ((jx_G_run (jx_X_grows rc jx_dflt jx_mt d) 109 (0, [(0, .ref a0), (1, .int x1), (2, .int x2)], [], h)).trans rfl)
set_option maxRecDepth 100000 in
theorem je_184_44 (rc : Nat → Nat × (Nat → Int32)) (d : Nat) (a0 : Nat) (x1 : Int32) (x2 : Int32) (x3 : Int32) (x4 : Int32) (h : jxH) : jb_184 rc d 44 [(0, .ref a0), (1, .int x1), (2, .int x2), (3, .int x3), (4, .int x4)] [] h =
  if x2 ≤ x3 then
    jb_184 rc d 80 [(0, .ref a0), (1, .int x1), (3, .int x3)] [] h
  else
    if x4 < 0 then
      jb_184 rc d 80 [(0, .ref a0), (1, .int x1), (3, .int x3)] [] h
    else
      if (100 : Int32) = 0 then none else if (100 : Int32) = 0 then none else jx_cV (jx_C rc d 101 [.ref a0, .int (x4 / (100 : Int32)), .int (x4 - x4 / (100 : Int32) * (100 : Int32)), .int (0 : Int32), .int (0 : Int32), .int (0 : Int32)] h) fun h1 =>
      (jx_gR (jx_at h1 a0) 12 1).bind fun b2 =>
      (jx_gR (jx_at h1 a0) 12 26).bind fun b3 =>
      (jx_aI (jx_at h1 b3) 0 ((3 : Int32) * x1)).bind fun v4 =>
      (jx_gR (jx_at h1 a0) 12 26).bind fun b5 =>
      (jx_aI (jx_at h1 b5) 0 (((3 : Int32) * x1) + (1 : Int32))).bind fun v6 =>
      jx_cI (jx_C rc d 182 [.ref b2, .int v4, .int v6] h1) fun v8 h7 =>
      jb_184 rc d 44 [(0, .ref a0), (1, .int x1), (2, .int x2), (3, .int (x3 + (1 : Int32))), (4, .int v8)] [] h7 :=
  (jx_G_run (jx_X_grows rc jx_dflt jx_mt d) 109 _).trans rfl
set_option maxRecDepth 100000 in
theorem je_184_80 (rc : Nat → Nat × (Nat → Int32)) (d : Nat) (a0 : Nat) (x1 : Int32) (x3 : Int32) (h : jxH) : jb_184 rc d 80 [(0, .ref a0), (1, .int x1), (3, .int x3)] [] h =
  (jx_gR (jx_at h a0) 12 26).bind fun b1 =>
  (jx_aI (jx_at h b1) 0 (((3 : Int32) * x1) + (2 : Int32))).bind fun v2 =>
  (jx_gR (jx_at h a0) 12 26).bind fun b3 =>
  if (v2 + x3) ≤ (9999 : Int32) then
    (jx_sI (jx_at h b3) 0 (((3 : Int32) * x1) + (2 : Int32)) (v2 + x3)).bind fun e4 =>
    some (some (.int x3), (jx_set h b3 e4))
  else
    (jx_sI (jx_at h b3) 0 (((3 : Int32) * x1) + (2 : Int32)) (9999 : Int32)).bind fun e5 =>
    some (some (.int x3), (jx_set h b3 e5)) :=
  (jx_G_run (jx_X_grows rc jx_dflt jx_mt d) 109 _).trans rfl
-- RoomTreesModel.toTheEnd(II)I
noncomputable def jb_185 (rc : Nat → Nat × (Nat → Int32)) (d : Nat) (i : Nat) (ls : List (Nat × Value)) (st : List Value) (h : jxH) : jxR := jx_G rc jx_dflt (jx_X rc jx_dflt jx_mt d) jc_185 (i, ls, st, h)
set_option maxRecDepth 100000 in
theorem je_185 (rc : Nat → Nat × (Nat → Int32)) (d : Nat) (a0 : Nat) (x1 : Int32) (x2 : Int32) (h : jxH) : jx_C rc (d + 1) 185 [.ref a0, .int x1, .int x2] h =
  if jx_is (jx_at h a0) 12 = true then
  (jx_gR (jx_at h a0) 12 28).bind fun b1 =>
  (jx_aQ (jx_at h b1) 8 (0 : Int32)).bind fun o2 =>
  jx_mo o2 (fun b3 => (jx_gR (jx_at h a0) 12 1).bind fun b4 =>
    jx_cV (jx_C rc d 74 [.ref b4, .ref b3] h) fun h5 =>
    jx_cI (jx_C rc d 182 [.ref b3, .int x1, .int x2] h5) fun v7 h6 =>
    jb_185 rc d 16 [(1, .int x1), (2, .int x2), (3, .ref b3), (4, .int (0 : Int32)), (5, .int v7)] [] h6)
  ((jx_gR (jx_at h a0) 12 1).bind fun b8 =>
    jx_cV (jx_C rc d 74 [.ref b8, .null] h) fun h9 =>
    jx_cI (jx_C rc d 182 [.null, .int x1, .int x2] h9) fun v11 h10 =>
    jb_185 rc d 16 [(1, .int x1), (2, .int x2), (3, .null), (4, .int (0 : Int32)), (5, .int v11)] [] h10)
  else none :=
  jx_enter ((jx_G_run (jx_X_grows rc jx_dflt jx_mt d) 40 (0, [(0, .ref a0), (1, .int x1), (2, .int x2)], [], h)).trans rfl)
set_option maxRecDepth 100000 in
theorem je_185_16 (rc : Nat → Nat × (Nat → Int32)) (d : Nat) (x1 : Int32) (x2 : Int32) (x4 : Int32) (x5 : Int32) (h : jxH) : jb_185 rc d 16 [(1, .int x1), (2, .int x2), (3, .null), (4, .int x4), (5, .int x5)] [] h =
  if x5 < 0 then
    some (some (.int x4), h)
  else
    if (100 : Int32) = 0 then none else if (100 : Int32) = 0 then none else jx_cV (jx_C rc d 99 [.null, .int (x5 / (100 : Int32)), .int (x5 - x5 / (100 : Int32) * (100 : Int32)), .int (0 : Int32), .int (0 : Int32), .int (0 : Int32)] h) fun h1 =>
    jx_cI (jx_C rc d 182 [.null, .int x1, .int x2] h1) fun v3 h2 =>
    jb_185 rc d 16 [(1, .int x1), (2, .int x2), (3, .null), (4, .int (x4 + (1 : Int32))), (5, .int v3)] [] h2 :=
  (jx_G_run (jx_X_grows rc jx_dflt jx_mt d) 40 _).trans rfl
set_option maxRecDepth 100000 in
theorem je_185_16b (rc : Nat → Nat × (Nat → Int32)) (d : Nat) (x1 : Int32) (x2 : Int32) (a3 : Nat) (x4 : Int32) (x5 : Int32) (h : jxH) : jb_185 rc d 16 [(1, .int x1), (2, .int x2), (3, .ref a3), (4, .int x4), (5, .int x5)] [] h =
  if x5 < 0 then
    some (some (.int x4), h)
  else
    if (100 : Int32) = 0 then none else if (100 : Int32) = 0 then none else jx_cV (jx_C rc d 99 [.ref a3, .int (x5 / (100 : Int32)), .int (x5 - x5 / (100 : Int32) * (100 : Int32)), .int (0 : Int32), .int (0 : Int32), .int (0 : Int32)] h) fun h1 =>
    jx_cI (jx_C rc d 182 [.ref a3, .int x1, .int x2] h1) fun v3 h2 =>
    jb_185 rc d 16 [(1, .int x1), (2, .int x2), (3, .ref a3), (4, .int (x4 + (1 : Int32))), (5, .int v3)] [] h2 :=
  (jx_G_run (jx_X_grows rc jx_dflt jx_mt d) 40 _).trans rfl
-- RoomTreesModel.weights([I)I
noncomputable def jb_186 (rc : Nat → Nat × (Nat → Int32)) (d : Nat) (i : Nat) (ls : List (Nat × Value)) (st : List Value) (h : jxH) : jxR := jx_G rc jx_dflt (jx_X rc jx_dflt jx_mt d) jc_186 (i, ls, st, h)
set_option maxRecDepth 100000 in
theorem je_186 (rc : Nat → Nat × (Nat → Int32)) (d : Nat) (a0 : Nat) (h : jxH) : jx_C rc (d + 1) 186 [.ref a0] h =
  jb_186 rc d 4 [(0, .ref a0), (1, .int (0 : Int32)), (2, .int (0 : Int32))] [] h :=
  (jx_G_run (jx_X_grows rc jx_dflt jx_mt d) 29 (0, [(0, .ref a0)], [], h)).trans rfl
set_option maxRecDepth 100000 in
theorem je_186_4 (rc : Nat → Nat × (Nat → Int32)) (d : Nat) (a0 : Nat) (x1 : Int32) (x2 : Int32) (h : jxH) : jb_186 rc d 4 [(0, .ref a0), (1, .int x1), (2, .int x2)] [] h =
  if (12 : Int32) ≤ x2 then
    some (some (.int x1), h)
  else
    (jx_aI (jx_at h a0) 0 (0 : Int32)).bind fun v1 =>
    jx_cI (jx_C rc d 75 [.int v1, .int x2] h) fun v3 h2 =>
    if v3 = 0 then
      jb_186 rc d 4 [(0, .ref a0), (1, .int (x1 + (0 : Int32))), (2, .int (x2 + (1 : Int32)))] [] h2
    else
      (jx_aI (jx_at h2 a0) 0 ((1 : Int32) + x2)).bind fun v4 =>
      jb_186 rc d 4 [(0, .ref a0), (1, .int (x1 + v4)), (2, .int (x2 + (1 : Int32)))] [] h2 :=
  (jx_G_run (jx_X_grows rc jx_dflt jx_mt d) 29 _).trans rfl
-- RoomTreesModel.rest(II)I
set_option maxRecDepth 100000 in
theorem je_187 (rc : Nat → Nat × (Nat → Int32)) (d : Nat) (a0 : Nat) (x1 : Int32) (x2 : Int32) (h : jxH) : jx_C rc (d + 1) 187 [.ref a0, .int x1, .int x2] h =
  if jx_is (jx_at h a0) 12 = true then
  jx_cI (jx_C rc d 175 [.ref a0, .int x1] h) fun v2 h1 =>
  if v2 = 0 then
    jx_cI (jx_C rc d 73 [.ref a0, .int (1 : Int32)] h1) fun v4 h3 =>
    some (some (.int v4), h3)
  else
    jx_cI (jx_C rc d 72 [.long (x2).toInt64, .long (0 : Int64), .long (2 : Int64)] h1) fun v6 h5 =>
    if v6 = 0 then
      jx_cI (jx_C rc d 73 [.ref a0, .int (1 : Int32)] h5) fun v8 h7 =>
      some (some (.int v8), h7)
    else
      (jx_gR (jx_at h5 a0) 12 26).bind fun b9 =>
      (jx_aI (jx_at h5 b9) 0 ((3 : Int32) * x1)).bind fun v10 =>
      (jx_gR (jx_at h5 a0) 12 26).bind fun b11 =>
      (jx_aI (jx_at h5 b11) 0 (((3 : Int32) * x1) + (1 : Int32))).bind fun v12 =>
      jx_cI (jx_C rc d 185 [.ref a0, .int v10, .int v12] h5) fun v14 h13 =>
      if x2 = 0 then
        some (some (.int v14), h13)
      else
        if x2 = (1 : Int32) then
          (jx_gR (jx_at h13 a0) 12 28).bind fun b15 =>
          (jx_aQ (jx_at h13 b15) 8 (0 : Int32)).bind fun o16 =>
          jx_mo o16 (fun b17 => (jx_aI (jx_at h13 b17) 0 (0 : Int32)).bind fun v18 =>
            jx_cI (jx_C rc d 76 [.int v18] h13) fun v20 h19 =>
            some (some (.int v20), h19))
          (none)
        else
          (jx_gR (jx_at h13 a0) 12 28).bind fun b21 =>
          (jx_aQ (jx_at h13 b21) 8 (0 : Int32)).bind fun o22 =>
          jx_mo o22 (fun b23 => jx_cI (jx_C rc d 186 [.ref b23] h13) fun v25 h24 =>
            some (some (.int v25), h24))
          (jx_cI (jx_C rc d 186 [.null] h13) fun v27 h26 =>
            some (some (.int v27), h26))
  else none :=
  jx_enter ((jx_G_run (jx_X_grows rc jx_dflt jx_mt d) 54 (0, [(0, .ref a0), (1, .int x1), (2, .int x2)], [], h)).trans rfl)
-- RoomTreesModel.best(I)I
noncomputable def jb_188 (rc : Nat → Nat × (Nat → Int32)) (d : Nat) (i : Nat) (ls : List (Nat × Value)) (st : List Value) (h : jxH) : jxR := jx_G rc jx_dflt (jx_X rc jx_dflt jx_mt d) jc_188 (i, ls, st, h)
set_option maxRecDepth 100000 in
theorem je_188 (rc : Nat → Nat × (Nat → Int32)) (d : Nat) (a0 : Nat) (x1 : Int32) (h : jxH) : jx_C rc (d + 1) 188 [.ref a0, .int x1] h =
  if jx_is (jx_at h a0) 12 = true then
  jx_cI (jx_C rc d 72 [.long (x1).toInt64, .long (0 : Int64), .long (9 : Int64)] h) fun v2 h1 =>
  if v2 = 0 then
    jx_cI (jx_C rc d 73 [.ref a0, .int (1 : Int32)] h1) fun v4 h3 =>
    some (some (.int v4), h3)
  else
    jb_188 rc d 16 [(0, .ref a0), (1, .int x1), (2, .int (0 : Int32)), (3, .int (13 : Int32)), (4, .int (0 : Int32))] [] h1
  else none :=
  jx_enter ((jx_G_run (jx_X_grows rc jx_dflt jx_mt d) 54 (0, [(0, .ref a0), (1, .int x1)], [], h)).trans rfl)
set_option maxRecDepth 100000 in
theorem je_188_16 (rc : Nat → Nat × (Nat → Int32)) (d : Nat) (a0 : Nat) (x1 : Int32) (x2 : Int32) (x3 : Int32) (x4 : Int32) (h : jxH) : jb_188 rc d 16 [(0, .ref a0), (1, .int x1), (2, .int x2), (3, .int x3), (4, .int x4)] [] h =
  if (6 : Int32) ≤ x4 then
    some (some (.int x2), h)
  else
    jx_cI (jx_C rc d 185 [.ref a0, .int x4, .int x1] h) fun v2 h1 =>
    (jx_gR (jx_at h1 a0) 12 28).bind fun b3 =>
    (jx_aQ (jx_at h1 b3) 8 (0 : Int32)).bind fun o4 =>
    jx_mo o4 (fun b5 => (jx_aI (jx_at h1 b5) 0 (0 : Int32)).bind fun v6 =>
      jx_cI (jx_C rc d 76 [.int v6] h1) fun v8 h7 =>
      if x3 ≤ v8 then
        if x3 ≤ v8 then
          jb_188 rc d 16 [(0, .ref a0), (1, .int x1), (2, .int x2), (3, .int x3), (4, .int (x4 + (1 : Int32)))] [] h7
        else
          jb_188 rc d 16 [(0, .ref a0), (1, .int x1), (2, .int x2), (3, .int v8), (4, .int (x4 + (1 : Int32)))] [] h7
      else
        if v2 < 0 then
          if x3 ≤ v8 then
            jb_188 rc d 16 [(0, .ref a0), (1, .int x1), (2, .int x2), (3, .int x3), (4, .int (x4 + (1 : Int32)))] [] h7
          else
            jb_188 rc d 16 [(0, .ref a0), (1, .int x1), (2, .int x2), (3, .int v8), (4, .int (x4 + (1 : Int32)))] [] h7
        else
          if x3 ≤ v8 then
            jb_188 rc d 16 [(0, .ref a0), (1, .int x1), (2, .int x4), (3, .int x3), (4, .int (x4 + (1 : Int32)))] [] h7
          else
            jb_188 rc d 16 [(0, .ref a0), (1, .int x1), (2, .int x4), (3, .int v8), (4, .int (x4 + (1 : Int32)))] [] h7)
    (none) :=
  (jx_G_run (jx_X_grows rc jx_dflt jx_mt d) 54 _).trans rfl
-- RoomTreesModel.tries(III)V
noncomputable def jb_189 (rc : Nat → Nat × (Nat → Int32)) (d : Nat) (i : Nat) (ls : List (Nat × Value)) (st : List Value) (h : jxH) : jxR := jx_G rc jx_dflt (jx_X rc jx_dflt jx_mt d) jc_189 (i, ls, st, h)
set_option maxRecDepth 100000 in
theorem je_189 (rc : Nat → Nat × (Nat → Int32)) (d : Nat) (a0 : Nat) (x1 : Int32) (x2 : Int32) (x3 : Int32) (h : jxH) : jx_C rc (d + 1) 189 [.ref a0, .int x1, .int x2, .int x3] h =
  if jx_is (jx_at h a0) 12 = true then
  (jx_gR (jx_at h a0) 12 28).bind fun b1 =>
  (jx_aQ (jx_at h b1) 8 x1).bind fun o2 =>
  jx_mo o2 (fun b3 => (jx_aI (jx_at h b3) 0 (0 : Int32)).bind fun v4 =>
    jx_cI (jx_C rc d 76 [.int v4] h) fun v6 h5 =>
    (jx_gI (jx_at h5 a0) 12 29).bind fun v7 =>
    if v6 < v7 then
      (jx_pF (jx_at h5 a0) 12 29 (.int v6)).bind fun e8 =>
      (jx_pF (jx_at (jx_set h5 a0 e8) a0) 12 30 (.int x1)).bind fun e9 =>
      (jx_pF (jx_at (jx_set (jx_set h5 a0 e8) a0 e9) a0) 12 31 (.int x3)).bind fun e10 =>
      jb_189 rc d 33 [(0, .ref a0), (1, .int x1), (2, .int x2), (3, .int x3), (4, .ref b3), (6, .int (0 : Int32))] [] (jx_set (jx_set (jx_set h5 a0 e8) a0 e9) a0 e10)
    else
      (jx_gI (jx_at h5 a0) 12 29).bind fun v11 =>
      if v6 = v11 then
        (jx_gI (jx_at h5 a0) 12 30).bind fun v12 =>
        if v12 ≤ x1 then
          jb_189 rc d 33 [(0, .ref a0), (1, .int x1), (2, .int x2), (3, .int x3), (4, .ref b3), (6, .int (0 : Int32))] [] h5
        else
          (jx_pF (jx_at h5 a0) 12 29 (.int v6)).bind fun e13 =>
          (jx_pF (jx_at (jx_set h5 a0 e13) a0) 12 30 (.int x1)).bind fun e14 =>
          (jx_pF (jx_at (jx_set (jx_set h5 a0 e13) a0 e14) a0) 12 31 (.int x3)).bind fun e15 =>
          jb_189 rc d 33 [(0, .ref a0), (1, .int x1), (2, .int x2), (3, .int x3), (4, .ref b3), (6, .int (0 : Int32))] [] (jx_set (jx_set (jx_set h5 a0 e13) a0 e14) a0 e15)
      else
        jb_189 rc d 33 [(0, .ref a0), (1, .int x1), (2, .int x2), (3, .int x3), (4, .ref b3), (6, .int (0 : Int32))] [] h5)
  (none)
  else none :=
  jx_enter ((jx_G_run (jx_X_grows rc jx_dflt jx_mt d) 111 (0, [(0, .ref a0), (1, .int x1), (2, .int x2), (3, .int x3)], [], h)).trans rfl)
set_option maxRecDepth 100000 in
theorem je_189_33 (rc : Nat → Nat × (Nat → Int32)) (d : Nat) (a0 : Nat) (x1 : Int32) (x2 : Int32) (x3 : Int32) (x6 : Int32) (h : jxH) : jb_189 rc d 33 [(0, .ref a0), (1, .int x1), (2, .int x2), (3, .int x3), (4, .null), (6, .int x6)] [] h =
  if (12 : Int32) ≤ x6 then
    some (none, h)
  else
    if x2 ≤ x1 then
      some (none, h)
    else
      jx_cI (jx_C rc d 78 [.null, .int x6] h) fun v2 h1 =>
      if v2 = 0 then
        jb_189 rc d 64 [(0, .ref a0), (1, .int x1), (2, .int x2), (3, .int x3), (4, .null), (6, .int x6)] [.int (-1 : Int32)] h1
      else
        none :=
  (jx_G_run (jx_X_grows rc jx_dflt jx_mt d) 111 _).trans rfl
set_option maxRecDepth 100000 in
theorem je_189_33b (rc : Nat → Nat × (Nat → Int32)) (d : Nat) (a0 : Nat) (x1 : Int32) (x2 : Int32) (x3 : Int32) (a4 : Nat) (x6 : Int32) (h : jxH) : jb_189 rc d 33 [(0, .ref a0), (1, .int x1), (2, .int x2), (3, .int x3), (4, .ref a4), (6, .int x6)] [] h =
  if (12 : Int32) ≤ x6 then
    some (none, h)
  else
    if x2 ≤ x1 then
      some (none, h)
    else
      jx_cI (jx_C rc d 78 [.ref a4, .int x6] h) fun v2 h1 =>
      if v2 = 0 then
        jb_189 rc d 64 [(0, .ref a0), (1, .int x1), (2, .int x2), (3, .int x3), (4, .ref a4), (6, .int x6)] [.int (-1 : Int32)] h1
      else
        (jx_aI (jx_at h1 a4) 0 ((1 : Int32) + x6)).bind fun v3 =>
        if v3 = 0 then
          (jx_aI (jx_at h1 a4) 0 ((13 : Int32) + x6)).bind fun v4 =>
          jx_cI (jx_C rc d 76 [.int v4] h1) fun v6 h5 =>
          if v6 = (2 : Int32) then
            jb_189 rc d 64 [(0, .ref a0), (1, .int x1), (2, .int x2), (3, .int x3), (4, .ref a4), (6, .int x6)] [.int (4 : Int32)] h5
          else
            jb_189 rc d 64 [(0, .ref a0), (1, .int x1), (2, .int x2), (3, .int x3), (4, .ref a4), (6, .int x6)] [.int (5 : Int32)] h5
        else
          jb_189 rc d 64 [(0, .ref a0), (1, .int x1), (2, .int x2), (3, .int x3), (4, .ref a4), (6, .int x6)] [.int (0 : Int32)] h1 :=
  (jx_G_run (jx_X_grows rc jx_dflt jx_mt d) 111 _).trans rfl
set_option maxRecDepth 100000 in
theorem je_189_64 (rc : Nat → Nat × (Nat → Int32)) (d : Nat) (a0 : Nat) (x1 : Int32) (x2 : Int32) (x3 : Int32) (x6 : Int32) (s0 : Int32) (h : jxH) : jb_189 rc d 64 [(0, .ref a0), (1, .int x1), (2, .int x2), (3, .int x3), (4, .null), (6, .int x6)] [.int s0] h =
  if s0 < 0 then
    jb_189 rc d 33 [(0, .ref a0), (1, .int x1), (2, .int x2), (3, .int x3), (4, .null), (6, .int (x6 + (1 : Int32)))] [] h
  else
    jx_cI (jx_C rc d 93 [.null, .int s0, .int x6, .int (0 : Int32), .int (0 : Int32), .int (0 : Int32)] h) fun v2 h1 =>
    if v2 = 0 then
      (jx_gR (jx_at h1 a0) 12 28).bind fun b3 =>
      (jx_aQ (jx_at h1 b3) 8 (x1 + (1 : Int32))).bind fun o4 =>
      jx_mo o4 (fun b5 => jx_cV (jx_C rc d 74 [.null, .ref b5] h1) fun h6 =>
        (jx_gR (jx_at h6 a0) 12 28).bind fun b7 =>
        (jx_aQ (jx_at h6 b7) 8 (x1 + (1 : Int32))).bind fun o8 =>
        jx_mo o8 (fun b9 => jx_cV (jx_C rc d 99 [.ref b9, .int s0, .int x6, .int (0 : Int32), .int (0 : Int32), .int (0 : Int32)] h6) fun h10 =>
          if x1 = 0 then
            jx_cV (jx_C rc d 189 [.ref a0, .int (x1 + (1 : Int32)), .int x2, .int x6] h10) fun h11 =>
            jb_189 rc d 33 [(0, .ref a0), (1, .int x1), (2, .int x2), (3, .int x3), (4, .null), (6, .int (x6 + (1 : Int32)))] [] h11
          else
            jx_cV (jx_C rc d 189 [.ref a0, .int (x1 + (1 : Int32)), .int x2, .int x3] h10) fun h12 =>
            jb_189 rc d 33 [(0, .ref a0), (1, .int x1), (2, .int x2), (3, .int x3), (4, .null), (6, .int (x6 + (1 : Int32)))] [] h12)
        (jx_cV (jx_C rc d 99 [.null, .int s0, .int x6, .int (0 : Int32), .int (0 : Int32), .int (0 : Int32)] h6) fun h13 =>
          if x1 = 0 then
            jx_cV (jx_C rc d 189 [.ref a0, .int (x1 + (1 : Int32)), .int x2, .int x6] h13) fun h14 =>
            jb_189 rc d 33 [(0, .ref a0), (1, .int x1), (2, .int x2), (3, .int x3), (4, .null), (6, .int (x6 + (1 : Int32)))] [] h14
          else
            jx_cV (jx_C rc d 189 [.ref a0, .int (x1 + (1 : Int32)), .int x2, .int x3] h13) fun h15 =>
            jb_189 rc d 33 [(0, .ref a0), (1, .int x1), (2, .int x2), (3, .int x3), (4, .null), (6, .int (x6 + (1 : Int32)))] [] h15))
      (jx_cV (jx_C rc d 74 [.null, .null] h1) fun h16 =>
        (jx_gR (jx_at h16 a0) 12 28).bind fun b17 =>
        (jx_aQ (jx_at h16 b17) 8 (x1 + (1 : Int32))).bind fun o18 =>
        jx_mo o18 (fun b19 => jx_cV (jx_C rc d 99 [.ref b19, .int s0, .int x6, .int (0 : Int32), .int (0 : Int32), .int (0 : Int32)] h16) fun h20 =>
          if x1 = 0 then
            jx_cV (jx_C rc d 189 [.ref a0, .int (x1 + (1 : Int32)), .int x2, .int x6] h20) fun h21 =>
            jb_189 rc d 33 [(0, .ref a0), (1, .int x1), (2, .int x2), (3, .int x3), (4, .null), (6, .int (x6 + (1 : Int32)))] [] h21
          else
            jx_cV (jx_C rc d 189 [.ref a0, .int (x1 + (1 : Int32)), .int x2, .int x3] h20) fun h22 =>
            jb_189 rc d 33 [(0, .ref a0), (1, .int x1), (2, .int x2), (3, .int x3), (4, .null), (6, .int (x6 + (1 : Int32)))] [] h22)
        (jx_cV (jx_C rc d 99 [.null, .int s0, .int x6, .int (0 : Int32), .int (0 : Int32), .int (0 : Int32)] h16) fun h23 =>
          if x1 = 0 then
            jx_cV (jx_C rc d 189 [.ref a0, .int (x1 + (1 : Int32)), .int x2, .int x6] h23) fun h24 =>
            jb_189 rc d 33 [(0, .ref a0), (1, .int x1), (2, .int x2), (3, .int x3), (4, .null), (6, .int (x6 + (1 : Int32)))] [] h24
          else
            jx_cV (jx_C rc d 189 [.ref a0, .int (x1 + (1 : Int32)), .int x2, .int x3] h23) fun h25 =>
            jb_189 rc d 33 [(0, .ref a0), (1, .int x1), (2, .int x2), (3, .int x3), (4, .null), (6, .int (x6 + (1 : Int32)))] [] h25))
    else
      jb_189 rc d 33 [(0, .ref a0), (1, .int x1), (2, .int x2), (3, .int x3), (4, .null), (6, .int (x6 + (1 : Int32)))] [] h1 :=
  (jx_G_run (jx_X_grows rc jx_dflt jx_mt d) 111 _).trans rfl
set_option maxRecDepth 100000 in
theorem je_189_64b (rc : Nat → Nat × (Nat → Int32)) (d : Nat) (a0 : Nat) (x1 : Int32) (x2 : Int32) (x3 : Int32) (a4 : Nat) (x6 : Int32) (s0 : Int32) (h : jxH) : jb_189 rc d 64 [(0, .ref a0), (1, .int x1), (2, .int x2), (3, .int x3), (4, .ref a4), (6, .int x6)] [.int s0] h =
  if s0 < 0 then
    jb_189 rc d 33 [(0, .ref a0), (1, .int x1), (2, .int x2), (3, .int x3), (4, .ref a4), (6, .int (x6 + (1 : Int32)))] [] h
  else
    jx_cI (jx_C rc d 93 [.ref a4, .int s0, .int x6, .int (0 : Int32), .int (0 : Int32), .int (0 : Int32)] h) fun v2 h1 =>
    if v2 = 0 then
      (jx_gR (jx_at h1 a0) 12 28).bind fun b3 =>
      (jx_aQ (jx_at h1 b3) 8 (x1 + (1 : Int32))).bind fun o4 =>
      jx_mo o4 (fun b5 => jx_cV (jx_C rc d 74 [.ref a4, .ref b5] h1) fun h6 =>
        (jx_gR (jx_at h6 a0) 12 28).bind fun b7 =>
        (jx_aQ (jx_at h6 b7) 8 (x1 + (1 : Int32))).bind fun o8 =>
        jx_mo o8 (fun b9 => jx_cV (jx_C rc d 99 [.ref b9, .int s0, .int x6, .int (0 : Int32), .int (0 : Int32), .int (0 : Int32)] h6) fun h10 =>
          if x1 = 0 then
            jx_cV (jx_C rc d 189 [.ref a0, .int (x1 + (1 : Int32)), .int x2, .int x6] h10) fun h11 =>
            jb_189 rc d 33 [(0, .ref a0), (1, .int x1), (2, .int x2), (3, .int x3), (4, .ref a4), (6, .int (x6 + (1 : Int32)))] [] h11
          else
            jx_cV (jx_C rc d 189 [.ref a0, .int (x1 + (1 : Int32)), .int x2, .int x3] h10) fun h12 =>
            jb_189 rc d 33 [(0, .ref a0), (1, .int x1), (2, .int x2), (3, .int x3), (4, .ref a4), (6, .int (x6 + (1 : Int32)))] [] h12)
        (jx_cV (jx_C rc d 99 [.null, .int s0, .int x6, .int (0 : Int32), .int (0 : Int32), .int (0 : Int32)] h6) fun h13 =>
          if x1 = 0 then
            jx_cV (jx_C rc d 189 [.ref a0, .int (x1 + (1 : Int32)), .int x2, .int x6] h13) fun h14 =>
            jb_189 rc d 33 [(0, .ref a0), (1, .int x1), (2, .int x2), (3, .int x3), (4, .ref a4), (6, .int (x6 + (1 : Int32)))] [] h14
          else
            jx_cV (jx_C rc d 189 [.ref a0, .int (x1 + (1 : Int32)), .int x2, .int x3] h13) fun h15 =>
            jb_189 rc d 33 [(0, .ref a0), (1, .int x1), (2, .int x2), (3, .int x3), (4, .ref a4), (6, .int (x6 + (1 : Int32)))] [] h15))
      (jx_cV (jx_C rc d 74 [.ref a4, .null] h1) fun h16 =>
        (jx_gR (jx_at h16 a0) 12 28).bind fun b17 =>
        (jx_aQ (jx_at h16 b17) 8 (x1 + (1 : Int32))).bind fun o18 =>
        jx_mo o18 (fun b19 => jx_cV (jx_C rc d 99 [.ref b19, .int s0, .int x6, .int (0 : Int32), .int (0 : Int32), .int (0 : Int32)] h16) fun h20 =>
          if x1 = 0 then
            jx_cV (jx_C rc d 189 [.ref a0, .int (x1 + (1 : Int32)), .int x2, .int x6] h20) fun h21 =>
            jb_189 rc d 33 [(0, .ref a0), (1, .int x1), (2, .int x2), (3, .int x3), (4, .ref a4), (6, .int (x6 + (1 : Int32)))] [] h21
          else
            jx_cV (jx_C rc d 189 [.ref a0, .int (x1 + (1 : Int32)), .int x2, .int x3] h20) fun h22 =>
            jb_189 rc d 33 [(0, .ref a0), (1, .int x1), (2, .int x2), (3, .int x3), (4, .ref a4), (6, .int (x6 + (1 : Int32)))] [] h22)
        (jx_cV (jx_C rc d 99 [.null, .int s0, .int x6, .int (0 : Int32), .int (0 : Int32), .int (0 : Int32)] h16) fun h23 =>
          if x1 = 0 then
            jx_cV (jx_C rc d 189 [.ref a0, .int (x1 + (1 : Int32)), .int x2, .int x6] h23) fun h24 =>
            jb_189 rc d 33 [(0, .ref a0), (1, .int x1), (2, .int x2), (3, .int x3), (4, .ref a4), (6, .int (x6 + (1 : Int32)))] [] h24
          else
            jx_cV (jx_C rc d 189 [.ref a0, .int (x1 + (1 : Int32)), .int x2, .int x3] h23) fun h25 =>
            jb_189 rc d 33 [(0, .ref a0), (1, .int x1), (2, .int x2), (3, .int x3), (4, .ref a4), (6, .int (x6 + (1 : Int32)))] [] h25))
    else
      jb_189 rc d 33 [(0, .ref a0), (1, .int x1), (2, .int x2), (3, .int x3), (4, .ref a4), (6, .int (x6 + (1 : Int32)))] [] h1 :=
  (jx_G_run (jx_X_grows rc jx_dflt jx_mt d) 111 _).trans rfl
-- RoomTreesModel.fewest(II)I
set_option maxRecDepth 100000 in
theorem je_190 (rc : Nat → Nat × (Nat → Int32)) (d : Nat) (a0 : Nat) (x1 : Int32) (x2 : Int32) (h : jxH) : jx_C rc (d + 1) 190 [.ref a0, .int x1, .int x2] h =
  if jx_is (jx_at h a0) 12 = true then
  jx_cI (jx_C rc d 72 [.long (x1).toInt64, .long (0 : Int64), .long (4 : Int64)] h) fun v2 h1 =>
  if v2 = 0 then
    jx_cI (jx_C rc d 73 [.ref a0, .int (1 : Int32)] h1) fun v4 h3 =>
    some (some (.int v4), h3)
  else
    jx_cI (jx_C rc d 72 [.long (x2).toInt64, .long (0 : Int64), .long (2 : Int64)] h1) fun v6 h5 =>
    if v6 = 0 then
      jx_cI (jx_C rc d 73 [.ref a0, .int (1 : Int32)] h5) fun v8 h7 =>
      some (some (.int v8), h7)
    else
      (jx_gR (jx_at h5 a0) 12 1).bind fun b9 =>
      (jx_gR (jx_at h5 a0) 12 28).bind fun b10 =>
      (jx_aQ (jx_at h5 b10) 8 (0 : Int32)).bind fun o11 =>
      jx_mo o11 (fun b12 => jx_cV (jx_C rc d 74 [.ref b9, .ref b12] h5) fun h13 =>
        (jx_pF (jx_at h13 a0) 12 29 (.int (13 : Int32))).bind fun e14 =>
        (jx_pF (jx_at (jx_set h13 a0 e14) a0) 12 30 (.int (9 : Int32))).bind fun e15 =>
        (jx_pF (jx_at (jx_set (jx_set h13 a0 e14) a0 e15) a0) 12 31 (.int (-1 : Int32))).bind fun e16 =>
        jx_cV (jx_C rc d 189 [.ref a0, .int (0 : Int32), .int x1, .int (-1 : Int32)] (jx_set (jx_set (jx_set h13 a0 e14) a0 e15) a0 e16)) fun h17 =>
        if x2 = 0 then
          (jx_gI (jx_at h17 a0) 12 29).bind fun v18 =>
          some (some (.int v18), h17)
        else
          if x2 = (1 : Int32) then
            (jx_gI (jx_at h17 a0) 12 30).bind fun v19 =>
            some (some (.int v19), h17)
          else
            (jx_gI (jx_at h17 a0) 12 31).bind fun v20 =>
            some (some (.int v20), h17))
      (jx_cV (jx_C rc d 74 [.ref b9, .null] h5) fun h21 =>
        (jx_pF (jx_at h21 a0) 12 29 (.int (13 : Int32))).bind fun e22 =>
        (jx_pF (jx_at (jx_set h21 a0 e22) a0) 12 30 (.int (9 : Int32))).bind fun e23 =>
        (jx_pF (jx_at (jx_set (jx_set h21 a0 e22) a0 e23) a0) 12 31 (.int (-1 : Int32))).bind fun e24 =>
        jx_cV (jx_C rc d 189 [.ref a0, .int (0 : Int32), .int x1, .int (-1 : Int32)] (jx_set (jx_set (jx_set h21 a0 e22) a0 e23) a0 e24)) fun h25 =>
        if x2 = 0 then
          (jx_gI (jx_at h25 a0) 12 29).bind fun v26 =>
          some (some (.int v26), h25)
        else
          if x2 = (1 : Int32) then
            (jx_gI (jx_at h25 a0) 12 30).bind fun v27 =>
            some (some (.int v27), h25)
          else
            (jx_gI (jx_at h25 a0) 12 31).bind fun v28 =>
            some (some (.int v28), h25))
  else none :=
  jx_enter ((jx_G_run (jx_X_grows rc jx_dflt jx_mt d) 53 (0, [(0, .ref a0), (1, .int x1), (2, .int x2)], [], h)).trans rfl)
-- RoomTreesModel.comesTo(III)Z
noncomputable def jb_191 (rc : Nat → Nat × (Nat → Int32)) (d : Nat) (i : Nat) (ls : List (Nat × Value)) (st : List Value) (h : jxH) : jxR := jx_G rc jx_dflt (jx_X rc jx_dflt jx_mt d) jc_191 (i, ls, st, h)
set_option maxRecDepth 100000 in
theorem je_191 (rc : Nat → Nat × (Nat → Int32)) (d : Nat) (a0 : Nat) (x1 : Int32) (x2 : Int32) (x3 : Int32) (h : jxH) : jx_C rc (d + 1) 191 [.ref a0, .int x1, .int x2, .int x3] h =
  if jx_is (jx_at h a0) 12 = true then
  (jx_gR (jx_at h a0) 12 28).bind fun b1 =>
  (jx_aQ (jx_at h b1) 8 x1).bind fun o2 =>
  jx_mo o2 (fun b3 => if x1 = x2 then
      (jx_aI (jx_at h b3) 0 (0 : Int32)).bind fun v4 =>
      jx_cI (jx_C rc d 76 [.int v4] h) fun v6 h5 =>
      if v6 = x3 then
        jx_cI (jx_C rc d 173 [.ref a0, .ref b3] h5) fun v8 h7 =>
        if v8 = 0 then
          if jx_bool (0 : Int32) = true then some (some (.int (0 : Int32)), h7) else none
        else
          if jx_bool (1 : Int32) = true then some (some (.int (1 : Int32)), h7) else none
      else
        if jx_bool (0 : Int32) = true then some (some (.int (0 : Int32)), h5) else none
    else
      jb_191 rc d 24 [(0, .ref a0), (1, .int x1), (2, .int x2), (3, .int x3), (4, .ref b3), (5, .int (0 : Int32))] [] h)
  (if x1 = x2 then
      none
    else
      jb_191 rc d 24 [(0, .ref a0), (1, .int x1), (2, .int x2), (3, .int x3), (4, .null), (5, .int (0 : Int32))] [] h)
  else none :=
  jx_enter ((jx_G_run (jx_X_grows rc jx_dflt jx_mt d) 104 (0, [(0, .ref a0), (1, .int x1), (2, .int x2), (3, .int x3)], [], h)).trans rfl)
set_option maxRecDepth 100000 in
theorem je_191_24 (rc : Nat → Nat × (Nat → Int32)) (d : Nat) (a0 : Nat) (x1 : Int32) (x2 : Int32) (x3 : Int32) (x5 : Int32) (h : jxH) : jb_191 rc d 24 [(0, .ref a0), (1, .int x1), (2, .int x2), (3, .int x3), (4, .null), (5, .int x5)] [] h =
  if (12 : Int32) < x5 then
    if jx_bool (0 : Int32) = true then some (some (.int (0 : Int32)), h) else none
  else
    if x5 = (12 : Int32) then
      jb_191 rc d 57 [(0, .ref a0), (1, .int x1), (2, .int x2), (3, .int x3), (4, .null), (5, .int x5)] [.int (6 : Int32)] h
    else
      jx_cI (jx_C rc d 78 [.null, .int x5] h) fun v2 h1 =>
      if v2 = 0 then
        jb_191 rc d 57 [(0, .ref a0), (1, .int x1), (2, .int x2), (3, .int x3), (4, .null), (5, .int x5)] [.int (-1 : Int32)] h1
      else
        none :=
  (jx_G_run (jx_X_grows rc jx_dflt jx_mt d) 104 _).trans rfl
set_option maxRecDepth 100000 in
theorem je_191_24b (rc : Nat → Nat × (Nat → Int32)) (d : Nat) (a0 : Nat) (x1 : Int32) (x2 : Int32) (x3 : Int32) (a4 : Nat) (x5 : Int32) (h : jxH) : jb_191 rc d 24 [(0, .ref a0), (1, .int x1), (2, .int x2), (3, .int x3), (4, .ref a4), (5, .int x5)] [] h =
  if (12 : Int32) < x5 then
    if jx_bool (0 : Int32) = true then some (some (.int (0 : Int32)), h) else none
  else
    if x5 = (12 : Int32) then
      jb_191 rc d 57 [(0, .ref a0), (1, .int x1), (2, .int x2), (3, .int x3), (4, .ref a4), (5, .int x5)] [.int (6 : Int32)] h
    else
      jx_cI (jx_C rc d 78 [.ref a4, .int x5] h) fun v2 h1 =>
      if v2 = 0 then
        jb_191 rc d 57 [(0, .ref a0), (1, .int x1), (2, .int x2), (3, .int x3), (4, .ref a4), (5, .int x5)] [.int (-1 : Int32)] h1
      else
        (jx_aI (jx_at h1 a4) 0 ((1 : Int32) + x5)).bind fun v3 =>
        if v3 = 0 then
          (jx_aI (jx_at h1 a4) 0 ((13 : Int32) + x5)).bind fun v4 =>
          jx_cI (jx_C rc d 76 [.int v4] h1) fun v6 h5 =>
          if v6 = (2 : Int32) then
            jb_191 rc d 57 [(0, .ref a0), (1, .int x1), (2, .int x2), (3, .int x3), (4, .ref a4), (5, .int x5)] [.int (4 : Int32)] h5
          else
            jb_191 rc d 57 [(0, .ref a0), (1, .int x1), (2, .int x2), (3, .int x3), (4, .ref a4), (5, .int x5)] [.int (5 : Int32)] h5
        else
          jb_191 rc d 57 [(0, .ref a0), (1, .int x1), (2, .int x2), (3, .int x3), (4, .ref a4), (5, .int x5)] [.int (0 : Int32)] h1 :=
  (jx_G_run (jx_X_grows rc jx_dflt jx_mt d) 104 _).trans rfl
set_option maxRecDepth 100000 in
theorem je_191_57 (rc : Nat → Nat × (Nat → Int32)) (d : Nat) (a0 : Nat) (x1 : Int32) (x2 : Int32) (x3 : Int32) (x5 : Int32) (s0 : Int32) (h : jxH) : jb_191 rc d 57 [(0, .ref a0), (1, .int x1), (2, .int x2), (3, .int x3), (4, .null), (5, .int x5)] [.int s0] h =
  if s0 < 0 then
    jb_191 rc d 24 [(0, .ref a0), (1, .int x1), (2, .int x2), (3, .int x3), (4, .null), (5, .int (x5 + (1 : Int32)))] [] h
  else
    jx_cI (jx_C rc d 93 [.null, .int s0, .int x5, .int (0 : Int32), .int (0 : Int32), .int (0 : Int32)] h) fun v2 h1 =>
    if v2 = 0 then
      (jx_gR (jx_at h1 a0) 12 28).bind fun b3 =>
      (jx_aQ (jx_at h1 b3) 8 (x1 + (1 : Int32))).bind fun o4 =>
      jx_mo o4 (fun b5 => jx_cV (jx_C rc d 74 [.null, .ref b5] h1) fun h6 =>
        (jx_gR (jx_at h6 a0) 12 28).bind fun b7 =>
        (jx_aQ (jx_at h6 b7) 8 (x1 + (1 : Int32))).bind fun o8 =>
        jx_mo o8 (fun b9 => jx_cV (jx_C rc d 99 [.ref b9, .int s0, .int x5, .int (0 : Int32), .int (0 : Int32), .int (0 : Int32)] h6) fun h10 =>
          jx_cI (jx_C rc d 191 [.ref a0, .int (x1 + (1 : Int32)), .int x2, .int x3] h10) fun v12 h11 =>
          if v12 = 0 then
            jb_191 rc d 24 [(0, .ref a0), (1, .int x1), (2, .int x2), (3, .int x3), (4, .null), (5, .int (x5 + (1 : Int32)))] [] h11
          else
            if jx_bool (1 : Int32) = true then some (some (.int (1 : Int32)), h11) else none)
        (jx_cV (jx_C rc d 99 [.null, .int s0, .int x5, .int (0 : Int32), .int (0 : Int32), .int (0 : Int32)] h6) fun h13 =>
          jx_cI (jx_C rc d 191 [.ref a0, .int (x1 + (1 : Int32)), .int x2, .int x3] h13) fun v15 h14 =>
          if v15 = 0 then
            jb_191 rc d 24 [(0, .ref a0), (1, .int x1), (2, .int x2), (3, .int x3), (4, .null), (5, .int (x5 + (1 : Int32)))] [] h14
          else
            if jx_bool (1 : Int32) = true then some (some (.int (1 : Int32)), h14) else none))
      (jx_cV (jx_C rc d 74 [.null, .null] h1) fun h16 =>
        (jx_gR (jx_at h16 a0) 12 28).bind fun b17 =>
        (jx_aQ (jx_at h16 b17) 8 (x1 + (1 : Int32))).bind fun o18 =>
        jx_mo o18 (fun b19 => jx_cV (jx_C rc d 99 [.ref b19, .int s0, .int x5, .int (0 : Int32), .int (0 : Int32), .int (0 : Int32)] h16) fun h20 =>
          jx_cI (jx_C rc d 191 [.ref a0, .int (x1 + (1 : Int32)), .int x2, .int x3] h20) fun v22 h21 =>
          if v22 = 0 then
            jb_191 rc d 24 [(0, .ref a0), (1, .int x1), (2, .int x2), (3, .int x3), (4, .null), (5, .int (x5 + (1 : Int32)))] [] h21
          else
            if jx_bool (1 : Int32) = true then some (some (.int (1 : Int32)), h21) else none)
        (jx_cV (jx_C rc d 99 [.null, .int s0, .int x5, .int (0 : Int32), .int (0 : Int32), .int (0 : Int32)] h16) fun h23 =>
          jx_cI (jx_C rc d 191 [.ref a0, .int (x1 + (1 : Int32)), .int x2, .int x3] h23) fun v25 h24 =>
          if v25 = 0 then
            jb_191 rc d 24 [(0, .ref a0), (1, .int x1), (2, .int x2), (3, .int x3), (4, .null), (5, .int (x5 + (1 : Int32)))] [] h24
          else
            if jx_bool (1 : Int32) = true then some (some (.int (1 : Int32)), h24) else none))
    else
      jb_191 rc d 24 [(0, .ref a0), (1, .int x1), (2, .int x2), (3, .int x3), (4, .null), (5, .int (x5 + (1 : Int32)))] [] h1 :=
  (jx_G_run (jx_X_grows rc jx_dflt jx_mt d) 104 _).trans rfl
set_option maxRecDepth 100000 in
theorem je_191_57b (rc : Nat → Nat × (Nat → Int32)) (d : Nat) (a0 : Nat) (x1 : Int32) (x2 : Int32) (x3 : Int32) (a4 : Nat) (x5 : Int32) (s0 : Int32) (h : jxH) : jb_191 rc d 57 [(0, .ref a0), (1, .int x1), (2, .int x2), (3, .int x3), (4, .ref a4), (5, .int x5)] [.int s0] h =
  if s0 < 0 then
    jb_191 rc d 24 [(0, .ref a0), (1, .int x1), (2, .int x2), (3, .int x3), (4, .ref a4), (5, .int (x5 + (1 : Int32)))] [] h
  else
    jx_cI (jx_C rc d 93 [.ref a4, .int s0, .int x5, .int (0 : Int32), .int (0 : Int32), .int (0 : Int32)] h) fun v2 h1 =>
    if v2 = 0 then
      (jx_gR (jx_at h1 a0) 12 28).bind fun b3 =>
      (jx_aQ (jx_at h1 b3) 8 (x1 + (1 : Int32))).bind fun o4 =>
      jx_mo o4 (fun b5 => jx_cV (jx_C rc d 74 [.ref a4, .ref b5] h1) fun h6 =>
        (jx_gR (jx_at h6 a0) 12 28).bind fun b7 =>
        (jx_aQ (jx_at h6 b7) 8 (x1 + (1 : Int32))).bind fun o8 =>
        jx_mo o8 (fun b9 => jx_cV (jx_C rc d 99 [.ref b9, .int s0, .int x5, .int (0 : Int32), .int (0 : Int32), .int (0 : Int32)] h6) fun h10 =>
          jx_cI (jx_C rc d 191 [.ref a0, .int (x1 + (1 : Int32)), .int x2, .int x3] h10) fun v12 h11 =>
          if v12 = 0 then
            jb_191 rc d 24 [(0, .ref a0), (1, .int x1), (2, .int x2), (3, .int x3), (4, .ref a4), (5, .int (x5 + (1 : Int32)))] [] h11
          else
            if jx_bool (1 : Int32) = true then some (some (.int (1 : Int32)), h11) else none)
        (jx_cV (jx_C rc d 99 [.null, .int s0, .int x5, .int (0 : Int32), .int (0 : Int32), .int (0 : Int32)] h6) fun h13 =>
          jx_cI (jx_C rc d 191 [.ref a0, .int (x1 + (1 : Int32)), .int x2, .int x3] h13) fun v15 h14 =>
          if v15 = 0 then
            jb_191 rc d 24 [(0, .ref a0), (1, .int x1), (2, .int x2), (3, .int x3), (4, .ref a4), (5, .int (x5 + (1 : Int32)))] [] h14
          else
            if jx_bool (1 : Int32) = true then some (some (.int (1 : Int32)), h14) else none))
      (jx_cV (jx_C rc d 74 [.ref a4, .null] h1) fun h16 =>
        (jx_gR (jx_at h16 a0) 12 28).bind fun b17 =>
        (jx_aQ (jx_at h16 b17) 8 (x1 + (1 : Int32))).bind fun o18 =>
        jx_mo o18 (fun b19 => jx_cV (jx_C rc d 99 [.ref b19, .int s0, .int x5, .int (0 : Int32), .int (0 : Int32), .int (0 : Int32)] h16) fun h20 =>
          jx_cI (jx_C rc d 191 [.ref a0, .int (x1 + (1 : Int32)), .int x2, .int x3] h20) fun v22 h21 =>
          if v22 = 0 then
            jb_191 rc d 24 [(0, .ref a0), (1, .int x1), (2, .int x2), (3, .int x3), (4, .ref a4), (5, .int (x5 + (1 : Int32)))] [] h21
          else
            if jx_bool (1 : Int32) = true then some (some (.int (1 : Int32)), h21) else none)
        (jx_cV (jx_C rc d 99 [.null, .int s0, .int x5, .int (0 : Int32), .int (0 : Int32), .int (0 : Int32)] h16) fun h23 =>
          jx_cI (jx_C rc d 191 [.ref a0, .int (x1 + (1 : Int32)), .int x2, .int x3] h23) fun v25 h24 =>
          if v25 = 0 then
            jb_191 rc d 24 [(0, .ref a0), (1, .int x1), (2, .int x2), (3, .int x3), (4, .ref a4), (5, .int (x5 + (1 : Int32)))] [] h24
          else
            if jx_bool (1 : Int32) = true then some (some (.int (1 : Int32)), h24) else none))
    else
      jb_191 rc d 24 [(0, .ref a0), (1, .int x1), (2, .int x2), (3, .int x3), (4, .ref a4), (5, .int (x5 + (1 : Int32)))] [] h1 :=
  (jx_G_run (jx_X_grows rc jx_dflt jx_mt d) 104 _).trans rfl
-- RoomTreesModel.reach(II)I
noncomputable def jb_192 (rc : Nat → Nat × (Nat → Int32)) (d : Nat) (i : Nat) (ls : List (Nat × Value)) (st : List Value) (h : jxH) : jxR := jx_G rc jx_dflt (jx_X rc jx_dflt jx_mt d) jc_192 (i, ls, st, h)
set_option maxRecDepth 100000 in
theorem je_192 (rc : Nat → Nat × (Nat → Int32)) (d : Nat) (a0 : Nat) (x1 : Int32) (x2 : Int32) (h : jxH) : jx_C rc (d + 1) 192 [.ref a0, .int x1, .int x2] h =
  if jx_is (jx_at h a0) 12 = true then
  jx_cI (jx_C rc d 168 [.int x1] h) fun v2 h1 =>
  if v2 = 0 then
    jx_cI (jx_C rc d 73 [.ref a0, .int (1 : Int32)] h1) fun v4 h3 =>
    some (some (.int v4), h3)
  else
    jx_cI (jx_C rc d 72 [.long (x2).toInt64, .long (0 : Int64), .long (3 : Int64)] h1) fun v6 h5 =>
    if v6 = 0 then
      jx_cI (jx_C rc d 73 [.ref a0, .int (1 : Int32)] h5) fun v8 h7 =>
      some (some (.int v8), h7)
    else
      (jx_gR (jx_at h5 a0) 12 23).bind fun b9 =>
      (jx_aI (jx_at h5 b9) 3 x1).bind fun v10 =>
      if v10 = 0 then
        jx_cI (jx_C rc d 73 [.ref a0, .int (7 : Int32)] h5) fun v12 h11 =>
        some (some (.int v12), h11)
      else
        (jx_gR (jx_at h5 a0) 12 22).bind fun b13 =>
        (jx_aQ (jx_at h5 b13) 8 x1).bind fun o14 =>
        jx_mo o14 (fun b15 => jx_cV (jx_C rc d 172 [.ref a0, .ref b15] h5) fun h16 =>
          (jx_gR (jx_at h16 a0) 12 1).bind fun b17 =>
          (jx_gR (jx_at h16 a0) 12 28).bind fun b18 =>
          (jx_aQ (jx_at h16 b18) 8 (0 : Int32)).bind fun o19 =>
          jx_mo o19 (fun b20 => jx_cV (jx_C rc d 74 [.ref b17, .ref b20] h16) fun h21 =>
            jb_192 rc d 37 [(0, .ref a0), (1, .int x1), (2, .int x2), (3, .int (0 : Int32))] [] h21)
          (jx_cV (jx_C rc d 74 [.ref b17, .null] h16) fun h22 =>
            jb_192 rc d 37 [(0, .ref a0), (1, .int x1), (2, .int x2), (3, .int (0 : Int32))] [] h22))
        (jx_cV (jx_C rc d 172 [.ref a0, .null] h5) fun h23 =>
          (jx_gR (jx_at h23 a0) 12 1).bind fun b24 =>
          (jx_gR (jx_at h23 a0) 12 28).bind fun b25 =>
          (jx_aQ (jx_at h23 b25) 8 (0 : Int32)).bind fun o26 =>
          jx_mo o26 (fun b27 => jx_cV (jx_C rc d 74 [.ref b24, .ref b27] h23) fun h28 =>
            jb_192 rc d 37 [(0, .ref a0), (1, .int x1), (2, .int x2), (3, .int (0 : Int32))] [] h28)
          (jx_cV (jx_C rc d 74 [.ref b24, .null] h23) fun h29 =>
            jb_192 rc d 37 [(0, .ref a0), (1, .int x1), (2, .int x2), (3, .int (0 : Int32))] [] h29))
  else none :=
  jx_enter ((jx_G_run (jx_X_grows rc jx_dflt jx_mt d) 62 (0, [(0, .ref a0), (1, .int x1), (2, .int x2)], [], h)).trans rfl)
set_option maxRecDepth 100000 in
theorem je_192_37 (rc : Nat → Nat × (Nat → Int32)) (d : Nat) (a0 : Nat) (x1 : Int32) (x2 : Int32) (x3 : Int32) (h : jxH) : jb_192 rc d 37 [(0, .ref a0), (1, .int x1), (2, .int x2), (3, .int x3)] [] h =
  if x2 < x3 then
    jx_cI (jx_C rc d 73 [.ref a0, .int (2 : Int32)] h) fun v2 h1 =>
    some (some (.int v2), h1)
  else
    (jx_gR (jx_at h a0) 12 22).bind fun b3 =>
    (jx_aQ (jx_at h b3) 8 x1).bind fun o4 =>
    jx_mo o4 (fun b5 => (jx_aI (jx_at h b5) 0 (0 : Int32)).bind fun v6 =>
      jx_cI (jx_C rc d 76 [.int v6] h) fun v8 h7 =>
      jx_cI (jx_C rc d 191 [.ref a0, .int (0 : Int32), .int x3, .int v8] h7) fun v10 h9 =>
      if v10 = 0 then
        jb_192 rc d 37 [(0, .ref a0), (1, .int x1), (2, .int x2), (3, .int (x3 + (1 : Int32)))] [] h9
      else
        some (some (.int x3), h9))
    (none) :=
  (jx_G_run (jx_X_grows rc jx_dflt jx_mt d) 62 _).trans rfl
-- RoomTreesModel.sheet(III)I
noncomputable def jb_193 (rc : Nat → Nat × (Nat → Int32)) (d : Nat) (i : Nat) (ls : List (Nat × Value)) (st : List Value) (h : jxH) : jxR := jx_G rc jx_dflt (jx_X rc jx_dflt jx_mt d) jc_193 (i, ls, st, h)
set_option maxRecDepth 100000 in
theorem je_193 (rc : Nat → Nat × (Nat → Int32)) (d : Nat) (a0 : Nat) (x1 : Int32) (x2 : Int32) (x3 : Int32) (h : jxH) : jx_C rc (d + 1) 193 [.ref a0, .int x1, .int x2, .int x3] h =
  if jx_is (jx_at h a0) 12 = true then
  jx_cI (jx_C rc d 168 [.int x1] h) fun v2 h1 =>
  if v2 = 0 then
    jx_cI (jx_C rc d 73 [.ref a0, .int (1 : Int32)] h1) fun v4 h3 =>
    some (some (.int v4), h3)
  else
    if x2 = 0 then
      if x2 ≤ 0 then
        jb_193 rc d 26 [(0, .ref a0), (1, .int x1), (2, .int x2), (3, .int x3)] [] h1
      else
        if 0 ≤ x3 then
          jb_193 rc d 26 [(0, .ref a0), (1, .int x1), (2, .int x2), (3, .int x3)] [] h1
        else
          jx_cI (jx_C rc d 73 [.ref a0, .int (3 : Int32)] h1) fun v6 h5 =>
          some (some (.int v6), h5)
    else
      if x2 = (8 : Int32) then
        if x2 ≤ 0 then
          jb_193 rc d 26 [(0, .ref a0), (1, .int x1), (2, .int x2), (3, .int x3)] [] h1
        else
          if 0 ≤ x3 then
            jb_193 rc d 26 [(0, .ref a0), (1, .int x1), (2, .int x2), (3, .int x3)] [] h1
          else
            jx_cI (jx_C rc d 73 [.ref a0, .int (3 : Int32)] h1) fun v8 h7 =>
            some (some (.int v8), h7)
      else
        if x2 = (16 : Int32) then
          if x2 ≤ 0 then
            jb_193 rc d 26 [(0, .ref a0), (1, .int x1), (2, .int x2), (3, .int x3)] [] h1
          else
            if 0 ≤ x3 then
              jb_193 rc d 26 [(0, .ref a0), (1, .int x1), (2, .int x2), (3, .int x3)] [] h1
            else
              jx_cI (jx_C rc d 73 [.ref a0, .int (3 : Int32)] h1) fun v10 h9 =>
              some (some (.int v10), h9)
        else
          if x2 = (32 : Int32) then
            if x2 ≤ 0 then
              jb_193 rc d 26 [(0, .ref a0), (1, .int x1), (2, .int x2), (3, .int x3)] [] h1
            else
              if 0 ≤ x3 then
                jb_193 rc d 26 [(0, .ref a0), (1, .int x1), (2, .int x2), (3, .int x3)] [] h1
              else
                jx_cI (jx_C rc d 73 [.ref a0, .int (3 : Int32)] h1) fun v12 h11 =>
                some (some (.int v12), h11)
          else
            jx_cI (jx_C rc d 73 [.ref a0, .int (1 : Int32)] h1) fun v14 h13 =>
            some (some (.int v14), h13)
  else none :=
  jx_enter ((jx_G_run (jx_X_grows rc jx_dflt jx_mt d) 69 (0, [(0, .ref a0), (1, .int x1), (2, .int x2), (3, .int x3)], [], h)).trans rfl)
set_option maxRecDepth 100000 in
theorem je_193_26 (rc : Nat → Nat × (Nat → Int32)) (d : Nat) (a0 : Nat) (x1 : Int32) (x2 : Int32) (x3 : Int32) (h : jxH) : jb_193 rc d 26 [(0, .ref a0), (1, .int x1), (2, .int x2), (3, .int x3)] [] h =
  if x2 ≤ 0 then
    (jx_gR (jx_at h a0) 12 32).bind fun b1 =>
    (jx_sI (jx_at h b1) 0 x1 x2).bind fun e2 =>
    (jx_gR (jx_at (jx_set h b1 e2) a0) 12 33).bind fun b3 =>
    if x2 ≤ 0 then
      (jx_sI (jx_at (jx_set h b1 e2) b3) 0 x1 (0 : Int32)).bind fun e4 =>
      jb_193 rc d 51 [(0, .ref a0), (1, .int x1), (4, .int (0 : Int32))] [] (jx_set (jx_set h b1 e2) b3 e4)
    else
      (jx_sI (jx_at (jx_set h b1 e2) b3) 0 x1 x3).bind fun e5 =>
      jb_193 rc d 51 [(0, .ref a0), (1, .int x1), (4, .int (0 : Int32))] [] (jx_set (jx_set h b1 e2) b3 e5)
  else
    if x3 ≤ (24 : Int32) then
      (jx_gR (jx_at h a0) 12 32).bind fun b6 =>
      (jx_sI (jx_at h b6) 0 x1 x2).bind fun e7 =>
      (jx_gR (jx_at (jx_set h b6 e7) a0) 12 33).bind fun b8 =>
      if x2 ≤ 0 then
        (jx_sI (jx_at (jx_set h b6 e7) b8) 0 x1 (0 : Int32)).bind fun e9 =>
        jb_193 rc d 51 [(0, .ref a0), (1, .int x1), (4, .int (0 : Int32))] [] (jx_set (jx_set h b6 e7) b8 e9)
      else
        (jx_sI (jx_at (jx_set h b6 e7) b8) 0 x1 x3).bind fun e10 =>
        jb_193 rc d 51 [(0, .ref a0), (1, .int x1), (4, .int (0 : Int32))] [] (jx_set (jx_set h b6 e7) b8 e10)
    else
      jx_cI (jx_C rc d 73 [.ref a0, .int (1 : Int32)] h) fun v12 h11 =>
      some (some (.int v12), h11) :=
  (jx_G_run (jx_X_grows rc jx_dflt jx_mt d) 69 _).trans rfl
set_option maxRecDepth 100000 in
theorem je_193_51 (rc : Nat → Nat × (Nat → Int32)) (d : Nat) (a0 : Nat) (x1 : Int32) (x4 : Int32) (h : jxH) : jb_193 rc d 51 [(0, .ref a0), (1, .int x1), (4, .int x4)] [] h =
  if (24 : Int32) ≤ x4 then
    some (some (.int (1 : Int32)), h)
  else
    (jx_gR (jx_at h a0) 12 34).bind fun b1 =>
    (jx_sI (jx_at h b1) 0 (((24 : Int32) * x1) + x4) (0 : Int32)).bind fun e2 =>
    jb_193 rc d 51 [(0, .ref a0), (1, .int x1), (4, .int (x4 + (1 : Int32)))] [] (jx_set h b1 e2) :=
  (jx_G_run (jx_X_grows rc jx_dflt jx_mt d) 69 _).trans rfl
-- RoomTreesModel.lacks(II)I
set_option maxRecDepth 100000 in
theorem je_194 (rc : Nat → Nat × (Nat → Int32)) (d : Nat) (a0 : Nat) (x1 : Int32) (x2 : Int32) (h : jxH) : jx_C rc (d + 1) 194 [.ref a0, .int x1, .int x2] h =
  if jx_is (jx_at h a0) 12 = true then
  jx_cI (jx_C rc d 168 [.int x1] h) fun v2 h1 =>
  if v2 = 0 then
    some (some (.int (1 : Int32)), h1)
  else
    (jx_gR (jx_at h1 a0) 12 32).bind fun b3 =>
    (jx_aI (jx_at h1 b3) 0 x1).bind fun v4 =>
    if v4 = 0 then
      some (some (.int (7 : Int32)), h1)
    else
      (jx_gR (jx_at h1 a0) 12 33).bind fun b5 =>
      (jx_aI (jx_at h1 b5) 0 x1).bind fun v6 =>
      jx_cI (jx_C rc d 72 [.long (x2).toInt64, .long (0 : Int64), .long ((v6).toInt64 - (1 : Int64))] h1) fun v8 h7 =>
      if v8 = 0 then
        some (some (.int (1 : Int32)), h7)
      else
        some (some (.int (0 : Int32)), h7)
  else none :=
  jx_enter ((jx_G_run (jx_X_grows rc jx_dflt jx_mt d) 30 (0, [(0, .ref a0), (1, .int x1), (2, .int x2)], [], h)).trans rfl)
-- RoomTreesModel.lays(III)V
set_option maxRecDepth 100000 in
theorem je_195 (rc : Nat → Nat × (Nat → Int32)) (d : Nat) (a0 : Nat) (x1 : Int32) (x2 : Int32) (x3 : Int32) (h : jxH) : jx_C rc (d + 1) 195 [.ref a0, .int x1, .int x2, .int x3] h =
  if jx_is (jx_at h a0) 12 = true then
  (jx_gR (jx_at h a0) 12 32).bind fun b1 =>
  (jx_aI (jx_at h b1) 0 x1).bind fun v2 =>
  (jx_gR (jx_at h a0) 12 34).bind fun b3 =>
  if v2 = (8 : Int32) then
    (jx_sI (jx_at h b3) 0 (((24 : Int32) * x1) + x2) ((x3).toInt8.toInt32)).bind fun e4 =>
    some (none, (jx_set h b3 e4))
  else
    if v2 = (16 : Int32) then
      (jx_sI (jx_at h b3) 0 (((24 : Int32) * x1) + x2) ((x3).toInt16.toInt32)).bind fun e5 =>
      some (none, (jx_set h b3 e5))
    else
      (jx_sI (jx_at h b3) 0 (((24 : Int32) * x1) + x2) x3).bind fun e6 =>
      some (none, (jx_set h b3 e6))
  else none :=
  jx_enter ((jx_G_run (jx_X_grows rc jx_dflt jx_mt d) 29 (0, [(0, .ref a0), (1, .int x1), (2, .int x2), (3, .int x3)], [], h)).trans rfl)
-- RoomTreesModel.put(III)I
set_option maxRecDepth 100000 in
theorem je_196 (rc : Nat → Nat × (Nat → Int32)) (d : Nat) (a0 : Nat) (x1 : Int32) (x2 : Int32) (x3 : Int32) (h : jxH) : jx_C rc (d + 1) 196 [.ref a0, .int x1, .int x2, .int x3] h =
  if jx_is (jx_at h a0) 12 = true then
  jx_cI (jx_C rc d 194 [.ref a0, .int x1, .int x2] h) fun v2 h1 =>
  if v2 ≤ 0 then
    jx_cV (jx_C rc d 195 [.ref a0, .int x1, .int x2, .int x3] h1) fun h3 =>
    some (some (.int (1 : Int32)), h3)
  else
    jx_cI (jx_C rc d 73 [.ref a0, .int v2] h1) fun v5 h4 =>
    some (some (.int v5), h4)
  else none :=
  jx_enter ((jx_G_run (jx_X_grows rc jx_dflt jx_mt d) 20 (0, [(0, .ref a0), (1, .int x1), (2, .int x2), (3, .int x3)], [], h)).trans rfl)
-- RoomTreesModel.number(II)I
set_option maxRecDepth 100000 in
theorem je_197 (rc : Nat → Nat × (Nat → Int32)) (d : Nat) (a0 : Nat) (x1 : Int32) (x2 : Int32) (h : jxH) : jx_C rc (d + 1) 197 [.ref a0, .int x1, .int x2] h =
  if jx_is (jx_at h a0) 12 = true then
  jx_cI (jx_C rc d 194 [.ref a0, .int x1, .int x2] h) fun v2 h1 =>
  if v2 ≤ 0 then
    (jx_gR (jx_at h1 a0) 12 34).bind fun b3 =>
    (jx_aI (jx_at h1 b3) 0 (((24 : Int32) * x1) + x2)).bind fun v4 =>
    some (some (.int v4), h1)
  else
    jx_cI (jx_C rc d 73 [.ref a0, .int v2] h1) fun v6 h5 =>
    some (some (.int v6), h5)
  else none :=
  jx_enter ((jx_G_run (jx_X_grows rc jx_dflt jx_mt d) 22 (0, [(0, .ref a0), (1, .int x1), (2, .int x2)], [], h)).trans rfl)
-- RoomTreesModel.copy(IIIII)I
noncomputable def jb_198 (rc : Nat → Nat × (Nat → Int32)) (d : Nat) (i : Nat) (ls : List (Nat × Value)) (st : List Value) (h : jxH) : jxR := jx_G rc jx_dflt (jx_X rc jx_dflt jx_mt d) jc_198 (i, ls, st, h)
set_option maxRecDepth 100000 in
theorem je_198 (rc : Nat → Nat × (Nat → Int32)) (d : Nat) (a0 : Nat) (x1 : Int32) (x2 : Int32) (x3 : Int32) (x4 : Int32) (x5 : Int32) (h : jxH) : jx_C rc (d + 1) 198 [.ref a0, .int x1, .int x2, .int x3, .int x4, .int x5] h =
  if jx_is (jx_at h a0) 12 = true then
  jx_cI (jx_C rc d 168 [.int x1] h) fun v2 h1 =>
  if v2 = 0 then
    jx_cI (jx_C rc d 73 [.ref a0, .int (1 : Int32)] h1) fun v4 h3 =>
    some (some (.int v4), h3)
  else
    jx_cI (jx_C rc d 168 [.int x3] h1) fun v6 h5 =>
    if v6 = 0 then
      jx_cI (jx_C rc d 73 [.ref a0, .int (1 : Int32)] h5) fun v8 h7 =>
      some (some (.int v8), h7)
    else
      (jx_gR (jx_at h5 a0) 12 32).bind fun b9 =>
      (jx_aI (jx_at h5 b9) 0 x1).bind fun v10 =>
      if v10 = 0 then
        jx_cI (jx_C rc d 73 [.ref a0, .int (7 : Int32)] h5) fun v12 h11 =>
        some (some (.int v12), h11)
      else
        (jx_gR (jx_at h5 a0) 12 32).bind fun b13 =>
        (jx_aI (jx_at h5 b13) 0 x3).bind fun v14 =>
        if v14 = 0 then
          jx_cI (jx_C rc d 73 [.ref a0, .int (7 : Int32)] h5) fun v16 h15 =>
          some (some (.int v16), h15)
        else
          (jx_gR (jx_at h5 a0) 12 32).bind fun b17 =>
          (jx_aI (jx_at h5 b17) 0 x1).bind fun v18 =>
          (jx_gR (jx_at h5 a0) 12 32).bind fun b19 =>
          (jx_aI (jx_at h5 b19) 0 x3).bind fun v20 =>
          if v18 = v20 then
            if x5 < 0 then
              jx_cI (jx_C rc d 73 [.ref a0, .int (1 : Int32)] h5) fun v22 h21 =>
              some (some (.int v22), h21)
            else
              if x2 < 0 then
                jx_cI (jx_C rc d 73 [.ref a0, .int (1 : Int32)] h5) fun v24 h23 =>
                some (some (.int v24), h23)
              else
                if x4 < 0 then
                  jx_cI (jx_C rc d 73 [.ref a0, .int (1 : Int32)] h5) fun v26 h25 =>
                  some (some (.int v26), h25)
                else
                  (jx_gR (jx_at h5 a0) 12 33).bind fun b27 =>
                  (jx_aI (jx_at h5 b27) 0 x1).bind fun v28 =>
                  if 0 < (lg_cmp ((x2).toInt64 + (x5).toInt64) (v28).toInt64) then
                    jx_cI (jx_C rc d 73 [.ref a0, .int (1 : Int32)] h5) fun v30 h29 =>
                    some (some (.int v30), h29)
                  else
                    (jx_gR (jx_at h5 a0) 12 33).bind fun b31 =>
                    (jx_aI (jx_at h5 b31) 0 x3).bind fun v32 =>
                    if (lg_cmp ((x4).toInt64 + (x5).toInt64) (v32).toInt64) ≤ 0 then
                      jb_198 rc d 73 [(0, .ref a0), (1, .int x1), (2, .int x2), (3, .int x3), (4, .int x4), (5, .int x5), (6, .int (0 : Int32))] [] h5
                    else
                      jx_cI (jx_C rc d 73 [.ref a0, .int (1 : Int32)] h5) fun v34 h33 =>
                      some (some (.int v34), h33)
          else
            jx_cI (jx_C rc d 73 [.ref a0, .int (6 : Int32)] h5) fun v36 h35 =>
            some (some (.int v36), h35)
  else none :=
  jx_enter ((jx_G_run (jx_X_grows rc jx_dflt jx_mt d) 117 (0, [(0, .ref a0), (1, .int x1), (2, .int x2), (3, .int x3), (4, .int x4), (5, .int x5)], [], h)).trans rfl)
set_option maxRecDepth 100000 in
theorem je_198_73 (rc : Nat → Nat × (Nat → Int32)) (d : Nat) (a0 : Nat) (x1 : Int32) (x2 : Int32) (x3 : Int32) (x4 : Int32) (x5 : Int32) (x6 : Int32) (h : jxH) : jb_198 rc d 73 [(0, .ref a0), (1, .int x1), (2, .int x2), (3, .int x3), (4, .int x4), (5, .int x5), (6, .int x6)] [] h =
  if x5 ≤ x6 then
    jb_198 rc d 94 [(0, .ref a0), (3, .int x3), (4, .int x4), (5, .int x5), (6, .int (0 : Int32))] [] h
  else
    (jx_gR (jx_at h a0) 12 35).bind fun b1 =>
    (jx_gR (jx_at h a0) 12 34).bind fun b2 =>
    (jx_aI (jx_at h b2) 0 ((((24 : Int32) * x1) + x2) + x6)).bind fun v3 =>
    (jx_sI (jx_at h b1) 0 x6 v3).bind fun e4 =>
    jb_198 rc d 73 [(0, .ref a0), (1, .int x1), (2, .int x2), (3, .int x3), (4, .int x4), (5, .int x5), (6, .int (x6 + (1 : Int32)))] [] (jx_set h b1 e4) :=
  (jx_G_run (jx_X_grows rc jx_dflt jx_mt d) 117 _).trans rfl
set_option maxRecDepth 100000 in
theorem je_198_94 (rc : Nat → Nat × (Nat → Int32)) (d : Nat) (a0 : Nat) (x3 : Int32) (x4 : Int32) (x5 : Int32) (x6 : Int32) (h : jxH) : jb_198 rc d 94 [(0, .ref a0), (3, .int x3), (4, .int x4), (5, .int x5), (6, .int x6)] [] h =
  if x5 ≤ x6 then
    some (some (.int x5), h)
  else
    (jx_gR (jx_at h a0) 12 34).bind fun b1 =>
    (jx_gR (jx_at h a0) 12 35).bind fun b2 =>
    (jx_aI (jx_at h b2) 0 x6).bind fun v3 =>
    (jx_sI (jx_at h b1) 0 ((((24 : Int32) * x3) + x4) + x6) v3).bind fun e4 =>
    jb_198 rc d 94 [(0, .ref a0), (3, .int x3), (4, .int x4), (5, .int x5), (6, .int (x6 + (1 : Int32)))] [] (jx_set h b1 e4) :=
  (jx_G_run (jx_X_grows rc jx_dflt jx_mt d) 117 _).trans rfl
-- RoomTreesModel.notThere(I)I
set_option maxRecDepth 100000 in
theorem je_199 (rc : Nat → Nat × (Nat → Int32)) (d : Nat) (a0 : Nat) (x1 : Int32) (h : jxH) : jx_C rc (d + 1) 199 [.ref a0, .int x1] h =
  if jx_is (jx_at h a0) 12 = true then
  jx_cI (jx_C rc d 168 [.int x1] h) fun v2 h1 =>
  if v2 = 0 then
    some (some (.int (1 : Int32)), h1)
  else
    (jx_gR (jx_at h1 a0) 12 32).bind fun b3 =>
    (jx_aI (jx_at h1 b3) 0 x1).bind fun v4 =>
    if v4 = 0 then
      some (some (.int (7 : Int32)), h1)
    else
      some (some (.int (0 : Int32)), h1)
  else none :=
  jx_enter ((jx_G_run (jx_X_grows rc jx_dflt jx_mt d) 16 (0, [(0, .ref a0), (1, .int x1)], [], h)).trans rfl)
-- RoomTreesModel.weighAll(I)I
noncomputable def jb_200 (rc : Nat → Nat × (Nat → Int32)) (d : Nat) (i : Nat) (ls : List (Nat × Value)) (st : List Value) (h : jxH) : jxR := jx_G rc jx_dflt (jx_X rc jx_dflt jx_mt d) jc_200 (i, ls, st, h)
set_option maxRecDepth 100000 in
theorem je_200 (rc : Nat → Nat × (Nat → Int32)) (d : Nat) (a0 : Nat) (x1 : Int32) (h : jxH) : jx_C rc (d + 1) 200 [.ref a0, .int x1] h =
  if jx_is (jx_at h a0) 12 = true then
  jx_cI (jx_C rc d 199 [.ref a0, .int x1] h) fun v2 h1 =>
  if v2 ≤ 0 then
    jx_cV (jx_C rc d 100 [.ref a0] h1) fun h3 =>
    jb_200 rc d 14 [(0, .ref a0), (1, .int x1), (3, .int (0 : Int32))] [] h3
  else
    jx_cI (jx_C rc d 73 [.ref a0, .int v2] h1) fun v5 h4 =>
    some (some (.int v5), h4)
  else none :=
  jx_enter ((jx_G_run (jx_X_grows rc jx_dflt jx_mt d) 54 (0, [(0, .ref a0), (1, .int x1)], [], h)).trans rfl)
set_option maxRecDepth 100000 in
theorem je_200_14 (rc : Nat → Nat × (Nat → Int32)) (d : Nat) (a0 : Nat) (x1 : Int32) (x3 : Int32) (h : jxH) : jb_200 rc d 14 [(0, .ref a0), (1, .int x1), (3, .int x3)] [] h =
  (jx_gR (jx_at h a0) 12 33).bind fun b1 =>
  (jx_aI (jx_at h b1) 0 x1).bind fun v2 =>
  if v2 ≤ x3 then
    some (some (.int x3), h)
  else
    jx_cI (jx_C rc d 79 [.ref a0, .int x3] h) fun v4 h3 =>
    if v4 = 0 then
      some (some (.int x3), h3)
    else
      (jx_gR (jx_at h3 a0) 12 34).bind fun b5 =>
      (jx_aI (jx_at h3 b5) 0 (((24 : Int32) * x1) + x3)).bind fun v6 =>
      jx_cI (jx_C rc d 80 [.int v6] h3) fun v8 h7 =>
      if v8 = 0 then
        some (some (.int x3), h7)
      else
        (jx_gR (jx_at h7 a0) 12 1).bind fun b9 =>
        (jx_gR (jx_at h7 a0) 12 34).bind fun b10 =>
        (jx_aI (jx_at h7 b10) 0 (((24 : Int32) * x1) + x3)).bind fun v11 =>
        (jx_sI (jx_at h7 b9) 0 ((1 : Int32) + x3) v11).bind fun e12 =>
        jb_200 rc d 14 [(0, .ref a0), (1, .int x1), (3, .int (x3 + (1 : Int32)))] [] (jx_set h7 b9 e12) :=
  (jx_G_run (jx_X_grows rc jx_dflt jx_mt d) 54 _).trans rfl
-- RoomTreesModel.book(I)I
noncomputable def jb_201 (rc : Nat → Nat × (Nat → Int32)) (d : Nat) (i : Nat) (ls : List (Nat × Value)) (st : List Value) (h : jxH) : jxR := jx_G rc jx_dflt (jx_X rc jx_dflt jx_mt d) jc_201 (i, ls, st, h)
set_option maxRecDepth 100000 in
theorem je_201 (rc : Nat → Nat × (Nat → Int32)) (d : Nat) (a0 : Nat) (x1 : Int32) (h : jxH) : jx_C rc (d + 1) 201 [.ref a0, .int x1] h =
  if jx_is (jx_at h a0) 12 = true then
  jx_cI (jx_C rc d 199 [.ref a0, .int x1] h) fun v2 h1 =>
  if v2 ≤ 0 then
    (jx_gR (jx_at h1 a0) 12 33).bind fun b3 =>
    (jx_aI (jx_at h1 b3) 0 x1).bind fun v4 =>
    if (12 : Int32) ≤ v4 then
      jb_201 rc d 25 [(0, .ref a0), (1, .int x1), (3, .int (12 : Int32)), (4, .int (0 : Int32))] [] h1
    else
      (jx_gR (jx_at h1 a0) 12 33).bind fun b5 =>
      (jx_aI (jx_at h1 b5) 0 x1).bind fun v6 =>
      jb_201 rc d 25 [(0, .ref a0), (1, .int x1), (3, .int v6), (4, .int (0 : Int32))] [] h1
  else
    jx_cI (jx_C rc d 73 [.ref a0, .int v2] h1) fun v8 h7 =>
    some (some (.int v8), h7)
  else none :=
  jx_enter ((jx_G_run (jx_X_grows rc jx_dflt jx_mt d) 50 (0, [(0, .ref a0), (1, .int x1)], [], h)).trans rfl)
set_option maxRecDepth 100000 in
theorem je_201_25 (rc : Nat → Nat × (Nat → Int32)) (d : Nat) (a0 : Nat) (x1 : Int32) (x3 : Int32) (x4 : Int32) (h : jxH) : jb_201 rc d 25 [(0, .ref a0), (1, .int x1), (3, .int x3), (4, .int x4)] [] h =
  if x3 ≤ x4 then
    some (some (.int x3), h)
  else
    jx_cI (jx_C rc d 79 [.ref a0, .int x4] h) fun v2 h1 =>
    if v2 = 0 then
      jx_cV (jx_C rc d 195 [.ref a0, .int x1, .int x4, .int (99 : Int32)] h1) fun h3 =>
      jb_201 rc d 25 [(0, .ref a0), (1, .int x1), (3, .int x3), (4, .int (x4 + (1 : Int32)))] [] h3
    else
      (jx_gR (jx_at h1 a0) 12 1).bind fun b4 =>
      (jx_aI (jx_at h1 b4) 0 ((1 : Int32) + x4)).bind fun v5 =>
      jx_cV (jx_C rc d 195 [.ref a0, .int x1, .int x4, .int v5] h1) fun h6 =>
      jb_201 rc d 25 [(0, .ref a0), (1, .int x1), (3, .int x3), (4, .int (x4 + (1 : Int32)))] [] h6 :=
  (jx_G_run (jx_X_grows rc jx_dflt jx_mt d) 50 _).trans rfl
-- RoomTreesModel.plays(II)I
noncomputable def jb_202 (rc : Nat → Nat × (Nat → Int32)) (d : Nat) (i : Nat) (ls : List (Nat × Value)) (st : List Value) (h : jxH) : jxR := jx_G rc jx_dflt (jx_X rc jx_dflt jx_mt d) jc_202 (i, ls, st, h)
set_option maxRecDepth 100000 in
theorem je_202 (rc : Nat → Nat × (Nat → Int32)) (d : Nat) (a0 : Nat) (x1 : Int32) (x2 : Int32) (h : jxH) : jx_C rc (d + 1) 202 [.ref a0, .int x1, .int x2] h =
  if jx_is (jx_at h a0) 12 = true then
  jx_cI (jx_C rc d 168 [.int x1] h) fun v2 h1 =>
  if v2 = 0 then
    jx_cI (jx_C rc d 73 [.ref a0, .int (1 : Int32)] h1) fun v4 h3 =>
    some (some (.int v4), h3)
  else
    jx_cI (jx_C rc d 72 [.long (x2).toInt64, .long (0 : Int64), .long (1 : Int64)] h1) fun v6 h5 =>
    if v6 = 0 then
      jx_cI (jx_C rc d 73 [.ref a0, .int (1 : Int32)] h5) fun v8 h7 =>
      some (some (.int v8), h7)
    else
      (jx_gR (jx_at h5 a0) 12 32).bind fun b9 =>
      (jx_aI (jx_at h5 b9) 0 x1).bind fun v10 =>
      if v10 = 0 then
        jx_cI (jx_C rc d 73 [.ref a0, .int (7 : Int32)] h5) fun v12 h11 =>
        some (some (.int v12), h11)
      else
        (jx_gR (jx_at h5 a0) 12 28).bind fun b13 =>
        (jx_aQ (jx_at h5 b13) 8 (0 : Int32)).bind fun o14 =>
        jx_mo o14 (fun b15 => (jx_gR (jx_at h5 a0) 12 1).bind fun b16 =>
          jx_cV (jx_C rc d 74 [.ref b16, .ref b15] h5) fun h17 =>
          jb_202 rc d 35 [(0, .ref a0), (1, .int x1), (2, .int x2), (3, .ref b15), (4, .int (0 : Int32)), (5, .int (1 : Int32))] [] h17)
        ((jx_gR (jx_at h5 a0) 12 1).bind fun b18 =>
          jx_cV (jx_C rc d 74 [.ref b18, .null] h5) fun h19 =>
          jb_202 rc d 35 [(0, .ref a0), (1, .int x1), (2, .int x2), (3, .null), (4, .int (0 : Int32)), (5, .int (1 : Int32))] [] h19)
  else none :=
  jx_enter ((jx_G_run (jx_X_grows rc jx_dflt jx_mt d) 123 (0, [(0, .ref a0), (1, .int x1), (2, .int x2)], [], h)).trans rfl)
set_option maxRecDepth 100000 in
theorem je_202_35 (rc : Nat → Nat × (Nat → Int32)) (d : Nat) (a0 : Nat) (x1 : Int32) (x2 : Int32) (x4 : Int32) (x5 : Int32) (h : jxH) : jb_202 rc d 35 [(0, .ref a0), (1, .int x1), (2, .int x2), (3, .null), (4, .int x4), (5, .int x5)] [] h =
  (jx_gR (jx_at h a0) 12 33).bind fun b1 =>
  (jx_aI (jx_at h b1) 0 x1).bind fun v2 =>
  if v2 ≤ x4 then
    if x2 = 0 then
      some (some (.int x4), h)
    else
      none
  else
    if x5 = 0 then
      if x2 = 0 then
        some (some (.int x4), h)
      else
        none
    else
      (jx_gR (jx_at h a0) 12 34).bind fun b3 =>
      (jx_aI (jx_at h b3) 0 (((24 : Int32) * x1) + x4)).bind fun v4 =>
      if v4 = (600 : Int32) then
        if v4 = (600 : Int32) then
          jb_202 rc d 77 [(0, .ref a0), (1, .int x1), (2, .int x2), (3, .null), (4, .int x4), (7, .int (6 : Int32))] [.int (0 : Int32)] h
        else
          if (100 : Int32) = 0 then none else jb_202 rc d 77 [(0, .ref a0), (1, .int x1), (2, .int x2), (3, .null), (4, .int x4), (7, .int (6 : Int32))] [.int (v4 - v4 / (100 : Int32) * (100 : Int32))] h
      else
        jx_cI (jx_C rc d 72 [.long (v4).toInt64, .long (0 : Int64), .long (599 : Int64)] h) fun v6 h5 =>
        if v6 = 0 then
          if v4 = (600 : Int32) then
            jb_202 rc d 77 [(0, .ref a0), (1, .int x1), (2, .int x2), (3, .null), (4, .int x4), (7, .int (-1 : Int32))] [.int (0 : Int32)] h5
          else
            if (100 : Int32) = 0 then none else jb_202 rc d 77 [(0, .ref a0), (1, .int x1), (2, .int x2), (3, .null), (4, .int x4), (7, .int (-1 : Int32))] [.int (v4 - v4 / (100 : Int32) * (100 : Int32))] h5
        else
          if (100 : Int32) = 0 then none else if v4 = (600 : Int32) then
            jb_202 rc d 77 [(0, .ref a0), (1, .int x1), (2, .int x2), (3, .null), (4, .int x4), (7, .int (v4 / (100 : Int32)))] [.int (0 : Int32)] h5
          else
            if (100 : Int32) = 0 then none else jb_202 rc d 77 [(0, .ref a0), (1, .int x1), (2, .int x2), (3, .null), (4, .int x4), (7, .int (v4 / (100 : Int32)))] [.int (v4 - v4 / (100 : Int32) * (100 : Int32))] h5 :=
  (jx_G_run (jx_X_grows rc jx_dflt jx_mt d) 123 _).trans rfl
set_option maxRecDepth 100000 in
theorem je_202_35b (rc : Nat → Nat × (Nat → Int32)) (d : Nat) (a0 : Nat) (x1 : Int32) (x2 : Int32) (a3 : Nat) (x4 : Int32) (x5 : Int32) (h : jxH) : jb_202 rc d 35 [(0, .ref a0), (1, .int x1), (2, .int x2), (3, .ref a3), (4, .int x4), (5, .int x5)] [] h =
  (jx_gR (jx_at h a0) 12 33).bind fun b1 =>
  (jx_aI (jx_at h b1) 0 x1).bind fun v2 =>
  if v2 ≤ x4 then
    if x2 = 0 then
      some (some (.int x4), h)
    else
      (jx_aI (jx_at h a3) 0 (0 : Int32)).bind fun v3 =>
      jx_cI (jx_C rc d 76 [.int v3] h) fun v5 h4 =>
      some (some (.int v5), h4)
  else
    if x5 = 0 then
      if x2 = 0 then
        some (some (.int x4), h)
      else
        (jx_aI (jx_at h a3) 0 (0 : Int32)).bind fun v6 =>
        jx_cI (jx_C rc d 76 [.int v6] h) fun v8 h7 =>
        some (some (.int v8), h7)
    else
      (jx_gR (jx_at h a0) 12 34).bind fun b9 =>
      (jx_aI (jx_at h b9) 0 (((24 : Int32) * x1) + x4)).bind fun v10 =>
      if v10 = (600 : Int32) then
        if v10 = (600 : Int32) then
          jb_202 rc d 77 [(0, .ref a0), (1, .int x1), (2, .int x2), (3, .ref a3), (4, .int x4), (7, .int (6 : Int32))] [.int (0 : Int32)] h
        else
          if (100 : Int32) = 0 then none else jb_202 rc d 77 [(0, .ref a0), (1, .int x1), (2, .int x2), (3, .ref a3), (4, .int x4), (7, .int (6 : Int32))] [.int (v10 - v10 / (100 : Int32) * (100 : Int32))] h
      else
        jx_cI (jx_C rc d 72 [.long (v10).toInt64, .long (0 : Int64), .long (599 : Int64)] h) fun v12 h11 =>
        if v12 = 0 then
          if v10 = (600 : Int32) then
            jb_202 rc d 77 [(0, .ref a0), (1, .int x1), (2, .int x2), (3, .ref a3), (4, .int x4), (7, .int (-1 : Int32))] [.int (0 : Int32)] h11
          else
            if (100 : Int32) = 0 then none else jb_202 rc d 77 [(0, .ref a0), (1, .int x1), (2, .int x2), (3, .ref a3), (4, .int x4), (7, .int (-1 : Int32))] [.int (v10 - v10 / (100 : Int32) * (100 : Int32))] h11
        else
          if (100 : Int32) = 0 then none else if v10 = (600 : Int32) then
            jb_202 rc d 77 [(0, .ref a0), (1, .int x1), (2, .int x2), (3, .ref a3), (4, .int x4), (7, .int (v10 / (100 : Int32)))] [.int (0 : Int32)] h11
          else
            if (100 : Int32) = 0 then none else jb_202 rc d 77 [(0, .ref a0), (1, .int x1), (2, .int x2), (3, .ref a3), (4, .int x4), (7, .int (v10 / (100 : Int32)))] [.int (v10 - v10 / (100 : Int32) * (100 : Int32))] h11 :=
  (jx_G_run (jx_X_grows rc jx_dflt jx_mt d) 123 _).trans rfl
set_option maxRecDepth 100000 in
theorem je_202_77 (rc : Nat → Nat × (Nat → Int32)) (d : Nat) (a0 : Nat) (x1 : Int32) (x2 : Int32) (x4 : Int32) (x7 : Int32) (s0 : Int32) (h : jxH) : jb_202 rc d 77 [(0, .ref a0), (1, .int x1), (2, .int x2), (3, .null), (4, .int x4), (7, .int x7)] [.int s0] h =
  if x7 = 0 then
    jb_202 rc d 89 [(0, .ref a0), (1, .int x1), (2, .int x2), (3, .null), (4, .int x4), (7, .int x7), (8, .int s0)] [] h
  else
    if x7 = (4 : Int32) then
      jb_202 rc d 89 [(0, .ref a0), (1, .int x1), (2, .int x2), (3, .null), (4, .int x4), (7, .int x7), (8, .int s0)] [] h
    else
      if x7 = (5 : Int32) then
        jb_202 rc d 89 [(0, .ref a0), (1, .int x1), (2, .int x2), (3, .null), (4, .int x4), (7, .int x7), (8, .int s0)] [] h
      else
        if x7 = (6 : Int32) then
          jb_202 rc d 89 [(0, .ref a0), (1, .int x1), (2, .int x2), (3, .null), (4, .int x4), (7, .int x7), (8, .int s0)] [] h
        else
          if (0 : Int32) = 0 then
            jb_202 rc d 35 [(0, .ref a0), (1, .int x1), (2, .int x2), (3, .null), (4, .int x4), (5, .int (0 : Int32))] [] h
          else
            jx_cV (jx_C rc d 99 [.null, .int x7, .int s0, .int (0 : Int32), .int (0 : Int32), .int (0 : Int32)] h) fun h1 =>
            jb_202 rc d 35 [(0, .ref a0), (1, .int x1), (2, .int x2), (3, .null), (4, .int (x4 + (1 : Int32))), (5, .int (0 : Int32))] [] h1 :=
  (jx_G_run (jx_X_grows rc jx_dflt jx_mt d) 123 _).trans rfl
set_option maxRecDepth 100000 in
theorem je_202_77b (rc : Nat → Nat × (Nat → Int32)) (d : Nat) (a0 : Nat) (x1 : Int32) (x2 : Int32) (a3 : Nat) (x4 : Int32) (x7 : Int32) (s0 : Int32) (h : jxH) : jb_202 rc d 77 [(0, .ref a0), (1, .int x1), (2, .int x2), (3, .ref a3), (4, .int x4), (7, .int x7)] [.int s0] h =
  if x7 = 0 then
    jb_202 rc d 89 [(0, .ref a0), (1, .int x1), (2, .int x2), (3, .ref a3), (4, .int x4), (7, .int x7), (8, .int s0)] [] h
  else
    if x7 = (4 : Int32) then
      jb_202 rc d 89 [(0, .ref a0), (1, .int x1), (2, .int x2), (3, .ref a3), (4, .int x4), (7, .int x7), (8, .int s0)] [] h
    else
      if x7 = (5 : Int32) then
        jb_202 rc d 89 [(0, .ref a0), (1, .int x1), (2, .int x2), (3, .ref a3), (4, .int x4), (7, .int x7), (8, .int s0)] [] h
      else
        if x7 = (6 : Int32) then
          jb_202 rc d 89 [(0, .ref a0), (1, .int x1), (2, .int x2), (3, .ref a3), (4, .int x4), (7, .int x7), (8, .int s0)] [] h
        else
          if (0 : Int32) = 0 then
            jb_202 rc d 35 [(0, .ref a0), (1, .int x1), (2, .int x2), (3, .ref a3), (4, .int x4), (5, .int (0 : Int32))] [] h
          else
            jx_cV (jx_C rc d 99 [.ref a3, .int x7, .int s0, .int (0 : Int32), .int (0 : Int32), .int (0 : Int32)] h) fun h1 =>
            jb_202 rc d 35 [(0, .ref a0), (1, .int x1), (2, .int x2), (3, .ref a3), (4, .int (x4 + (1 : Int32))), (5, .int (0 : Int32))] [] h1 :=
  (jx_G_run (jx_X_grows rc jx_dflt jx_mt d) 123 _).trans rfl
set_option maxRecDepth 100000 in
theorem je_202_89 (rc : Nat → Nat × (Nat → Int32)) (d : Nat) (a0 : Nat) (x1 : Int32) (x2 : Int32) (x4 : Int32) (x7 : Int32) (x8 : Int32) (h : jxH) : jb_202 rc d 89 [(0, .ref a0), (1, .int x1), (2, .int x2), (3, .null), (4, .int x4), (7, .int x7), (8, .int x8)] [] h =
  jx_cI (jx_C rc d 93 [.null, .int x7, .int x8, .int (0 : Int32), .int (0 : Int32), .int (0 : Int32)] h) fun v2 h1 =>
  if v2 = 0 then
    if (1 : Int32) = 0 then
      jb_202 rc d 35 [(0, .ref a0), (1, .int x1), (2, .int x2), (3, .null), (4, .int x4), (5, .int (1 : Int32))] [] h1
    else
      jx_cV (jx_C rc d 99 [.null, .int x7, .int x8, .int (0 : Int32), .int (0 : Int32), .int (0 : Int32)] h1) fun h3 =>
      jb_202 rc d 35 [(0, .ref a0), (1, .int x1), (2, .int x2), (3, .null), (4, .int (x4 + (1 : Int32))), (5, .int (1 : Int32))] [] h3
  else
    if (0 : Int32) = 0 then
      jb_202 rc d 35 [(0, .ref a0), (1, .int x1), (2, .int x2), (3, .null), (4, .int x4), (5, .int (0 : Int32))] [] h1
    else
      jx_cV (jx_C rc d 99 [.null, .int x7, .int x8, .int (0 : Int32), .int (0 : Int32), .int (0 : Int32)] h1) fun h4 =>
      jb_202 rc d 35 [(0, .ref a0), (1, .int x1), (2, .int x2), (3, .null), (4, .int (x4 + (1 : Int32))), (5, .int (0 : Int32))] [] h4 :=
  (jx_G_run (jx_X_grows rc jx_dflt jx_mt d) 123 _).trans rfl
set_option maxRecDepth 100000 in
theorem je_202_89b (rc : Nat → Nat × (Nat → Int32)) (d : Nat) (a0 : Nat) (x1 : Int32) (x2 : Int32) (a3 : Nat) (x4 : Int32) (x7 : Int32) (x8 : Int32) (h : jxH) : jb_202 rc d 89 [(0, .ref a0), (1, .int x1), (2, .int x2), (3, .ref a3), (4, .int x4), (7, .int x7), (8, .int x8)] [] h =
  jx_cI (jx_C rc d 93 [.ref a3, .int x7, .int x8, .int (0 : Int32), .int (0 : Int32), .int (0 : Int32)] h) fun v2 h1 =>
  if v2 = 0 then
    if (1 : Int32) = 0 then
      jb_202 rc d 35 [(0, .ref a0), (1, .int x1), (2, .int x2), (3, .ref a3), (4, .int x4), (5, .int (1 : Int32))] [] h1
    else
      jx_cV (jx_C rc d 99 [.ref a3, .int x7, .int x8, .int (0 : Int32), .int (0 : Int32), .int (0 : Int32)] h1) fun h3 =>
      jb_202 rc d 35 [(0, .ref a0), (1, .int x1), (2, .int x2), (3, .ref a3), (4, .int (x4 + (1 : Int32))), (5, .int (1 : Int32))] [] h3
  else
    if (0 : Int32) = 0 then
      jb_202 rc d 35 [(0, .ref a0), (1, .int x1), (2, .int x2), (3, .ref a3), (4, .int x4), (5, .int (0 : Int32))] [] h1
    else
      jx_cV (jx_C rc d 99 [.ref a3, .int x7, .int x8, .int (0 : Int32), .int (0 : Int32), .int (0 : Int32)] h1) fun h4 =>
      jb_202 rc d 35 [(0, .ref a0), (1, .int x1), (2, .int x2), (3, .ref a3), (4, .int (x4 + (1 : Int32))), (5, .int (0 : Int32))] [] h4 :=
  (jx_G_run (jx_X_grows rc jx_dflt jx_mt d) 123 _).trans rfl
-- RoomTreesModel.image()I
noncomputable def jb_203 (rc : Nat → Nat × (Nat → Int32)) (d : Nat) (i : Nat) (ls : List (Nat × Value)) (st : List Value) (h : jxH) : jxR := jx_G rc jx_dflt (jx_X rc jx_dflt jx_mt d) jc_203 (i, ls, st, h)
set_option maxRecDepth 100000 in
theorem je_203 (rc : Nat → Nat × (Nat → Int32)) (d : Nat) (a0 : Nat) (h : jxH) : jx_C rc (d + 1) 203 [.ref a0] h =
  if jx_is (jx_at h a0) 12 = true then
  (jx_gR (jx_at h a0) 12 1).bind fun b1 =>
  (jx_gR (jx_at h a0) 12 36).bind fun b2 =>
  jx_cV (jx_C rc d 74 [.ref b1, .ref b2] h) fun h3 =>
  jb_203 rc d 7 [(0, .ref a0), (1, .int (0 : Int32))] [] h3
  else none :=
  jx_enter ((jx_G_run (jx_X_grows rc jx_dflt jx_mt d) 35 (0, [(0, .ref a0)], [], h)).trans rfl)
set_option maxRecDepth 100000 in
theorem je_203_7 (rc : Nat → Nat × (Nat → Int32)) (d : Nat) (a0 : Nat) (x1 : Int32) (h : jxH) : jb_203 rc d 7 [(0, .ref a0), (1, .int x1)] [] h =
  if (18 : Int32) ≤ x1 then
    (jx_gI (jx_at h a0) 12 27).bind fun v1 =>
    (jx_pF (jx_at h a0) 12 38 (.int v1)).bind fun e2 =>
    if jx_bool (1 : Int32) = true then (jx_pF (jx_at (jx_set h a0 e2) a0) 12 39 (.int (1 : Int32))).bind fun e3 =>
    (jx_gR (jx_at (jx_set (jx_set h a0 e2) a0 e3) a0) 12 1).bind fun b4 =>
    (jx_aI (jx_at (jx_set (jx_set h a0 e2) a0 e3) b4) 0 (0 : Int32)).bind fun v5 =>
    jx_cI (jx_C rc d 76 [.int v5] (jx_set (jx_set h a0 e2) a0 e3)) fun v7 h6 =>
    some (some (.int v7), h6) else none
  else
    (jx_gR (jx_at h a0) 12 37).bind fun b8 =>
    (jx_gR (jx_at h a0) 12 26).bind fun b9 =>
    (jx_aI (jx_at h b9) 0 x1).bind fun v10 =>
    (jx_sI (jx_at h b8) 0 x1 v10).bind fun e11 =>
    jb_203 rc d 7 [(0, .ref a0), (1, .int (x1 + (1 : Int32)))] [] (jx_set h b8 e11) :=
  (jx_G_run (jx_X_grows rc jx_dflt jx_mt d) 35 _).trans rfl
-- RoomTreesModel.restore()I
noncomputable def jb_204 (rc : Nat → Nat × (Nat → Int32)) (d : Nat) (i : Nat) (ls : List (Nat × Value)) (st : List Value) (h : jxH) : jxR := jx_G rc jx_dflt (jx_X rc jx_dflt jx_mt d) jc_204 (i, ls, st, h)
set_option maxRecDepth 100000 in
theorem je_204 (rc : Nat → Nat × (Nat → Int32)) (d : Nat) (a0 : Nat) (h : jxH) : jx_C rc (d + 1) 204 [.ref a0] h =
  if jx_is (jx_at h a0) 12 = true then
  (jx_gI (jx_at h a0) 12 39).bind fun v1 =>
  if v1 = 0 then
    jx_cI (jx_C rc d 73 [.ref a0, .int (2 : Int32)] h) fun v3 h2 =>
    some (some (.int v3), h2)
  else
    jx_cV (jx_C rc d 100 [.ref a0] h) fun h4 =>
    (jx_gR (jx_at h4 a0) 12 36).bind fun b5 =>
    (jx_gR (jx_at h4 a0) 12 1).bind fun b6 =>
    jx_cV (jx_C rc d 74 [.ref b5, .ref b6] h4) fun h7 =>
    jb_204 rc d 16 [(0, .ref a0), (1, .int (0 : Int32))] [] h7
  else none :=
  jx_enter ((jx_G_run (jx_X_grows rc jx_dflt jx_mt d) 41 (0, [(0, .ref a0)], [], h)).trans rfl)
set_option maxRecDepth 100000 in
theorem je_204_16 (rc : Nat → Nat × (Nat → Int32)) (d : Nat) (a0 : Nat) (x1 : Int32) (h : jxH) : jb_204 rc d 16 [(0, .ref a0), (1, .int x1)] [] h =
  if (18 : Int32) ≤ x1 then
    (jx_gI (jx_at h a0) 12 38).bind fun v1 =>
    (jx_pF (jx_at h a0) 12 27 (.int v1)).bind fun e2 =>
    (jx_gR (jx_at (jx_set h a0 e2) a0) 12 1).bind fun b3 =>
    (jx_aI (jx_at (jx_set h a0 e2) b3) 0 (0 : Int32)).bind fun v4 =>
    jx_cI (jx_C rc d 76 [.int v4] (jx_set h a0 e2)) fun v6 h5 =>
    some (some (.int v6), h5)
  else
    (jx_gR (jx_at h a0) 12 26).bind fun b7 =>
    (jx_gR (jx_at h a0) 12 37).bind fun b8 =>
    (jx_aI (jx_at h b8) 0 x1).bind fun v9 =>
    (jx_sI (jx_at h b7) 0 x1 v9).bind fun e10 =>
    jb_204 rc d 16 [(0, .ref a0), (1, .int (x1 + (1 : Int32)))] [] (jx_set h b7 e10) :=
  (jx_G_run (jx_X_grows rc jx_dflt jx_mt d) 41 _).trans rfl
-- RoomTreesModel.edges()I
noncomputable def jb_205 (rc : Nat → Nat × (Nat → Int32)) (d : Nat) (i : Nat) (ls : List (Nat × Value)) (st : List Value) (h : jxH) : jxR := jx_G rc jx_dflt (jx_X rc jx_dflt jx_mt d) jc_205 (i, ls, st, h)
set_option maxRecDepth 100000 in
theorem je_205 (rc : Nat → Nat × (Nat → Int32)) (d : Nat) (a0 : Nat) (h : jxH) : jx_C rc (d + 1) 205 [.ref a0] h =
  if jx_is (jx_at h a0) 12 = true then
  jb_205 rc d 4 [(0, .ref a0), (1, .int (0 : Int32)), (2, .int (0 : Int32))] [] h
  else none :=
  jx_enter ((jx_G_run (jx_X_grows rc jx_dflt jx_mt d) 25 (0, [(0, .ref a0)], [], h)).trans rfl)
set_option maxRecDepth 100000 in
theorem je_205_4 (rc : Nat → Nat × (Nat → Int32)) (d : Nat) (a0 : Nat) (x1 : Int32) (x2 : Int32) (h : jxH) : jb_205 rc d 4 [(0, .ref a0), (1, .int x1), (2, .int x2)] [] h =
  if (12 : Int32) ≤ x2 then
    if (2 : Int32) = 0 then none else some (some (.int (x1 / (2 : Int32))), h)
  else
    (jx_gR (jx_at h a0) 12 1).bind fun b1 =>
    (jx_aI (jx_at h b1) 0 ((13 : Int32) + x2)).bind fun v2 =>
    jx_cI (jx_C rc d 76 [.int v2] h) fun v4 h3 =>
    jb_205 rc d 4 [(0, .ref a0), (1, .int (x1 + v4)), (2, .int (x2 + (1 : Int32)))] [] h3 :=
  (jx_G_run (jx_X_grows rc jx_dflt jx_mt d) 25 _).trans rfl
-- RoomTreesModel.heldOnes()I
noncomputable def jb_206 (rc : Nat → Nat × (Nat → Int32)) (d : Nat) (i : Nat) (ls : List (Nat × Value)) (st : List Value) (h : jxH) : jxR := jx_G rc jx_dflt (jx_X rc jx_dflt jx_mt d) jc_206 (i, ls, st, h)
set_option maxRecDepth 100000 in
theorem je_206 (rc : Nat → Nat × (Nat → Int32)) (d : Nat) (a0 : Nat) (h : jxH) : jx_C rc (d + 1) 206 [.ref a0] h =
  if jx_is (jx_at h a0) 12 = true then
  jb_206 rc d 4 [(0, .ref a0), (1, .int (0 : Int32)), (2, .int (0 : Int32))] [] h
  else none :=
  jx_enter ((jx_G_run (jx_X_grows rc jx_dflt jx_mt d) 24 (0, [(0, .ref a0)], [], h)).trans rfl)
set_option maxRecDepth 100000 in
theorem je_206_4 (rc : Nat → Nat × (Nat → Int32)) (d : Nat) (a0 : Nat) (x1 : Int32) (x2 : Int32) (h : jxH) : jb_206 rc d 4 [(0, .ref a0), (1, .int x1), (2, .int x2)] [] h =
  if (4 : Int32) ≤ x2 then
    some (some (.int x1), h)
  else
    (jx_gR (jx_at h a0) 12 23).bind fun b1 =>
    (jx_aI (jx_at h b1) 3 x2).bind fun v2 =>
    if v2 = 0 then
      jb_206 rc d 4 [(0, .ref a0), (1, .int (x1 + (0 : Int32))), (2, .int (x2 + (1 : Int32)))] [] h
    else
      jb_206 rc d 4 [(0, .ref a0), (1, .int (x1 + (1 : Int32))), (2, .int (x2 + (1 : Int32)))] [] h :=
  (jx_G_run (jx_X_grows rc jx_dflt jx_mt d) 24 _).trans rfl
-- RoomTreesModel.allJobs()I
noncomputable def jb_207 (rc : Nat → Nat × (Nat → Int32)) (d : Nat) (i : Nat) (ls : List (Nat × Value)) (st : List Value) (h : jxH) : jxR := jx_G rc jx_dflt (jx_X rc jx_dflt jx_mt d) jc_207 (i, ls, st, h)
set_option maxRecDepth 100000 in
theorem je_207 (rc : Nat → Nat × (Nat → Int32)) (d : Nat) (a0 : Nat) (h : jxH) : jx_C rc (d + 1) 207 [.ref a0] h =
  if jx_is (jx_at h a0) 12 = true then
  jb_207 rc d 4 [(0, .ref a0), (1, .int (0 : Int32)), (2, .int (0 : Int32))] [] h
  else none :=
  jx_enter ((jx_G_run (jx_X_grows rc jx_dflt jx_mt d) 25 (0, [(0, .ref a0)], [], h)).trans rfl)
set_option maxRecDepth 100000 in
theorem je_207_4 (rc : Nat → Nat × (Nat → Int32)) (d : Nat) (a0 : Nat) (x1 : Int32) (x2 : Int32) (h : jxH) : jb_207 rc d 4 [(0, .ref a0), (1, .int x1), (2, .int x2)] [] h =
  (jx_gI (jx_at h a0) 12 27).bind fun v1 =>
  if v1 ≤ x2 then
    some (some (.int x1), h)
  else
    (jx_gR (jx_at h a0) 12 26).bind fun b2 =>
    (jx_aI (jx_at h b2) 0 (((3 : Int32) * x2) + (2 : Int32))).bind fun v3 =>
    jb_207 rc d 4 [(0, .ref a0), (1, .int (x1 + v3)), (2, .int (x2 + (1 : Int32)))] [] h :=
  (jx_G_run (jx_X_grows rc jx_dflt jx_mt d) 25 _).trans rfl
-- RoomTreesModel.count(I)I
set_option maxRecDepth 100000 in
theorem je_208 (rc : Nat → Nat × (Nat → Int32)) (d : Nat) (a0 : Nat) (x1 : Int32) (h : jxH) : jx_C rc (d + 1) 208 [.ref a0, .int x1] h =
  if jx_is (jx_at h a0) 12 = true then
  if x1 = (0 : Int32) then
    (jx_gR (jx_at h a0) 12 1).bind fun b1 =>
    (jx_aI (jx_at h b1) 0 (0 : Int32)).bind fun v2 =>
    jx_cI (jx_C rc d 76 [.int v2] h) fun v4 h3 =>
    some (some (.int v4), h3)
  else if x1 = ((0 : Int32) + 1) then
    (jx_gR (jx_at h a0) 12 1).bind fun b5 =>
    jx_cI (jx_C rc d 86 [.ref b5] h) fun v7 h6 =>
    some (some (.int v7), h6)
  else if x1 = (((0 : Int32) + 1) + 1) then
    jx_cI (jx_C rc d 205 [.ref a0] h) fun v9 h8 =>
    some (some (.int v9), h8)
  else if x1 = ((((0 : Int32) + 1) + 1) + 1) then
    (jx_gR (jx_at h a0) 12 1).bind fun b10 =>
    jx_cI (jx_C rc d 186 [.ref b10] h) fun v12 h11 =>
    some (some (.int v12), h11)
  else if x1 = (((((0 : Int32) + 1) + 1) + 1) + 1) then
    (jx_gI (jx_at h a0) 12 4).bind fun v13 =>
    some (some (.int v13), h)
  else if x1 = ((((((0 : Int32) + 1) + 1) + 1) + 1) + 1) then
    (jx_gI (jx_at h a0) 12 5).bind fun v14 =>
    (jx_gI (jx_at h a0) 12 4).bind fun v15 =>
    some (some (.int (v14 - v15)), h)
  else if x1 = (((((((0 : Int32) + 1) + 1) + 1) + 1) + 1) + 1) then
    (jx_gI (jx_at h a0) 12 27).bind fun v16 =>
    some (some (.int v16), h)
  else if x1 = ((((((((0 : Int32) + 1) + 1) + 1) + 1) + 1) + 1) + 1) then
    (jx_gI (jx_at h a0) 12 11).bind fun v17 =>
    some (some (.int v17), h)
  else if x1 = (((((((((0 : Int32) + 1) + 1) + 1) + 1) + 1) + 1) + 1) + 1) then
    jx_cI (jx_C rc d 206 [.ref a0] h) fun v19 h18 =>
    some (some (.int v19), h18)
  else if x1 = ((((((((((0 : Int32) + 1) + 1) + 1) + 1) + 1) + 1) + 1) + 1) + 1) then
    jx_cI (jx_C rc d 207 [.ref a0] h) fun v21 h20 =>
    some (some (.int v21), h20)
  else 
    jx_cI (jx_C rc d 73 [.ref a0, .int (1 : Int32)] h) fun v23 h22 =>
    some (some (.int v23), h22)
  else none :=
  jx_enter ((jx_G_run (jx_X_grows rc jx_dflt jx_mt d) 46 (0, [(0, .ref a0), (1, .int x1)], [], h)).trans rfl)
-- RoomTreesModel.told(I)I
set_option maxRecDepth 100000 in
theorem je_209 (rc : Nat → Nat × (Nat → Int32)) (d : Nat) (a0 : Nat) (x1 : Int32) (h : jxH) : jx_C rc (d + 1) 209 [.ref a0, .int x1] h =
  if jx_is (jx_at h a0) 12 = true then
  jx_cI (jx_C rc d 72 [.long (x1).toInt64, .long (1 : Int64), .long (7 : Int64)] h) fun v2 h1 =>
  if v2 = 0 then
    jx_cI (jx_C rc d 73 [.ref a0, .int (1 : Int32)] h1) fun v4 h3 =>
    some (some (.int v4), h3)
  else
    (jx_gR (jx_at h1 a0) 12 0).bind fun b5 =>
    (jx_aI (jx_at h1 b5) 0 x1).bind fun v6 =>
    some (some (.int v6), h1)
  else none :=
  jx_enter ((jx_G_run (jx_X_grows rc jx_dflt jx_mt d) 17 (0, [(0, .ref a0), (1, .int x1)], [], h)).trans rfl)
-- RoomTrees$Crew.<init>()V
set_option maxRecDepth 100000 in
theorem je_210 (rc : Nat → Nat × (Nat → Int32)) (d : Nat) (a0 : Nat) (h : jxH) : jx_C rc (d + 1) 210 [.ref a0] h =
  if jx_is (jx_at h a0) 0 = true then
  if (6 : Int32) < 0 ∨ 5000 < (6 : Int32) then none else
  (jx_pF (jx_at (jx_new h ((6 : Int32)).toNatClampNeg (jx_arr 0 ((6 : Int32)).toNatClampNeg)) a0) 0 0 (.ref h.1)).bind fun e1 =>
  if (6 : Int32) < 0 ∨ 5000 < (6 : Int32) then none else
  (jx_pF (jx_at (jx_new (jx_set (jx_new h ((6 : Int32)).toNatClampNeg (jx_arr 0 ((6 : Int32)).toNatClampNeg)) a0 e1) ((6 : Int32)).toNatClampNeg (jx_arr 0 ((6 : Int32)).toNatClampNeg)) a0) 0 1 (.ref (jx_set (jx_new h ((6 : Int32)).toNatClampNeg (jx_arr 0 ((6 : Int32)).toNatClampNeg)) a0 e1).1)).bind fun e2 =>
  if (6 : Int32) < 0 ∨ 5000 < (6 : Int32) then none else
  (jx_pF (jx_at (jx_new (jx_set (jx_new (jx_set (jx_new h ((6 : Int32)).toNatClampNeg (jx_arr 0 ((6 : Int32)).toNatClampNeg)) a0 e1) ((6 : Int32)).toNatClampNeg (jx_arr 0 ((6 : Int32)).toNatClampNeg)) a0 e2) ((6 : Int32)).toNatClampNeg (jx_arr 0 ((6 : Int32)).toNatClampNeg)) a0) 0 2 (.ref (jx_set (jx_new (jx_set (jx_new h ((6 : Int32)).toNatClampNeg (jx_arr 0 ((6 : Int32)).toNatClampNeg)) a0 e1) ((6 : Int32)).toNatClampNeg (jx_arr 0 ((6 : Int32)).toNatClampNeg)) a0 e2).1)).bind fun e3 =>
  some (none, (jx_set (jx_new (jx_set (jx_new (jx_set (jx_new h ((6 : Int32)).toNatClampNeg (jx_arr 0 ((6 : Int32)).toNatClampNeg)) a0 e1) ((6 : Int32)).toNatClampNeg (jx_arr 0 ((6 : Int32)).toNatClampNeg)) a0 e2) ((6 : Int32)).toNatClampNeg (jx_arr 0 ((6 : Int32)).toNatClampNeg)) a0 e3))
  else none :=
  jx_enter ((jx_G_run (jx_X_grows rc jx_dflt jx_mt d) 17 (0, [(0, .ref a0)], [], h)).trans rfl)
-- RoomTrees$Crew.follow(LRoomTrees$Crew;)V
set_option maxRecDepth 100000 in
theorem je_211 (rc : Nat → Nat × (Nat → Int32)) (d : Nat) (a0 : Nat) (a1 : Nat) (h : jxH) : jx_C rc (d + 1) 211 [.ref a0, .ref a1] h =
  if jx_is (jx_at h a0) 0 = true then
  (jx_gR (jx_at h a1) 0 0).bind fun b1 =>
  (jx_gR (jx_at h a0) 0 0).bind fun b2 =>
  (jx_cp (jx_at h b1) (jx_at h b2) 0 (0 : Int32) (0 : Int32) (6 : Int32)).bind fun e3 =>
  (jx_gR (jx_at (jx_set h b2 e3) a1) 0 1).bind fun b4 =>
  (jx_gR (jx_at (jx_set h b2 e3) a0) 0 1).bind fun b5 =>
  (jx_cp (jx_at (jx_set h b2 e3) b4) (jx_at (jx_set h b2 e3) b5) 0 (0 : Int32) (0 : Int32) (6 : Int32)).bind fun e6 =>
  (jx_gR (jx_at (jx_set (jx_set h b2 e3) b5 e6) a1) 0 2).bind fun b7 =>
  (jx_gR (jx_at (jx_set (jx_set h b2 e3) b5 e6) a0) 0 2).bind fun b8 =>
  (jx_cp (jx_at (jx_set (jx_set h b2 e3) b5 e6) b7) (jx_at (jx_set (jx_set h b2 e3) b5 e6) b8) 0 (0 : Int32) (0 : Int32) (6 : Int32)).bind fun e9 =>
  (jx_gI (jx_at (jx_set (jx_set (jx_set h b2 e3) b5 e6) b8 e9) a1) 0 3).bind fun v10 =>
  (jx_pF (jx_at (jx_set (jx_set (jx_set h b2 e3) b5 e6) b8 e9) a0) 0 3 (.int v10)).bind fun e11 =>
  some (none, (jx_set (jx_set (jx_set (jx_set h b2 e3) b5 e6) b8 e9) a0 e11))
  else none :=
  jx_enter ((jx_G_run (jx_X_grows rc jx_dflt jx_mt d) 31 (0, [(0, .ref a0), (1, .ref a1)], [], h)).trans rfl)
-- RoomTrees$Crew.has(I)Z
set_option maxRecDepth 100000 in
theorem je_212 (rc : Nat → Nat × (Nat → Int32)) (d : Nat) (a0 : Nat) (x1 : Int32) (h : jxH) : jx_C rc (d + 1) 212 [.ref a0, .int x1] h =
  if jx_is (jx_at h a0) 0 = true then
  if x1 < 0 then
    if jx_bool (0 : Int32) = true then some (some (.int (0 : Int32)), h) else none
  else
    (jx_gI (jx_at h a0) 0 3).bind fun v1 =>
    if v1 ≤ x1 then
      if jx_bool (0 : Int32) = true then some (some (.int (0 : Int32)), h) else none
    else
      if (6 : Int32) ≤ x1 then
        if jx_bool (0 : Int32) = true then some (some (.int (0 : Int32)), h) else none
      else
        if jx_bool (1 : Int32) = true then some (some (.int (1 : Int32)), h) else none
  else none :=
  jx_enter ((jx_G_run (jx_X_grows rc jx_dflt jx_mt d) 15 (0, [(0, .ref a0), (1, .int x1)], [], h)).trans rfl)
-- RoomTrees$Crew.hire(II)I
set_option maxRecDepth 100000 in
theorem je_213 (rc : Nat → Nat × (Nat → Int32)) (d : Nat) (a0 : Nat) (x1 : Int32) (x2 : Int32) (h : jxH) : jx_C rc (d + 1) 213 [.ref a0, .int x1, .int x2] h =
  if jx_is (jx_at h a0) 0 = true then
  (jx_gI (jx_at h a0) 0 3).bind fun v1 =>
  if v1 < 0 then
    some (some (.int (-1 : Int32)), h)
  else
    (jx_gI (jx_at h a0) 0 3).bind fun v2 =>
    if v2 < (6 : Int32) then
      (jx_gR (jx_at h a0) 0 0).bind fun b3 =>
      (jx_gI (jx_at h a0) 0 3).bind fun v4 =>
      (jx_sI (jx_at h b3) 0 v4 x1).bind fun e5 =>
      (jx_gR (jx_at (jx_set h b3 e5) a0) 0 1).bind fun b6 =>
      (jx_gI (jx_at (jx_set h b3 e5) a0) 0 3).bind fun v7 =>
      (jx_sI (jx_at (jx_set h b3 e5) b6) 0 v7 x2).bind fun e8 =>
      (jx_gR (jx_at (jx_set (jx_set h b3 e5) b6 e8) a0) 0 2).bind fun b9 =>
      (jx_gI (jx_at (jx_set (jx_set h b3 e5) b6 e8) a0) 0 3).bind fun v10 =>
      (jx_sI (jx_at (jx_set (jx_set h b3 e5) b6 e8) b9) 0 v10 (0 : Int32)).bind fun e11 =>
      (jx_gI (jx_at (jx_set (jx_set (jx_set h b3 e5) b6 e8) b9 e11) a0) 0 3).bind fun v12 =>
      (jx_pF (jx_at (jx_set (jx_set (jx_set h b3 e5) b6 e8) b9 e11) a0) 0 3 (.int (v12 + (1 : Int32)))).bind fun e13 =>
      (jx_gI (jx_at (jx_set (jx_set (jx_set (jx_set h b3 e5) b6 e8) b9 e11) a0 e13) a0) 0 3).bind fun v14 =>
      some (some (.int (v14 - (1 : Int32))), (jx_set (jx_set (jx_set (jx_set h b3 e5) b6 e8) b9 e11) a0 e13))
    else
      some (some (.int (-1 : Int32)), h)
  else none :=
  jx_enter ((jx_G_run (jx_X_grows rc jx_dflt jx_mt d) 40 (0, [(0, .ref a0), (1, .int x1), (2, .int x2)], [], h)).trans rfl)
-- RoomTrees$Crew.retrain(II)V
set_option maxRecDepth 100000 in
theorem je_214 (rc : Nat → Nat × (Nat → Int32)) (d : Nat) (a0 : Nat) (x1 : Int32) (x2 : Int32) (h : jxH) : jx_C rc (d + 1) 214 [.ref a0, .int x1, .int x2] h =
  if jx_is (jx_at h a0) 0 = true then
  jx_cI (jx_C rc d 212 [.ref a0, .int x1] h) fun v2 h1 =>
  if v2 = 0 then
    some (none, h1)
  else
    (jx_gR (jx_at h1 a0) 0 0).bind fun b3 =>
    (jx_sI (jx_at h1 b3) 0 x1 x2).bind fun e4 =>
    some (none, (jx_set h1 b3 e4))
  else none :=
  jx_enter ((jx_G_run (jx_X_grows rc jx_dflt jx_mt d) 12 (0, [(0, .ref a0), (1, .int x1), (2, .int x2)], [], h)).trans rfl)
-- RoomTrees$Crew.credit(II)V
set_option maxRecDepth 100000 in
theorem je_215 (rc : Nat → Nat × (Nat → Int32)) (d : Nat) (a0 : Nat) (x1 : Int32) (x2 : Int32) (h : jxH) : jx_C rc (d + 1) 215 [.ref a0, .int x1, .int x2] h =
  if jx_is (jx_at h a0) 0 = true then
  jx_cI (jx_C rc d 212 [.ref a0, .int x1] h) fun v2 h1 =>
  if v2 = 0 then
    some (none, h1)
  else
    (jx_gR (jx_at h1 a0) 0 2).bind fun b3 =>
    (jx_gR (jx_at h1 a0) 0 2).bind fun b4 =>
    (jx_aI (jx_at h1 b4) 0 x1).bind fun v5 =>
    jx_cI (jx_C rc d 331 [.int (9999 : Int32), .int (v5 + x2)] h1) fun v7 h6 =>
    (jx_sI (jx_at h6 b3) 0 x1 v7).bind fun e8 =>
    some (none, (jx_set h6 b3 e8))
  else none :=
  jx_enter ((jx_G_run (jx_X_grows rc jx_dflt jx_mt d) 19 (0, [(0, .ref a0), (1, .int x1), (2, .int x2)], [], h)).trans rfl)
-- RoomTrees$Crew.kindOf(I)I
set_option maxRecDepth 100000 in
theorem je_216 (rc : Nat → Nat × (Nat → Int32)) (d : Nat) (a0 : Nat) (x1 : Int32) (h : jxH) : jx_C rc (d + 1) 216 [.ref a0, .int x1] h =
  if jx_is (jx_at h a0) 0 = true then
  jx_cI (jx_C rc d 212 [.ref a0, .int x1] h) fun v2 h1 =>
  if v2 = 0 then
    some (some (.int (0 : Int32)), h1)
  else
    (jx_gR (jx_at h1 a0) 0 0).bind fun b3 =>
    (jx_aI (jx_at h1 b3) 0 x1).bind fun v4 =>
    some (some (.int v4), h1)
  else none :=
  jx_enter ((jx_G_run (jx_X_grows rc jx_dflt jx_mt d) 13 (0, [(0, .ref a0), (1, .int x1)], [], h)).trans rfl)
-- RoomTrees$Crew.startOf(I)I
set_option maxRecDepth 100000 in
theorem je_217 (rc : Nat → Nat × (Nat → Int32)) (d : Nat) (a0 : Nat) (x1 : Int32) (h : jxH) : jx_C rc (d + 1) 217 [.ref a0, .int x1] h =
  if jx_is (jx_at h a0) 0 = true then
  jx_cI (jx_C rc d 212 [.ref a0, .int x1] h) fun v2 h1 =>
  if v2 = 0 then
    some (some (.int (0 : Int32)), h1)
  else
    (jx_gR (jx_at h1 a0) 0 1).bind fun b3 =>
    (jx_aI (jx_at h1 b3) 0 x1).bind fun v4 =>
    some (some (.int v4), h1)
  else none :=
  jx_enter ((jx_G_run (jx_X_grows rc jx_dflt jx_mt d) 13 (0, [(0, .ref a0), (1, .int x1)], [], h)).trans rfl)
-- RoomTrees$Crew.jobsOf(I)I
set_option maxRecDepth 100000 in
theorem je_218 (rc : Nat → Nat × (Nat → Int32)) (d : Nat) (a0 : Nat) (x1 : Int32) (h : jxH) : jx_C rc (d + 1) 218 [.ref a0, .int x1] h =
  if jx_is (jx_at h a0) 0 = true then
  jx_cI (jx_C rc d 212 [.ref a0, .int x1] h) fun v2 h1 =>
  if v2 = 0 then
    some (some (.int (0 : Int32)), h1)
  else
    (jx_gR (jx_at h1 a0) 0 2).bind fun b3 =>
    (jx_aI (jx_at h1 b3) 0 x1).bind fun v4 =>
    some (some (.int v4), h1)
  else none :=
  jx_enter ((jx_G_run (jx_X_grows rc jx_dflt jx_mt d) 13 (0, [(0, .ref a0), (1, .int x1)], [], h)).trans rfl)
-- RoomTrees$Crew.allJobs()I
noncomputable def jb_219 (rc : Nat → Nat × (Nat → Int32)) (d : Nat) (i : Nat) (ls : List (Nat × Value)) (st : List Value) (h : jxH) : jxR := jx_G rc jx_dflt (jx_X rc jx_dflt jx_mt d) jc_219 (i, ls, st, h)
set_option maxRecDepth 100000 in
theorem je_219 (rc : Nat → Nat × (Nat → Int32)) (d : Nat) (a0 : Nat) (h : jxH) : jx_C rc (d + 1) 219 [.ref a0] h =
  if jx_is (jx_at h a0) 0 = true then
  jb_219 rc d 4 [(0, .ref a0), (1, .int (0 : Int32)), (2, .int (0 : Int32))] [] h
  else none :=
  jx_enter ((jx_G_run (jx_X_grows rc jx_dflt jx_mt d) 19 (0, [(0, .ref a0)], [], h)).trans rfl)
set_option maxRecDepth 100000 in
theorem je_219_4 (rc : Nat → Nat × (Nat → Int32)) (d : Nat) (a0 : Nat) (x1 : Int32) (x2 : Int32) (h : jxH) : jb_219 rc d 4 [(0, .ref a0), (1, .int x1), (2, .int x2)] [] h =
  if (6 : Int32) ≤ x2 then
    some (some (.int x1), h)
  else
    jx_cI (jx_C rc d 218 [.ref a0, .int x2] h) fun v2 h1 =>
    jb_219 rc d 4 [(0, .ref a0), (1, .int (x1 + v2)), (2, .int (x2 + (1 : Int32)))] [] h1 :=
  (jx_G_run (jx_X_grows rc jx_dflt jx_mt d) 19 _).trans rfl
-- RoomTrees$Crew.isUnder(II)Z
noncomputable def jb_220 (rc : Nat → Nat × (Nat → Int32)) (d : Nat) (i : Nat) (ls : List (Nat × Value)) (st : List Value) (h : jxH) : jxR := jx_G rc jx_dflt (jx_X rc jx_dflt jx_mt d) jc_220 (i, ls, st, h)
set_option maxRecDepth 100000 in
theorem je_220 (rc : Nat → Nat × (Nat → Int32)) (d : Nat) (x0 : Int32) (x1 : Int32) (h : jxH) : jx_C rc (d + 1) 220 [.int x0, .int x1] h =
  jb_220 rc d 4 [(1, .int x1), (2, .int x0), (3, .int (0 : Int32))] [] h :=
  (jx_G_run (jx_X_grows rc jx_dflt jx_mt d) 25 (0, [(0, .int x0), (1, .int x1)], [], h)).trans rfl
set_option maxRecDepth 100000 in
theorem je_220_4 (rc : Nat → Nat × (Nat → Int32)) (d : Nat) (x1 : Int32) (x2 : Int32) (x3 : Int32) (h : jxH) : jb_220 rc d 4 [(1, .int x1), (2, .int x2), (3, .int x3)] [] h =
  if (6 : Int32) ≤ x3 then
    if jx_bool (0 : Int32) = true then some (some (.int (0 : Int32)), h) else none
  else
    jx_cI (jx_C rc d 64 [.int x2] h) fun v2 h1 =>
    if v2 = 0 then
      if jx_bool (0 : Int32) = true then some (some (.int (0 : Int32)), h1) else none
    else
      if x2 = x1 then
        if jx_bool (1 : Int32) = true then some (some (.int (1 : Int32)), h1) else none
      else
        if jx_out x2 (rc 3).1 = true then none else
        jb_220 rc d 4 [(1, .int x1), (2, .int ((rc 3).2 (x2).toNatClampNeg)), (3, .int (x3 + (1 : Int32)))] [] h1 :=
  (jx_G_run (jx_X_grows rc jx_dflt jx_mt d) 25 _).trans rfl
-- RoomTrees$Crew.cost(II)I
set_option maxRecDepth 100000 in
theorem je_221 (rc : Nat → Nat × (Nat → Int32)) (d : Nat) (x0 : Int32) (x1 : Int32) (h : jxH) : jx_C rc (d + 1) 221 [.int x0, .int x1] h =
  if x0 = (1 : Int32) then
    some (some (.int ((2 : Int32) * (x1 + (1 : Int32)))), h)
  else if x0 = ((1 : Int32) + 1) then
    some (some (.int (x1 + (1 : Int32))), h)
  else if x0 = (((1 : Int32) + 1) + 1) then
    some (some (.int (((2 : Int32) * (x1 + (1 : Int32))) + (5 : Int32))), h)
  else if x0 = ((((1 : Int32) + 1) + 1) + 1) then
    some (some (.int ((3 : Int32) * (x1 + (1 : Int32)))), h)
  else if x0 = (((((1 : Int32) + 1) + 1) + 1) + 1) then
    some (some (.int ((x1 + (1 : Int32)) - (4 : Int32))), h)
  else 
    some (some (.int (x1 + (1 : Int32))), h) :=
  (jx_G_run (jx_X_grows rc jx_dflt jx_mt d) 28 (0, [(0, .int x0), (1, .int x1)], [], h)).trans rfl
-- RoomTrees$Crew.plan(LRoomTrees$Step;LRoomTrees$Forest;II)Z
set_option maxRecDepth 100000 in
theorem je_222 (rc : Nat → Nat × (Nat → Int32)) (d : Nat) (a0 : Nat) (a1 : Nat) (x2 : Int32) (x3 : Int32) (h : jxH) : jx_C rc (d + 1) 222 [.ref a0, .ref a1, .int x2, .int x3] h =
  if x2 = (1 : Int32) then
    jx_cI (jx_C rc d 284 [.ref a0, .ref a1, .int (0 : Int32), .int (-1 : Int32), .int x3, .int (0 : Int32), .int (2 : Int32)] h) fun v2 h1 =>
    if v2 = 0 then
      jx_cI (jx_C rc d 284 [.ref a0, .ref a1, .int (0 : Int32), .int (1 : Int32), .int x3, .int (0 : Int32), .int (2 : Int32)] h1) fun v4 h3 =>
      if v4 = 0 then
        if jx_bool (0 : Int32) = true then some (some (.int (0 : Int32)), h3) else none
      else
        if jx_bool (1 : Int32) = true then some (some (.int (1 : Int32)), h3) else none
    else
      if jx_bool (1 : Int32) = true then some (some (.int (1 : Int32)), h1) else none
  else if x2 = ((1 : Int32) + 1) then
    jx_cI (jx_C rc d 284 [.ref a0, .ref a1, .int (4 : Int32), .int (0 : Int32), .int x3, .int (0 : Int32), .int (2 : Int32)] h) fun v6 h5 =>
    if v6 = 0 then
      jx_cI (jx_C rc d 284 [.ref a0, .ref a1, .int (0 : Int32), .int (-1 : Int32), .int x3, .int (0 : Int32), .int (2 : Int32)] h5) fun v8 h7 =>
      if v8 = 0 then
        if jx_bool (0 : Int32) = true then some (some (.int (0 : Int32)), h7) else none
      else
        if jx_bool (1 : Int32) = true then some (some (.int (1 : Int32)), h7) else none
    else
      if jx_bool (1 : Int32) = true then some (some (.int (1 : Int32)), h5) else none
  else if x2 = (((1 : Int32) + 1) + 1) then
    jx_cI (jx_C rc d 284 [.ref a0, .ref a1, .int (0 : Int32), .int (-1 : Int32), .int x3, .int (1 : Int32), .int (2 : Int32)] h) fun v10 h9 =>
    if v10 = 0 then
      jx_cI (jx_C rc d 284 [.ref a0, .ref a1, .int (0 : Int32), .int (1 : Int32), .int x3, .int (1 : Int32), .int (2 : Int32)] h9) fun v12 h11 =>
      if v12 = 0 then
        if jx_bool (0 : Int32) = true then some (some (.int (0 : Int32)), h11) else none
      else
        if jx_bool (1 : Int32) = true then some (some (.int (1 : Int32)), h11) else none
    else
      if jx_bool (1 : Int32) = true then some (some (.int (1 : Int32)), h9) else none
  else if x2 = ((((1 : Int32) + 1) + 1) + 1) then
    jx_cI (jx_C rc d 284 [.ref a0, .ref a1, .int (5 : Int32), .int (0 : Int32), .int x3, .int (0 : Int32), .int (1 : Int32)] h) fun v14 h13 =>
    if v14 = 0 then
      jx_cI (jx_C rc d 284 [.ref a0, .ref a1, .int (4 : Int32), .int (0 : Int32), .int x3, .int (0 : Int32), .int (2 : Int32)] h13) fun v16 h15 =>
      if v16 = 0 then
        jx_cI (jx_C rc d 284 [.ref a0, .ref a1, .int (0 : Int32), .int (-1 : Int32), .int x3, .int (0 : Int32), .int (2 : Int32)] h15) fun v18 h17 =>
        if v18 = 0 then
          if jx_bool (0 : Int32) = true then some (some (.int (0 : Int32)), h17) else none
        else
          if jx_bool (1 : Int32) = true then some (some (.int (1 : Int32)), h17) else none
      else
        if jx_bool (1 : Int32) = true then some (some (.int (1 : Int32)), h15) else none
    else
      if jx_bool (1 : Int32) = true then some (some (.int (1 : Int32)), h13) else none
  else if x2 = (((((1 : Int32) + 1) + 1) + 1) + 1) then
    jx_cI (jx_C rc d 284 [.ref a0, .ref a1, .int (0 : Int32), .int (-1 : Int32), .int x3, .int (0 : Int32), .int (1 : Int32)] h) fun v20 h19 =>
    if jx_bool v20 = true then some (some (.int v20), h19) else none
  else 
    jx_cI (jx_C rc d 284 [.ref a0, .ref a1, .int (0 : Int32), .int (-1 : Int32), .int x3, .int (0 : Int32), .int (2 : Int32)] h) fun v22 h21 =>
    if jx_bool v22 = true then some (some (.int v22), h21) else none :=
  (jx_G_run (jx_X_grows rc jx_dflt jx_mt d) 119 (0, [(0, .ref a0), (1, .ref a1), (2, .int x2), (3, .int x3)], [], h)).trans rfl
-- RoomTrees$Forest.<init>()V
set_option maxRecDepth 100000 in
theorem je_223 (rc : Nat → Nat × (Nat → Int32)) (d : Nat) (a0 : Nat) (h : jxH) : jx_C rc (d + 1) 223 [.ref a0] h =
  if jx_is (jx_at h a0) 1 = true then
  if (12 : Int32) < 0 ∨ 5000 < (12 : Int32) then none else
  (jx_pF (jx_at (jx_new h ((12 : Int32)).toNatClampNeg (jx_arr 0 ((12 : Int32)).toNatClampNeg)) a0) 1 0 (.ref h.1)).bind fun e1 =>
  if (12 : Int32) < 0 ∨ 5000 < (12 : Int32) then none else
  (jx_pF (jx_at (jx_new (jx_set (jx_new h ((12 : Int32)).toNatClampNeg (jx_arr 0 ((12 : Int32)).toNatClampNeg)) a0 e1) ((12 : Int32)).toNatClampNeg (jx_arr 0 ((12 : Int32)).toNatClampNeg)) a0) 1 1 (.ref (jx_set (jx_new h ((12 : Int32)).toNatClampNeg (jx_arr 0 ((12 : Int32)).toNatClampNeg)) a0 e1).1)).bind fun e2 =>
  some (none, (jx_set (jx_new (jx_set (jx_new h ((12 : Int32)).toNatClampNeg (jx_arr 0 ((12 : Int32)).toNatClampNeg)) a0 e1) ((12 : Int32)).toNatClampNeg (jx_arr 0 ((12 : Int32)).toNatClampNeg)) a0 e2))
  else none :=
  jx_enter ((jx_G_run (jx_X_grows rc jx_dflt jx_mt d) 13 (0, [(0, .ref a0)], [], h)).trans rfl)
-- RoomTrees$Forest.clear()V
set_option maxRecDepth 100000 in
theorem je_224 (rc : Nat → Nat × (Nat → Int32)) (d : Nat) (a0 : Nat) (h : jxH) : jx_C rc (d + 1) 224 [.ref a0] h =
  if jx_is (jx_at h a0) 1 = true then
  (jx_gR (jx_at h a0) 1 0).bind fun b1 =>
  jx_cV (jx_C rc d 332 [.ref b1, .int (0 : Int32)] h) fun h2 =>
  (jx_gR (jx_at h2 a0) 1 1).bind fun b3 =>
  jx_cV (jx_C rc d 332 [.ref b3, .int (0 : Int32)] h2) fun h4 =>
  (jx_pF (jx_at h4 a0) 1 2 (.int (0 : Int32))).bind fun e5 =>
  some (none, (jx_set h4 a0 e5))
  else none :=
  jx_enter ((jx_G_run (jx_X_grows rc jx_dflt jx_mt d) 14 (0, [(0, .ref a0)], [], h)).trans rfl)
-- RoomTrees$Forest.follow(LRoomTrees$Forest;)V
set_option maxRecDepth 100000 in
theorem je_225 (rc : Nat → Nat × (Nat → Int32)) (d : Nat) (a0 : Nat) (a1 : Nat) (h : jxH) : jx_C rc (d + 1) 225 [.ref a0, .ref a1] h =
  if jx_is (jx_at h a0) 1 = true then
  (jx_gR (jx_at h a1) 1 0).bind fun b1 =>
  (jx_gR (jx_at h a0) 1 0).bind fun b2 =>
  (jx_cp (jx_at h b1) (jx_at h b2) 0 (0 : Int32) (0 : Int32) (12 : Int32)).bind fun e3 =>
  (jx_gR (jx_at (jx_set h b2 e3) a1) 1 1).bind fun b4 =>
  (jx_gR (jx_at (jx_set h b2 e3) a0) 1 1).bind fun b5 =>
  (jx_cp (jx_at (jx_set h b2 e3) b4) (jx_at (jx_set h b2 e3) b5) 0 (0 : Int32) (0 : Int32) (12 : Int32)).bind fun e6 =>
  (jx_gI (jx_at (jx_set (jx_set h b2 e3) b5 e6) a1) 1 2).bind fun v7 =>
  (jx_pF (jx_at (jx_set (jx_set h b2 e3) b5 e6) a0) 1 2 (.int v7)).bind fun e8 =>
  some (none, (jx_set (jx_set (jx_set h b2 e3) b5 e6) a0 e8))
  else none :=
  jx_enter ((jx_G_run (jx_X_grows rc jx_dflt jx_mt d) 23 (0, [(0, .ref a0), (1, .ref a1)], [], h)).trans rfl)
-- RoomTrees$Forest.has(I)Z
set_option maxRecDepth 100000 in
theorem je_226 (rc : Nat → Nat × (Nat → Int32)) (d : Nat) (a0 : Nat) (x1 : Int32) (h : jxH) : jx_C rc (d + 1) 226 [.ref a0, .int x1] h =
  if jx_is (jx_at h a0) 1 = true then
  if x1 < 0 then
    if jx_bool (0 : Int32) = true then some (some (.int (0 : Int32)), h) else none
  else
    if (12 : Int32) ≤ x1 then
      if jx_bool (0 : Int32) = true then some (some (.int (0 : Int32)), h) else none
    else
      (jx_gI (jx_at h a0) 1 2).bind fun v1 =>
      if ((v1 >>> (x1 &&& 31)) &&& (1 : Int32)) = 0 then
        if jx_bool (0 : Int32) = true then some (some (.int (0 : Int32)), h) else none
      else
        if jx_bool (1 : Int32) = true then some (some (.int (1 : Int32)), h) else none
  else none :=
  jx_enter ((jx_G_run (jx_X_grows rc jx_dflt jx_mt d) 18 (0, [(0, .ref a0), (1, .int x1)], [], h)).trans rfl)
-- RoomTrees$Forest.size()I
set_option maxRecDepth 100000 in
theorem je_227 (rc : Nat → Nat × (Nat → Int32)) (d : Nat) (a0 : Nat) (h : jxH) : jx_C rc (d + 1) 227 [.ref a0] h =
  if jx_is (jx_at h a0) 1 = true then
  (jx_gI (jx_at h a0) 1 2).bind fun v1 =>
  jx_cI (jx_C rc d 328 [.int v1] h) fun v3 h2 =>
  some (some (.int v3), h2)
  else none :=
  jx_enter ((jx_G_run (jx_X_grows rc jx_dflt jx_mt d) 6 (0, [(0, .ref a0)], [], h)).trans rfl)
-- RoomTrees$Forest.weightAt(I)I
set_option maxRecDepth 100000 in
theorem je_228 (rc : Nat → Nat × (Nat → Int32)) (d : Nat) (a0 : Nat) (x1 : Int32) (h : jxH) : jx_C rc (d + 1) 228 [.ref a0, .int x1] h =
  if jx_is (jx_at h a0) 1 = true then
  if x1 < 0 then
    some (some (.int (0 : Int32)), h)
  else
    if (12 : Int32) ≤ x1 then
      some (some (.int (0 : Int32)), h)
    else
      (jx_gR (jx_at h a0) 1 0).bind fun b1 =>
      (jx_aI (jx_at h b1) 0 x1).bind fun v2 =>
      some (some (.int v2), h)
  else none :=
  jx_enter ((jx_G_run (jx_X_grows rc jx_dflt jx_mt d) 14 (0, [(0, .ref a0), (1, .int x1)], [], h)).trans rfl)
-- RoomTrees$Forest.nearsAt(I)I
set_option maxRecDepth 100000 in
theorem je_229 (rc : Nat → Nat × (Nat → Int32)) (d : Nat) (a0 : Nat) (x1 : Int32) (h : jxH) : jx_C rc (d + 1) 229 [.ref a0, .int x1] h =
  if jx_is (jx_at h a0) 1 = true then
  if x1 < 0 then
    some (some (.int (0 : Int32)), h)
  else
    if (12 : Int32) ≤ x1 then
      some (some (.int (0 : Int32)), h)
    else
      (jx_gR (jx_at h a0) 1 1).bind fun b1 =>
      (jx_aI (jx_at h b1) 0 x1).bind fun v2 =>
      some (some (.int v2), h)
  else none :=
  jx_enter ((jx_G_run (jx_X_grows rc jx_dflt jx_mt d) 14 (0, [(0, .ref a0), (1, .int x1)], [], h)).trans rfl)
-- RoomTrees$Forest.degree(I)I
set_option maxRecDepth 100000 in
theorem je_230 (rc : Nat → Nat × (Nat → Int32)) (d : Nat) (a0 : Nat) (x1 : Int32) (h : jxH) : jx_C rc (d + 1) 230 [.ref a0, .int x1] h =
  if jx_is (jx_at h a0) 1 = true then
  if x1 < 0 then
    some (some (.int (0 : Int32)), h)
  else
    if (12 : Int32) ≤ x1 then
      some (some (.int (0 : Int32)), h)
    else
      (jx_gR (jx_at h a0) 1 1).bind fun b1 =>
      (jx_aI (jx_at h b1) 0 x1).bind fun v2 =>
      jx_cI (jx_C rc d 328 [.int v2] h) fun v4 h3 =>
      some (some (.int v4), h3)
  else none :=
  jx_enter ((jx_G_run (jx_X_grows rc jx_dflt jx_mt d) 15 (0, [(0, .ref a0), (1, .int x1)], [], h)).trans rfl)
-- RoomTrees$Forest.areNear(II)Z
set_option maxRecDepth 100000 in
theorem je_231 (rc : Nat → Nat × (Nat → Int32)) (d : Nat) (a0 : Nat) (x1 : Int32) (x2 : Int32) (h : jxH) : jx_C rc (d + 1) 231 [.ref a0, .int x1, .int x2] h =
  if jx_is (jx_at h a0) 1 = true then
  if x1 < 0 then
    if jx_bool (0 : Int32) = true then some (some (.int (0 : Int32)), h) else none
  else
    if (12 : Int32) ≤ x1 then
      if jx_bool (0 : Int32) = true then some (some (.int (0 : Int32)), h) else none
    else
      if x2 < 0 then
        if jx_bool (0 : Int32) = true then some (some (.int (0 : Int32)), h) else none
      else
        if (12 : Int32) ≤ x2 then
          if jx_bool (0 : Int32) = true then some (some (.int (0 : Int32)), h) else none
        else
          (jx_gR (jx_at h a0) 1 1).bind fun b1 =>
          (jx_aI (jx_at h b1) 0 x1).bind fun v2 =>
          if ((v2 >>> (x2 &&& 31)) &&& (1 : Int32)) = 0 then
            if jx_bool (0 : Int32) = true then some (some (.int (0 : Int32)), h) else none
          else
            if jx_bool (1 : Int32) = true then some (some (.int (1 : Int32)), h) else none
  else none :=
  jx_enter ((jx_G_run (jx_X_grows rc jx_dflt jx_mt d) 25 (0, [(0, .ref a0), (1, .int x1), (2, .int x2)], [], h)).trans rfl)
-- RoomTrees$Forest.edges()I
noncomputable def jb_232 (rc : Nat → Nat × (Nat → Int32)) (d : Nat) (i : Nat) (ls : List (Nat × Value)) (st : List Value) (h : jxH) : jxR := jx_G rc jx_dflt (jx_X rc jx_dflt jx_mt d) jc_232 (i, ls, st, h)
set_option maxRecDepth 100000 in
theorem je_232 (rc : Nat → Nat × (Nat → Int32)) (d : Nat) (a0 : Nat) (h : jxH) : jx_C rc (d + 1) 232 [.ref a0] h =
  if jx_is (jx_at h a0) 1 = true then
  jb_232 rc d 4 [(0, .ref a0), (1, .int (0 : Int32)), (2, .int (0 : Int32))] [] h
  else none :=
  jx_enter ((jx_G_run (jx_X_grows rc jx_dflt jx_mt d) 23 (0, [(0, .ref a0)], [], h)).trans rfl)
set_option maxRecDepth 100000 in
theorem je_232_4 (rc : Nat → Nat × (Nat → Int32)) (d : Nat) (a0 : Nat) (x1 : Int32) (x2 : Int32) (h : jxH) : jb_232 rc d 4 [(0, .ref a0), (1, .int x1), (2, .int x2)] [] h =
  if (12 : Int32) ≤ x2 then
    if (2 : Int32) = 0 then none else some (some (.int (x1 / (2 : Int32))), h)
  else
    (jx_gR (jx_at h a0) 1 1).bind fun b1 =>
    (jx_aI (jx_at h b1) 0 x2).bind fun v2 =>
    jx_cI (jx_C rc d 328 [.int v2] h) fun v4 h3 =>
    jb_232 rc d 4 [(0, .ref a0), (1, .int (x1 + v4)), (2, .int (x2 + (1 : Int32)))] [] h3 :=
  (jx_G_run (jx_X_grows rc jx_dflt jx_mt d) 23 _).trans rfl
-- RoomTrees$Forest.trees()I
set_option maxRecDepth 100000 in
theorem je_233 (rc : Nat → Nat × (Nat → Int32)) (d : Nat) (a0 : Nat) (h : jxH) : jx_C rc (d + 1) 233 [.ref a0] h =
  if jx_is (jx_at h a0) 1 = true then
  jx_cI (jx_C rc d 227 [.ref a0] h) fun v2 h1 =>
  jx_cI (jx_C rc d 232 [.ref a0] h1) fun v4 h3 =>
  some (some (.int (v2 - v4)), h3)
  else none :=
  jx_enter ((jx_G_run (jx_X_grows rc jx_dflt jx_mt d) 8 (0, [(0, .ref a0)], [], h)).trans rfl)
-- RoomTrees$Forest.weightSum()I
noncomputable def jb_234 (rc : Nat → Nat × (Nat → Int32)) (d : Nat) (i : Nat) (ls : List (Nat × Value)) (st : List Value) (h : jxH) : jxR := jx_G rc jx_dflt (jx_X rc jx_dflt jx_mt d) jc_234 (i, ls, st, h)
set_option maxRecDepth 100000 in
theorem je_234 (rc : Nat → Nat × (Nat → Int32)) (d : Nat) (a0 : Nat) (h : jxH) : jx_C rc (d + 1) 234 [.ref a0] h =
  if jx_is (jx_at h a0) 1 = true then
  jb_234 rc d 4 [(0, .ref a0), (1, .int (0 : Int32)), (2, .int (0 : Int32))] [] h
  else none :=
  jx_enter ((jx_G_run (jx_X_grows rc jx_dflt jx_mt d) 20 (0, [(0, .ref a0)], [], h)).trans rfl)
set_option maxRecDepth 100000 in
theorem je_234_4 (rc : Nat → Nat × (Nat → Int32)) (d : Nat) (a0 : Nat) (x1 : Int32) (x2 : Int32) (h : jxH) : jb_234 rc d 4 [(0, .ref a0), (1, .int x1), (2, .int x2)] [] h =
  if (12 : Int32) ≤ x2 then
    some (some (.int x1), h)
  else
    (jx_gR (jx_at h a0) 1 0).bind fun b1 =>
    (jx_aI (jx_at h b1) 0 x2).bind fun v2 =>
    jb_234 rc d 4 [(0, .ref a0), (1, .int (x1 + v2)), (2, .int (x2 + (1 : Int32)))] [] h :=
  (jx_G_run (jx_X_grows rc jx_dflt jx_mt d) 20 _).trans rfl
-- RoomTrees$Forest.isLine(I)Z
noncomputable def jb_235 (rc : Nat → Nat × (Nat → Int32)) (d : Nat) (i : Nat) (ls : List (Nat × Value)) (st : List Value) (h : jxH) : jxR := jx_G rc jx_dflt (jx_X rc jx_dflt jx_mt d) jc_235 (i, ls, st, h)
set_option maxRecDepth 100000 in
theorem je_235 (rc : Nat → Nat × (Nat → Int32)) (d : Nat) (a0 : Nat) (x1 : Int32) (h : jxH) : jx_C rc (d + 1) 235 [.ref a0, .int x1] h =
  if jx_is (jx_at h a0) 1 = true then
  jb_235 rc d 2 [(0, .ref a0), (1, .int x1), (2, .int (0 : Int32))] [] h
  else none :=
  jx_enter ((jx_G_run (jx_X_grows rc jx_dflt jx_mt d) 22 (0, [(0, .ref a0), (1, .int x1)], [], h)).trans rfl)
set_option maxRecDepth 100000 in
theorem je_235_2 (rc : Nat → Nat × (Nat → Int32)) (d : Nat) (a0 : Nat) (x1 : Int32) (x2 : Int32) (h : jxH) : jb_235 rc d 2 [(0, .ref a0), (1, .int x1), (2, .int x2)] [] h =
  if (12 : Int32) ≤ x2 then
    if jx_bool (1 : Int32) = true then some (some (.int (1 : Int32)), h) else none
  else
    jx_cI (jx_C rc d 60 [.int x2, .int x1] h) fun v2 h1 =>
    if v2 = 0 then
      jb_235 rc d 2 [(0, .ref a0), (1, .int x1), (2, .int (x2 + (1 : Int32)))] [] h1
    else
      jx_cI (jx_C rc d 230 [.ref a0, .int x2] h1) fun v4 h3 =>
      if v4 ≤ (2 : Int32) then
        jb_235 rc d 2 [(0, .ref a0), (1, .int x1), (2, .int (x2 + (1 : Int32)))] [] h3
      else
        if jx_bool (0 : Int32) = true then some (some (.int (0 : Int32)), h3) else none :=
  (jx_G_run (jx_X_grows rc jx_dflt jx_mt d) 22 _).trans rfl
-- RoomTrees$Forest.tableSum(I)I
noncomputable def jb_236 (rc : Nat → Nat × (Nat → Int32)) (d : Nat) (i : Nat) (ls : List (Nat × Value)) (st : List Value) (h : jxH) : jxR := jx_G rc jx_dflt (jx_X rc jx_dflt jx_mt d) jc_236 (i, ls, st, h)
set_option maxRecDepth 100000 in
theorem je_236 (rc : Nat → Nat × (Nat → Int32)) (d : Nat) (a0 : Nat) (x1 : Int32) (h : jxH) : jx_C rc (d + 1) 236 [.ref a0, .int x1] h =
  if jx_is (jx_at h a0) 1 = true then
  jb_236 rc d 4 [(0, .ref a0), (1, .int x1), (2, .int (0 : Int32)), (3, .int (0 : Int32))] [] h
  else none :=
  jx_enter ((jx_G_run (jx_X_grows rc jx_dflt jx_mt d) 32 (0, [(0, .ref a0), (1, .int x1)], [], h)).trans rfl)
set_option maxRecDepth 100000 in
theorem je_236_4 (rc : Nat → Nat × (Nat → Int32)) (d : Nat) (a0 : Nat) (x1 : Int32) (x2 : Int32) (x3 : Int32) (h : jxH) : jb_236 rc d 4 [(0, .ref a0), (1, .int x1), (2, .int x2), (3, .int x3)] [] h =
  if (12 : Int32) ≤ x3 then
    some (some (.int x2), h)
  else
    jx_cI (jx_C rc d 60 [.int x3, .int x1] h) fun v2 h1 =>
    if v2 = 0 then
      jb_236 rc d 4 [(0, .ref a0), (1, .int x1), (2, .int x2), (3, .int (x3 + (1 : Int32)))] [] h1
    else
      (jx_gR (jx_at h1 a0) 1 0).bind fun b3 =>
      (jx_aI (jx_at h1 b3) 0 x3).bind fun v4 =>
      (jx_gR (jx_at h1 a0) 1 1).bind fun b5 =>
      (jx_aI (jx_at h1 b5) 0 x3).bind fun v6 =>
      jx_cI (jx_C rc d 328 [.int (v6 &&& x1)] h1) fun v8 h7 =>
      jb_236 rc d 4 [(0, .ref a0), (1, .int x1), (2, .int (x2 + (v4 + v8))), (3, .int (x3 + (1 : Int32)))] [] h7 :=
  (jx_G_run (jx_X_grows rc jx_dflt jx_mt d) 32 _).trans rfl
-- RoomTrees$Forest.setWeight(II)V
set_option maxRecDepth 100000 in
theorem je_237 (rc : Nat → Nat × (Nat → Int32)) (d : Nat) (a0 : Nat) (x1 : Int32) (x2 : Int32) (h : jxH) : jx_C rc (d + 1) 237 [.ref a0, .int x1, .int x2] h =
  if jx_is (jx_at h a0) 1 = true then
  jx_cI (jx_C rc d 226 [.ref a0, .int x1] h) fun v2 h1 =>
  if v2 = 0 then
    some (none, h1)
  else
    (jx_gR (jx_at h1 a0) 1 0).bind fun b3 =>
    (jx_sI (jx_at h1 b3) 0 x1 x2).bind fun e4 =>
    some (none, (jx_set h1 b3 e4))
  else none :=
  jx_enter ((jx_G_run (jx_X_grows rc jx_dflt jx_mt d) 12 (0, [(0, .ref a0), (1, .int x1), (2, .int x2)], [], h)).trans rfl)
-- RoomTrees$Forest.addWeight(II)V
set_option maxRecDepth 100000 in
theorem je_238 (rc : Nat → Nat × (Nat → Int32)) (d : Nat) (a0 : Nat) (x1 : Int32) (x2 : Int32) (h : jxH) : jx_C rc (d + 1) 238 [.ref a0, .int x1, .int x2] h =
  if jx_is (jx_at h a0) 1 = true then
  jx_cI (jx_C rc d 226 [.ref a0, .int x1] h) fun v2 h1 =>
  if v2 = 0 then
    some (none, h1)
  else
    (jx_gR (jx_at h1 a0) 1 0).bind fun b3 =>
    (jx_aI (jx_at h1 b3) 0 x1).bind fun v4 =>
    (jx_sI (jx_at h1 b3) 0 x1 (v4 + x2)).bind fun e5 =>
    some (none, (jx_set h1 b3 e5))
  else none :=
  jx_enter ((jx_G_run (jx_X_grows rc jx_dflt jx_mt d) 15 (0, [(0, .ref a0), (1, .int x1), (2, .int x2)], [], h)).trans rfl)
-- RoomTrees$Forest.mirror()V
noncomputable def jb_239 (rc : Nat → Nat × (Nat → Int32)) (d : Nat) (i : Nat) (ls : List (Nat × Value)) (st : List Value) (h : jxH) : jxR := jx_G rc jx_dflt (jx_X rc jx_dflt jx_mt d) jc_239 (i, ls, st, h)
set_option maxRecDepth 100000 in
theorem je_239 (rc : Nat → Nat × (Nat → Int32)) (d : Nat) (a0 : Nat) (h : jxH) : jx_C rc (d + 1) 239 [.ref a0] h =
  if jx_is (jx_at h a0) 1 = true then
  jb_239 rc d 2 [(0, .ref a0), (1, .int (0 : Int32))] [] h
  else none :=
  jx_enter ((jx_G_run (jx_X_grows rc jx_dflt jx_mt d) 19 (0, [(0, .ref a0)], [], h)).trans rfl)
set_option maxRecDepth 100000 in
theorem je_239_2 (rc : Nat → Nat × (Nat → Int32)) (d : Nat) (a0 : Nat) (x1 : Int32) (h : jxH) : jb_239 rc d 2 [(0, .ref a0), (1, .int x1)] [] h =
  if (12 : Int32) ≤ x1 then
    some (none, h)
  else
    (jx_gR (jx_at h a0) 1 0).bind fun b1 =>
    (jx_gR (jx_at h a0) 1 0).bind fun b2 =>
    (jx_aI (jx_at h b2) 0 x1).bind fun v3 =>
    (jx_sI (jx_at h b1) 0 x1 (-v3)).bind fun e4 =>
    jb_239 rc d 2 [(0, .ref a0), (1, .int (x1 + (1 : Int32)))] [] (jx_set h b1 e4) :=
  (jx_G_run (jx_X_grows rc jx_dflt jx_mt d) 19 _).trans rfl
