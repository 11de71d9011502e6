-- RoomTreesModel.goesDown([II)V
noncomputable def jb_95 (rc : Nat → Nat × (Nat → Int32)) (d : Nat) (i : Nat) (ls : List (Nat × Value)) (st : List Value) (h : jxH) : jxR := jx_G rc jx_dflt (jx_X rc jx_dflt jx_mt d) jc_95 (i, ls, st, h)
set_option maxRecDepth 100000 in
theorem je_95 (rc : Nat → Nat × (Nat → Int32)) (d : Nat) (a0 : Nat) (x1 : Int32) (h : jxH) : jx_C rc (d + 1) 95 [.ref a0, .int x1] h =
  (jx_aI (jx_at h a0) 0 ((1 : Int32) + x1)).bind fun v1 =>
  (jx_aI (jx_at h a0) 0 ((13 : Int32) + x1)).bind fun v2 =>
  jb_95 rc d 14 [(0, .ref a0), (1, .int x1), (2, .int v1), (3, .int v2), (4, .int (0 : Int32))] [] h :=
  (jx_G_run (jx_X_grows rc jx_dflt jx_mt d) 54 (0, [(0, .ref a0), (1, .int x1)], [], h)).trans rfl
set_option maxRecDepth 100000 in
theorem je_95_14 (rc : Nat → Nat × (Nat → Int32)) (d : Nat) (a0 : Nat) (x1 : Int32) (x2 : Int32) (x3 : Int32) (x4 : Int32) (h : jxH) : jb_95 rc d 14 [(0, .ref a0), (1, .int x1), (2, .int x2), (3, .int x3), (4, .int x4)] [] h =
  if (12 : Int32) ≤ x4 then
    jx_cV (jx_C rc d 84 [.ref a0, .int x1] h) fun h1 =>
    jx_cI (jx_C rc d 76 [.int x3] h1) fun v3 h2 =>
    if v3 = (2 : Int32) then
      jx_cI (jx_C rc d 77 [.int x3] h2) fun v5 h4 =>
      jx_cI (jx_C rc d 77 [.int (x3 &&& (x3 - (1 : Int32)))] h4) fun v7 h6 =>
      jx_cV (jx_C rc d 82 [.ref a0, .int v5, .int v7] h6) fun h8 =>
      some (none, h8)
    else
      some (none, h2)
  else
    (jx_aI (jx_at h a0) 0 ((1 : Int32) + x4)).bind fun v9 =>
    jx_cI (jx_C rc d 75 [.int x3, .int x4] h) fun v11 h10 =>
    if v11 = 0 then
      (jx_sI (jx_at h10 a0) 0 ((1 : Int32) + x4) (v9 - (0 : Int32))).bind fun e12 =>
      jb_95 rc d 14 [(0, .ref a0), (1, .int x1), (2, .int x2), (3, .int x3), (4, .int (x4 + (1 : Int32)))] [] (jx_set h10 a0 e12)
    else
      (jx_sI (jx_at h10 a0) 0 ((1 : Int32) + x4) (v9 - x2)).bind fun e13 =>
      jb_95 rc d 14 [(0, .ref a0), (1, .int x1), (2, .int x2), (3, .int x3), (4, .int (x4 + (1 : Int32)))] [] (jx_set h10 a0 e13) :=
  (jx_G_run (jx_X_grows rc jx_dflt jx_mt d) 54 _).trans rfl
-- RoomTreesModel.goesUp([IIII)V
set_option maxRecDepth 100000 in
theorem je_96 (rc : Nat → Nat × (Nat → Int32)) (d : Nat) (a0 : Nat) (x1 : Int32) (x2 : Int32) (x3 : Int32) (h : jxH) : jx_C rc (d + 1) 96 [.ref a0, .int x1, .int x2, .int x3] h =
  (jx_aI (jx_at h a0) 0 ((1 : Int32) + x1)).bind fun v1 =>
  (jx_sI (jx_at h a0) 0 ((1 : Int32) + x1) (v1 + x3)).bind fun e2 =>
  (jx_aI (jx_at (jx_set h a0 e2) a0) 0 ((1 : Int32) + x2)).bind fun v3 =>
  (jx_sI (jx_at (jx_set h a0 e2) a0) 0 ((1 : Int32) + x2) (v3 + x3)).bind fun e4 =>
  jx_cV (jx_C rc d 83 [.ref a0, .int x1, .int x2] (jx_set (jx_set h a0 e2) a0 e4)) fun h5 =>
  jx_cI (jx_C rc d 81 [.ref a0, .int x3] h5) fun v7 h6 =>
  jx_cV (jx_C rc d 82 [.ref a0, .int v7, .int x1] h6) fun h8 =>
  jx_cV (jx_C rc d 82 [.ref a0, .int v7, .int x2] h8) fun h9 =>
  some (none, h9) :=
  (jx_G_run (jx_X_grows rc jx_dflt jx_mt d) 37 (0, [(0, .ref a0), (1, .int x1), (2, .int x2), (3, .int x3)], [], h)).trans rfl
-- RoomTreesModel.absorbs([II)V
noncomputable def jb_97 (rc : Nat → Nat × (Nat → Int32)) (d : Nat) (i : Nat) (ls : List (Nat × Value)) (st : List Value) (h : jxH) : jxR := jx_G rc jx_dflt (jx_X rc jx_dflt jx_mt d) jc_97 (i, ls, st, h)
set_option maxRecDepth 100000 in
theorem je_97 (rc : Nat → Nat × (Nat → Int32)) (d : Nat) (a0 : Nat) (x1 : Int32) (h : jxH) : jx_C rc (d + 1) 97 [.ref a0, .int x1] h =
  jx_cI (jx_C rc d 87 [.ref a0, .int x1] h) fun v2 h1 =>
  jx_cI (jx_C rc d 88 [.ref a0, .int x1] h1) fun v4 h3 =>
  (jx_aI (jx_at h3 a0) 0 ((1 : Int32) + v2)).bind fun v5 =>
  (jx_aI (jx_at h3 a0) 0 ((1 : Int32) + v4)).bind fun v6 =>
  (jx_sI (jx_at h3 a0) 0 ((1 : Int32) + v2) (v5 + v6)).bind fun e7 =>
  (jx_aI (jx_at (jx_set h3 a0 e7) a0) 0 ((13 : Int32) + v4)).bind fun v8 =>
  jb_97 rc d 29 [(0, .ref a0), (1, .int x1), (2, .int v2), (3, .int v4), (4, .int v8), (5, .int (0 : Int32))] [] (jx_set h3 a0 e7) :=
  (jx_G_run (jx_X_grows rc jx_dflt jx_mt d) 54 (0, [(0, .ref a0), (1, .int x1)], [], h)).trans rfl
set_option maxRecDepth 100000 in
theorem je_97_29 (rc : Nat → Nat × (Nat → Int32)) (d : Nat) (a0 : Nat) (x1 : Int32) (x2 : Int32) (x3 : Int32) (x4 : Int32) (x5 : Int32) (h : jxH) : jb_97 rc d 29 [(0, .ref a0), (1, .int x1), (2, .int x2), (3, .int x3), (4, .int x4), (5, .int x5)] [] h =
  if (12 : Int32) ≤ x5 then
    jx_cV (jx_C rc d 84 [.ref a0, .int x1] h) fun h1 =>
    jx_cV (jx_C rc d 84 [.ref a0, .int x3] h1) fun h2 =>
    some (none, h2)
  else
    jx_cI (jx_C rc d 75 [.int x4, .int x5] h) fun v4 h3 =>
    if v4 = 0 then
      jb_97 rc d 29 [(0, .ref a0), (1, .int x1), (2, .int x2), (3, .int x3), (4, .int x4), (5, .int (x5 + (1 : Int32)))] [] h3
    else
      if x5 = x1 then
        jb_97 rc d 29 [(0, .ref a0), (1, .int x1), (2, .int x2), (3, .int x3), (4, .int x4), (5, .int (x5 + (1 : Int32)))] [] h3
      else
        jx_cV (jx_C rc d 82 [.ref a0, .int x2, .int x5] h3) fun h5 =>
        jb_97 rc d 29 [(0, .ref a0), (1, .int x1), (2, .int x2), (3, .int x3), (4, .int x4), (5, .int (x5 + (1 : Int32)))] [] h5 :=
  (jx_G_run (jx_X_grows rc jx_dflt jx_mt d) 54 _).trans rfl
-- RoomTreesModel.draws([IIII)V
noncomputable def jb_98 (rc : Nat → Nat × (Nat → Int32)) (d : Nat) (i : Nat) (ls : List (Nat × Value)) (st : List Value) (h : jxH) : jxR := jx_G rc jx_dflt (jx_X rc jx_dflt jx_mt d) jc_98 (i, ls, st, h)
set_option maxRecDepth 100000 in
theorem je_98 (rc : Nat → Nat × (Nat → Int32)) (d : Nat) (a0 : Nat) (x1 : Int32) (x2 : Int32) (x3 : Int32) (h : jxH) : jx_C rc (d + 1) 98 [.ref a0, .int x1, .int x2, .int x3] h =
  (jx_aI (jx_at h a0) 0 ((1 : Int32) + x1)).bind fun v1 =>
  (jx_sI (jx_at h a0) 0 ((1 : Int32) + x1) (v1 - x2)).bind fun e2 =>
  jx_cI (jx_C rc d 81 [.ref a0, .int (0 : Int32)] (jx_set h a0 e2)) fun v4 h3 =>
  jx_cI (jx_C rc d 81 [.ref a0, .int x2] h3) fun v6 h5 =>
  jb_98 rc d 19 [(0, .ref a0), (1, .int x1), (3, .int x3), (4, .int v4), (5, .int v6), (6, .int (0 : Int32))] [] h5 :=
  (jx_G_run (jx_X_grows rc jx_dflt jx_mt d) 47 (0, [(0, .ref a0), (1, .int x1), (2, .int x2), (3, .int x3)], [], h)).trans rfl
set_option maxRecDepth 100000 in
theorem je_98_19 (rc : Nat → Nat × (Nat → Int32)) (d : Nat) (a0 : Nat) (x1 : Int32) (x3 : Int32) (x4 : Int32) (x5 : Int32) (x6 : Int32) (h : jxH) : jb_98 rc d 19 [(0, .ref a0), (1, .int x1), (3, .int x3), (4, .int x4), (5, .int x5), (6, .int x6)] [] h =
  if (12 : Int32) ≤ x6 then
    jx_cV (jx_C rc d 82 [.ref a0, .int x4, .int x1] h) fun h1 =>
    jx_cV (jx_C rc d 82 [.ref a0, .int x5, .int x4] h1) fun h2 =>
    some (none, h2)
  else
    jx_cI (jx_C rc d 75 [.int x3, .int x6] h) fun v4 h3 =>
    if v4 = 0 then
      jb_98 rc d 19 [(0, .ref a0), (1, .int x1), (3, .int x3), (4, .int x4), (5, .int x5), (6, .int (x6 + (1 : Int32)))] [] h3
    else
      jx_cV (jx_C rc d 83 [.ref a0, .int x1, .int x6] h3) fun h5 =>
      jx_cV (jx_C rc d 82 [.ref a0, .int x5, .int x6] h5) fun h6 =>
      jb_98 rc d 19 [(0, .ref a0), (1, .int x1), (3, .int x3), (4, .int x4), (5, .int x5), (6, .int (x6 + (1 : Int32)))] [] h6 :=
  (jx_G_run (jx_X_grows rc jx_dflt jx_mt d) 47 _).trans rfl
-- RoomTreesModel.does([IIIIII)V
noncomputable def jb_99 (rc : Nat → Nat × (Nat → Int32)) (d : Nat) (i : Nat) (ls : List (Nat × Value)) (st : List Value) (h : jxH) : jxR := jx_G rc jx_dflt (jx_X rc jx_dflt jx_mt d) jc_99 (i, ls, st, h)
set_option maxRecDepth 100000 in
theorem je_99 (rc : Nat → Nat × (Nat → Int32)) (d : Nat) (a0 : Nat) (x1 : Int32) (x2 : Int32) (x3 : Int32) (x4 : Int32) (x5 : Int32) (h : jxH) : jx_C rc (d + 1) 99 [.ref a0, .int x1, .int x2, .int x3, .int x4, .int x5] h =
  if x1 = (0 : Int32) then
    jx_cV (jx_C rc d 95 [.ref a0, .int x2] h) fun h1 =>
    some (none, h1)
  else if x1 = ((0 : Int32) + 1) then
    jx_cV (jx_C rc d 96 [.ref a0, .int x2, .int x3, .int x4] h) fun h2 =>
    some (none, h2)
  else if x1 = (((0 : Int32) + 1) + 1) then
    (jx_aI (jx_at h a0) 0 ((1 : Int32) + x2)).bind fun v3 =>
    (jx_sI (jx_at h a0) 0 ((1 : Int32) + x2) (v3 + x4)).bind fun e4 =>
    jx_cI (jx_C rc d 81 [.ref a0, .int x4] (jx_set h a0 e4)) fun v6 h5 =>
    jx_cV (jx_C rc d 82 [.ref a0, .int v6, .int x2] h5) fun h7 =>
    some (none, h7)
  else if x1 = ((((0 : Int32) + 1) + 1) + 1) then
    jx_cI (jx_C rc d 81 [.ref a0, .int x4] h) fun v9 h8 =>
    some (none, h8)
  else if x1 = (((((0 : Int32) + 1) + 1) + 1) + 1) then
    jx_cV (jx_C rc d 97 [.ref a0, .int x2] h) fun h10 =>
    some (none, h10)
  else if x1 = ((((((0 : Int32) + 1) + 1) + 1) + 1) + 1) then
    jx_cI (jx_C rc d 87 [.ref a0, .int x2] h) fun v12 h11 =>
    jx_cV (jx_C rc d 84 [.ref a0, .int x2] h11) fun h13 =>
    jx_cV (jx_C rc d 84 [.ref a0, .int v12] h13) fun h14 =>
    some (none, h14)
  else if x1 = (((((((0 : Int32) + 1) + 1) + 1) + 1) + 1) + 1) then
    jb_99 rc d 50 [(0, .ref a0), (6, .int (0 : Int32))] [] h
  else 
    jx_cV (jx_C rc d 98 [.ref a0, .int x2, .int x4, .int x5] h) fun h15 =>
    some (none, h15) :=
  (jx_G_run (jx_X_grows rc jx_dflt jx_mt d) 75 (0, [(0, .ref a0), (1, .int x1), (2, .int x2), (3, .int x3), (4, .int x4), (5, .int x5)], [], h)).trans rfl
set_option maxRecDepth 100000 in
theorem je_99_50 (rc : Nat → Nat × (Nat → Int32)) (d : Nat) (a0 : Nat) (x6 : Int32) (h : jxH) : jb_99 rc d 50 [(0, .ref a0), (6, .int x6)] [] h =
  if (12 : Int32) ≤ x6 then
    some (none, h)
  else
    (jx_aI (jx_at h a0) 0 ((1 : Int32) + x6)).bind fun v1 =>
    (jx_sI (jx_at h a0) 0 ((1 : Int32) + x6) (-v1)).bind fun e2 =>
    jb_99 rc d 50 [(0, .ref a0), (6, .int (x6 + (1 : Int32)))] [] (jx_set h a0 e2) :=
  (jx_G_run (jx_X_grows rc jx_dflt jx_mt d) 75 _).trans rfl
-- RoomTreesModel.byHand()V
set_option maxRecDepth 100000 in
theorem je_100 (rc : Nat → Nat × (Nat → Int32)) (d : Nat) (a0 : Nat) (h : jxH) : jx_C rc (d + 1) 100 [.ref a0] h =
  if jx_is (jx_at h a0) 12 = true then
  (jx_pF (jx_at h a0) 12 4 (.int (0 : Int32))).bind fun e1 =>
  (jx_pF (jx_at (jx_set h a0 e1) a0) 12 5 (.int (0 : Int32))).bind fun e2 =>
  some (none, (jx_set (jx_set h a0 e1) a0 e2))
  else none :=
  jx_enter ((jx_G_run (jx_X_grows rc jx_dflt jx_mt d) 9 (0, [(0, .ref a0)], [], h)).trans rfl)
-- RoomTreesModel.goes(IIIII)V
noncomputable def jb_101 (rc : Nat → Nat × (Nat → Int32)) (d : Nat) (i : Nat) (ls : List (Nat × Value)) (st : List Value) (h : jxH) : jxR := jx_G rc jx_dflt (jx_X rc jx_dflt jx_mt d) jc_101 (i, ls, st, h)
set_option maxRecDepth 100000 in
theorem je_101 (rc : Nat → Nat × (Nat → Int32)) (d : Nat) (a0 : Nat) (x1 : Int32) (x2 : Int32) (x3 : Int32) (x4 : Int32) (x5 : Int32) (h : jxH) : jx_C rc (d + 1) 101 [.ref a0, .int x1, .int x2, .int x3, .int x4, .int x5] h =
  if jx_is (jx_at h a0) 12 = true then
  (jx_gR (jx_at h a0) 12 1).bind fun b1 =>
  (jx_gR (jx_at h a0) 12 2).bind fun b2 =>
  (jx_gI (jx_at h a0) 12 4).bind fun v3 =>
  (jx_aQ (jx_at h b2) 8 v3).bind fun o4 =>
  jx_mo o4 (fun b5 => jx_cV (jx_C rc d 74 [.ref b1, .ref b5] h) fun h6 =>
    (jx_gI (jx_at h6 a0) 12 4).bind fun v7 =>
    (jx_gR (jx_at h6 a0) 12 3).bind fun b8 =>
    (jx_sI (jx_at h6 b8) 0 ((6 : Int32) * v7) x1).bind fun e9 =>
    (jx_gR (jx_at (jx_set h6 b8 e9) a0) 12 3).bind fun b10 =>
    if x1 = (3 : Int32) then
      (jx_sI (jx_at (jx_set h6 b8 e9) b10) 0 (((6 : Int32) * v7) + (1 : Int32)) (0 : Int32)).bind fun e11 =>
      (jx_gR (jx_at (jx_set (jx_set h6 b8 e9) b10 e11) a0) 12 3).bind fun b12 =>
      if x1 = (1 : Int32) then
        jb_101 rc d 44 [(0, .ref a0), (1, .int x1), (2, .int x2), (3, .int x3), (4, .int x4), (5, .int x5), (6, .int ((6 : Int32) * v7))] [.int x3, .int (((6 : Int32) * v7) + (2 : Int32)), .ref b12] (jx_set (jx_set h6 b8 e9) b10 e11)
      else
        jb_101 rc d 44 [(0, .ref a0), (1, .int x1), (2, .int x2), (3, .int x3), (4, .int x4), (5, .int x5), (6, .int ((6 : Int32) * v7))] [.int (0 : Int32), .int (((6 : Int32) * v7) + (2 : Int32)), .ref b12] (jx_set (jx_set h6 b8 e9) b10 e11)
    else
      if x1 = (6 : Int32) then
        (jx_sI (jx_at (jx_set h6 b8 e9) b10) 0 (((6 : Int32) * v7) + (1 : Int32)) (0 : Int32)).bind fun e13 =>
        (jx_gR (jx_at (jx_set (jx_set h6 b8 e9) b10 e13) a0) 12 3).bind fun b14 =>
        if x1 = (1 : Int32) then
          jb_101 rc d 44 [(0, .ref a0), (1, .int x1), (2, .int x2), (3, .int x3), (4, .int x4), (5, .int x5), (6, .int ((6 : Int32) * v7))] [.int x3, .int (((6 : Int32) * v7) + (2 : Int32)), .ref b14] (jx_set (jx_set h6 b8 e9) b10 e13)
        else
          jb_101 rc d 44 [(0, .ref a0), (1, .int x1), (2, .int x2), (3, .int x3), (4, .int x4), (5, .int x5), (6, .int ((6 : Int32) * v7))] [.int (0 : Int32), .int (((6 : Int32) * v7) + (2 : Int32)), .ref b14] (jx_set (jx_set h6 b8 e9) b10 e13)
      else
        (jx_sI (jx_at (jx_set h6 b8 e9) b10) 0 (((6 : Int32) * v7) + (1 : Int32)) x2).bind fun e15 =>
        (jx_gR (jx_at (jx_set (jx_set h6 b8 e9) b10 e15) a0) 12 3).bind fun b16 =>
        if x1 = (1 : Int32) then
          jb_101 rc d 44 [(0, .ref a0), (1, .int x1), (2, .int x2), (3, .int x3), (4, .int x4), (5, .int x5), (6, .int ((6 : Int32) * v7))] [.int x3, .int (((6 : Int32) * v7) + (2 : Int32)), .ref b16] (jx_set (jx_set h6 b8 e9) b10 e15)
        else
          jb_101 rc d 44 [(0, .ref a0), (1, .int x1), (2, .int x2), (3, .int x3), (4, .int x4), (5, .int x5), (6, .int ((6 : Int32) * v7))] [.int (0 : Int32), .int (((6 : Int32) * v7) + (2 : Int32)), .ref b16] (jx_set (jx_set h6 b8 e9) b10 e15))
  (jx_cV (jx_C rc d 74 [.ref b1, .null] h) fun h17 =>
    (jx_gI (jx_at h17 a0) 12 4).bind fun v18 =>
    (jx_gR (jx_at h17 a0) 12 3).bind fun b19 =>
    (jx_sI (jx_at h17 b19) 0 ((6 : Int32) * v18) x1).bind fun e20 =>
    (jx_gR (jx_at (jx_set h17 b19 e20) a0) 12 3).bind fun b21 =>
    if x1 = (3 : Int32) then
      (jx_sI (jx_at (jx_set h17 b19 e20) b21) 0 (((6 : Int32) * v18) + (1 : Int32)) (0 : Int32)).bind fun e22 =>
      (jx_gR (jx_at (jx_set (jx_set h17 b19 e20) b21 e22) a0) 12 3).bind fun b23 =>
      if x1 = (1 : Int32) then
        jb_101 rc d 44 [(0, .ref a0), (1, .int x1), (2, .int x2), (3, .int x3), (4, .int x4), (5, .int x5), (6, .int ((6 : Int32) * v18))] [.int x3, .int (((6 : Int32) * v18) + (2 : Int32)), .ref b23] (jx_set (jx_set h17 b19 e20) b21 e22)
      else
        jb_101 rc d 44 [(0, .ref a0), (1, .int x1), (2, .int x2), (3, .int x3), (4, .int x4), (5, .int x5), (6, .int ((6 : Int32) * v18))] [.int (0 : Int32), .int (((6 : Int32) * v18) + (2 : Int32)), .ref b23] (jx_set (jx_set h17 b19 e20) b21 e22)
    else
      if x1 = (6 : Int32) then
        (jx_sI (jx_at (jx_set h17 b19 e20) b21) 0 (((6 : Int32) * v18) + (1 : Int32)) (0 : Int32)).bind fun e24 =>
        (jx_gR (jx_at (jx_set (jx_set h17 b19 e20) b21 e24) a0) 12 3).bind fun b25 =>
        if x1 = (1 : Int32) then
          jb_101 rc d 44 [(0, .ref a0), (1, .int x1), (2, .int x2), (3, .int x3), (4, .int x4), (5, .int x5), (6, .int ((6 : Int32) * v18))] [.int x3, .int (((6 : Int32) * v18) + (2 : Int32)), .ref b25] (jx_set (jx_set h17 b19 e20) b21 e24)
        else
          jb_101 rc d 44 [(0, .ref a0), (1, .int x1), (2, .int x2), (3, .int x3), (4, .int x4), (5, .int x5), (6, .int ((6 : Int32) * v18))] [.int (0 : Int32), .int (((6 : Int32) * v18) + (2 : Int32)), .ref b25] (jx_set (jx_set h17 b19 e20) b21 e24)
      else
        (jx_sI (jx_at (jx_set h17 b19 e20) b21) 0 (((6 : Int32) * v18) + (1 : Int32)) x2).bind fun e26 =>
        (jx_gR (jx_at (jx_set (jx_set h17 b19 e20) b21 e26) a0) 12 3).bind fun b27 =>
        if x1 = (1 : Int32) then
          jb_101 rc d 44 [(0, .ref a0), (1, .int x1), (2, .int x2), (3, .int x3), (4, .int x4), (5, .int x5), (6, .int ((6 : Int32) * v18))] [.int x3, .int (((6 : Int32) * v18) + (2 : Int32)), .ref b27] (jx_set (jx_set h17 b19 e20) b21 e26)
        else
          jb_101 rc d 44 [(0, .ref a0), (1, .int x1), (2, .int x2), (3, .int x3), (4, .int x4), (5, .int x5), (6, .int ((6 : Int32) * v18))] [.int (0 : Int32), .int (((6 : Int32) * v18) + (2 : Int32)), .ref b27] (jx_set (jx_set h17 b19 e20) b21 e26))
  else none :=
  jx_enter ((jx_G_run (jx_X_grows rc jx_dflt jx_mt d) 116 (0, [(0, .ref a0), (1, .int x1), (2, .int x2), (3, .int x3), (4, .int x4), (5, .int x5)], [], h)).trans rfl)
set_option maxRecDepth 100000 in
theorem je_101_44 (rc : Nat → Nat × (Nat → Int32)) (d : Nat) (a0 : Nat) (x1 : Int32) (x2 : Int32) (x3 : Int32) (x4 : Int32) (x5 : Int32) (x6 : Int32) (s0 : Nat) (s1 : Int32) (s2 : Int32) (h : jxH) : jb_101 rc d 44 [(0, .ref a0), (1, .int x1), (2, .int x2), (3, .int x3), (4, .int x4), (5, .int x5), (6, .int x6)] [.int s2, .int s1, .ref s0] h =
  (jx_sI (jx_at h s0) 0 s1 s2).bind fun e1 =>
  (jx_gR (jx_at (jx_set h s0 e1) a0) 12 3).bind fun b2 =>
  jx_cI (jx_C rc d 72 [.long (x1).toInt64, .long (1 : Int64), .long (3 : Int64)] (jx_set h s0 e1)) fun v4 h3 =>
  if v4 = 0 then
    if x1 = (7 : Int32) then
      (jx_sI (jx_at h3 b2) 0 (x6 + (3 : Int32)) x4).bind fun e5 =>
      (jx_gR (jx_at (jx_set h3 b2 e5) a0) 12 3).bind fun b6 =>
      if x1 = (7 : Int32) then
        jb_101 rc d 74 [(0, .ref a0), (1, .int x1), (2, .int x2), (3, .int x3), (4, .int x4), (5, .int x5), (6, .int x6)] [.int x5, .int (x6 + (4 : Int32)), .ref b6] (jx_set h3 b2 e5)
      else
        jb_101 rc d 74 [(0, .ref a0), (1, .int x1), (2, .int x2), (3, .int x3), (4, .int x4), (5, .int x5), (6, .int x6)] [.int (0 : Int32), .int (x6 + (4 : Int32)), .ref b6] (jx_set h3 b2 e5)
    else
      (jx_sI (jx_at h3 b2) 0 (x6 + (3 : Int32)) (0 : Int32)).bind fun e7 =>
      (jx_gR (jx_at (jx_set h3 b2 e7) a0) 12 3).bind fun b8 =>
      if x1 = (7 : Int32) then
        jb_101 rc d 74 [(0, .ref a0), (1, .int x1), (2, .int x2), (3, .int x3), (4, .int x4), (5, .int x5), (6, .int x6)] [.int x5, .int (x6 + (4 : Int32)), .ref b8] (jx_set h3 b2 e7)
      else
        jb_101 rc d 74 [(0, .ref a0), (1, .int x1), (2, .int x2), (3, .int x3), (4, .int x4), (5, .int x5), (6, .int x6)] [.int (0 : Int32), .int (x6 + (4 : Int32)), .ref b8] (jx_set h3 b2 e7)
  else
    (jx_sI (jx_at h3 b2) 0 (x6 + (3 : Int32)) x4).bind fun e9 =>
    (jx_gR (jx_at (jx_set h3 b2 e9) a0) 12 3).bind fun b10 =>
    if x1 = (7 : Int32) then
      jb_101 rc d 74 [(0, .ref a0), (1, .int x1), (2, .int x2), (3, .int x3), (4, .int x4), (5, .int x5), (6, .int x6)] [.int x5, .int (x6 + (4 : Int32)), .ref b10] (jx_set h3 b2 e9)
    else
      jb_101 rc d 74 [(0, .ref a0), (1, .int x1), (2, .int x2), (3, .int x3), (4, .int x4), (5, .int x5), (6, .int x6)] [.int (0 : Int32), .int (x6 + (4 : Int32)), .ref b10] (jx_set h3 b2 e9) :=
  (jx_G_run (jx_X_grows rc jx_dflt jx_mt d) 116 _).trans rfl
set_option maxRecDepth 100000 in
theorem je_101_74 (rc : Nat → Nat × (Nat → Int32)) (d : Nat) (a0 : Nat) (x1 : Int32) (x2 : Int32) (x3 : Int32) (x4 : Int32) (x5 : Int32) (x6 : Int32) (s0 : Nat) (s1 : Int32) (s2 : Int32) (h : jxH) : jb_101 rc d 74 [(0, .ref a0), (1, .int x1), (2, .int x2), (3, .int x3), (4, .int x4), (5, .int x5), (6, .int x6)] [.int s2, .int s1, .ref s0] h =
  (jx_sI (jx_at h s0) 0 s1 s2).bind fun e1 =>
  (jx_gR (jx_at (jx_set h s0 e1) a0) 12 3).bind fun b2 =>
  (jx_gR (jx_at (jx_set h s0 e1) a0) 12 1).bind fun b3 =>
  jx_cI (jx_C rc d 94 [.ref b3, .int x1, .int x2, .int x4] (jx_set h s0 e1)) fun v5 h4 =>
  (jx_sI (jx_at h4 b2) 0 (x6 + (5 : Int32)) v5).bind fun e6 =>
  (jx_gR (jx_at (jx_set h4 b2 e6) a0) 12 1).bind fun b7 =>
  jx_cV (jx_C rc d 99 [.ref b7, .int x1, .int x2, .int x3, .int x4, .int x5] (jx_set h4 b2 e6)) fun h8 =>
  (jx_gI (jx_at h8 a0) 12 4).bind fun v9 =>
  (jx_pF (jx_at h8 a0) 12 4 (.int (v9 + (1 : Int32)))).bind fun e10 =>
  (jx_gI (jx_at (jx_set h8 a0 e10) a0) 12 4).bind fun v11 =>
  (jx_pF (jx_at (jx_set h8 a0 e10) a0) 12 5 (.int v11)).bind fun e12 =>
  (jx_gR (jx_at (jx_set (jx_set h8 a0 e10) a0 e12) a0) 12 1).bind fun b13 =>
  (jx_gR (jx_at (jx_set (jx_set h8 a0 e10) a0 e12) a0) 12 2).bind fun b14 =>
  (jx_gI (jx_at (jx_set (jx_set h8 a0 e10) a0 e12) a0) 12 4).bind fun v15 =>
  (jx_aQ (jx_at (jx_set (jx_set h8 a0 e10) a0 e12) b14) 8 v15).bind fun o16 =>
  jx_mo o16 (fun b17 => jx_cV (jx_C rc d 74 [.ref b13, .ref b17] (jx_set (jx_set h8 a0 e10) a0 e12)) fun h18 =>
    some (none, h18))
  (jx_cV (jx_C rc d 74 [.ref b13, .null] (jx_set (jx_set h8 a0 e10) a0 e12)) fun h19 =>
    some (none, h19)) :=
  (jx_G_run (jx_X_grows rc jx_dflt jx_mt d) 116 _).trans rfl
-- RoomTreesModel.move(IIIII)I
noncomputable def jb_102 (rc : Nat → Nat × (Nat → Int32)) (d : Nat) (i : Nat) (ls : List (Nat × Value)) (st : List Value) (h : jxH) : jxR := jx_G rc jx_dflt (jx_X rc jx_dflt jx_mt d) jc_102 (i, ls, st, h)
set_option maxRecDepth 100000 in
theorem je_102 (rc : Nat → Nat × (Nat → Int32)) (d : Nat) (a0 : Nat) (x1 : Int32) (x2 : Int32) (x3 : Int32) (x4 : Int32) (x5 : Int32) (h : jxH) : jx_C rc (d + 1) 102 [.ref a0, .int x1, .int x2, .int x3, .int x4, .int x5] h =
  if jx_is (jx_at h a0) 12 = true then
  (jx_gR (jx_at h a0) 12 1).bind fun b1 =>
  jx_cI (jx_C rc d 93 [.ref b1, .int x1, .int x2, .int x3, .int x4, .int x5] h) fun v3 h2 =>
  if v3 = 0 then
    jb_102 rc d 14 [(0, .ref a0), (1, .int x1), (2, .int x2), (3, .int x3), (4, .int x4), (5, .int x5), (6, .int v3)] [] h2
  else
    if v3 = (5 : Int32) then
      jb_102 rc d 14 [(0, .ref a0), (1, .int x1), (2, .int x2), (3, .int x3), (4, .int x4), (5, .int x5), (6, .int v3)] [] h2
    else
      if v3 = 0 then
        jx_cV (jx_C rc d 101 [.ref a0, .int x1, .int x2, .int x3, .int x4, .int x5] h2) fun h4 =>
        (jx_gR (jx_at h4 a0) 12 1).bind fun b5 =>
        (jx_aI (jx_at h4 b5) 0 (0 : Int32)).bind fun v6 =>
        jx_cI (jx_C rc d 76 [.int v6] h4) fun v8 h7 =>
        some (some (.int v8), h7)
      else
        jx_cI (jx_C rc d 73 [.ref a0, .int v3] h2) fun v10 h9 =>
        some (some (.int v10), h9)
  else none :=
  jx_enter ((jx_G_run (jx_X_grows rc jx_dflt jx_mt d) 41 (0, [(0, .ref a0), (1, .int x1), (2, .int x2), (3, .int x3), (4, .int x4), (5, .int x5)], [], h)).trans rfl)
set_option maxRecDepth 100000 in
theorem je_102_14 (rc : Nat → Nat × (Nat → Int32)) (d : Nat) (a0 : Nat) (x1 : Int32) (x2 : Int32) (x3 : Int32) (x4 : Int32) (x5 : Int32) (x6 : Int32) (h : jxH) : jb_102 rc d 14 [(0, .ref a0), (1, .int x1), (2, .int x2), (3, .int x3), (4, .int x4), (5, .int x5), (6, .int x6)] [] h =
  (jx_gI (jx_at h a0) 12 4).bind fun v1 =>
  if v1 = (40 : Int32) then
    if (4 : Int32) = 0 then
      jx_cV (jx_C rc d 101 [.ref a0, .int x1, .int x2, .int x3, .int x4, .int x5] h) fun h2 =>
      (jx_gR (jx_at h2 a0) 12 1).bind fun b3 =>
      (jx_aI (jx_at h2 b3) 0 (0 : Int32)).bind fun v4 =>
      jx_cI (jx_C rc d 76 [.int v4] h2) fun v6 h5 =>
      some (some (.int v6), h5)
    else
      jx_cI (jx_C rc d 73 [.ref a0, .int (4 : Int32)] h) fun v8 h7 =>
      some (some (.int v8), h7)
  else
    if x6 = 0 then
      jx_cV (jx_C rc d 101 [.ref a0, .int x1, .int x2, .int x3, .int x4, .int x5] h) fun h9 =>
      (jx_gR (jx_at h9 a0) 12 1).bind fun b10 =>
      (jx_aI (jx_at h9 b10) 0 (0 : Int32)).bind fun v11 =>
      jx_cI (jx_C rc d 76 [.int v11] h9) fun v13 h12 =>
      some (some (.int v13), h12)
    else
      jx_cI (jx_C rc d 73 [.ref a0, .int x6] h) fun v15 h14 =>
      some (some (.int v15), h14) :=
  (jx_G_run (jx_X_grows rc jx_dflt jx_mt d) 41 _).trans rfl
-- RoomTreesModel.undo()I
set_option maxRecDepth 100000 in
theorem je_103 (rc : Nat → Nat × (Nat → Int32)) (d : Nat) (a0 : Nat) (h : jxH) : jx_C rc (d + 1) 103 [.ref a0] h =
  if jx_is (jx_at h a0) 12 = true then
  (jx_gI (jx_at h a0) 12 4).bind fun v1 =>
  if v1 = 0 then
    jx_cI (jx_C rc d 73 [.ref a0, .int (2 : Int32)] h) fun v3 h2 =>
    some (some (.int v3), h2)
  else
    (jx_gI (jx_at h a0) 12 4).bind fun v4 =>
    (jx_pF (jx_at h a0) 12 4 (.int (v4 - (1 : Int32)))).bind fun e5 =>
    (jx_gR (jx_at (jx_set h a0 e5) a0) 12 2).bind fun b6 =>
    (jx_gI (jx_at (jx_set h a0 e5) a0) 12 4).bind fun v7 =>
    (jx_aQ (jx_at (jx_set h a0 e5) b6) 8 v7).bind fun o8 =>
    jx_mo o8 (fun b9 => (jx_gR (jx_at (jx_set h a0 e5) a0) 12 1).bind fun b10 =>
      jx_cV (jx_C rc d 74 [.ref b9, .ref b10] (jx_set h a0 e5)) fun h11 =>
      (jx_gI (jx_at h11 a0) 12 4).bind fun v12 =>
      some (some (.int v12), h11))
    ((jx_gR (jx_at (jx_set h a0 e5) a0) 12 1).bind fun b13 =>
      jx_cV (jx_C rc d 74 [.null, .ref b13] (jx_set h a0 e5)) fun h14 =>
      (jx_gI (jx_at h14 a0) 12 4).bind fun v15 =>
      some (some (.int v15), h14))
  else none :=
  jx_enter ((jx_G_run (jx_X_grows rc jx_dflt jx_mt d) 26 (0, [(0, .ref a0)], [], h)).trans rfl)
-- RoomTreesModel.redo()I
set_option maxRecDepth 100000 in
theorem je_104 (rc : Nat → Nat × (Nat → Int32)) (d : Nat) (a0 : Nat) (h : jxH) : jx_C rc (d + 1) 104 [.ref a0] h =
  if jx_is (jx_at h a0) 12 = true then
  (jx_gI (jx_at h a0) 12 4).bind fun v1 =>
  (jx_gI (jx_at h a0) 12 5).bind fun v2 =>
  if v1 = v2 then
    jx_cI (jx_C rc d 73 [.ref a0, .int (2 : Int32)] h) fun v4 h3 =>
    some (some (.int v4), h3)
  else
    (jx_gI (jx_at h a0) 12 4).bind fun v5 =>
    (jx_pF (jx_at h a0) 12 4 (.int (v5 + (1 : Int32)))).bind fun e6 =>
    (jx_gR (jx_at (jx_set h a0 e6) a0) 12 2).bind fun b7 =>
    (jx_gI (jx_at (jx_set h a0 e6) a0) 12 4).bind fun v8 =>
    (jx_aQ (jx_at (jx_set h a0 e6) b7) 8 v8).bind fun o9 =>
    jx_mo o9 (fun b10 => (jx_gR (jx_at (jx_set h a0 e6) a0) 12 1).bind fun b11 =>
      jx_cV (jx_C rc d 74 [.ref b10, .ref b11] (jx_set h a0 e6)) fun h12 =>
      (jx_gI (jx_at h12 a0) 12 4).bind fun v13 =>
      some (some (.int v13), h12))
    ((jx_gR (jx_at (jx_set h a0 e6) a0) 12 1).bind fun b14 =>
      jx_cV (jx_C rc d 74 [.null, .ref b14] (jx_set h a0 e6)) fun h15 =>
      (jx_gI (jx_at h15 a0) 12 4).bind fun v16 =>
      some (some (.int v16), h15))
  else none :=
  jx_enter ((jx_G_run (jx_X_grows rc jx_dflt jx_mt d) 28 (0, [(0, .ref a0)], [], h)).trans rfl)
-- RoomTreesModel.trail(II)I
set_option maxRecDepth 100000 in
theorem je_105 (rc : Nat → Nat × (Nat → Int32)) (d : Nat) (a0 : Nat) (x1 : Int32) (x2 : Int32) (h : jxH) : jx_C rc (d + 1) 105 [.ref a0, .int x1, .int x2] h =
  if jx_is (jx_at h a0) 12 = true then
  jx_cI (jx_C rc d 72 [.long (x2).toInt64, .long (0 : Int64), .long (4 : Int64)] h) fun v2 h1 =>
  if v2 = 0 then
    jx_cI (jx_C rc d 73 [.ref a0, .int (1 : Int32)] h1) fun v4 h3 =>
    some (some (.int v4), h3)
  else
    (jx_gI (jx_at h1 a0) 12 4).bind fun v5 =>
    jx_cI (jx_C rc d 72 [.long (x1).toInt64, .long (0 : Int64), .long ((v5 - (1 : Int32))).toInt64] h1) fun v7 h6 =>
    if v7 = 0 then
      jx_cI (jx_C rc d 73 [.ref a0, .int (2 : Int32)] h6) fun v9 h8 =>
      some (some (.int v9), h8)
    else
      (jx_gR (jx_at h6 a0) 12 3).bind fun b10 =>
      (jx_aI (jx_at h6 b10) 0 (((6 : Int32) * x1) + x2)).bind fun v11 =>
      some (some (.int v11), h6)
  else none :=
  jx_enter ((jx_G_run (jx_X_grows rc jx_dflt jx_mt d) 35 (0, [(0, .ref a0), (1, .int x1), (2, .int x2)], [], h)).trans rfl)
-- RoomTreesModel.factor()I
noncomputable def jb_106 (rc : Nat → Nat × (Nat → Int32)) (d : Nat) (i : Nat) (ls : List (Nat × Value)) (st : List Value) (h : jxH) : jxR := jx_G rc jx_dflt (jx_X rc jx_dflt jx_mt d) jc_106 (i, ls, st, h)
set_option maxRecDepth 100000 in
theorem je_106 (rc : Nat → Nat × (Nat → Int32)) (d : Nat) (a0 : Nat) (h : jxH) : jx_C rc (d + 1) 106 [.ref a0] h =
  if jx_is (jx_at h a0) 12 = true then
  jb_106 rc d 4 [(0, .ref a0), (1, .int (1 : Int32)), (2, .int (0 : Int32))] [] h
  else none :=
  jx_enter ((jx_G_run (jx_X_grows rc jx_dflt jx_mt d) 25 (0, [(0, .ref a0)], [], h)).trans rfl)
set_option maxRecDepth 100000 in
theorem je_106_4 (rc : Nat → Nat × (Nat → Int32)) (d : Nat) (a0 : Nat) (x1 : Int32) (x2 : Int32) (h : jxH) : jb_106 rc d 4 [(0, .ref a0), (1, .int x1), (2, .int x2)] [] h =
  (jx_gI (jx_at h a0) 12 4).bind fun v1 =>
  if v1 ≤ x2 then
    some (some (.int x1), h)
  else
    (jx_gR (jx_at h a0) 12 3).bind fun b2 =>
    (jx_aI (jx_at h b2) 0 (((6 : Int32) * x2) + (5 : Int32))).bind fun v3 =>
    jb_106 rc d 4 [(0, .ref a0), (1, .int (x1 * v3)), (2, .int (x2 + (1 : Int32)))] [] h :=
  (jx_G_run (jx_X_grows rc jx_dflt jx_mt d) 25 _).trans rfl
-- RoomTreesModel.vertex(I)I
set_option maxRecDepth 100000 in
theorem je_107 (rc : Nat → Nat × (Nat → Int32)) (d : Nat) (a0 : Nat) (x1 : Int32) (h : jxH) : jx_C rc (d + 1) 107 [.ref a0, .int x1] h =
  if jx_is (jx_at h a0) 12 = true then
  jx_cI (jx_C rc d 80 [.int x1] h) fun v2 h1 =>
  if v2 = 0 then
    jx_cI (jx_C rc d 73 [.ref a0, .int (1 : Int32)] h1) fun v4 h3 =>
    some (some (.int v4), h3)
  else
    (jx_gR (jx_at h1 a0) 12 1).bind fun b5 =>
    (jx_aI (jx_at h1 b5) 0 (0 : Int32)).bind fun v6 =>
    jx_cI (jx_C rc d 76 [.int v6] h1) fun v8 h7 =>
    if v8 = (12 : Int32) then
      jx_cI (jx_C rc d 73 [.ref a0, .int (4 : Int32)] h7) fun v10 h9 =>
      some (some (.int v10), h9)
    else
      jx_cV (jx_C rc d 100 [.ref a0] h7) fun h11 =>
      (jx_gR (jx_at h11 a0) 12 1).bind fun b12 =>
      jx_cI (jx_C rc d 81 [.ref b12, .int x1] h11) fun v14 h13 =>
      some (some (.int v14), h13)
  else none :=
  jx_enter ((jx_G_run (jx_X_grows rc jx_dflt jx_mt d) 27 (0, [(0, .ref a0), (1, .int x1)], [], h)).trans rfl)
-- RoomTreesModel.weigh(II)I
set_option maxRecDepth 100000 in
theorem je_108 (rc : Nat → Nat × (Nat → Int32)) (d : Nat) (a0 : Nat) (x1 : Int32) (x2 : Int32) (h : jxH) : jx_C rc (d + 1) 108 [.ref a0, .int x1, .int x2] h =
  if jx_is (jx_at h a0) 12 = true then
  jx_cI (jx_C rc d 79 [.ref a0, .int x1] h) fun v2 h1 =>
  if v2 = 0 then
    jx_cI (jx_C rc d 73 [.ref a0, .int (1 : Int32)] h1) fun v4 h3 =>
    some (some (.int v4), h3)
  else
    jx_cI (jx_C rc d 80 [.int x2] h1) fun v6 h5 =>
    if v6 = 0 then
      jx_cI (jx_C rc d 73 [.ref a0, .int (1 : Int32)] h5) fun v8 h7 =>
      some (some (.int v8), h7)
    else
      jx_cV (jx_C rc d 100 [.ref a0] h5) fun h9 =>
      (jx_gR (jx_at h9 a0) 12 1).bind fun b10 =>
      (jx_aI (jx_at h9 b10) 0 ((1 : Int32) + x1)).bind fun v11 =>
      (jx_gR (jx_at h9 a0) 12 1).bind fun b12 =>
      (jx_sI (jx_at h9 b12) 0 ((1 : Int32) + x1) x2).bind fun e13 =>
      some (some (.int v11), (jx_set h9 b12 e13))
  else none :=
  jx_enter ((jx_G_run (jx_X_grows rc jx_dflt jx_mt d) 31 (0, [(0, .ref a0), (1, .int x1), (2, .int x2)], [], h)).trans rfl)
-- RoomTreesModel.tie(II)I
set_option maxRecDepth 100000 in
theorem je_109 (rc : Nat → Nat × (Nat → Int32)) (d : Nat) (a0 : Nat) (x1 : Int32) (x2 : Int32) (h : jxH) : jx_C rc (d + 1) 109 [.ref a0, .int x1, .int x2] h =
  if jx_is (jx_at h a0) 12 = true then
  jx_cI (jx_C rc d 79 [.ref a0, .int x1] h) fun v2 h1 =>
  if v2 = 0 then
    jx_cI (jx_C rc d 73 [.ref a0, .int (1 : Int32)] h1) fun v4 h3 =>
    some (some (.int v4), h3)
  else
    jx_cI (jx_C rc d 79 [.ref a0, .int x2] h1) fun v6 h5 =>
    if v6 = 0 then
      jx_cI (jx_C rc d 73 [.ref a0, .int (1 : Int32)] h5) fun v8 h7 =>
      some (some (.int v8), h7)
    else
      (jx_gR (jx_at h5 a0) 12 1).bind fun b9 =>
      jx_cI (jx_C rc d 85 [.ref b9, .int x1] h5) fun v11 h10 =>
      jx_cI (jx_C rc d 75 [.int v11, .int x2] h10) fun v13 h12 =>
      if v13 = 0 then
        jx_cV (jx_C rc d 100 [.ref a0] h12) fun h14 =>
        (jx_gR (jx_at h14 a0) 12 1).bind fun b15 =>
        jx_cV (jx_C rc d 82 [.ref b15, .int x1, .int x2] h14) fun h16 =>
        (jx_gR (jx_at h16 a0) 12 1).bind fun b17 =>
        jx_cI (jx_C rc d 86 [.ref b17] h16) fun v19 h18 =>
        some (some (.int v19), h18)
      else
        jx_cI (jx_C rc d 73 [.ref a0, .int (3 : Int32)] h12) fun v21 h20 =>
        some (some (.int v21), h20)
  else none :=
  jx_enter ((jx_G_run (jx_X_grows rc jx_dflt jx_mt d) 36 (0, [(0, .ref a0), (1, .int x1), (2, .int x2)], [], h)).trans rfl)
-- RoomTreesModel.cut(II)I
set_option maxRecDepth 100000 in
theorem je_110 (rc : Nat → Nat × (Nat → Int32)) (d : Nat) (a0 : Nat) (x1 : Int32) (x2 : Int32) (h : jxH) : jx_C rc (d + 1) 110 [.ref a0, .int x1, .int x2] h =
  if jx_is (jx_at h a0) 12 = true then
  jx_cI (jx_C rc d 79 [.ref a0, .int x1] h) fun v2 h1 =>
  if v2 = 0 then
    jx_cI (jx_C rc d 73 [.ref a0, .int (1 : Int32)] h1) fun v4 h3 =>
    some (some (.int v4), h3)
  else
    jx_cI (jx_C rc d 79 [.ref a0, .int x2] h1) fun v6 h5 =>
    if v6 = 0 then
      jx_cI (jx_C rc d 73 [.ref a0, .int (1 : Int32)] h5) fun v8 h7 =>
      some (some (.int v8), h7)
    else
      (jx_gR (jx_at h5 a0) 12 1).bind fun b9 =>
      (jx_aI (jx_at h5 b9) 0 ((13 : Int32) + x1)).bind fun v10 =>
      jx_cI (jx_C rc d 75 [.int v10, .int x2] h5) fun v12 h11 =>
      if v12 = 0 then
        jx_cI (jx_C rc d 73 [.ref a0, .int (2 : Int32)] h11) fun v14 h13 =>
        some (some (.int v14), h13)
      else
        jx_cV (jx_C rc d 100 [.ref a0] h11) fun h15 =>
        (jx_gR (jx_at h15 a0) 12 1).bind fun b16 =>
        jx_cV (jx_C rc d 83 [.ref b16, .int x1, .int x2] h15) fun h17 =>
        (jx_gR (jx_at h17 a0) 12 1).bind fun b18 =>
        jx_cI (jx_C rc d 86 [.ref b18] h17) fun v20 h19 =>
        some (some (.int v20), h19)
  else none :=
  jx_enter ((jx_G_run (jx_X_grows rc jx_dflt jx_mt d) 38 (0, [(0, .ref a0), (1, .int x1), (2, .int x2)], [], h)).trans rfl)
-- RoomTreesModel.take(I)I
set_option maxRecDepth 100000 in
theorem je_111 (rc : Nat → Nat × (Nat → Int32)) (d : Nat) (a0 : Nat) (x1 : Int32) (h : jxH) : jx_C rc (d + 1) 111 [.ref a0, .int x1] h =
  if jx_is (jx_at h a0) 12 = true then
  jx_cI (jx_C rc d 79 [.ref a0, .int x1] h) fun v2 h1 =>
  if v2 = 0 then
    jx_cI (jx_C rc d 73 [.ref a0, .int (1 : Int32)] h1) fun v4 h3 =>
    some (some (.int v4), h3)
  else
    jx_cV (jx_C rc d 100 [.ref a0] h1) fun h5 =>
    (jx_gR (jx_at h5 a0) 12 1).bind fun b6 =>
    (jx_aI (jx_at h5 b6) 0 ((1 : Int32) + x1)).bind fun v7 =>
    (jx_gR (jx_at h5 a0) 12 1).bind fun b8 =>
    jx_cV (jx_C rc d 84 [.ref b8, .int x1] h5) fun h9 =>
    some (some (.int v7), h9)
  else none :=
  jx_enter ((jx_G_run (jx_X_grows rc jx_dflt jx_mt d) 25 (0, [(0, .ref a0), (1, .int x1)], [], h)).trans rfl)
-- RoomTreesModel.possible(I)I
set_option maxRecDepth 100000 in
theorem je_112 (rc : Nat → Nat × (Nat → Int32)) (d : Nat) (a0 : Nat) (x1 : Int32) (h : jxH) : jx_C rc (d + 1) 112 [.ref a0, .int x1] h =
  if jx_is (jx_at h a0) 12 = true then
  (jx_gR (jx_at h a0) 12 1).bind fun b1 =>
  jx_cI (jx_C rc d 93 [.ref b1, .int (0 : Int32), .int x1, .int (0 : Int32), .int (0 : Int32), .int (0 : Int32)] h) fun v3 h2 =>
  if v3 = 0 then
    some (some (.int (0 : Int32)), h2)
  else
    (jx_gR (jx_at h2 a0) 12 1).bind fun b4 =>
    jx_cI (jx_C rc d 93 [.ref b4, .int (4 : Int32), .int x1, .int (0 : Int32), .int (0 : Int32), .int (0 : Int32)] h2) fun v6 h5 =>
    if v6 = 0 then
      some (some (.int (4 : Int32)), h5)
    else
      (jx_gR (jx_at h5 a0) 12 1).bind fun b7 =>
      jx_cI (jx_C rc d 93 [.ref b7, .int (5 : Int32), .int x1, .int (0 : Int32), .int (0 : Int32), .int (0 : Int32)] h5) fun v9 h8 =>
      if v9 = 0 then
        some (some (.int (5 : Int32)), h8)
      else
        some (some (.int (-1 : Int32)), h8)
  else none :=
  jx_enter ((jx_G_run (jx_X_grows rc jx_dflt jx_mt d) 37 (0, [(0, .ref a0), (1, .int x1)], [], h)).trans rfl)
-- RoomTreesModel.farthest(I)I
noncomputable def jb_113 (rc : Nat → Nat × (Nat → Int32)) (d : Nat) (i : Nat) (ls : List (Nat × Value)) (st : List Value) (h : jxH) : jxR := jx_G rc jx_dflt (jx_X rc jx_dflt jx_mt d) jc_113 (i, ls, st, h)
set_option maxRecDepth 100000 in
theorem je_113 (rc : Nat → Nat × (Nat → Int32)) (d : Nat) (a0 : Nat) (x1 : Int32) (h : jxH) : jx_C rc (d + 1) 113 [.ref a0, .int x1] h =
  if jx_is (jx_at h a0) 12 = true then
  jb_113 rc d 8 [(0, .ref a0), (2, .int ((1 : Int32) <<< (x1 &&& 31))), (3, .int (-1 : Int32)), (4, .int (0 : Int32))] [] h
  else none :=
  jx_enter ((jx_G_run (jx_X_grows rc jx_dflt jx_mt d) 45 (0, [(0, .ref a0), (1, .int x1)], [], h)).trans rfl)
set_option maxRecDepth 100000 in
theorem je_113_8 (rc : Nat → Nat × (Nat → Int32)) (d : Nat) (a0 : Nat) (x2 : Int32) (x3 : Int32) (x4 : Int32) (h : jxH) : jb_113 rc d 8 [(0, .ref a0), (2, .int x2), (3, .int x3), (4, .int x4)] [] h =
  if x4 = x2 then
    some (some (.int x3), h)
  else
    jb_113 rc d 18 [(0, .ref a0), (2, .int x2), (3, .int (x3 + (1 : Int32))), (4, .int x2), (5, .int x2), (6, .int (0 : Int32))] [] h :=
  (jx_G_run (jx_X_grows rc jx_dflt jx_mt d) 45 _).trans rfl
set_option maxRecDepth 100000 in
theorem je_113_18 (rc : Nat → Nat × (Nat → Int32)) (d : Nat) (a0 : Nat) (x2 : Int32) (x3 : Int32) (x4 : Int32) (x5 : Int32) (x6 : Int32) (h : jxH) : jb_113 rc d 18 [(0, .ref a0), (2, .int x2), (3, .int x3), (4, .int x4), (5, .int x5), (6, .int x6)] [] h =
  if (12 : Int32) ≤ x6 then
    jb_113 rc d 8 [(0, .ref a0), (2, .int x5), (3, .int x3), (4, .int x4)] [] h
  else
    jx_cI (jx_C rc d 75 [.int x2, .int x6] h) fun v2 h1 =>
    if v2 = 0 then
      jb_113 rc d 18 [(0, .ref a0), (2, .int x2), (3, .int x3), (4, .int x4), (5, .int (x5 ||| (0 : Int32))), (6, .int (x6 + (1 : Int32)))] [] h1
    else
      (jx_gR (jx_at h1 a0) 12 1).bind fun b3 =>
      (jx_aI (jx_at h1 b3) 0 ((13 : Int32) + x6)).bind fun v4 =>
      jb_113 rc d 18 [(0, .ref a0), (2, .int x2), (3, .int x3), (4, .int x4), (5, .int (x5 ||| v4)), (6, .int (x6 + (1 : Int32)))] [] h1 :=
  (jx_G_run (jx_X_grows rc jx_dflt jx_mt d) 45 _).trans rfl
-- RoomTreesModel.at(II)I
set_option maxRecDepth 100000 in
theorem je_114 (rc : Nat → Nat × (Nat → Int32)) (d : Nat) (a0 : Nat) (x1 : Int32) (x2 : Int32) (h : jxH) : jx_C rc (d + 1) 114 [.ref a0, .int x1, .int x2] h =
  if jx_is (jx_at h a0) 12 = true then
  jx_cI (jx_C rc d 79 [.ref a0, .int x1] h) fun v2 h1 =>
  if v2 = 0 then
    jx_cI (jx_C rc d 73 [.ref a0, .int (1 : Int32)] h1) fun v4 h3 =>
    some (some (.int v4), h3)
  else
    jx_cI (jx_C rc d 72 [.long (x2).toInt64, .long (0 : Int64), .long (5 : Int64)] h1) fun v6 h5 =>
    if v6 = 0 then
      jx_cI (jx_C rc d 73 [.ref a0, .int (1 : Int32)] h5) fun v8 h7 =>
      some (some (.int v8), h7)
    else
      if x2 = (0 : Int32) then
        (jx_gR (jx_at h5 a0) 12 1).bind fun b9 =>
        (jx_aI (jx_at h5 b9) 0 ((1 : Int32) + x1)).bind fun v10 =>
        some (some (.int v10), h5)
      else if x2 = ((0 : Int32) + 1) then
        (jx_gR (jx_at h5 a0) 12 1).bind fun b11 =>
        (jx_aI (jx_at h5 b11) 0 ((13 : Int32) + x1)).bind fun v12 =>
        jx_cI (jx_C rc d 76 [.int v12] h5) fun v14 h13 =>
        some (some (.int v14), h13)
      else if x2 = (((0 : Int32) + 1) + 1) then
        (jx_gR (jx_at h5 a0) 12 1).bind fun b15 =>
        (jx_aI (jx_at h5 b15) 0 ((13 : Int32) + x1)).bind fun v16 =>
        some (some (.int v16), h5)
      else if x2 = ((((0 : Int32) + 1) + 1) + 1) then
        (jx_gR (jx_at h5 a0) 12 1).bind fun b17 =>
        jx_cI (jx_C rc d 85 [.ref b17, .int x1] h5) fun v19 h18 =>
        some (some (.int v19), h18)
      else if x2 = (((((0 : Int32) + 1) + 1) + 1) + 1) then
        jx_cI (jx_C rc d 112 [.ref a0, .int x1] h5) fun v21 h20 =>
        some (some (.int v21), h20)
      else 
        jx_cI (jx_C rc d 113 [.ref a0, .int x1] h5) fun v23 h22 =>
        some (some (.int v23), h22)
  else none :=
  jx_enter ((jx_G_run (jx_X_grows rc jx_dflt jx_mt d) 53 (0, [(0, .ref a0), (1, .int x1), (2, .int x2)], [], h)).trans rfl)
-- RoomTreesModel.pair(II)I
set_option maxRecDepth 100000 in
theorem je_115 (rc : Nat → Nat × (Nat → Int32)) (d : Nat) (a0 : Nat) (x1 : Int32) (x2 : Int32) (h : jxH) : jx_C rc (d + 1) 115 [.ref a0, .int x1, .int x2] h =
  if jx_is (jx_at h a0) 12 = true then
  if x1 = x2 then
    (jx_gR (jx_at h a0) 12 1).bind fun b1 =>
    (jx_aI (jx_at h b1) 0 ((1 : Int32) + x1)).bind fun v2 =>
    some (some (.int v2), h)
  else
    (jx_gR (jx_at h a0) 12 1).bind fun b3 =>
    (jx_aI (jx_at h b3) 0 ((13 : Int32) + x1)).bind fun v4 =>
    some (some (.int ((v4 >>> (x2 &&& 31)) &&& (1 : Int32))), h)
  else none :=
  jx_enter ((jx_G_run (jx_X_grows rc jx_dflt jx_mt d) 23 (0, [(0, .ref a0), (1, .int x1), (2, .int x2)], [], h)).trans rfl)
-- RoomTreesModel.table(II)I
set_option maxRecDepth 100000 in
theorem je_116 (rc : Nat → Nat × (Nat → Int32)) (d : Nat) (a0 : Nat) (x1 : Int32) (x2 : Int32) (h : jxH) : jx_C rc (d + 1) 116 [.ref a0, .int x1, .int x2] h =
  if jx_is (jx_at h a0) 12 = true then
  jx_cI (jx_C rc d 79 [.ref a0, .int x1] h) fun v2 h1 =>
  if v2 = 0 then
    jx_cI (jx_C rc d 73 [.ref a0, .int (1 : Int32)] h1) fun v4 h3 =>
    some (some (.int v4), h3)
  else
    jx_cI (jx_C rc d 79 [.ref a0, .int x2] h1) fun v6 h5 =>
    if v6 = 0 then
      jx_cI (jx_C rc d 73 [.ref a0, .int (1 : Int32)] h5) fun v8 h7 =>
      some (some (.int v8), h7)
    else
      jx_cI (jx_C rc d 115 [.ref a0, .int x1, .int x2] h5) fun v10 h9 =>
      some (some (.int v10), h9)
  else none :=
  jx_enter ((jx_G_run (jx_X_grows rc jx_dflt jx_mt d) 19 (0, [(0, .ref a0), (1, .int x1), (2, .int x2)], [], h)).trans rfl)
-- RoomTreesModel.layMinors()V
noncomputable def jb_117 (rc : Nat → Nat × (Nat → Int32)) (d : Nat) (i : Nat) (ls : List (Nat × Value)) (st : List Value) (h : jxH) : jxR := jx_G rc jx_dflt (jx_X rc jx_dflt jx_mt d) jc_117 (i, ls, st, h)
set_option maxRecDepth 100000 in
theorem je_117 (rc : Nat → Nat × (Nat → Int32)) (d : Nat) (a0 : Nat) (h : jxH) : jx_C rc (d + 1) 117 [.ref a0] h =
  if jx_is (jx_at h a0) 12 = true then
  (jx_gR (jx_at h a0) 12 6).bind fun b1 =>
  (jx_sL (jx_at h b1) (0 : Int32) (1 : Int64)).bind fun e2 =>
  jb_117 rc d 7 [(0, .ref a0), (1, .int (1 : Int32))] [] (jx_set h b1 e2)
  else none :=
  jx_enter ((jx_G_run (jx_X_grows rc jx_dflt jx_mt d) 89 (0, [(0, .ref a0)], [], h)).trans rfl)
set_option maxRecDepth 100000 in
theorem je_117_7 (rc : Nat → Nat × (Nat → Int32)) (d : Nat) (a0 : Nat) (x1 : Int32) (h : jxH) : jb_117 rc d 7 [(0, .ref a0), (1, .int x1)] [] h =
  if (4096 : Int32) ≤ x1 then
    some (none, h)
  else
    (jx_gR (jx_at h a0) 12 1).bind fun b1 =>
    (jx_aI (jx_at h b1) 0 (0 : Int32)).bind fun v2 =>
    if (x1 &&& (v2 ^^^ (-1 : Int32))) = 0 then
      jx_cI (jx_C rc d 77 [.int x1] h) fun v4 h3 =>
      (jx_gR (jx_at h3 a0) 12 1).bind fun b5 =>
      (jx_aI (jx_at h3 b5) 0 ((1 : Int32) + v4)).bind fun v6 =>
      (jx_gR (jx_at h3 a0) 12 6).bind fun b7 =>
      (jx_aL (jx_at h3 b7) (x1 &&& (((1 : Int32) <<< (v4 &&& 31)) ^^^ (-1 : Int32)))).bind fun v8 =>
      jb_117 rc d 48 [(0, .ref a0), (1, .int x1), (2, .int v4), (3, .int (x1 &&& (((1 : Int32) <<< (v4 &&& 31)) ^^^ (-1 : Int32)))), (4, .long ((v6).toInt64 * v8)), (6, .int (v4 + (1 : Int32)))] [] h3
    else
      jb_117 rc d 7 [(0, .ref a0), (1, .int (x1 + (1 : Int32)))] [] h :=
  (jx_G_run (jx_X_grows rc jx_dflt jx_mt d) 89 _).trans rfl
set_option maxRecDepth 100000 in
theorem je_117_48 (rc : Nat → Nat × (Nat → Int32)) (d : Nat) (a0 : Nat) (x1 : Int32) (x2 : Int32) (x3 : Int32) (x4 : Int64) (x6 : Int32) (h : jxH) : jb_117 rc d 48 [(0, .ref a0), (1, .int x1), (2, .int x2), (3, .int x3), (4, .long x4), (6, .int x6)] [] h =
  if (12 : Int32) ≤ x6 then
    (jx_gR (jx_at h a0) 12 6).bind fun b1 =>
    (jx_sL (jx_at h b1) x1 x4).bind fun e2 =>
    jb_117 rc d 7 [(0, .ref a0), (1, .int (x1 + (1 : Int32)))] [] (jx_set h b1 e2)
  else
    (jx_gR (jx_at h a0) 12 1).bind fun b3 =>
    (jx_aI (jx_at h b3) 0 ((13 : Int32) + x2)).bind fun v4 =>
    jx_cI (jx_C rc d 75 [.int (x3 &&& v4), .int x6] h) fun v6 h5 =>
    if v6 = 0 then
      jb_117 rc d 48 [(0, .ref a0), (1, .int x1), (2, .int x2), (3, .int x3), (4, .long (x4 - (0 : Int64))), (6, .int (x6 + (1 : Int32)))] [] h5
    else
      (jx_gR (jx_at h5 a0) 12 6).bind fun b7 =>
      (jx_aL (jx_at h5 b7) (x3 &&& (((1 : Int32) <<< (x6 &&& 31)) ^^^ (-1 : Int32)))).bind fun v8 =>
      jb_117 rc d 48 [(0, .ref a0), (1, .int x1), (2, .int x2), (3, .int x3), (4, .long (x4 - v8)), (6, .int (x6 + (1 : Int32)))] [] h5 :=
  (jx_G_run (jx_X_grows rc jx_dflt jx_mt d) 89 _).trans rfl
-- RoomTreesModel.minorOf(I)J
set_option maxRecDepth 100000 in
theorem je_118 (rc : Nat → Nat × (Nat → Int32)) (d : Nat) (a0 : Nat) (x1 : Int32) (h : jxH) : jx_C rc (d + 1) 118 [.ref a0, .int x1] h =
  if jx_is (jx_at h a0) 12 = true then
  jx_cV (jx_C rc d 117 [.ref a0] h) fun h1 =>
  (jx_gR (jx_at h1 a0) 12 6).bind fun b2 =>
  (jx_aL (jx_at h1 b2) x1).bind fun v3 =>
  some (some (.long v3), h1)
  else none :=
  jx_enter ((jx_G_run (jx_X_grows rc jx_dflt jx_mt d) 9 (0, [(0, .ref a0), (1, .int x1)], [], h)).trans rfl)
-- RoomTreesModel.orOver(J)I
set_option maxRecDepth 100000 in
theorem je_119 (rc : Nat → Nat × (Nat → Int32)) (d : Nat) (a0 : Nat) (x1 : Int64) (h : jxH) : jx_C rc (d + 1) 119 [.ref a0, .long x1] h =
  if jx_is (jx_at h a0) 12 = true then
  jx_cI (jx_C rc d 72 [.long x1, .long (-1073741824 : Int64), .long (1073741823 : Int64)] h) fun v2 h1 =>
  if v2 = 0 then
    jx_cI (jx_C rc d 73 [.ref a0, .int (5 : Int32)] h1) fun v4 h3 =>
    some (some (.int v4), h3)
  else
    some (some (.int ((x1).toInt32)), h1)
  else none :=
  jx_enter ((jx_G_run (jx_X_grows rc jx_dflt jx_mt d) 14 (0, [(0, .ref a0), (1, .long x1)], [], h)).trans rfl)
-- RoomTreesModel.minor(I)I
set_option maxRecDepth 100000 in
theorem je_120 (rc : Nat → Nat × (Nat → Int32)) (d : Nat) (a0 : Nat) (x1 : Int32) (h : jxH) : jx_C rc (d + 1) 120 [.ref a0, .int x1] h =
  if jx_is (jx_at h a0) 12 = true then
  jx_cI (jx_C rc d 72 [.long (x1).toInt64, .long (0 : Int64), .long (4095 : Int64)] h) fun v2 h1 =>
  if v2 = 0 then
    jx_cI (jx_C rc d 73 [.ref a0, .int (1 : Int32)] h1) fun v4 h3 =>
    some (some (.int v4), h3)
  else
    (jx_gR (jx_at h1 a0) 12 1).bind fun b5 =>
    (jx_aI (jx_at h1 b5) 0 (0 : Int32)).bind fun v6 =>
    if (x1 &&& (v6 ^^^ (-1 : Int32))) = 0 then
      jx_cL (jx_C rc d 118 [.ref a0, .int x1] h1) fun v8 h7 =>
      jx_cI (jx_C rc d 119 [.ref a0, .long v8] h7) fun v10 h9 =>
      some (some (.int v10), h9)
    else
      jx_cI (jx_C rc d 73 [.ref a0, .int (1 : Int32)] h1) fun v12 h11 =>
      some (some (.int v12), h11)
  else none :=
  jx_enter ((jx_G_run (jx_X_grows rc jx_dflt jx_mt d) 27 (0, [(0, .ref a0), (1, .int x1)], [], h)).trans rfl)
-- RoomTreesModel.det()I
set_option maxRecDepth 100000 in
theorem je_121 (rc : Nat → Nat × (Nat → Int32)) (d : Nat) (a0 : Nat) (h : jxH) : jx_C rc (d + 1) 121 [.ref a0] h =
  if jx_is (jx_at h a0) 12 = true then
  (jx_gR (jx_at h a0) 12 1).bind fun b1 =>
  (jx_aI (jx_at h b1) 0 (0 : Int32)).bind fun v2 =>
  jx_cL (jx_C rc d 118 [.ref a0, .int v2] h) fun v4 h3 =>
  jx_cI (jx_C rc d 119 [.ref a0, .long v4] h3) fun v6 h5 =>
  some (some (.int v6), h5)
  else none :=
  jx_enter ((jx_G_run (jx_X_grows rc jx_dflt jx_mt d) 11 (0, [(0, .ref a0)], [], h)).trans rfl)
-- RoomTreesModel.without(II)J
noncomputable def jb_122 (rc : Nat → Nat × (Nat → Int32)) (d : Nat) (i : Nat) (ls : List (Nat × Value)) (st : List Value) (h : jxH) : jxR := jx_G rc jx_dflt (jx_X rc jx_dflt jx_mt d) jc_122 (i, ls, st, h)
set_option maxRecDepth 100000 in
theorem je_122 (rc : Nat → Nat × (Nat → Int32)) (d : Nat) (a0 : Nat) (x1 : Int32) (x2 : Int32) (h : jxH) : jx_C rc (d + 1) 122 [.ref a0, .int x1, .int x2] h =
  if jx_is (jx_at h a0) 12 = true then
  jb_122 rc d 2 [(0, .ref a0), (1, .int x1), (2, .int x2), (3, .int (0 : Int32))] [] h
  else none :=
  jx_enter ((jx_G_run (jx_X_grows rc jx_dflt jx_mt d) 114 (0, [(0, .ref a0), (1, .int x1), (2, .int x2)], [], h)).trans rfl)
set_option maxRecDepth 100000 in
theorem je_122_2 (rc : Nat → Nat × (Nat → Int32)) (d : Nat) (a0 : Nat) (x1 : Int32) (x2 : Int32) (x3 : Int32) (h : jxH) : jb_122 rc d 2 [(0, .ref a0), (1, .int x1), (2, .int x2), (3, .int x3)] [] h =
  if (4096 : Int32) ≤ x3 then
    (jx_gR (jx_at h a0) 12 1).bind fun b1 =>
    (jx_aI (jx_at h b1) 0 (0 : Int32)).bind fun v2 =>
    (jx_gR (jx_at h a0) 12 1).bind fun b3 =>
    (jx_aI (jx_at h b3) 0 (0 : Int32)).bind fun v4 =>
    jb_122 rc d 40 [(0, .ref a0), (3, .int (v2 &&& (((1 : Int32) <<< (x1 &&& 31)) ^^^ (-1 : Int32)))), (4, .int (v4 &&& (((1 : Int32) <<< (x2 &&& 31)) ^^^ (-1 : Int32)))), (5, .int (1 : Int32))] [] h
  else
    (jx_gR (jx_at h a0) 12 7).bind fun b5 =>
    if x3 = 0 then
      (jx_sL (jx_at h b5) x3 (1 : Int64)).bind fun e6 =>
      jb_122 rc d 2 [(0, .ref a0), (1, .int x1), (2, .int x2), (3, .int (x3 + (1 : Int32)))] [] (jx_set h b5 e6)
    else
      (jx_sL (jx_at h b5) x3 (0 : Int64)).bind fun e7 =>
      jb_122 rc d 2 [(0, .ref a0), (1, .int x1), (2, .int x2), (3, .int (x3 + (1 : Int32)))] [] (jx_set h b5 e7) :=
  (jx_G_run (jx_X_grows rc jx_dflt jx_mt d) 114 _).trans rfl
set_option maxRecDepth 100000 in
theorem je_122_40 (rc : Nat → Nat × (Nat → Int32)) (d : Nat) (a0 : Nat) (x3 : Int32) (x4 : Int32) (x5 : Int32) (h : jxH) : jb_122 rc d 40 [(0, .ref a0), (3, .int x3), (4, .int x4), (5, .int x5)] [] h =
  if (4096 : Int32) ≤ x5 then
    (jx_gR (jx_at h a0) 12 7).bind fun b1 =>
    (jx_aL (jx_at h b1) x4).bind fun v2 =>
    some (some (.long v2), h)
  else
    if (x5 &&& (x4 ^^^ (-1 : Int32))) = 0 then
      jx_cI (jx_C rc d 76 [.int x5] h) fun v4 h3 =>
      jx_cI (jx_C rc d 123 [.int x3, .int (v4 - (1 : Int32))] h3) fun v6 h5 =>
      jb_122 rc d 63 [(0, .ref a0), (3, .int x3), (4, .int x4), (5, .int x5), (6, .int v6), (7, .long (0 : Int64)), (9, .int (0 : Int32)), (10, .int (11 : Int32))] [] h5
    else
      jb_122 rc d 40 [(0, .ref a0), (3, .int x3), (4, .int x4), (5, .int (x5 + (1 : Int32)))] [] h :=
  (jx_G_run (jx_X_grows rc jx_dflt jx_mt d) 114 _).trans rfl
set_option maxRecDepth 100000 in
theorem je_122_63 (rc : Nat → Nat × (Nat → Int32)) (d : Nat) (a0 : Nat) (x3 : Int32) (x4 : Int32) (x5 : Int32) (x6 : Int32) (x7 : Int64) (x9 : Int32) (x10 : Int32) (h : jxH) : jb_122 rc d 63 [(0, .ref a0), (3, .int x3), (4, .int x4), (5, .int x5), (6, .int x6), (7, .long x7), (9, .int x9), (10, .int x10)] [] h =
  if x10 < 0 then
    (jx_gR (jx_at h a0) 12 7).bind fun b1 =>
    (jx_sL (jx_at h b1) x5 x7).bind fun e2 =>
    jb_122 rc d 40 [(0, .ref a0), (3, .int x3), (4, .int x4), (5, .int (x5 + (1 : Int32)))] [] (jx_set h b1 e2)
  else
    jx_cI (jx_C rc d 75 [.int x5, .int x10] h) fun v4 h3 =>
    if v4 = 0 then
      jb_122 rc d 63 [(0, .ref a0), (3, .int x3), (4, .int x4), (5, .int x5), (6, .int x6), (7, .long x7), (9, .int x9), (10, .int (x10 + (-1 : Int32)))] [] h3
    else
      jx_cI (jx_C rc d 115 [.ref a0, .int x6, .int x10] h3) fun v6 h5 =>
      (jx_gR (jx_at h5 a0) 12 7).bind fun b7 =>
      (jx_aL (jx_at h5 b7) (x5 &&& (((1 : Int32) <<< (x10 &&& 31)) ^^^ (-1 : Int32)))).bind fun v8 =>
      if (2 : Int32) = 0 then none else if (x9 - x9 / (2 : Int32) * (2 : Int32)) = 0 then
        jb_122 rc d 63 [(0, .ref a0), (3, .int x3), (4, .int x4), (5, .int x5), (6, .int x6), (7, .long (x7 + ((v6).toInt64 * v8))), (9, .int (x9 + (1 : Int32))), (10, .int (x10 + (-1 : Int32)))] [] h5
      else
        jb_122 rc d 63 [(0, .ref a0), (3, .int x3), (4, .int x4), (5, .int x5), (6, .int x6), (7, .long (x7 + (-((v6).toInt64 * v8)))), (9, .int (x9 + (1 : Int32))), (10, .int (x10 + (-1 : Int32)))] [] h5 :=
  (jx_G_run (jx_X_grows rc jx_dflt jx_mt d) 114 _).trans rfl
-- RoomTreesModel.place(II)I
noncomputable def jb_123 (rc : Nat → Nat × (Nat → Int32)) (d : Nat) (i : Nat) (ls : List (Nat × Value)) (st : List Value) (h : jxH) : jxR := jx_G rc jx_dflt (jx_X rc jx_dflt jx_mt d) jc_123 (i, ls, st, h)
set_option maxRecDepth 100000 in
theorem je_123 (rc : Nat → Nat × (Nat → Int32)) (d : Nat) (x0 : Int32) (x1 : Int32) (h : jxH) : jx_C rc (d + 1) 123 [.int x0, .int x1] h =
  jb_123 rc d 4 [(1, .int x1), (2, .int x0), (3, .int (0 : Int32))] [] h :=
  (jx_G_run (jx_X_grows rc jx_dflt jx_mt d) 20 (0, [(0, .int x0), (1, .int x1)], [], h)).trans rfl
set_option maxRecDepth 100000 in
theorem je_123_4 (rc : Nat → Nat × (Nat → Int32)) (d : Nat) (x1 : Int32) (x2 : Int32) (x3 : Int32) (h : jxH) : jb_123 rc d 4 [(1, .int x1), (2, .int x2), (3, .int x3)] [] h =
  if x1 ≤ x3 then
    jx_cI (jx_C rc d 77 [.int x2] h) fun v2 h1 =>
    some (some (.int v2), h1)
  else
    jb_123 rc d 4 [(1, .int x1), (2, .int (x2 &&& (x2 - (1 : Int32)))), (3, .int (x3 + (1 : Int32)))] [] h :=
  (jx_G_run (jx_X_grows rc jx_dflt jx_mt d) 20 _).trans rfl
-- RoomTreesModel.behind(II)I
set_option maxRecDepth 100000 in
theorem je_124 (rc : Nat → Nat × (Nat → Int32)) (d : Nat) (x0 : Int32) (x1 : Int32) (h : jxH) : jx_C rc (d + 1) 124 [.int x0, .int x1] h =
  jx_cI (jx_C rc d 76 [.int (x0 &&& (((1 : Int32) <<< (x1 &&& 31)) - (1 : Int32)))] h) fun v2 h1 =>
  some (some (.int v2), h1) :=
  (jx_G_run (jx_X_grows rc jx_dflt jx_mt d) 11 (0, [(0, .int x0), (1, .int x1)], [], h)).trans rfl
-- RoomTreesModel.divisor(JJ)J
noncomputable def jb_125 (rc : Nat → Nat × (Nat → Int32)) (d : Nat) (i : Nat) (ls : List (Nat × Value)) (st : List Value) (h : jxH) : jxR := jx_G rc jx_dflt (jx_X rc jx_dflt jx_mt d) jc_125 (i, ls, st, h)
set_option maxRecDepth 100000 in
theorem je_125 (rc : Nat → Nat × (Nat → Int32)) (d : Nat) (x0 : Int64) (x2 : Int64) (h : jxH) : jx_C rc (d + 1) 125 [.long x0, .long x2] h =
  if 0 ≤ (lg_cmp x0 (0 : Int64)) then
    if 0 ≤ (lg_cmp x2 (0 : Int64)) then
      jb_125 rc d 18 [(4, .long x0), (6, .long x2)] [] h
    else
      jb_125 rc d 18 [(4, .long x0), (6, .long (-x2))] [] h
  else
    if 0 ≤ (lg_cmp x2 (0 : Int64)) then
      jb_125 rc d 18 [(4, .long (-x0)), (6, .long x2)] [] h
    else
      jb_125 rc d 18 [(4, .long (-x0)), (6, .long (-x2))] [] h :=
  (jx_G_run (jx_X_grows rc jx_dflt jx_mt d) 35 (0, [(0, .long x0), (2, .long x2)], [], h)).trans rfl
set_option maxRecDepth 100000 in
theorem je_125_18 (rc : Nat → Nat × (Nat → Int32)) (d : Nat) (x4 : Int64) (x6 : Int64) (h : jxH) : jb_125 rc d 18 [(4, .long x4), (6, .long x6)] [] h =
  if (lg_cmp x6 (0 : Int64)) = 0 then
    some (some (.long x4), h)
  else
    if x6 = 0 then none else jb_125 rc d 18 [(4, .long x6), (6, .long (x4 - x4 / x6 * x6))] [] h :=
  (jx_G_run (jx_X_grows rc jx_dflt jx_mt d) 35 _).trans rfl
-- RoomTreesModel.link(III)I
noncomputable def jb_126 (rc : Nat → Nat × (Nat → Int32)) (d : Nat) (i : Nat) (ls : List (Nat × Value)) (st : List Value) (h : jxH) : jxR := jx_G rc jx_dflt (jx_X rc jx_dflt jx_mt d) jc_126 (i, ls, st, h)
set_option maxRecDepth 100000 in
theorem je_126 (rc : Nat → Nat × (Nat → Int32)) (d : Nat) (a0 : Nat) (x1 : Int32) (x2 : Int32) (x3 : Int32) (h : jxH) : jx_C rc (d + 1) 126 [.ref a0, .int x1, .int x2, .int x3] h =
  if jx_is (jx_at h a0) 12 = true then
  jx_cI (jx_C rc d 79 [.ref a0, .int x1] h) fun v2 h1 =>
  if v2 = 0 then
    jx_cI (jx_C rc d 73 [.ref a0, .int (1 : Int32)] h1) fun v4 h3 =>
    some (some (.int v4), h3)
  else
    jx_cI (jx_C rc d 79 [.ref a0, .int x2] h1) fun v6 h5 =>
    if v6 = 0 then
      jx_cI (jx_C rc d 73 [.ref a0, .int (1 : Int32)] h5) fun v8 h7 =>
      some (some (.int v8), h7)
    else
      jx_cI (jx_C rc d 72 [.long (x3).toInt64, .long (0 : Int64), .long (1 : Int64)] h5) fun v10 h9 =>
      if v10 = 0 then
        jx_cI (jx_C rc d 73 [.ref a0, .int (1 : Int32)] h9) fun v12 h11 =>
        some (some (.int v12), h11)
      else
        (jx_gR (jx_at h9 a0) 12 1).bind fun b13 =>
        (jx_aI (jx_at h9 b13) 0 (0 : Int32)).bind fun v14 =>
        jx_cL (jx_C rc d 118 [.ref a0, .int v14] h9) fun v16 h15 =>
        if (lg_cmp v16 (0 : Int64)) = 0 then
          jx_cI (jx_C rc d 73 [.ref a0, .int (3 : Int32)] h15) fun v18 h17 =>
          some (some (.int v18), h17)
        else
          jx_cL (jx_C rc d 122 [.ref a0, .int x1, .int x2] h15) fun v20 h19 =>
          (jx_gR (jx_at h19 a0) 12 1).bind fun b21 =>
          (jx_aI (jx_at h19 b21) 0 (0 : Int32)).bind fun v22 =>
          jx_cI (jx_C rc d 124 [.int v22, .int x1] h19) fun v24 h23 =>
          (jx_gR (jx_at h23 a0) 12 1).bind fun b25 =>
          (jx_aI (jx_at h23 b25) 0 (0 : Int32)).bind fun v26 =>
          jx_cI (jx_C rc d 124 [.int v26, .int x2] h23) fun v28 h27 =>
          if (2 : Int32) = 0 then none else if ((v24 + v28) - (v24 + v28) / (2 : Int32) * (2 : Int32)) = 0 then
            jb_126 rc d 58 [(0, .ref a0), (3, .int x3), (4, .long v16)] [.long v20] h27
          else
            jb_126 rc d 58 [(0, .ref a0), (3, .int x3), (4, .long v16)] [.long (-v20)] h27
  else none :=
  jx_enter ((jx_G_run (jx_X_grows rc jx_dflt jx_mt d) 87 (0, [(0, .ref a0), (1, .int x1), (2, .int x2), (3, .int x3)], [], h)).trans rfl)
set_option maxRecDepth 100000 in
theorem je_126_58 (rc : Nat → Nat × (Nat → Int32)) (d : Nat) (a0 : Nat) (x3 : Int32) (x4 : Int64) (s0 : Int64) (h : jxH) : jb_126 rc d 58 [(0, .ref a0), (3, .int x3), (4, .long x4)] [.long s0] h =
  if 0 ≤ (lg_cmp x4 (0 : Int64)) then
    jx_cL (jx_C rc d 125 [.long s0, .long x4] h) fun v2 h1 =>
    if x3 = 0 then
      if v2 = 0 then none else jx_cI (jx_C rc d 119 [.ref a0, .long (s0 / v2)] h1) fun v4 h3 =>
      some (some (.int v4), h3)
    else
      if v2 = 0 then none else jx_cI (jx_C rc d 119 [.ref a0, .long (x4 / v2)] h1) fun v6 h5 =>
      some (some (.int v6), h5)
  else
    jx_cL (jx_C rc d 125 [.long (-s0), .long (-x4)] h) fun v8 h7 =>
    if x3 = 0 then
      if v8 = 0 then none else jx_cI (jx_C rc d 119 [.ref a0, .long ((-s0) / v8)] h7) fun v10 h9 =>
      some (some (.int v10), h9)
    else
      if v8 = 0 then none else jx_cI (jx_C rc d 119 [.ref a0, .long ((-x4) / v8)] h7) fun v12 h11 =>
      some (some (.int v12), h11) :=
  (jx_G_run (jx_X_grows rc jx_dflt jx_mt d) 87 _).trans rfl
-- RoomTreesModel.layTerms()V
noncomputable def jb_127 (rc : Nat → Nat × (Nat → Int32)) (d : Nat) (i : Nat) (ls : List (Nat × Value)) (st : List Value) (h : jxH) : jxR := jx_G rc jx_dflt (jx_X rc jx_dflt jx_mt d) jc_127 (i, ls, st, h)
set_option maxRecDepth 100000 in
theorem je_127 (rc : Nat → Nat × (Nat → Int32)) (d : Nat) (a0 : Nat) (h : jxH) : jx_C rc (d + 1) 127 [.ref a0] h =
  if jx_is (jx_at h a0) 12 = true then
  jx_cV (jx_C rc d 117 [.ref a0] h) fun h1 =>
  jb_127 rc d 4 [(0, .ref a0), (1, .int (0 : Int32))] [] h1
  else none :=
  jx_enter ((jx_G_run (jx_X_grows rc jx_dflt jx_mt d) 45 (0, [(0, .ref a0)], [], h)).trans rfl)
set_option maxRecDepth 100000 in
theorem je_127_4 (rc : Nat → Nat × (Nat → Int32)) (d : Nat) (a0 : Nat) (x1 : Int32) (h : jxH) : jb_127 rc d 4 [(0, .ref a0), (1, .int x1)] [] h =
  if (12 : Int32) < x1 then
    jb_127 rc d 16 [(0, .ref a0), (1, .int (0 : Int32))] [] h
  else
    (jx_gR (jx_at h a0) 12 8).bind fun b1 =>
    (jx_sL (jx_at h b1) x1 (0 : Int64)).bind fun e2 =>
    jb_127 rc d 4 [(0, .ref a0), (1, .int (x1 + (1 : Int32)))] [] (jx_set h b1 e2) :=
  (jx_G_run (jx_X_grows rc jx_dflt jx_mt d) 45 _).trans rfl
set_option maxRecDepth 100000 in
theorem je_127_16 (rc : Nat → Nat × (Nat → Int32)) (d : Nat) (a0 : Nat) (x1 : Int32) (h : jxH) : jb_127 rc d 16 [(0, .ref a0), (1, .int x1)] [] h =
  if (4096 : Int32) ≤ x1 then
    some (none, h)
  else
    (jx_gR (jx_at h a0) 12 1).bind fun b1 =>
    (jx_aI (jx_at h b1) 0 (0 : Int32)).bind fun v2 =>
    if (x1 &&& (v2 ^^^ (-1 : Int32))) = 0 then
      (jx_gR (jx_at h a0) 12 8).bind fun b3 =>
      jx_cI (jx_C rc d 76 [.int x1] h) fun v5 h4 =>
      (jx_aL (jx_at h4 b3) v5).bind fun v6 =>
      (jx_gR (jx_at h4 a0) 12 6).bind fun b7 =>
      (jx_aL (jx_at h4 b7) x1).bind fun v8 =>
      (jx_sL (jx_at h4 b3) v5 (v6 + v8)).bind fun e9 =>
      jb_127 rc d 16 [(0, .ref a0), (1, .int (x1 + (1 : Int32)))] [] (jx_set h4 b3 e9)
    else
      jb_127 rc d 16 [(0, .ref a0), (1, .int (x1 + (1 : Int32)))] [] h :=
  (jx_G_run (jx_X_grows rc jx_dflt jx_mt d) 45 _).trans rfl
-- RoomTreesModel.above()I
noncomputable def jb_128 (rc : Nat → Nat × (Nat → Int32)) (d : Nat) (i : Nat) (ls : List (Nat × Value)) (st : List Value) (h : jxH) : jxR := jx_G rc jx_dflt (jx_X rc jx_dflt jx_mt d) jc_128 (i, ls, st, h)
set_option maxRecDepth 100000 in
theorem je_128 (rc : Nat → Nat × (Nat → Int32)) (d : Nat) (a0 : Nat) (h : jxH) : jx_C rc (d + 1) 128 [.ref a0] h =
  if jx_is (jx_at h a0) 12 = true then
  jx_cV (jx_C rc d 127 [.ref a0] h) fun h1 =>
  jb_128 rc d 8 [(0, .ref a0), (1, .int (0 : Int32)), (2, .int (1 : Int32)), (3, .int (1 : Int32))] [] h1
  else none :=
  jx_enter ((jx_G_run (jx_X_grows rc jx_dflt jx_mt d) 67 (0, [(0, .ref a0)], [], h)).trans rfl)
set_option maxRecDepth 100000 in
theorem je_128_8 (rc : Nat → Nat × (Nat → Int32)) (d : Nat) (a0 : Nat) (x1 : Int32) (x2 : Int32) (x3 : Int32) (h : jxH) : jb_128 rc d 8 [(0, .ref a0), (1, .int x1), (2, .int x2), (3, .int x3)] [] h =
  (jx_gR (jx_at h a0) 12 1).bind fun b1 =>
  (jx_aI (jx_at h b1) 0 (0 : Int32)).bind fun v2 =>
  jx_cI (jx_C rc d 76 [.int v2] h) fun v4 h3 =>
  if v4 < x3 then
    some (some (.int x1), h3)
  else
    if (2 : Int32) = 0 then none else if (x3 - x3 / (2 : Int32) * (2 : Int32)) = 0 then
      (jx_gR (jx_at h3 a0) 12 8).bind fun b5 =>
      (jx_aL (jx_at h3 b5) x3).bind fun v6 =>
      if (lg_cmp v6 (0 : Int64)) ≤ 0 then
        if 0 ≤ (lg_cmp v6 (0 : Int64)) then
          jb_128 rc d 43 [(0, .ref a0), (1, .int x1), (2, .int x2), (3, .int x3)] [.int (0 : Int32)] h3
        else
          jb_128 rc d 43 [(0, .ref a0), (1, .int x1), (2, .int x2), (3, .int x3)] [.int (-1 : Int32)] h3
      else
        jb_128 rc d 43 [(0, .ref a0), (1, .int x1), (2, .int x2), (3, .int x3)] [.int (1 : Int32)] h3
    else
      (jx_gR (jx_at h3 a0) 12 8).bind fun b7 =>
      (jx_aL (jx_at h3 b7) x3).bind fun v8 =>
      if (lg_cmp (-v8) (0 : Int64)) ≤ 0 then
        if 0 ≤ (lg_cmp (-v8) (0 : Int64)) then
          jb_128 rc d 43 [(0, .ref a0), (1, .int x1), (2, .int x2), (3, .int x3)] [.int (0 : Int32)] h3
        else
          jb_128 rc d 43 [(0, .ref a0), (1, .int x1), (2, .int x2), (3, .int x3)] [.int (-1 : Int32)] h3
      else
        jb_128 rc d 43 [(0, .ref a0), (1, .int x1), (2, .int x2), (3, .int x3)] [.int (1 : Int32)] h3 :=
  (jx_G_run (jx_X_grows rc jx_dflt jx_mt d) 67 _).trans rfl
set_option maxRecDepth 100000 in
theorem je_128_43 (rc : Nat → Nat × (Nat → Int32)) (d : Nat) (a0 : Nat) (x1 : Int32) (x2 : Int32) (x3 : Int32) (s0 : Int32) (h : jxH) : jb_128 rc d 43 [(0, .ref a0), (1, .int x1), (2, .int x2), (3, .int x3)] [.int s0] h =
  if s0 = 0 then
    if s0 = 0 then
      jb_128 rc d 8 [(0, .ref a0), (1, .int (x1 + (0 : Int32))), (2, .int x2), (3, .int (x3 + (1 : Int32)))] [] h
    else
      jb_128 rc d 8 [(0, .ref a0), (1, .int (x1 + (0 : Int32))), (2, .int s0), (3, .int (x3 + (1 : Int32)))] [] h
  else
    if s0 = x2 then
      if s0 = 0 then
        jb_128 rc d 8 [(0, .ref a0), (1, .int (x1 + (0 : Int32))), (2, .int x2), (3, .int (x3 + (1 : Int32)))] [] h
      else
        jb_128 rc d 8 [(0, .ref a0), (1, .int (x1 + (0 : Int32))), (2, .int s0), (3, .int (x3 + (1 : Int32)))] [] h
    else
      if s0 = 0 then
        jb_128 rc d 8 [(0, .ref a0), (1, .int (x1 + (1 : Int32))), (2, .int x2), (3, .int (x3 + (1 : Int32)))] [] h
      else
        jb_128 rc d 8 [(0, .ref a0), (1, .int (x1 + (1 : Int32))), (2, .int s0), (3, .int (x3 + (1 : Int32)))] [] h :=
  (jx_G_run (jx_X_grows rc jx_dflt jx_mt d) 67 _).trans rfl
-- RoomTreesModel.noughts()I
noncomputable def jb_129 (rc : Nat → Nat × (Nat → Int32)) (d : Nat) (i : Nat) (ls : List (Nat × Value)) (st : List Value) (h : jxH) : jxR := jx_G rc jx_dflt (jx_X rc jx_dflt jx_mt d) jc_129 (i, ls, st, h)
set_option maxRecDepth 100000 in
theorem je_129 (rc : Nat → Nat × (Nat → Int32)) (d : Nat) (a0 : Nat) (h : jxH) : jx_C rc (d + 1) 129 [.ref a0] h =
  if jx_is (jx_at h a0) 12 = true then
  jx_cV (jx_C rc d 127 [.ref a0] h) fun h1 =>
  jb_129 rc d 4 [(0, .ref a0), (1, .int (0 : Int32))] [] h1
  else none :=
  jx_enter ((jx_G_run (jx_X_grows rc jx_dflt jx_mt d) 30 (0, [(0, .ref a0)], [], h)).trans rfl)
set_option maxRecDepth 100000 in
theorem je_129_4 (rc : Nat → Nat × (Nat → Int32)) (d : Nat) (a0 : Nat) (x1 : Int32) (h : jxH) : jb_129 rc d 4 [(0, .ref a0), (1, .int x1)] [] h =
  (jx_gR (jx_at h a0) 12 1).bind fun b1 =>
  (jx_aI (jx_at h b1) 0 (0 : Int32)).bind fun v2 =>
  jx_cI (jx_C rc d 76 [.int v2] h) fun v4 h3 =>
  if v4 ≤ x1 then
    some (some (.int x1), h3)
  else
    (jx_gR (jx_at h3 a0) 12 8).bind fun b5 =>
    (jx_gR (jx_at h3 a0) 12 1).bind fun b6 =>
    (jx_aI (jx_at h3 b6) 0 (0 : Int32)).bind fun v7 =>
    jx_cI (jx_C rc d 76 [.int v7] h3) fun v9 h8 =>
    (jx_aL (jx_at h8 b5) (v9 - x1)).bind fun v10 =>
    if (lg_cmp v10 (0 : Int64)) = 0 then
      jb_129 rc d 4 [(0, .ref a0), (1, .int (x1 + (1 : Int32)))] [] h8
    else
      some (some (.int x1), h8) :=
  (jx_G_run (jx_X_grows rc jx_dflt jx_mt d) 30 _).trans rfl
-- RoomTreesModel.inertiaOf(I)I
set_option maxRecDepth 100000 in
theorem je_130 (rc : Nat → Nat × (Nat → Int32)) (d : Nat) (a0 : Nat) (x1 : Int32) (h : jxH) : jx_C rc (d + 1) 130 [.ref a0, .int x1] h =
  if jx_is (jx_at h a0) 12 = true then
  jx_cI (jx_C rc d 128 [.ref a0] h) fun v2 h1 =>
  jx_cI (jx_C rc d 129 [.ref a0] h1) fun v4 h3 =>
  if x1 = 0 then
    some (some (.int v2), h3)
  else
    if x1 = (2 : Int32) then
      some (some (.int v4), h3)
    else
      (jx_gR (jx_at h3 a0) 12 1).bind fun b5 =>
      (jx_aI (jx_at h3 b5) 0 (0 : Int32)).bind fun v6 =>
      jx_cI (jx_C rc d 76 [.int v6] h3) fun v8 h7 =>
      some (some (.int ((v8 - v2) - v4)), h7)
  else none :=
  jx_enter ((jx_G_run (jx_X_grows rc jx_dflt jx_mt d) 27 (0, [(0, .ref a0), (1, .int x1)], [], h)).trans rfl)
-- RoomTreesModel.inertia(I)I
set_option maxRecDepth 100000 in
theorem je_131 (rc : Nat → Nat × (Nat → Int32)) (d : Nat) (a0 : Nat) (x1 : Int32) (h : jxH) : jx_C rc (d + 1) 131 [.ref a0, .int x1] h =
  if jx_is (jx_at h a0) 12 = true then
  jx_cI (jx_C rc d 72 [.long (x1).toInt64, .long (0 : Int64), .long (2 : Int64)] h) fun v2 h1 =>
  if v2 = 0 then
    jx_cI (jx_C rc d 73 [.ref a0, .int (1 : Int32)] h1) fun v4 h3 =>
    some (some (.int v4), h3)
  else
    jx_cI (jx_C rc d 130 [.ref a0, .int x1] h1) fun v6 h5 =>
    some (some (.int v6), h5)
  else none :=
  jx_enter ((jx_G_run (jx_X_grows rc jx_dflt jx_mt d) 16 (0, [(0, .ref a0), (1, .int x1)], [], h)).trans rfl)
-- RoomTreesModel.inverse(II)I
noncomputable def jb_132 (rc : Nat → Nat × (Nat → Int32)) (d : Nat) (i : Nat) (ls : List (Nat × Value)) (st : List Value) (h : jxH) : jxR := jx_G rc jx_dflt (jx_X rc jx_dflt jx_mt d) jc_132 (i, ls, st, h)
set_option maxRecDepth 100000 in
theorem je_132 (rc : Nat → Nat × (Nat → Int32)) (d : Nat) (x0 : Int32) (x1 : Int32) (h : jxH) : jx_C rc (d + 1) 132 [.int x0, .int x1] h =
  jb_132 rc d 2 [(0, .int x0), (1, .int x1), (2, .int (1 : Int32))] [] h :=
  (jx_G_run (jx_X_grows rc jx_dflt jx_mt d) 15 (0, [(0, .int x0), (1, .int x1)], [], h)).trans rfl
set_option maxRecDepth 100000 in
theorem je_132_2 (rc : Nat → Nat × (Nat → Int32)) (d : Nat) (x0 : Int32) (x1 : Int32) (x2 : Int32) (h : jxH) : jb_132 rc d 2 [(0, .int x0), (1, .int x1), (2, .int x2)] [] h =
  if x1 = 0 then none else if ((x2 * x0) - (x2 * x0) / x1 * x1) = (1 : Int32) then
    some (some (.int x2), h)
  else
    jb_132 rc d 2 [(0, .int x0), (1, .int x1), (2, .int (x2 + (1 : Int32)))] [] h :=
  (jx_G_run (jx_X_grows rc jx_dflt jx_mt d) 15 _).trans rfl
-- RoomTreesModel.mod(II)I
set_option maxRecDepth 100000 in
theorem je_133 (rc : Nat → Nat × (Nat → Int32)) (d : Nat) (x0 : Int32) (x1 : Int32) (h : jxH) : jx_C rc (d + 1) 133 [.int x0, .int x1] h =
  if x1 = 0 then none else if 0 ≤ (x0 - x0 / x1 * x1) then
    some (some (.int (x0 - x0 / x1 * x1)), h)
  else
    some (some (.int ((x0 - x0 / x1 * x1) + x1)), h) :=
  (jx_G_run (jx_X_grows rc jx_dflt jx_mt d) 14 (0, [(0, .int x0), (1, .int x1)], [], h)).trans rfl
-- RoomTreesModel.layRows(I)V
noncomputable def jb_134 (rc : Nat → Nat × (Nat → Int32)) (d : Nat) (i : Nat) (ls : List (Nat × Value)) (st : List Value) (h : jxH) : jxR := jx_G rc jx_dflt (jx_X rc jx_dflt jx_mt d) jc_134 (i, ls, st, h)
set_option maxRecDepth 100000 in
theorem je_134 (rc : Nat → Nat × (Nat → Int32)) (d : Nat) (a0 : Nat) (x1 : Int32) (h : jxH) : jx_C rc (d + 1) 134 [.ref a0, .int x1] h =
  if jx_is (jx_at h a0) 12 = true then
  jb_134 rc d 2 [(0, .ref a0), (1, .int x1), (2, .int (0 : Int32))] [] h
  else none :=
  jx_enter ((jx_G_run (jx_X_grows rc jx_dflt jx_mt d) 45 (0, [(0, .ref a0), (1, .int x1)], [], h)).trans rfl)
set_option maxRecDepth 100000 in
theorem je_134_2 (rc : Nat → Nat × (Nat → Int32)) (d : Nat) (a0 : Nat) (x1 : Int32) (x2 : Int32) (h : jxH) : jb_134 rc d 2 [(0, .ref a0), (1, .int x1), (2, .int x2)] [] h =
  if (12 : Int32) ≤ x2 then
    some (none, h)
  else
    jb_134 rc d 7 [(0, .ref a0), (1, .int x1), (2, .int x2), (3, .int (0 : Int32))] [] h :=
  (jx_G_run (jx_X_grows rc jx_dflt jx_mt d) 45 _).trans rfl
set_option maxRecDepth 100000 in
theorem je_134_7 (rc : Nat → Nat × (Nat → Int32)) (d : Nat) (a0 : Nat) (x1 : Int32) (x2 : Int32) (x3 : Int32) (h : jxH) : jb_134 rc d 7 [(0, .ref a0), (1, .int x1), (2, .int x2), (3, .int x3)] [] h =
  if (12 : Int32) ≤ x3 then
    jb_134 rc d 2 [(0, .ref a0), (1, .int x1), (2, .int (x2 + (1 : Int32)))] [] h
  else
    (jx_gR (jx_at h a0) 12 9).bind fun b1 =>
    (jx_aQ (jx_at h b1) 8 x2).bind fun o2 =>
    jx_mo o2 (fun b3 => (jx_gR (jx_at h a0) 12 1).bind fun b4 =>
      (jx_aI (jx_at h b4) 0 (0 : Int32)).bind fun v5 =>
      jx_cI (jx_C rc d 75 [.int v5, .int x2] h) fun v7 h6 =>
      if v7 = 0 then
        (jx_sI (jx_at h6 b3) 0 x3 (0 : Int32)).bind fun e8 =>
        jb_134 rc d 7 [(0, .ref a0), (1, .int x1), (2, .int x2), (3, .int (x3 + (1 : Int32)))] [] (jx_set h6 b3 e8)
      else
        (jx_gR (jx_at h6 a0) 12 1).bind fun b9 =>
        (jx_aI (jx_at h6 b9) 0 (0 : Int32)).bind fun v10 =>
        jx_cI (jx_C rc d 75 [.int v10, .int x3] h6) fun v12 h11 =>
        if v12 = 0 then
          (jx_sI (jx_at h11 b3) 0 x3 (0 : Int32)).bind fun e13 =>
          jb_134 rc d 7 [(0, .ref a0), (1, .int x1), (2, .int x2), (3, .int (x3 + (1 : Int32)))] [] (jx_set h11 b3 e13)
        else
          jx_cI (jx_C rc d 115 [.ref a0, .int x2, .int x3] h11) fun v15 h14 =>
          jx_cI (jx_C rc d 133 [.int v15, .int x1] h14) fun v17 h16 =>
          (jx_sI (jx_at h16 b3) 0 x3 v17).bind fun e18 =>
          jb_134 rc d 7 [(0, .ref a0), (1, .int x1), (2, .int x2), (3, .int (x3 + (1 : Int32)))] [] (jx_set h16 b3 e18))
    ((jx_gR (jx_at h a0) 12 1).bind fun b19 =>
      (jx_aI (jx_at h b19) 0 (0 : Int32)).bind fun v20 =>
      jx_cI (jx_C rc d 75 [.int v20, .int x2] h) fun v22 h21 =>
      if v22 = 0 then
        none
      else
        (jx_gR (jx_at h21 a0) 12 1).bind fun b24 =>
        (jx_aI (jx_at h21 b24) 0 (0 : Int32)).bind fun v25 =>
        jx_cI (jx_C rc d 75 [.int v25, .int x3] h21) fun v27 h26 =>
        if v27 = 0 then
          none
        else
          jx_cI (jx_C rc d 115 [.ref a0, .int x2, .int x3] h26) fun v30 h29 =>
          jx_cI (jx_C rc d 133 [.int v30, .int x1] h29) fun v32 h31 =>
          none) :=
  (jx_G_run (jx_X_grows rc jx_dflt jx_mt d) 45 _).trans rfl
-- RoomTreesModel.kernelOf(I)I
noncomputable def jb_135 (rc : Nat → Nat × (Nat → Int32)) (d : Nat) (i : Nat) (ls : List (Nat × Value)) (st : List Value) (h : jxH) : jxR := jx_G rc jx_dflt (jx_X rc jx_dflt jx_mt d) jc_135 (i, ls, st, h)
set_option maxRecDepth 100000 in
theorem je_135 (rc : Nat → Nat × (Nat → Int32)) (d : Nat) (a0 : Nat) (x1 : Int32) (h : jxH) : jx_C rc (d + 1) 135 [.ref a0, .int x1] h =
  if jx_is (jx_at h a0) 12 = true then
  jx_cV (jx_C rc d 134 [.ref a0, .int x1] h) fun h1 =>
  jb_135 rc d 7 [(0, .ref a0), (1, .int x1), (2, .int (0 : Int32)), (3, .int (0 : Int32))] [] h1
  else none :=
  jx_enter ((jx_G_run (jx_X_grows rc jx_dflt jx_mt d) 120 (0, [(0, .ref a0), (1, .int x1)], [], h)).trans rfl)
set_option maxRecDepth 100000 in
theorem je_135_7 (rc : Nat → Nat × (Nat → Int32)) (d : Nat) (a0 : Nat) (x1 : Int32) (x2 : Int32) (x3 : Int32) (h : jxH) : jb_135 rc d 7 [(0, .ref a0), (1, .int x1), (2, .int x2), (3, .int x3)] [] h =
  if (12 : Int32) ≤ x3 then
    (jx_gR (jx_at h a0) 12 1).bind fun b1 =>
    (jx_aI (jx_at h b1) 0 (0 : Int32)).bind fun v2 =>
    jx_cI (jx_C rc d 76 [.int v2] h) fun v4 h3 =>
    jx_cI (jx_C rc d 76 [.int x2] h3) fun v6 h5 =>
    some (some (.int (v4 - v6)), h5)
  else
    jb_135 rc d 14 [(0, .ref a0), (1, .int x1), (2, .int x2), (3, .int x3), (4, .int (-1 : Int32)), (5, .int (0 : Int32))] [] h :=
  (jx_G_run (jx_X_grows rc jx_dflt jx_mt d) 120 _).trans rfl
set_option maxRecDepth 100000 in
theorem je_135_14 (rc : Nat → Nat × (Nat → Int32)) (d : Nat) (a0 : Nat) (x1 : Int32) (x2 : Int32) (x3 : Int32) (x4 : Int32) (x5 : Int32) (h : jxH) : jb_135 rc d 14 [(0, .ref a0), (1, .int x1), (2, .int x2), (3, .int x3), (4, .int x4), (5, .int x5)] [] h =
  if (12 : Int32) ≤ x5 then
    if 0 ≤ x4 then
      (jx_gR (jx_at h a0) 12 9).bind fun b1 =>
      (jx_aQ (jx_at h b1) 8 x4).bind fun o2 =>
      jx_mo o2 (fun b3 => (jx_aI (jx_at h b3) 0 x3).bind fun v4 =>
        jx_cI (jx_C rc d 132 [.int v4, .int x1] h) fun v6 h5 =>
        jb_135 rc d 56 [(0, .ref a0), (1, .int x1), (2, .int (x2 ||| ((1 : Int32) <<< (x4 &&& 31)))), (3, .int x3), (4, .int x4), (5, .int v6), (6, .int (0 : Int32))] [] h5)
      (none)
    else
      jb_135 rc d 7 [(0, .ref a0), (1, .int x1), (2, .int x2), (3, .int (x3 + (1 : Int32)))] [] h
  else
    if 0 ≤ x4 then
      jb_135 rc d 14 [(0, .ref a0), (1, .int x1), (2, .int x2), (3, .int x3), (4, .int x4), (5, .int (x5 + (1 : Int32)))] [] h
    else
      jx_cI (jx_C rc d 75 [.int x2, .int x5] h) fun v8 h7 =>
      if v8 = 0 then
        (jx_gR (jx_at h7 a0) 12 9).bind fun b9 =>
        (jx_aQ (jx_at h7 b9) 8 x5).bind fun o10 =>
        jx_mo o10 (fun b11 => (jx_aI (jx_at h7 b11) 0 x3).bind fun v12 =>
          if v12 = 0 then
            jb_135 rc d 14 [(0, .ref a0), (1, .int x1), (2, .int x2), (3, .int x3), (4, .int x4), (5, .int (x5 + (1 : Int32)))] [] h7
          else
            jb_135 rc d 14 [(0, .ref a0), (1, .int x1), (2, .int x2), (3, .int x3), (4, .int x5), (5, .int (x5 + (1 : Int32)))] [] h7)
        (none)
      else
        jb_135 rc d 14 [(0, .ref a0), (1, .int x1), (2, .int x2), (3, .int x3), (4, .int x4), (5, .int (x5 + (1 : Int32)))] [] h7 :=
  (jx_G_run (jx_X_grows rc jx_dflt jx_mt d) 120 _).trans rfl
set_option maxRecDepth 100000 in
theorem je_135_56 (rc : Nat → Nat × (Nat → Int32)) (d : Nat) (a0 : Nat) (x1 : Int32) (x2 : Int32) (x3 : Int32) (x4 : Int32) (x5 : Int32) (x6 : Int32) (h : jxH) : jb_135 rc d 56 [(0, .ref a0), (1, .int x1), (2, .int x2), (3, .int x3), (4, .int x4), (5, .int x5), (6, .int x6)] [] h =
  if (12 : Int32) ≤ x6 then
    jb_135 rc d 7 [(0, .ref a0), (1, .int x1), (2, .int x2), (3, .int (x3 + (1 : Int32)))] [] h
  else
    if x6 = x4 then
      jb_135 rc d 77 [(0, .ref a0), (1, .int x1), (2, .int x2), (3, .int x3), (4, .int x4), (5, .int x5), (6, .int x6), (7, .int (0 : Int32)), (8, .int (0 : Int32))] [] h
    else
      (jx_gR (jx_at h a0) 12 9).bind fun b1 =>
      (jx_aQ (jx_at h b1) 8 x6).bind fun o2 =>
      jx_mo o2 (fun b3 => (jx_aI (jx_at h b3) 0 x3).bind fun v4 =>
        if x1 = 0 then none else jb_135 rc d 77 [(0, .ref a0), (1, .int x1), (2, .int x2), (3, .int x3), (4, .int x4), (5, .int x5), (6, .int x6), (7, .int ((v4 * x5) - (v4 * x5) / x1 * x1)), (8, .int (0 : Int32))] [] h)
      (none) :=
  (jx_G_run (jx_X_grows rc jx_dflt jx_mt d) 120 _).trans rfl
set_option maxRecDepth 100000 in
theorem je_135_77 (rc : Nat → Nat × (Nat → Int32)) (d : Nat) (a0 : Nat) (x1 : Int32) (x2 : Int32) (x3 : Int32) (x4 : Int32) (x5 : Int32) (x6 : Int32) (x7 : Int32) (x8 : Int32) (h : jxH) : jb_135 rc d 77 [(0, .ref a0), (1, .int x1), (2, .int x2), (3, .int x3), (4, .int x4), (5, .int x5), (6, .int x6), (7, .int x7), (8, .int x8)] [] h =
  if (12 : Int32) ≤ x8 then
    jb_135 rc d 56 [(0, .ref a0), (1, .int x1), (2, .int x2), (3, .int x3), (4, .int x4), (5, .int x5), (6, .int (x6 + (1 : Int32)))] [] h
  else
    (jx_gR (jx_at h a0) 12 9).bind fun b1 =>
    (jx_aQ (jx_at h b1) 8 x6).bind fun o2 =>
    jx_mo o2 (fun b3 => (jx_gR (jx_at h a0) 12 9).bind fun b4 =>
      (jx_aQ (jx_at h b4) 8 x6).bind fun o5 =>
      jx_mo o5 (fun b6 => (jx_aI (jx_at h b6) 0 x8).bind fun v7 =>
        (jx_gR (jx_at h a0) 12 9).bind fun b8 =>
        (jx_aQ (jx_at h b8) 8 x4).bind fun o9 =>
        jx_mo o9 (fun b10 => (jx_aI (jx_at h b10) 0 x8).bind fun v11 =>
          jx_cI (jx_C rc d 133 [.int (v7 - (x7 * v11)), .int x1] h) fun v13 h12 =>
          (jx_sI (jx_at h12 b3) 0 x8 v13).bind fun e14 =>
          jb_135 rc d 77 [(0, .ref a0), (1, .int x1), (2, .int x2), (3, .int x3), (4, .int x4), (5, .int x5), (6, .int x6), (7, .int x7), (8, .int (x8 + (1 : Int32)))] [] (jx_set h12 b3 e14))
        (none))
      (none))
    ((jx_gR (jx_at h a0) 12 9).bind fun b15 =>
      (jx_aQ (jx_at h b15) 8 x6).bind fun o16 =>
      jx_mo o16 (fun b17 => (jx_aI (jx_at h b17) 0 x8).bind fun v18 =>
        (jx_gR (jx_at h a0) 12 9).bind fun b19 =>
        (jx_aQ (jx_at h b19) 8 x4).bind fun o20 =>
        jx_mo o20 (fun b21 => (jx_aI (jx_at h b21) 0 x8).bind fun v22 =>
          jx_cI (jx_C rc d 133 [.int (v18 - (x7 * v22)), .int x1] h) fun v24 h23 =>
          none)
        (none))
      (none)) :=
  (jx_G_run (jx_X_grows rc jx_dflt jx_mt d) 120 _).trans rfl
-- RoomTreesModel.kernel(I)I
set_option maxRecDepth 100000 in
theorem je_136 (rc : Nat → Nat × (Nat → Int32)) (d : Nat) (a0 : Nat) (x1 : Int32) (h : jxH) : jx_C rc (d + 1) 136 [.ref a0, .int x1] h =
  if jx_is (jx_at h a0) 12 = true then
  if x1 = (2 : Int32) then
    if (1 : Int32) = 0 then
      jx_cI (jx_C rc d 73 [.ref a0, .int (1 : Int32)] h) fun v2 h1 =>
      some (some (.int v2), h1)
    else
      jx_cI (jx_C rc d 135 [.ref a0, .int x1] h) fun v4 h3 =>
      some (some (.int v4), h3)
  else
    if x1 = (3 : Int32) then
      if (1 : Int32) = 0 then
        jx_cI (jx_C rc d 73 [.ref a0, .int (1 : Int32)] h) fun v6 h5 =>
        some (some (.int v6), h5)
      else
        jx_cI (jx_C rc d 135 [.ref a0, .int x1] h) fun v8 h7 =>
        some (some (.int v8), h7)
    else
      if x1 = (5 : Int32) then
        if (1 : Int32) = 0 then
          jx_cI (jx_C rc d 73 [.ref a0, .int (1 : Int32)] h) fun v10 h9 =>
          some (some (.int v10), h9)
        else
          jx_cI (jx_C rc d 135 [.ref a0, .int x1] h) fun v12 h11 =>
          some (some (.int v12), h11)
      else
        if x1 = (7 : Int32) then
          if (1 : Int32) = 0 then
            jx_cI (jx_C rc d 73 [.ref a0, .int (1 : Int32)] h) fun v14 h13 =>
            some (some (.int v14), h13)
          else
            jx_cI (jx_C rc d 135 [.ref a0, .int x1] h) fun v16 h15 =>
            some (some (.int v16), h15)
        else
          if x1 = (11 : Int32) then
            if (1 : Int32) = 0 then
              jx_cI (jx_C rc d 73 [.ref a0, .int (1 : Int32)] h) fun v18 h17 =>
              some (some (.int v18), h17)
            else
              jx_cI (jx_C rc d 135 [.ref a0, .int x1] h) fun v20 h19 =>
              some (some (.int v20), h19)
          else
            if x1 = (13 : Int32) then
              if (1 : Int32) = 0 then
                jx_cI (jx_C rc d 73 [.ref a0, .int (1 : Int32)] h) fun v22 h21 =>
                some (some (.int v22), h21)
              else
                jx_cI (jx_C rc d 135 [.ref a0, .int x1] h) fun v24 h23 =>
                some (some (.int v24), h23)
            else
              if (0 : Int32) = 0 then
                jx_cI (jx_C rc d 73 [.ref a0, .int (1 : Int32)] h) fun v26 h25 =>
                some (some (.int v26), h25)
              else
                jx_cI (jx_C rc d 135 [.ref a0, .int x1] h) fun v28 h27 =>
                some (some (.int v28), h27)
  else none :=
  jx_enter ((jx_G_run (jx_X_grows rc jx_dflt jx_mt d) 34 (0, [(0, .ref a0), (1, .int x1)], [], h)).trans rfl)
-- RoomTreesModel.isWu(I)Z
noncomputable def jb_137 (rc : Nat → Nat × (Nat → Int32)) (d : Nat) (i : Nat) (ls : List (Nat × Value)) (st : List Value) (h : jxH) : jxR := jx_G rc jx_dflt (jx_X rc jx_dflt jx_mt d) jc_137 (i, ls, st, h)
set_option maxRecDepth 100000 in
theorem je_137 (rc : Nat → Nat × (Nat → Int32)) (d : Nat) (a0 : Nat) (x1 : Int32) (h : jxH) : jx_C rc (d + 1) 137 [.ref a0, .int x1] h =
  if jx_is (jx_at h a0) 12 = true then
  jb_137 rc d 2 [(0, .ref a0), (1, .int x1), (2, .int (0 : Int32))] [] h
  else none :=
  jx_enter ((jx_G_run (jx_X_grows rc jx_dflt jx_mt d) 54 (0, [(0, .ref a0), (1, .int x1)], [], h)).trans rfl)
set_option maxRecDepth 100000 in
theorem je_137_2 (rc : Nat → Nat × (Nat → Int32)) (d : Nat) (a0 : Nat) (x1 : Int32) (x2 : Int32) (h : jxH) : jb_137 rc d 2 [(0, .ref a0), (1, .int x1), (2, .int x2)] [] h =
  if (12 : Int32) ≤ x2 then
    if jx_bool (1 : Int32) = true then some (some (.int (1 : Int32)), h) else none
  else
    (jx_gR (jx_at h a0) 12 1).bind fun b1 =>
    (jx_aI (jx_at h b1) 0 (0 : Int32)).bind fun v2 =>
    jx_cI (jx_C rc d 75 [.int v2, .int x2] h) fun v4 h3 =>
    if v4 = 0 then
      jb_137 rc d 2 [(0, .ref a0), (1, .int x1), (2, .int (x2 + (1 : Int32)))] [] h3
    else
      (jx_gR (jx_at h3 a0) 12 1).bind fun b5 =>
      (jx_aI (jx_at h3 b5) 0 ((13 : Int32) + x2)).bind fun v6 =>
      jx_cI (jx_C rc d 76 [.int (v6 &&& x1)] h3) fun v8 h7 =>
      jx_cI (jx_C rc d 75 [.int x1, .int x2] h7) fun v10 h9 =>
      if v10 = 0 then
        (jx_gR (jx_at h9 a0) 12 1).bind fun b11 =>
        (jx_aI (jx_at h9 b11) 0 ((1 : Int32) + x2)).bind fun v12 =>
        if (((v8 + (0 : Int32)) - v12) &&& (1 : Int32)) = 0 then
          jb_137 rc d 2 [(0, .ref a0), (1, .int x1), (2, .int (x2 + (1 : Int32)))] [] h9
        else
          if jx_bool (0 : Int32) = true then some (some (.int (0 : Int32)), h9) else none
      else
        (jx_gR (jx_at h9 a0) 12 1).bind fun b13 =>
        (jx_aI (jx_at h9 b13) 0 ((1 : Int32) + x2)).bind fun v14 =>
        (jx_gR (jx_at h9 a0) 12 1).bind fun b15 =>
        (jx_aI (jx_at h9 b15) 0 ((1 : Int32) + x2)).bind fun v16 =>
        if (((v8 + v14) - v16) &&& (1 : Int32)) = 0 then
          jb_137 rc d 2 [(0, .ref a0), (1, .int x1), (2, .int (x2 + (1 : Int32)))] [] h9
        else
          if jx_bool (0 : Int32) = true then some (some (.int (0 : Int32)), h9) else none :=
  (jx_G_run (jx_X_grows rc jx_dflt jx_mt d) 54 _).trans rfl
-- RoomTreesModel.leastWu()I
noncomputable def jb_138 (rc : Nat → Nat × (Nat → Int32)) (d : Nat) (i : Nat) (ls : List (Nat × Value)) (st : List Value) (h : jxH) : jxR := jx_G rc jx_dflt (jx_X rc jx_dflt jx_mt d) jc_138 (i, ls, st, h)
set_option maxRecDepth 100000 in
theorem je_138 (rc : Nat → Nat × (Nat → Int32)) (d : Nat) (a0 : Nat) (h : jxH) : jx_C rc (d + 1) 138 [.ref a0] h =
  if jx_is (jx_at h a0) 12 = true then
  jb_138 rc d 2 [(0, .ref a0), (1, .int (0 : Int32))] [] h
  else none :=
  jx_enter ((jx_G_run (jx_X_grows rc jx_dflt jx_mt d) 21 (0, [(0, .ref a0)], [], h)).trans rfl)
set_option maxRecDepth 100000 in
theorem je_138_2 (rc : Nat → Nat × (Nat → Int32)) (d : Nat) (a0 : Nat) (x1 : Int32) (h : jxH) : jb_138 rc d 2 [(0, .ref a0), (1, .int x1)] [] h =
  (jx_gR (jx_at h a0) 12 1).bind fun b1 =>
  (jx_aI (jx_at h b1) 0 (0 : Int32)).bind fun v2 =>
  if (x1 &&& (v2 ^^^ (-1 : Int32))) = 0 then
    jx_cI (jx_C rc d 137 [.ref a0, .int x1] h) fun v4 h3 =>
    if v4 = 0 then
      jb_138 rc d 2 [(0, .ref a0), (1, .int (x1 + (1 : Int32)))] [] h3
    else
      some (some (.int x1), h3)
  else
    jb_138 rc d 2 [(0, .ref a0), (1, .int (x1 + (1 : Int32)))] [] h :=
  (jx_G_run (jx_X_grows rc jx_dflt jx_mt d) 21 _).trans rfl
-- RoomTreesModel.manyWu()I
noncomputable def jb_139 (rc : Nat → Nat × (Nat → Int32)) (d : Nat) (i : Nat) (ls : List (Nat × Value)) (st : List Value) (h : jxH) : jxR := jx_G rc jx_dflt (jx_X rc jx_dflt jx_mt d) jc_139 (i, ls, st, h)
set_option maxRecDepth 100000 in
theorem je_139 (rc : Nat → Nat × (Nat → Int32)) (d : Nat) (a0 : Nat) (h : jxH) : jx_C rc (d + 1) 139 [.ref a0] h =
  if jx_is (jx_at h a0) 12 = true then
  jb_139 rc d 4 [(0, .ref a0), (1, .int (0 : Int32)), (2, .int (0 : Int32))] [] h
  else none :=
  jx_enter ((jx_G_run (jx_X_grows rc jx_dflt jx_mt d) 32 (0, [(0, .ref a0)], [], h)).trans rfl)
set_option maxRecDepth 100000 in
theorem je_139_4 (rc : Nat → Nat × (Nat → Int32)) (d : Nat) (a0 : Nat) (x1 : Int32) (x2 : Int32) (h : jxH) : jb_139 rc d 4 [(0, .ref a0), (1, .int x1), (2, .int x2)] [] h =
  if (4096 : Int32) ≤ x2 then
    some (some (.int x1), h)
  else
    (jx_gR (jx_at h a0) 12 1).bind fun b1 =>
    (jx_aI (jx_at h b1) 0 (0 : Int32)).bind fun v2 =>
    if (x2 &&& (v2 ^^^ (-1 : Int32))) = 0 then
      jx_cI (jx_C rc d 137 [.ref a0, .int x2] h) fun v4 h3 =>
      if v4 = 0 then
        jb_139 rc d 4 [(0, .ref a0), (1, .int (x1 + (0 : Int32))), (2, .int (x2 + (1 : Int32)))] [] h3
      else
        jb_139 rc d 4 [(0, .ref a0), (1, .int (x1 + (1 : Int32))), (2, .int (x2 + (1 : Int32)))] [] h3
    else
      jb_139 rc d 4 [(0, .ref a0), (1, .int (x1 + (0 : Int32))), (2, .int (x2 + (1 : Int32)))] [] h :=
  (jx_G_run (jx_X_grows rc jx_dflt jx_mt d) 32 _).trans rfl
-- RoomTreesModel.wu(I)I
set_option maxRecDepth 100000 in
theorem je_140 (rc : Nat → Nat × (Nat → Int32)) (d : Nat) (a0 : Nat) (x1 : Int32) (h : jxH) : jx_C rc (d + 1) 140 [.ref a0, .int x1] h =
  if jx_is (jx_at h a0) 12 = true then
  if x1 = 0 then
    jx_cI (jx_C rc d 139 [.ref a0] h) fun v2 h1 =>
    some (some (.int v2), h1)
  else
    if x1 = (1 : Int32) then
      jx_cI (jx_C rc d 138 [.ref a0] h) fun v4 h3 =>
      some (some (.int v4), h3)
    else
      jx_cI (jx_C rc d 73 [.ref a0, .int (1 : Int32)] h) fun v6 h5 =>
      some (some (.int v6), h5)
  else none :=
  jx_enter ((jx_G_run (jx_X_grows rc jx_dflt jx_mt d) 17 (0, [(0, .ref a0), (1, .int x1)], [], h)).trans rfl)
-- RoomTreesModel.mu()I
noncomputable def jb_141 (rc : Nat → Nat × (Nat → Int32)) (d : Nat) (i : Nat) (ls : List (Nat × Value)) (st : List Value) (h : jxH) : jxR := jx_G rc jx_dflt (jx_X rc jx_dflt jx_mt d) jc_141 (i, ls, st, h)
set_option maxRecDepth 100000 in
theorem je_141 (rc : Nat → Nat × (Nat → Int32)) (d : Nat) (a0 : Nat) (h : jxH) : jx_C rc (d + 1) 141 [.ref a0] h =
  if jx_is (jx_at h a0) 12 = true then
  (jx_gR (jx_at h a0) 12 1).bind fun b1 =>
  (jx_aI (jx_at h b1) 0 (0 : Int32)).bind fun v2 =>
  jx_cL (jx_C rc d 118 [.ref a0, .int v2] h) fun v4 h3 =>
  if (2 : Int64) = 0 then none else if (lg_cmp (v4 - v4 / (2 : Int64) * (2 : Int64)) (0 : Int64)) = 0 then
    jx_cI (jx_C rc d 73 [.ref a0, .int (3 : Int32)] h3) fun v6 h5 =>
    some (some (.int v6), h5)
  else
    jx_cI (jx_C rc d 138 [.ref a0] h3) fun v8 h7 =>
    jb_141 rc d 22 [(0, .ref a0), (1, .int v8), (2, .int (0 : Int32)), (3, .int (0 : Int32))] [] h7
  else none :=
  jx_enter ((jx_G_run (jx_X_grows rc jx_dflt jx_mt d) 63 (0, [(0, .ref a0)], [], h)).trans rfl)
set_option maxRecDepth 100000 in
theorem je_141_22 (rc : Nat → Nat × (Nat → Int32)) (d : Nat) (a0 : Nat) (x1 : Int32) (x2 : Int32) (x3 : Int32) (h : jxH) : jb_141 rc d 22 [(0, .ref a0), (1, .int x1), (2, .int x2), (3, .int x3)] [] h =
  if (12 : Int32) ≤ x3 then
    jx_cI (jx_C rc d 130 [.ref a0, .int (0 : Int32)] h) fun v2 h1 =>
    jx_cI (jx_C rc d 130 [.ref a0, .int (1 : Int32)] h1) fun v4 h3 =>
    some (some (.int ((v2 - v4) - x2)), h3)
  else
    jb_141 rc d 27 [(0, .ref a0), (1, .int x1), (2, .int x2), (3, .int x3), (4, .int (0 : Int32))] [] h :=
  (jx_G_run (jx_X_grows rc jx_dflt jx_mt d) 63 _).trans rfl
set_option maxRecDepth 100000 in
theorem je_141_27 (rc : Nat → Nat × (Nat → Int32)) (d : Nat) (a0 : Nat) (x1 : Int32) (x2 : Int32) (x3 : Int32) (x4 : Int32) (h : jxH) : jb_141 rc d 27 [(0, .ref a0), (1, .int x1), (2, .int x2), (3, .int x3), (4, .int x4)] [] h =
  if (12 : Int32) ≤ x4 then
    jb_141 rc d 22 [(0, .ref a0), (1, .int x1), (2, .int x2), (3, .int (x3 + (1 : Int32)))] [] h
  else
    jx_cI (jx_C rc d 75 [.int x1, .int x3] h) fun v2 h1 =>
    if v2 = 0 then
      jb_141 rc d 27 [(0, .ref a0), (1, .int x1), (2, .int (x2 + (0 : Int32))), (3, .int x3), (4, .int (x4 + (1 : Int32)))] [] h1
    else
      jx_cI (jx_C rc d 75 [.int x1, .int x4] h1) fun v4 h3 =>
      if v4 = 0 then
        jb_141 rc d 27 [(0, .ref a0), (1, .int x1), (2, .int (x2 + (0 : Int32))), (3, .int x3), (4, .int (x4 + (1 : Int32)))] [] h3
      else
        jx_cI (jx_C rc d 115 [.ref a0, .int x3, .int x4] h3) fun v6 h5 =>
        jb_141 rc d 27 [(0, .ref a0), (1, .int x1), (2, .int (x2 + v6)), (3, .int x3), (4, .int (x4 + (1 : Int32)))] [] h5 :=
  (jx_G_run (jx_X_grows rc jx_dflt jx_mt d) 63 _).trans rfl
-- RoomTreesModel.way(II)I
noncomputable def jb_142 (rc : Nat → Nat × (Nat → Int32)) (d : Nat) (i : Nat) (ls : List (Nat × Value)) (st : List Value) (h : jxH) : jxR := jx_G rc jx_dflt (jx_X rc jx_dflt jx_mt d) jc_142 (i, ls, st, h)
set_option maxRecDepth 100000 in
theorem je_142 (rc : Nat → Nat × (Nat → Int32)) (d : Nat) (a0 : Nat) (x1 : Int32) (x2 : Int32) (h : jxH) : jx_C rc (d + 1) 142 [.ref a0, .int x1, .int x2] h =
  if jx_is (jx_at h a0) 12 = true then
  (jx_gR (jx_at h a0) 12 1).bind fun b1 =>
  jx_cI (jx_C rc d 85 [.ref b1, .int x1] h) fun v3 h2 =>
  jb_142 rc d 7 [(0, .ref a0), (1, .int x1), (2, .int x2), (3, .int v3), (4, .int (0 : Int32))] [] h2
  else none :=
  jx_enter ((jx_G_run (jx_X_grows rc jx_dflt jx_mt d) 68 (0, [(0, .ref a0), (1, .int x1), (2, .int x2)], [], h)).trans rfl)
set_option maxRecDepth 100000 in
theorem je_142_7 (rc : Nat → Nat × (Nat → Int32)) (d : Nat) (a0 : Nat) (x1 : Int32) (x2 : Int32) (x3 : Int32) (x4 : Int32) (h : jxH) : jb_142 rc d 7 [(0, .ref a0), (1, .int x1), (2, .int x2), (3, .int x3), (4, .int x4)] [] h =
  if x4 = x3 then
    if x1 = x2 then
      some (some (.int ((1 : Int32) <<< (x1 &&& 31))), h)
    else
      some (some (.int x3), h)
  else
    jb_142 rc d 14 [(0, .ref a0), (1, .int x1), (2, .int x2), (3, .int x3), (4, .int x3), (5, .int (0 : Int32))] [] h :=
  (jx_G_run (jx_X_grows rc jx_dflt jx_mt d) 68 _).trans rfl
set_option maxRecDepth 100000 in
theorem je_142_14 (rc : Nat → Nat × (Nat → Int32)) (d : Nat) (a0 : Nat) (x1 : Int32) (x2 : Int32) (x3 : Int32) (x4 : Int32) (x5 : Int32) (h : jxH) : jb_142 rc d 14 [(0, .ref a0), (1, .int x1), (2, .int x2), (3, .int x3), (4, .int x4), (5, .int x5)] [] h =
  if (12 : Int32) ≤ x5 then
    jb_142 rc d 7 [(0, .ref a0), (1, .int x1), (2, .int x2), (3, .int x3), (4, .int x4)] [] h
  else
    jx_cI (jx_C rc d 75 [.int x3, .int x5] h) fun v2 h1 =>
    if v2 = 0 then
      if (0 : Int32) = 0 then
        jb_142 rc d 14 [(0, .ref a0), (1, .int x1), (2, .int x2), (3, .int (x3 &&& (-1 : Int32))), (4, .int x4), (5, .int (x5 + (1 : Int32)))] [] h1
      else
        jb_142 rc d 14 [(0, .ref a0), (1, .int x1), (2, .int x2), (3, .int (x3 &&& (((1 : Int32) <<< (x5 &&& 31)) ^^^ (-1 : Int32)))), (4, .int x4), (5, .int (x5 + (1 : Int32)))] [] h1
    else
      if x5 = x1 then
        if (0 : Int32) = 0 then
          jb_142 rc d 14 [(0, .ref a0), (1, .int x1), (2, .int x2), (3, .int (x3 &&& (-1 : Int32))), (4, .int x4), (5, .int (x5 + (1 : Int32)))] [] h1
        else
          jb_142 rc d 14 [(0, .ref a0), (1, .int x1), (2, .int x2), (3, .int (x3 &&& (((1 : Int32) <<< (x5 &&& 31)) ^^^ (-1 : Int32)))), (4, .int x4), (5, .int (x5 + (1 : Int32)))] [] h1
      else
        if x5 = x2 then
          if (0 : Int32) = 0 then
            jb_142 rc d 14 [(0, .ref a0), (1, .int x1), (2, .int x2), (3, .int (x3 &&& (-1 : Int32))), (4, .int x4), (5, .int (x5 + (1 : Int32)))] [] h1
          else
            jb_142 rc d 14 [(0, .ref a0), (1, .int x1), (2, .int x2), (3, .int (x3 &&& (((1 : Int32) <<< (x5 &&& 31)) ^^^ (-1 : Int32)))), (4, .int x4), (5, .int (x5 + (1 : Int32)))] [] h1
        else
          (jx_gR (jx_at h1 a0) 12 1).bind fun b3 =>
          (jx_aI (jx_at h1 b3) 0 ((13 : Int32) + x5)).bind fun v4 =>
          jx_cI (jx_C rc d 76 [.int (v4 &&& x3)] h1) fun v6 h5 =>
          if (1 : Int32) < v6 then
            if (0 : Int32) = 0 then
              jb_142 rc d 14 [(0, .ref a0), (1, .int x1), (2, .int x2), (3, .int (x3 &&& (-1 : Int32))), (4, .int x4), (5, .int (x5 + (1 : Int32)))] [] h5
            else
              jb_142 rc d 14 [(0, .ref a0), (1, .int x1), (2, .int x2), (3, .int (x3 &&& (((1 : Int32) <<< (x5 &&& 31)) ^^^ (-1 : Int32)))), (4, .int x4), (5, .int (x5 + (1 : Int32)))] [] h5
          else
            if (1 : Int32) = 0 then
              jb_142 rc d 14 [(0, .ref a0), (1, .int x1), (2, .int x2), (3, .int (x3 &&& (-1 : Int32))), (4, .int x4), (5, .int (x5 + (1 : Int32)))] [] h5
            else
              jb_142 rc d 14 [(0, .ref a0), (1, .int x1), (2, .int x2), (3, .int (x3 &&& (((1 : Int32) <<< (x5 &&& 31)) ^^^ (-1 : Int32)))), (4, .int x4), (5, .int (x5 + (1 : Int32)))] [] h5 :=
  (jx_G_run (jx_X_grows rc jx_dflt jx_mt d) 68 _).trans rfl
-- RoomTreesModel.fraction(III)I
set_option maxRecDepth 100000 in
theorem je_143 (rc : Nat → Nat × (Nat → Int32)) (d : Nat) (a0 : Nat) (x1 : Int32) (x2 : Int32) (x3 : Int32) (h : jxH) : jx_C rc (d + 1) 143 [.ref a0, .int x1, .int x2, .int x3] h =
  if jx_is (jx_at h a0) 12 = true then
  jx_cI (jx_C rc d 79 [.ref a0, .int x1] h) fun v2 h1 =>
  if v2 = 0 then
    jx_cI (jx_C rc d 73 [.ref a0, .int (1 : Int32)] h1) fun v4 h3 =>
    some (some (.int v4), h3)
  else
    jx_cI (jx_C rc d 79 [.ref a0, .int x2] h1) fun v6 h5 =>
    if v6 = 0 then
      jx_cI (jx_C rc d 73 [.ref a0, .int (1 : Int32)] h5) fun v8 h7 =>
      some (some (.int v8), h7)
    else
      jx_cI (jx_C rc d 72 [.long (x3).toInt64, .long (0 : Int64), .long (1 : Int64)] h5) fun v10 h9 =>
      if v10 = 0 then
        jx_cI (jx_C rc d 73 [.ref a0, .int (1 : Int32)] h9) fun v12 h11 =>
        some (some (.int v12), h11)
      else
        (jx_gR (jx_at h9 a0) 12 1).bind fun b13 =>
        jx_cI (jx_C rc d 85 [.ref b13, .int x1] h9) fun v15 h14 =>
        jx_cI (jx_C rc d 75 [.int v15, .int x2] h14) fun v17 h16 =>
        if v17 = 0 then
          jx_cI (jx_C rc d 73 [.ref a0, .int (2 : Int32)] h16) fun v19 h18 =>
          some (some (.int v19), h18)
        else
          jx_cI (jx_C rc d 142 [.ref a0, .int x1, .int x2] h16) fun v21 h20 =>
          jx_cV (jx_C rc d 117 [.ref a0] h20) fun h22 =>
          (jx_gR (jx_at h22 a0) 12 6).bind fun b23 =>
          (jx_aL (jx_at h22 b23) v21).bind fun v24 =>
          (jx_gR (jx_at h22 a0) 12 6).bind fun b25 =>
          (jx_aL (jx_at h22 b25) (v21 &&& (((1 : Int32) <<< (x1 &&& 31)) ^^^ (-1 : Int32)))).bind fun v26 =>
          if (lg_cmp v26 (0 : Int64)) = 0 then
            if x3 = 0 then
              some (some (.int (1 : Int32)), h22)
            else
              some (some (.int (0 : Int32)), h22)
          else
            if x3 = 0 then
              if 0 ≤ (lg_cmp v26 (0 : Int64)) then
                jx_cI (jx_C rc d 119 [.ref a0, .long v24] h22) fun v28 h27 =>
                some (some (.int v28), h27)
              else
                jx_cI (jx_C rc d 119 [.ref a0, .long (-v24)] h22) fun v30 h29 =>
                some (some (.int v30), h29)
            else
              if 0 ≤ (lg_cmp v26 (0 : Int64)) then
                jx_cI (jx_C rc d 119 [.ref a0, .long v26] h22) fun v32 h31 =>
                some (some (.int v32), h31)
              else
                jx_cI (jx_C rc d 119 [.ref a0, .long (-v26)] h22) fun v34 h33 =>
                some (some (.int v34), h33)
  else none :=
  jx_enter ((jx_G_run (jx_X_grows rc jx_dflt jx_mt d) 81 (0, [(0, .ref a0), (1, .int x1), (2, .int x2), (3, .int x3)], [], h)).trans rfl)
-- RoomTreesModel.isLine(I)Z
noncomputable def jb_144 (rc : Nat → Nat × (Nat → Int32)) (d : Nat) (i : Nat) (ls : List (Nat × Value)) (st : List Value) (h : jxH) : jxR := jx_G rc jx_dflt (jx_X rc jx_dflt jx_mt d) jc_144 (i, ls, st, h)
set_option maxRecDepth 100000 in
theorem je_144 (rc : Nat → Nat × (Nat → Int32)) (d : Nat) (a0 : Nat) (x1 : Int32) (h : jxH) : jx_C rc (d + 1) 144 [.ref a0, .int x1] h =
  if jx_is (jx_at h a0) 12 = true then
  jb_144 rc d 2 [(0, .ref a0), (1, .int x1), (2, .int (0 : Int32))] [] h
  else none :=
  jx_enter ((jx_G_run (jx_X_grows rc jx_dflt jx_mt d) 26 (0, [(0, .ref a0), (1, .int x1)], [], h)).trans rfl)
set_option maxRecDepth 100000 in
theorem je_144_2 (rc : Nat → Nat × (Nat → Int32)) (d : Nat) (a0 : Nat) (x1 : Int32) (x2 : Int32) (h : jxH) : jb_144 rc d 2 [(0, .ref a0), (1, .int x1), (2, .int x2)] [] h =
  if (12 : Int32) ≤ x2 then
    if jx_bool (1 : Int32) = true then some (some (.int (1 : Int32)), h) else none
  else
    jx_cI (jx_C rc d 75 [.int x1, .int x2] h) fun v2 h1 =>
    if v2 = 0 then
      jb_144 rc d 2 [(0, .ref a0), (1, .int x1), (2, .int (x2 + (1 : Int32)))] [] h1
    else
      (jx_gR (jx_at h1 a0) 12 1).bind fun b3 =>
      (jx_aI (jx_at h1 b3) 0 ((13 : Int32) + x2)).bind fun v4 =>
      jx_cI (jx_C rc d 76 [.int v4] h1) fun v6 h5 =>
      if v6 ≤ (2 : Int32) then
        jb_144 rc d 2 [(0, .ref a0), (1, .int x1), (2, .int (x2 + (1 : Int32)))] [] h5
      else
        if jx_bool (0 : Int32) = true then some (some (.int (0 : Int32)), h5) else none :=
  (jx_G_run (jx_X_grows rc jx_dflt jx_mt d) 26 _).trans rfl
-- RoomTreesModel.roomN(I)J
set_option maxRecDepth 100000 in
theorem je_145 (rc : Nat → Nat × (Nat → Int32)) (d : Nat) (a0 : Nat) (x1 : Int32) (h : jxH) : jx_C rc (d + 1) 145 [.ref a0, .int x1] h =
  if jx_is (jx_at h a0) 12 = true then
  jx_cL (jx_C rc d 118 [.ref a0, .int x1] h) fun v2 h1 =>
  if 0 ≤ (lg_cmp v2 (0 : Int64)) then
    some (some (.long v2), h1)
  else
    some (some (.long (-v2)), h1)
  else none :=
  jx_enter ((jx_G_run (jx_X_grows rc jx_dflt jx_mt d) 15 (0, [(0, .ref a0), (1, .int x1)], [], h)).trans rfl)
-- RoomTreesModel.roomM(I)J
noncomputable def jb_146 (rc : Nat → Nat × (Nat → Int32)) (d : Nat) (i : Nat) (ls : List (Nat × Value)) (st : List Value) (h : jxH) : jxR := jx_G rc jx_dflt (jx_X rc jx_dflt jx_mt d) jc_146 (i, ls, st, h)
set_option maxRecDepth 100000 in
theorem je_146 (rc : Nat → Nat × (Nat → Int32)) (d : Nat) (a0 : Nat) (x1 : Int32) (h : jxH) : jx_C rc (d + 1) 146 [.ref a0, .int x1] h =
  if jx_is (jx_at h a0) 12 = true then
  jb_146 rc d 2 [(0, .ref a0), (1, .int x1), (2, .int (0 : Int32))] [] h
  else none :=
  jx_enter ((jx_G_run (jx_X_grows rc jx_dflt jx_mt d) 73 (0, [(0, .ref a0), (1, .int x1)], [], h)).trans rfl)
set_option maxRecDepth 100000 in
theorem je_146_2 (rc : Nat → Nat × (Nat → Int32)) (d : Nat) (a0 : Nat) (x1 : Int32) (x2 : Int32) (h : jxH) : jb_146 rc d 2 [(0, .ref a0), (1, .int x1), (2, .int x2)] [] h =
  jx_cI (jx_C rc d 75 [.int x1, .int x2] h) fun v2 h1 =>
  if v2 = 0 then
    jb_146 rc d 2 [(0, .ref a0), (1, .int x1), (2, .int (x2 + (1 : Int32)))] [] h1
  else
    (jx_gR (jx_at h1 a0) 12 1).bind fun b3 =>
    (jx_aI (jx_at h1 b3) 0 ((13 : Int32) + x2)).bind fun v4 =>
    jx_cI (jx_C rc d 76 [.int v4] h1) fun v6 h5 =>
    if v6 ≤ (1 : Int32) then
      jx_cV (jx_C rc d 117 [.ref a0] h5) fun h7 =>
      (jx_gR (jx_at h7 a0) 12 6).bind fun b8 =>
      (jx_aL (jx_at h7 b8) x1).bind fun v9 =>
      (jx_gR (jx_at h7 a0) 12 6).bind fun b10 =>
      (jx_aL (jx_at h7 b10) (x1 &&& (((1 : Int32) <<< (x2 &&& 31)) ^^^ (-1 : Int32)))).bind fun v11 =>
      if (lg_cmp v9 (0 : Int64)) = 0 then
        some (some (.long (1 : Int64)), h7)
      else
        if 0 ≤ (lg_cmp v9 (0 : Int64)) then
          jb_146 rc d 49 [(3, .long v9), (5, .long v11)] [.long v9] h7
        else
          jb_146 rc d 49 [(3, .long v9), (5, .long v11)] [.long (-v9)] h7
    else
      jb_146 rc d 2 [(0, .ref a0), (1, .int x1), (2, .int (x2 + (1 : Int32)))] [] h5 :=
  (jx_G_run (jx_X_grows rc jx_dflt jx_mt d) 73 _).trans rfl
set_option maxRecDepth 100000 in
theorem je_146_49 (rc : Nat → Nat × (Nat → Int32)) (d : Nat) (x3 : Int64) (x5 : Int64) (s0 : Int64) (h : jxH) : jb_146 rc d 49 [(3, .long x3), (5, .long x5)] [.long s0] h =
  if (lg_cmp x3 (0 : Int64)) ≤ 0 then
    if s0 = 0 then none else if 0 ≤ (lg_cmp (x5 - x5 / s0 * s0) (0 : Int64)) then
      some (some (.long (x5 - x5 / s0 * s0)), h)
    else
      some (some (.long ((x5 - x5 / s0 * s0) + s0)), h)
  else
    if s0 = 0 then none else if 0 ≤ (lg_cmp ((-x5) - (-x5) / s0 * s0) (0 : Int64)) then
      some (some (.long ((-x5) - (-x5) / s0 * s0)), h)
    else
      some (some (.long (((-x5) - (-x5) / s0 * s0) + s0)), h) :=
  (jx_G_run (jx_X_grows rc jx_dflt jx_mt d) 73 _).trans rfl
-- RoomTreesModel.isOver(J)Z
set_option maxRecDepth 100000 in
theorem je_147 (rc : Nat → Nat × (Nat → Int32)) (d : Nat) (x0 : Int64) (h : jxH) : jx_C rc (d + 1) 147 [.long x0] h =
  jx_cI (jx_C rc d 72 [.long x0, .long (-1073741824 : Int64), .long (1073741823 : Int64)] h) fun v2 h1 =>
  if v2 = 0 then
    if jx_bool (1 : Int32) = true then some (some (.int (1 : Int32)), h1) else none
  else
    if jx_bool (0 : Int32) = true then some (some (.int (0 : Int32)), h1) else none :=
  (jx_G_run (jx_X_grows rc jx_dflt jx_mt d) 11 (0, [(0, .long x0)], [], h)).trans rfl
-- RoomTreesModel.room(II)I
set_option maxRecDepth 100000 in
theorem je_148 (rc : Nat → Nat × (Nat → Int32)) (d : Nat) (a0 : Nat) (x1 : Int32) (x2 : Int32) (h : jxH) : jx_C rc (d + 1) 148 [.ref a0, .int x1, .int x2] h =
  if jx_is (jx_at h a0) 12 = true then
  jx_cI (jx_C rc d 79 [.ref a0, .int x1] h) fun v2 h1 =>
  if v2 = 0 then
    jx_cI (jx_C rc d 73 [.ref a0, .int (1 : Int32)] h1) fun v4 h3 =>
    some (some (.int v4), h3)
  else
    jx_cI (jx_C rc d 72 [.long (x2).toInt64, .long (0 : Int64), .long (1 : Int64)] h1) fun v6 h5 =>
    if v6 = 0 then
      jx_cI (jx_C rc d 73 [.ref a0, .int (1 : Int32)] h5) fun v8 h7 =>
      some (some (.int v8), h7)
    else
      (jx_gR (jx_at h5 a0) 12 1).bind fun b9 =>
      jx_cI (jx_C rc d 85 [.ref b9, .int x1] h5) fun v11 h10 =>
      jx_cI (jx_C rc d 144 [.ref a0, .int v11] h10) fun v13 h12 =>
      if v13 = 0 then
        jx_cI (jx_C rc d 73 [.ref a0, .int (3 : Int32)] h12) fun v15 h14 =>
        some (some (.int v15), h14)
      else
        jx_cL (jx_C rc d 145 [.ref a0, .int v11] h12) fun v17 h16 =>
        jx_cI (jx_C rc d 147 [.long v17] h16) fun v19 h18 =>
        if v19 = 0 then
          if x2 = 0 then
            jx_cL (jx_C rc d 145 [.ref a0, .int v11] h18) fun v21 h20 =>
            some (some (.int ((v21).toInt32)), h20)
          else
            jx_cL (jx_C rc d 146 [.ref a0, .int v11] h18) fun v23 h22 =>
            some (some (.int ((v23).toInt32)), h22)
        else
          jx_cI (jx_C rc d 73 [.ref a0, .int (5 : Int32)] h18) fun v25 h24 =>
          some (some (.int v25), h24)
  else none :=
  jx_enter ((jx_G_run (jx_X_grows rc jx_dflt jx_mt d) 49 (0, [(0, .ref a0), (1, .int x1), (2, .int x2)], [], h)).trans rfl)
-- RoomTreesModel.oneRoom(II)I
set_option maxRecDepth 100000 in
theorem je_149 (rc : Nat → Nat × (Nat → Int32)) (d : Nat) (a0 : Nat) (x1 : Int32) (x2 : Int32) (h : jxH) : jx_C rc (d + 1) 149 [.ref a0, .int x1, .int x2] h =
  if jx_is (jx_at h a0) 12 = true then
  jx_cI (jx_C rc d 79 [.ref a0, .int x1] h) fun v2 h1 =>
  if v2 = 0 then
    jx_cI (jx_C rc d 73 [.ref a0, .int (1 : Int32)] h1) fun v4 h3 =>
    some (some (.int v4), h3)
  else
    jx_cI (jx_C rc d 79 [.ref a0, .int x2] h1) fun v6 h5 =>
    if v6 = 0 then
      jx_cI (jx_C rc d 73 [.ref a0, .int (1 : Int32)] h5) fun v8 h7 =>
      some (some (.int v8), h7)
    else
      (jx_gR (jx_at h5 a0) 12 1).bind fun b9 =>
      jx_cI (jx_C rc d 85 [.ref b9, .int x1] h5) fun v11 h10 =>
      (jx_gR (jx_at h10 a0) 12 1).bind fun b12 =>
      jx_cI (jx_C rc d 85 [.ref b12, .int x2] h10) fun v14 h13 =>
      jx_cI (jx_C rc d 144 [.ref a0, .int v11] h13) fun v16 h15 =>
      if v16 = 0 then
        jx_cI (jx_C rc d 73 [.ref a0, .int (3 : Int32)] h15) fun v18 h17 =>
        some (some (.int v18), h17)
      else
        jx_cI (jx_C rc d 144 [.ref a0, .int v14] h15) fun v20 h19 =>
        if v20 = 0 then
          jx_cI (jx_C rc d 73 [.ref a0, .int (3 : Int32)] h19) fun v22 h21 =>
          some (some (.int v22), h21)
        else
          jx_cL (jx_C rc d 145 [.ref a0, .int v11] h19) fun v24 h23 =>
          jx_cI (jx_C rc d 147 [.long v24] h23) fun v26 h25 =>
          if v26 = 0 then
            jx_cL (jx_C rc d 145 [.ref a0, .int v14] h25) fun v28 h27 =>
            jx_cI (jx_C rc d 147 [.long v28] h27) fun v30 h29 =>
            if v30 = 0 then
              jx_cL (jx_C rc d 145 [.ref a0, .int v11] h29) fun v32 h31 =>
              jx_cL (jx_C rc d 145 [.ref a0, .int v14] h31) fun v34 h33 =>
              if (lg_cmp v32 v34) = 0 then
                if (lg_cmp v32 (2 : Int64)) < 0 then
                  some (some (.int (1 : Int32)), h33)
                else
                  jx_cL (jx_C rc d 146 [.ref a0, .int v11] h33) fun v36 h35 =>
                  jx_cL (jx_C rc d 146 [.ref a0, .int v14] h35) fun v38 h37 =>
                  if (lg_cmp v36 v38) = 0 then
                    some (some (.int (1 : Int32)), h37)
                  else
                    jx_cL (jx_C rc d 146 [.ref a0, .int v11] h37) fun v40 h39 =>
                    jx_cL (jx_C rc d 146 [.ref a0, .int v14] h39) fun v42 h41 =>
                    if v32 = 0 then none else if (lg_cmp ((v40 * v42) - (v40 * v42) / v32 * v32) (1 : Int64)) = 0 then
                      some (some (.int (1 : Int32)), h41)
                    else
                      some (some (.int (0 : Int32)), h41)
              else
                some (some (.int (0 : Int32)), h33)
            else
              jx_cI (jx_C rc d 73 [.ref a0, .int (5 : Int32)] h29) fun v44 h43 =>
              some (some (.int v44), h43)
          else
            jx_cI (jx_C rc d 73 [.ref a0, .int (5 : Int32)] h25) fun v46 h45 =>
            some (some (.int v46), h45)
  else none :=
  jx_enter ((jx_G_run (jx_X_grows rc jx_dflt jx_mt d) 90 (0, [(0, .ref a0), (1, .int x1), (2, .int x2)], [], h)).trans rfl)
-- RoomTreesModel.isChain(II)Z
set_option maxRecDepth 100000 in
theorem je_150 (rc : Nat → Nat × (Nat → Int32)) (d : Nat) (x0 : Int32) (x1 : Int32) (h : jxH) : jx_C rc (d + 1) 150 [.int x0, .int x1] h =
  jx_cI (jx_C rc d 72 [.long (x0).toInt64, .long (2 : Int64), .long (999 : Int64)] h) fun v2 h1 =>
  if v2 = 0 then
    if jx_bool (0 : Int32) = true then some (some (.int (0 : Int32)), h1) else none
  else
    jx_cI (jx_C rc d 72 [.long (x1).toInt64, .long (1 : Int64), .long ((x0).toInt64 - (1 : Int64))] h1) fun v4 h3 =>
    if v4 = 0 then
      if jx_bool (0 : Int32) = true then some (some (.int (0 : Int32)), h3) else none
    else
      if jx_bool (1 : Int32) = true then some (some (.int (1 : Int32)), h3) else none :=
  (jx_G_run (jx_X_grows rc jx_dflt jx_mt d) 21 (0, [(0, .int x0), (1, .int x1)], [], h)).trans rfl
-- RoomTreesModel.chained(III)I
noncomputable def jb_151 (rc : Nat → Nat × (Nat → Int32)) (d : Nat) (i : Nat) (ls : List (Nat × Value)) (st : List Value) (h : jxH) : jxR := jx_G rc jx_dflt (jx_X rc jx_dflt jx_mt d) jc_151 (i, ls, st, h)
set_option maxRecDepth 100000 in
theorem je_151 (rc : Nat → Nat × (Nat → Int32)) (d : Nat) (x0 : Int32) (x1 : Int32) (x2 : Int32) (h : jxH) : jx_C rc (d + 1) 151 [.int x0, .int x1, .int x2] h =
  jb_151 rc d 6 [(2, .int x2), (3, .int x0), (4, .int x1), (5, .int (0 : Int32))] [] h :=
  (jx_G_run (jx_X_grows rc jx_dflt jx_mt d) 41 (0, [(0, .int x0), (1, .int x1), (2, .int x2)], [], h)).trans rfl
set_option maxRecDepth 100000 in
theorem je_151_6 (rc : Nat → Nat × (Nat → Int32)) (d : Nat) (x2 : Int32) (x3 : Int32) (x4 : Int32) (x5 : Int32) (h : jxH) : jb_151 rc d 6 [(2, .int x2), (3, .int x3), (4, .int x4), (5, .int x5)] [] h =
  if x4 ≤ 0 then
    if 0 ≤ x2 then
      some (some (.int (-1 : Int32)), h)
    else
      some (some (.int x5), h)
  else
    if x4 = 0 then none else if x5 = x2 then
      some (some (.int (((x3 + x4) - (1 : Int32)) / x4)), h)
    else
      jb_151 rc d 6 [(2, .int x2), (3, .int x4), (4, .int (((((x3 + x4) - (1 : Int32)) / x4) * x4) - x3)), (5, .int (x5 + (1 : Int32)))] [] h :=
  (jx_G_run (jx_X_grows rc jx_dflt jx_mt d) 41 _).trans rfl
-- RoomTreesModel.chain(III)I
set_option maxRecDepth 100000 in
theorem je_152 (rc : Nat → Nat × (Nat → Int32)) (d : Nat) (a0 : Nat) (x1 : Int32) (x2 : Int32) (x3 : Int32) (h : jxH) : jx_C rc (d + 1) 152 [.ref a0, .int x1, .int x2, .int x3] h =
  if jx_is (jx_at h a0) 12 = true then
  jx_cI (jx_C rc d 150 [.int x1, .int x2] h) fun v2 h1 =>
  if v2 = 0 then
    jx_cI (jx_C rc d 73 [.ref a0, .int (1 : Int32)] h1) fun v4 h3 =>
    some (some (.int v4), h3)
  else
    if (-1 : Int32) ≤ x3 then
      jx_cL (jx_C rc d 125 [.long (x1).toInt64, .long (x2).toInt64] h1) fun v6 h5 =>
      if (lg_cmp v6 (1 : Int64)) ≤ 0 then
        jx_cI (jx_C rc d 151 [.int x1, .int x2, .int x3] h5) fun v8 h7 =>
        if 0 ≤ v8 then
          some (some (.int v8), h7)
        else
          jx_cI (jx_C rc d 73 [.ref a0, .int (2 : Int32)] h7) fun v10 h9 =>
          some (some (.int v10), h9)
      else
        jx_cI (jx_C rc d 73 [.ref a0, .int (3 : Int32)] h5) fun v12 h11 =>
        some (some (.int v12), h11)
    else
      jx_cI (jx_C rc d 73 [.ref a0, .int (1 : Int32)] h1) fun v14 h13 =>
      some (some (.int v14), h13)
  else none :=
  jx_enter ((jx_G_run (jx_X_grows rc jx_dflt jx_mt d) 38 (0, [(0, .ref a0), (1, .int x1), (2, .int x2), (3, .int x3)], [], h)).trans rfl)
-- RoomTreesModel.plant(II)I
noncomputable def jb_153 (rc : Nat → Nat × (Nat → Int32)) (d : Nat) (i : Nat) (ls : List (Nat × Value)) (st : List Value) (h : jxH) : jxR := jx_G rc jx_dflt (jx_X rc jx_dflt jx_mt d) jc_153 (i, ls, st, h)
set_option maxRecDepth 100000 in
theorem je_153 (rc : Nat → Nat × (Nat → Int32)) (d : Nat) (a0 : Nat) (x1 : Int32) (x2 : Int32) (h : jxH) : jx_C rc (d + 1) 153 [.ref a0, .int x1, .int x2] h =
  if jx_is (jx_at h a0) 12 = true then
  jx_cI (jx_C rc d 150 [.int x1, .int x2] h) fun v2 h1 =>
  if v2 = 0 then
    jx_cI (jx_C rc d 73 [.ref a0, .int (1 : Int32)] h1) fun v4 h3 =>
    some (some (.int v4), h3)
  else
    jx_cL (jx_C rc d 125 [.long (x1).toInt64, .long (x2).toInt64] h1) fun v6 h5 =>
    if (lg_cmp v6 (1 : Int64)) ≤ 0 then
      jx_cI (jx_C rc d 151 [.int x1, .int x2, .int (-1 : Int32)] h5) fun v8 h7 =>
      (jx_gR (jx_at h7 a0) 12 1).bind fun b9 =>
      (jx_aI (jx_at h7 b9) 0 (0 : Int32)).bind fun v10 =>
      jx_cI (jx_C rc d 76 [.int v10] h7) fun v12 h11 =>
      if (v8 + v12) ≤ (12 : Int32) then
        jb_153 rc d 40 [(0, .ref a0), (1, .int x1), (2, .int x2), (3, .int v8), (4, .int (0 : Int32))] [] h11
      else
        jx_cI (jx_C rc d 73 [.ref a0, .int (4 : Int32)] h11) fun v14 h13 =>
        some (some (.int v14), h13)
    else
      jx_cI (jx_C rc d 73 [.ref a0, .int (3 : Int32)] h5) fun v16 h15 =>
      some (some (.int v16), h15)
  else none :=
  jx_enter ((jx_G_run (jx_X_grows rc jx_dflt jx_mt d) 96 (0, [(0, .ref a0), (1, .int x1), (2, .int x2)], [], h)).trans rfl)
set_option maxRecDepth 100000 in
theorem je_153_40 (rc : Nat → Nat × (Nat → Int32)) (d : Nat) (a0 : Nat) (x1 : Int32) (x2 : Int32) (x3 : Int32) (x4 : Int32) (h : jxH) : jb_153 rc d 40 [(0, .ref a0), (1, .int x1), (2, .int x2), (3, .int x3), (4, .int x4)] [] h =
  if x3 ≤ x4 then
    jx_cV (jx_C rc d 100 [.ref a0] h) fun h1 =>
    (jx_gR (jx_at h1 a0) 12 1).bind fun b2 =>
    (jx_aI (jx_at h1 b2) 0 (0 : Int32)).bind fun v3 =>
    jx_cI (jx_C rc d 77 [.int (v3 ^^^ (-1 : Int32))] h1) fun v5 h4 =>
    jb_153 rc d 69 [(0, .ref a0), (1, .int x1), (2, .int x2), (3, .int x3), (4, .int v5), (5, .int (-1 : Int32)), (6, .int (0 : Int32))] [] h4
  else
    jx_cI (jx_C rc d 151 [.int x1, .int x2, .int x4] h) fun v7 h6 =>
    if v7 ≤ (30 : Int32) then
      jb_153 rc d 40 [(0, .ref a0), (1, .int x1), (2, .int x2), (3, .int x3), (4, .int (x4 + (1 : Int32)))] [] h6
    else
      jx_cI (jx_C rc d 73 [.ref a0, .int (5 : Int32)] h6) fun v9 h8 =>
      some (some (.int v9), h8) :=
  (jx_G_run (jx_X_grows rc jx_dflt jx_mt d) 96 _).trans rfl
set_option maxRecDepth 100000 in
theorem je_153_69 (rc : Nat → Nat × (Nat → Int32)) (d : Nat) (a0 : Nat) (x1 : Int32) (x2 : Int32) (x3 : Int32) (x4 : Int32) (x5 : Int32) (x6 : Int32) (h : jxH) : jb_153 rc d 69 [(0, .ref a0), (1, .int x1), (2, .int x2), (3, .int x3), (4, .int x4), (5, .int x5), (6, .int x6)] [] h =
  if x3 ≤ x6 then
    some (some (.int x4), h)
  else
    (jx_gR (jx_at h a0) 12 1).bind fun b1 =>
    jx_cI (jx_C rc d 151 [.int x1, .int x2, .int x6] h) fun v3 h2 =>
    jx_cI (jx_C rc d 81 [.ref b1, .int (-v3)] h2) fun v5 h4 =>
    if x5 < 0 then
      jb_153 rc d 69 [(0, .ref a0), (1, .int x1), (2, .int x2), (3, .int x3), (4, .int x4), (5, .int v5), (6, .int (x6 + (1 : Int32)))] [] h4
    else
      (jx_gR (jx_at h4 a0) 12 1).bind fun b6 =>
      jx_cV (jx_C rc d 82 [.ref b6, .int x5, .int v5] h4) fun h7 =>
      jb_153 rc d 69 [(0, .ref a0), (1, .int x1), (2, .int x2), (3, .int x3), (4, .int x4), (5, .int v5), (6, .int (x6 + (1 : Int32)))] [] h7 :=
  (jx_G_run (jx_X_grows rc jx_dflt jx_mt d) 96 _).trans rfl
-- RoomTreesModel.feed(JI)I
noncomputable def jb_154 (rc : Nat → Nat × (Nat → Int32)) (d : Nat) (i : Nat) (ls : List (Nat × Value)) (st : List Value) (h : jxH) : jxR := jx_G rc jx_dflt (jx_X rc jx_dflt jx_mt d) jc_154 (i, ls, st, h)
set_option maxRecDepth 100000 in
theorem je_154 (rc : Nat → Nat × (Nat → Int32)) (d : Nat) (a0 : Nat) (x1 : Int64) (x3 : Int32) (h : jxH) : jx_C rc (d + 1) 154 [.ref a0, .long x1, .int x3] h =
  if jx_is (jx_at h a0) 12 = true then
  jx_cI (jx_C rc d 72 [.long (x3).toInt64, .long (1 : Int64), .long (8 : Int64)] h) fun v2 h1 =>
  if v2 = 0 then
    jx_cI (jx_C rc d 73 [.ref a0, .int (1 : Int32)] h1) fun v4 h3 =>
    some (some (.int v4), h3)
  else
    (jx_gI (jx_at h1 a0) 12 11).bind fun v5 =>
    if (v5 + x3) ≤ (120 : Int32) then
      jb_154 rc d 22 [(0, .ref a0), (1, .long x1), (3, .int x3), (4, .int (0 : Int32))] [] h1
    else
      jx_cI (jx_C rc d 73 [.ref a0, .int (4 : Int32)] h1) fun v7 h6 =>
      some (some (.int v7), h6)
  else none :=
  jx_enter ((jx_G_run (jx_X_grows rc jx_dflt jx_mt d) 51 (0, [(0, .ref a0), (1, .long x1), (3, .int x3)], [], h)).trans rfl)
set_option maxRecDepth 100000 in
theorem je_154_22 (rc : Nat → Nat × (Nat → Int32)) (d : Nat) (a0 : Nat) (x1 : Int64) (x3 : Int32) (x4 : Int32) (h : jxH) : jb_154 rc d 22 [(0, .ref a0), (1, .long x1), (3, .int x3), (4, .int x4)] [] h =
  if x3 ≤ x4 then
    (jx_gI (jx_at h a0) 12 11).bind fun v1 =>
    some (some (.int v1), h)
  else
    (jx_gR (jx_at h a0) 12 10).bind fun b2 =>
    (jx_gI (jx_at h a0) 12 11).bind fun v3 =>
    (jx_sI (jx_at h b2) 0 v3 ((((x1 >>> ((((8 : Int32) * x4)).toInt64 &&& 63)) &&& (255 : Int64))).toInt32)).bind fun e4 =>
    (jx_gI (jx_at (jx_set h b2 e4) a0) 12 11).bind fun v5 =>
    (jx_pF (jx_at (jx_set h b2 e4) a0) 12 11 (.int (v5 + (1 : Int32)))).bind fun e6 =>
    jb_154 rc d 22 [(0, .ref a0), (1, .long x1), (3, .int x3), (4, .int (x4 + (1 : Int32)))] [] (jx_set (jx_set h b2 e4) a0 e6) :=
  (jx_G_run (jx_X_grows rc jx_dflt jx_mt d) 51 _).trans rfl
-- RoomTreesModel.here()I
noncomputable def jb_155 (rc : Nat → Nat × (Nat → Int32)) (d : Nat) (i : Nat) (ls : List (Nat × Value)) (st : List Value) (h : jxH) : jxR := jx_G rc jx_dflt (jx_X rc jx_dflt jx_mt d) jc_155 (i, ls, st, h)
set_option maxRecDepth 100000 in
theorem je_155 (rc : Nat → Nat × (Nat → Int32)) (d : Nat) (a0 : Nat) (h : jxH) : jx_C rc (d + 1) 155 [.ref a0] h =
  if jx_is (jx_at h a0) 12 = true then
  jb_155 rc d 0 [(0, .ref a0)] [] h
  else none :=
  jx_enter rfl
set_option maxRecDepth 100000 in
theorem je_155_0 (rc : Nat → Nat × (Nat → Int32)) (d : Nat) (a0 : Nat) (h : jxH) : jb_155 rc d 0 [(0, .ref a0)] [] h =
  (jx_gI (jx_at h a0) 12 12).bind fun v1 =>
  (jx_gI (jx_at h a0) 12 11).bind fun v2 =>
  if v2 ≤ v1 then
    (jx_gI (jx_at h a0) 12 12).bind fun v3 =>
    (jx_gI (jx_at h a0) 12 11).bind fun v4 =>
    if v4 ≤ v3 then
      some (some (.int (-1 : Int32)), h)
    else
      (jx_gR (jx_at h a0) 12 10).bind fun b5 =>
      (jx_gI (jx_at h a0) 12 12).bind fun v6 =>
      (jx_aI (jx_at h b5) 0 v6).bind fun v7 =>
      some (some (.int v7), h)
  else
    (jx_gR (jx_at h a0) 12 10).bind fun b8 =>
    (jx_gI (jx_at h a0) 12 12).bind fun v9 =>
    (jx_aI (jx_at h b8) 0 v9).bind fun v10 =>
    if v10 = (32 : Int32) then
      (jx_gI (jx_at h a0) 12 12).bind fun v11 =>
      (jx_pF (jx_at h a0) 12 12 (.int (v11 + (1 : Int32)))).bind fun e12 =>
      jb_155 rc d 0 [(0, .ref a0)] [] (jx_set h a0 e12)
    else
      (jx_gI (jx_at h a0) 12 12).bind fun v13 =>
      (jx_gI (jx_at h a0) 12 11).bind fun v14 =>
      if v14 ≤ v13 then
        some (some (.int (-1 : Int32)), h)
      else
        (jx_gR (jx_at h a0) 12 10).bind fun b15 =>
        (jx_gI (jx_at h a0) 12 12).bind fun v16 =>
        (jx_aI (jx_at h b15) 0 v16).bind fun v17 =>
        some (some (.int v17), h) :=
  (jx_G_run (jx_X_grows rc jx_dflt jx_mt d) 34 _).trans rfl
-- RoomTreesModel.byteAt(I)I
set_option maxRecDepth 100000 in
theorem je_156 (rc : Nat → Nat × (Nat → Int32)) (d : Nat) (a0 : Nat) (x1 : Int32) (h : jxH) : jx_C rc (d + 1) 156 [.ref a0, .int x1] h =
  if jx_is (jx_at h a0) 12 = true then
  (jx_gI (jx_at h a0) 12 11).bind fun v1 =>
  if v1 ≤ x1 then
    some (some (.int (-1 : Int32)), h)
  else
    (jx_gR (jx_at h a0) 12 10).bind fun b2 =>
    (jx_aI (jx_at h b2) 0 x1).bind fun v3 =>
    some (some (.int v3), h)
  else none :=
  jx_enter ((jx_G_run (jx_X_grows rc jx_dflt jx_mt d) 13 (0, [(0, .ref a0), (1, .int x1)], [], h)).trans rfl)
-- RoomTreesModel.isDigit(I)Z
set_option maxRecDepth 100000 in
theorem je_157 (rc : Nat → Nat × (Nat → Int32)) (d : Nat) (x0 : Int32) (h : jxH) : jx_C rc (d + 1) 157 [.int x0] h =
  jx_cI (jx_C rc d 72 [.long (x0).toInt64, .long (48 : Int64), .long (57 : Int64)] h) fun v2 h1 =>
  if jx_bool v2 = true then some (some (.int v2), h1) else none :=
  (jx_G_run (jx_X_grows rc jx_dflt jx_mt d) 8 (0, [(0, .int x0)], [], h)).trans rfl
-- RoomTreesModel.weightHere()I
noncomputable def jb_158 (rc : Nat → Nat × (Nat → Int32)) (d : Nat) (i : Nat) (ls : List (Nat × Value)) (st : List Value) (h : jxH) : jxR := jx_G rc jx_dflt (jx_X rc jx_dflt jx_mt d) jc_158 (i, ls, st, h)
set_option maxRecDepth 100000 in
theorem je_158 (rc : Nat → Nat × (Nat → Int32)) (d : Nat) (a0 : Nat) (h : jxH) : jx_C rc (d + 1) 158 [.ref a0] h =
  if jx_is (jx_at h a0) 12 = true then
  jx_cI (jx_C rc d 155 [.ref a0] h) fun v2 h1 =>
  if v2 = (45 : Int32) then
    if 0 ≤ (-1 : Int32) then
      (jx_gI (jx_at h1 a0) 12 12).bind fun v3 =>
      jb_158 rc d 22 [(0, .ref a0), (1, .int (-1 : Int32)), (2, .int v3), (3, .int (0 : Int32)), (4, .int (0 : Int32))] [] h1
    else
      (jx_gI (jx_at h1 a0) 12 12).bind fun v4 =>
      jb_158 rc d 22 [(0, .ref a0), (1, .int (-1 : Int32)), (2, .int (v4 + (1 : Int32))), (3, .int (0 : Int32)), (4, .int (0 : Int32))] [] h1
  else
    if 0 ≤ (1 : Int32) then
      (jx_gI (jx_at h1 a0) 12 12).bind fun v5 =>
      jb_158 rc d 22 [(0, .ref a0), (1, .int (1 : Int32)), (2, .int v5), (3, .int (0 : Int32)), (4, .int (0 : Int32))] [] h1
    else
      (jx_gI (jx_at h1 a0) 12 12).bind fun v6 =>
      jb_158 rc d 22 [(0, .ref a0), (1, .int (1 : Int32)), (2, .int (v6 + (1 : Int32))), (3, .int (0 : Int32)), (4, .int (0 : Int32))] [] h1
  else none :=
  jx_enter ((jx_G_run (jx_X_grows rc jx_dflt jx_mt d) 73 (0, [(0, .ref a0)], [], h)).trans rfl)
set_option maxRecDepth 100000 in
theorem je_158_22 (rc : Nat → Nat × (Nat → Int32)) (d : Nat) (a0 : Nat) (x1 : Int32) (x2 : Int32) (x3 : Int32) (x4 : Int32) (h : jxH) : jb_158 rc d 22 [(0, .ref a0), (1, .int x1), (2, .int x2), (3, .int x3), (4, .int x4)] [] h =
  jx_cI (jx_C rc d 156 [.ref a0, .int (x2 + x4)] h) fun v2 h1 =>
  jx_cI (jx_C rc d 157 [.int v2] h1) fun v4 h3 =>
  if v4 = 0 then
    jx_cI (jx_C rc d 72 [.long (x4).toInt64, .long (1 : Int64), .long (2 : Int64)] h3) fun v6 h5 =>
    if v6 = 0 then
      if jx_bool (1 : Int32) = true then (jx_pF (jx_at h5 a0) 12 13 (.int (1 : Int32))).bind fun e7 =>
      some (some (.int (0 : Int32)), (jx_set h5 a0 e7)) else none
    else
      if x3 ≤ (30 : Int32) then
        (jx_pF (jx_at h5 a0) 12 12 (.int (x2 + x4))).bind fun e8 =>
        some (some (.int (x1 * x3)), (jx_set h5 a0 e8))
      else
        if jx_bool (1 : Int32) = true then (jx_pF (jx_at h5 a0) 12 13 (.int (1 : Int32))).bind fun e9 =>
        some (some (.int (0 : Int32)), (jx_set h5 a0 e9)) else none
  else
    if (2 : Int32) ≤ x4 then
      jb_158 rc d 22 [(0, .ref a0), (1, .int x1), (2, .int x2), (3, .int x3), (4, .int (x4 + (1 : Int32)))] [] h3
    else
      jx_cI (jx_C rc d 156 [.ref a0, .int (x2 + x4)] h3) fun v11 h10 =>
      jb_158 rc d 22 [(0, .ref a0), (1, .int x1), (2, .int x2), (3, .int ((((10 : Int32) * x3) + v11) - (48 : Int32))), (4, .int (x4 + (1 : Int32)))] [] h10 :=
  (jx_G_run (jx_X_grows rc jx_dflt jx_mt d) 73 _).trans rfl
-- RoomTreesModel.opensHere(I)I
set_option maxRecDepth 100000 in
theorem je_159 (rc : Nat → Nat × (Nat → Int32)) (d : Nat) (a0 : Nat) (x1 : Int32) (h : jxH) : jx_C rc (d + 1) 159 [.ref a0, .int x1] h =
  if jx_is (jx_at h a0) 12 = true then
  (jx_gR (jx_at h a0) 12 14).bind fun b1 =>
  (jx_aI (jx_at h b1) 0 (0 : Int32)).bind fun v2 =>
  jx_cI (jx_C rc d 76 [.int v2] h) fun v4 h3 =>
  if v4 = (12 : Int32) then
    if jx_bool (1 : Int32) = true then (jx_pF (jx_at h3 a0) 12 13 (.int (1 : Int32))).bind fun e5 =>
    some (some (.int x1), (jx_set h3 a0 e5)) else none
  else
    (jx_gI (jx_at h3 a0) 12 12).bind fun v6 =>
    (jx_pF (jx_at h3 a0) 12 12 (.int (v6 + (1 : Int32)))).bind fun e7 =>
    jx_cI (jx_C rc d 158 [.ref a0] (jx_set h3 a0 e7)) fun v9 h8 =>
    (jx_gI (jx_at h8 a0) 12 13).bind fun v10 =>
    if v10 = 0 then
      (jx_gR (jx_at h8 a0) 12 14).bind fun b11 =>
      jx_cI (jx_C rc d 81 [.ref b11, .int v9] h8) fun v13 h12 =>
      if x1 ≤ 0 then
        (jx_gR (jx_at h12 a0) 12 15).bind fun b14 =>
        (jx_sI (jx_at h12 b14) 0 x1 v13).bind fun e15 =>
        some (some (.int (x1 + (1 : Int32))), (jx_set h12 b14 e15))
      else
        (jx_gR (jx_at h12 a0) 12 14).bind fun b16 =>
        (jx_gR (jx_at h12 a0) 12 15).bind fun b17 =>
        (jx_aI (jx_at h12 b17) 0 (x1 - (1 : Int32))).bind fun v18 =>
        jx_cV (jx_C rc d 82 [.ref b16, .int v18, .int v13] h12) fun h19 =>
        (jx_gR (jx_at h19 a0) 12 15).bind fun b20 =>
        (jx_sI (jx_at h19 b20) 0 x1 v13).bind fun e21 =>
        some (some (.int (x1 + (1 : Int32))), (jx_set h19 b20 e21))
    else
      some (some (.int x1), h8)
  else none :=
  jx_enter ((jx_G_run (jx_X_grows rc jx_dflt jx_mt d) 54 (0, [(0, .ref a0), (1, .int x1)], [], h)).trans rfl)
-- RoomTreesModel.forestHere()V
noncomputable def jb_160 (rc : Nat → Nat × (Nat → Int32)) (d : Nat) (i : Nat) (ls : List (Nat × Value)) (st : List Value) (h : jxH) : jxR := jx_G rc jx_dflt (jx_X rc jx_dflt jx_mt d) jc_160 (i, ls, st, h)
set_option maxRecDepth 100000 in
theorem je_160 (rc : Nat → Nat × (Nat → Int32)) (d : Nat) (a0 : Nat) (h : jxH) : jx_C rc (d + 1) 160 [.ref a0] h =
  if jx_is (jx_at h a0) 12 = true then
  jb_160 rc d 2 [(0, .ref a0), (1, .int (0 : Int32))] [] h
  else none :=
  jx_enter ((jx_G_run (jx_X_grows rc jx_dflt jx_mt d) 58 (0, [(0, .ref a0)], [], h)).trans rfl)
set_option maxRecDepth 100000 in
theorem je_160_2 (rc : Nat → Nat × (Nat → Int32)) (d : Nat) (a0 : Nat) (x1 : Int32) (h : jxH) : jb_160 rc d 2 [(0, .ref a0), (1, .int x1)] [] h =
  if (25 : Int32) ≤ x1 then
    (jx_pF (jx_at h a0) 12 12 (.int (0 : Int32))).bind fun e1 =>
    if jx_bool (0 : Int32) = true then (jx_pF (jx_at (jx_set h a0 e1) a0) 12 13 (.int (0 : Int32))).bind fun e2 =>
    jb_160 rc d 20 [(0, .ref a0), (1, .int (0 : Int32))] [] (jx_set (jx_set h a0 e1) a0 e2) else none
  else
    (jx_gR (jx_at h a0) 12 14).bind fun b3 =>
    (jx_sI (jx_at h b3) 0 x1 (0 : Int32)).bind fun e4 =>
    jb_160 rc d 2 [(0, .ref a0), (1, .int (x1 + (1 : Int32)))] [] (jx_set h b3 e4) :=
  (jx_G_run (jx_X_grows rc jx_dflt jx_mt d) 58 _).trans rfl
set_option maxRecDepth 100000 in
theorem je_160_20 (rc : Nat → Nat × (Nat → Int32)) (d : Nat) (a0 : Nat) (x1 : Int32) (h : jxH) : jb_160 rc d 20 [(0, .ref a0), (1, .int x1)] [] h =
  jx_cI (jx_C rc d 155 [.ref a0] h) fun v2 h1 =>
  if v2 = (40 : Int32) then
    jx_cI (jx_C rc d 159 [.ref a0, .int x1] h1) fun v4 h3 =>
    jb_160 rc d 47 [(0, .ref a0), (1, .int v4)] [] h3
  else
    if v2 = (41 : Int32) then
      if x1 ≤ 0 then
        if jx_bool (1 : Int32) = true then (jx_pF (jx_at h1 a0) 12 13 (.int (1 : Int32))).bind fun e5 =>
        jb_160 rc d 47 [(0, .ref a0), (1, .int x1)] [] (jx_set h1 a0 e5) else none
      else
        (jx_gI (jx_at h1 a0) 12 12).bind fun v6 =>
        (jx_pF (jx_at h1 a0) 12 12 (.int (v6 + (1 : Int32)))).bind fun e7 =>
        jb_160 rc d 47 [(0, .ref a0), (1, .int (x1 + (-1 : Int32)))] [] (jx_set h1 a0 e7)
    else
      if jx_bool (1 : Int32) = true then (jx_pF (jx_at h1 a0) 12 13 (.int (1 : Int32))).bind fun e8 =>
      jb_160 rc d 47 [(0, .ref a0), (1, .int x1)] [] (jx_set h1 a0 e8) else none :=
  (jx_G_run (jx_X_grows rc jx_dflt jx_mt d) 58 _).trans rfl
set_option maxRecDepth 100000 in
theorem je_160_47 (rc : Nat → Nat × (Nat → Int32)) (d : Nat) (a0 : Nat) (x1 : Int32) (h : jxH) : jb_160 rc d 47 [(0, .ref a0), (1, .int x1)] [] h =
  (jx_gI (jx_at h a0) 12 13).bind fun v1 =>
  if v1 = 0 then
    if 0 < x1 then
      jb_160 rc d 20 [(0, .ref a0), (1, .int x1)] [] h
    else
      jx_cI (jx_C rc d 155 [.ref a0] h) fun v3 h2 =>
      if 0 ≤ v3 then
        jb_160 rc d 20 [(0, .ref a0), (1, .int x1)] [] h2
      else
        some (none, h2)
  else
    some (none, h) :=
  (jx_G_run (jx_X_grows rc jx_dflt jx_mt d) 58 _).trans rfl
-- RoomTreesModel.forest()I
set_option maxRecDepth 100000 in
theorem je_161 (rc : Nat → Nat × (Nat → Int32)) (d : Nat) (a0 : Nat) (h : jxH) : jx_C rc (d + 1) 161 [.ref a0] h =
  if jx_is (jx_at h a0) 12 = true then
  jx_cV (jx_C rc d 160 [.ref a0] h) fun h1 =>
  (jx_gI (jx_at h1 a0) 12 12).bind fun v2 =>
  (jx_pF (jx_at h1 a0) 12 11 (.int (0 : Int32))).bind fun e3 =>
  (jx_gI (jx_at (jx_set h1 a0 e3) a0) 12 13).bind fun v4 =>
  if v4 = 0 then
    jx_cV (jx_C rc d 100 [.ref a0] (jx_set h1 a0 e3)) fun h5 =>
    (jx_gR (jx_at h5 a0) 12 14).bind fun b6 =>
    (jx_gR (jx_at h5 a0) 12 1).bind fun b7 =>
    jx_cV (jx_C rc d 74 [.ref b6, .ref b7] h5) fun h8 =>
    (jx_gR (jx_at h8 a0) 12 1).bind fun b9 =>
    (jx_aI (jx_at h8 b9) 0 (0 : Int32)).bind fun v10 =>
    jx_cI (jx_C rc d 76 [.int v10] h8) fun v12 h11 =>
    some (some (.int v12), h11)
  else
    some (some (.int ((-10 : Int32) - v2)), (jx_set h1 a0 e3))
  else none :=
  jx_enter ((jx_G_run (jx_X_grows rc jx_dflt jx_mt d) 30 (0, [(0, .ref a0)], [], h)).trans rfl)
-- RoomTreesModel.isAhead([II[II)Z
noncomputable def jb_162 (rc : Nat → Nat × (Nat → Int32)) (d : Nat) (i : Nat) (ls : List (Nat × Value)) (st : List Value) (h : jxH) : jxR := jx_G rc jx_dflt (jx_X rc jx_dflt jx_mt d) jc_162 (i, ls, st, h)
set_option maxRecDepth 100000 in
theorem je_162 (rc : Nat → Nat × (Nat → Int32)) (d : Nat) (a0 : Nat) (x1 : Int32) (a2 : Nat) (x3 : Int32) (h : jxH) : jx_C rc (d + 1) 162 [.ref a0, .int x1, .ref a2, .int x3] h =
  jb_162 rc d 2 [(0, .ref a0), (1, .int x1), (2, .ref a2), (3, .int x3), (4, .int (0 : Int32))] [] h :=
  (jx_G_run (jx_X_grows rc jx_dflt jx_mt d) 43 (0, [(0, .ref a0), (1, .int x1), (2, .ref a2), (3, .int x3)], [], h)).trans rfl
set_option maxRecDepth 100000 in
theorem je_162_2 (rc : Nat → Nat × (Nat → Int32)) (d : Nat) (a0 : Nat) (x1 : Int32) (a2 : Nat) (x3 : Int32) (x4 : Int32) (h : jxH) : jb_162 rc d 2 [(0, .ref a0), (1, .int x1), (2, .ref a2), (3, .int x3), (4, .int x4)] [] h =
  if x1 ≤ x4 then
    jb_162 rc d 17 [(0, .ref a0), (1, .int x1), (2, .ref a2), (3, .int x3), (4, .int x4)] [] h
  else
    if x3 ≤ x4 then
      jb_162 rc d 17 [(0, .ref a0), (1, .int x1), (2, .ref a2), (3, .int x3), (4, .int x4)] [] h
    else
      (jx_aI (jx_at h a0) 0 x4).bind fun v1 =>
      (jx_aI (jx_at h a2) 0 x4).bind fun v2 =>
      if v1 = v2 then
        jb_162 rc d 2 [(0, .ref a0), (1, .int x1), (2, .ref a2), (3, .int x3), (4, .int (x4 + (1 : Int32)))] [] h
      else
        jb_162 rc d 17 [(0, .ref a0), (1, .int x1), (2, .ref a2), (3, .int x3), (4, .int x4)] [] h :=
  (jx_G_run (jx_X_grows rc jx_dflt jx_mt d) 43 _).trans rfl
set_option maxRecDepth 100000 in
theorem je_162_17 (rc : Nat → Nat × (Nat → Int32)) (d : Nat) (a0 : Nat) (x1 : Int32) (a2 : Nat) (x3 : Int32) (x4 : Int32) (h : jxH) : jb_162 rc d 17 [(0, .ref a0), (1, .int x1), (2, .ref a2), (3, .int x3), (4, .int x4)] [] h =
  if x1 ≤ x4 then
    if x3 ≤ x1 then
      if jx_bool (0 : Int32) = true then some (some (.int (0 : Int32)), h) else none
    else
      if jx_bool (1 : Int32) = true then some (some (.int (1 : Int32)), h) else none
  else
    if x3 ≤ x4 then
      if x3 ≤ x1 then
        if jx_bool (0 : Int32) = true then some (some (.int (0 : Int32)), h) else none
      else
        if jx_bool (1 : Int32) = true then some (some (.int (1 : Int32)), h) else none
    else
      (jx_aI (jx_at h a0) 0 x4).bind fun v1 =>
      (jx_aI (jx_at h a2) 0 x4).bind fun v2 =>
      if v2 ≤ v1 then
        if jx_bool (0 : Int32) = true then some (some (.int (0 : Int32)), h) else none
      else
        if jx_bool (1 : Int32) = true then some (some (.int (1 : Int32)), h) else none :=
  (jx_G_run (jx_X_grows rc jx_dflt jx_mt d) 43 _).trans rfl
-- RoomTreesModel.laysWeight([III)I
noncomputable def jb_163 (rc : Nat → Nat × (Nat → Int32)) (d : Nat) (i : Nat) (ls : List (Nat × Value)) (st : List Value) (h : jxH) : jxR := jx_G rc jx_dflt (jx_X rc jx_dflt jx_mt d) jc_163 (i, ls, st, h)
set_option maxRecDepth 100000 in
theorem je_163 (rc : Nat → Nat × (Nat → Int32)) (d : Nat) (a0 : Nat) (x1 : Int32) (x2 : Int32) (h : jxH) : jx_C rc (d + 1) 163 [.ref a0, .int x1, .int x2] h =
  if 0 ≤ x2 then
    if 0 ≤ x2 then
      jb_163 rc d 15 [(0, .ref a0), (3, .int x1)] [.int x2] h
    else
      jb_163 rc d 15 [(0, .ref a0), (3, .int x1)] [.int (-x2)] h
  else
    (jx_sI (jx_at h a0) 0 x1 (45 : Int32)).bind fun e1 =>
    if 0 ≤ x2 then
      jb_163 rc d 15 [(0, .ref a0), (3, .int (x1 + (1 : Int32)))] [.int x2] (jx_set h a0 e1)
    else
      jb_163 rc d 15 [(0, .ref a0), (3, .int (x1 + (1 : Int32)))] [.int (-x2)] (jx_set h a0 e1) :=
  (jx_G_run (jx_X_grows rc jx_dflt jx_mt d) 42 (0, [(0, .ref a0), (1, .int x1), (2, .int x2)], [], h)).trans rfl
set_option maxRecDepth 100000 in
theorem je_163_15 (rc : Nat → Nat × (Nat → Int32)) (d : Nat) (a0 : Nat) (x3 : Int32) (s0 : Int32) (h : jxH) : jb_163 rc d 15 [(0, .ref a0), (3, .int x3)] [.int s0] h =
  if s0 ≤ (9 : Int32) then
    if (10 : Int32) = 0 then none else (jx_sI (jx_at h a0) 0 x3 ((48 : Int32) + (s0 - s0 / (10 : Int32) * (10 : Int32)))).bind fun e1 =>
    some (some (.int (x3 + (1 : Int32))), (jx_set h a0 e1))
  else
    if (10 : Int32) = 0 then none else (jx_sI (jx_at h a0) 0 x3 ((48 : Int32) + (s0 / (10 : Int32)))).bind fun e2 =>
    if (10 : Int32) = 0 then none else (jx_sI (jx_at (jx_set h a0 e2) a0) 0 (x3 + (1 : Int32)) ((48 : Int32) + (s0 - s0 / (10 : Int32) * (10 : Int32)))).bind fun e3 =>
    some (some (.int ((x3 + (1 : Int32)) + (1 : Int32))), (jx_set (jx_set h a0 e2) a0 e3)) :=
  (jx_G_run (jx_X_grows rc jx_dflt jx_mt d) 42 _).trans rfl
-- RoomTreesModel.layHang([III)V
noncomputable def jb_164 (rc : Nat → Nat × (Nat → Int32)) (d : Nat) (i : Nat) (ls : List (Nat × Value)) (st : List Value) (h : jxH) : jxR := jx_G rc jx_dflt (jx_X rc jx_dflt jx_mt d) jc_164 (i, ls, st, h)
set_option maxRecDepth 100000 in
theorem je_164 (rc : Nat → Nat × (Nat → Int32)) (d : Nat) (a0 : Nat) (a1 : Nat) (x2 : Int32) (x3 : Int32) (h : jxH) : jx_C rc (d + 1) 164 [.ref a0, .ref a1, .int x2, .int x3] h =
  if jx_is (jx_at h a0) 12 = true then
  (jx_aI (jx_at h a1) 0 ((13 : Int32) + x2)).bind fun v1 =>
  if 0 ≤ x3 then
    jb_164 rc d 18 [(0, .ref a0), (1, .ref a1), (2, .int x2), (4, .int (v1 &&& (((1 : Int32) <<< (x3 &&& 31)) ^^^ (-1 : Int32)))), (5, .int (0 : Int32))] [] h
  else
    jb_164 rc d 18 [(0, .ref a0), (1, .ref a1), (2, .int x2), (4, .int (v1 &&& ((0 : Int32) ^^^ (-1 : Int32)))), (5, .int (0 : Int32))] [] h
  else none :=
  jx_enter ((jx_G_run (jx_X_grows rc jx_dflt jx_mt d) 133 (0, [(0, .ref a0), (1, .ref a1), (2, .int x2), (3, .int x3)], [], h)).trans rfl)
set_option maxRecDepth 100000 in
theorem je_164_18 (rc : Nat → Nat × (Nat → Int32)) (d : Nat) (a0 : Nat) (a1 : Nat) (x2 : Int32) (x4 : Int32) (x5 : Int32) (h : jxH) : jb_164 rc d 18 [(0, .ref a0), (1, .ref a1), (2, .int x2), (4, .int x4), (5, .int x5)] [] h =
  if (12 : Int32) ≤ x5 then
    (jx_gR (jx_at h a0) 12 16).bind fun b1 =>
    (jx_aQ (jx_at h b1) 8 x2).bind fun o2 =>
    jx_mo o2 (fun b3 => (jx_sI (jx_at h b3) 0 (0 : Int32) (40 : Int32)).bind fun e4 =>
      (jx_aI (jx_at (jx_set h b3 e4) a1) 0 ((1 : Int32) + x2)).bind fun v5 =>
      jx_cI (jx_C rc d 163 [.ref b3, .int (1 : Int32), .int v5] (jx_set h b3 e4)) fun v7 h6 =>
      jb_164 rc d 50 [(0, .ref a0), (2, .int x2), (4, .int x4), (5, .ref b3), (6, .int v7)] [] h6)
    (none)
  else
    jx_cI (jx_C rc d 75 [.int x4, .int x5] h) fun v10 h9 =>
    if v10 = 0 then
      jb_164 rc d 18 [(0, .ref a0), (1, .ref a1), (2, .int x2), (4, .int x4), (5, .int (x5 + (1 : Int32)))] [] h9
    else
      jx_cV (jx_C rc d 164 [.ref a0, .ref a1, .int x5, .int x2] h9) fun h11 =>
      jb_164 rc d 18 [(0, .ref a0), (1, .ref a1), (2, .int x2), (4, .int x4), (5, .int (x5 + (1 : Int32)))] [] h11 :=
  (jx_G_run (jx_X_grows rc jx_dflt jx_mt d) 133 _).trans rfl
set_option maxRecDepth 100000 in
theorem je_164_50 (rc : Nat → Nat × (Nat → Int32)) (d : Nat) (a0 : Nat) (x2 : Int32) (x4 : Int32) (x6 : Int32) (h : jxH) : jb_164 rc d 50 [(0, .ref a0), (2, .int x2), (4, .int x4), (5, .null), (6, .int x6)] [] h =
  if x4 = 0 then
    none
  else
    jx_cI (jx_C rc d 77 [.int x4] h) fun v3 h2 =>
    jb_164 rc d 59 [(0, .ref a0), (2, .int x2), (4, .int x4), (5, .null), (6, .int x6), (7, .int v3), (8, .int (v3 + (1 : Int32)))] [] h2 :=
  (jx_G_run (jx_X_grows rc jx_dflt jx_mt d) 133 _).trans rfl
set_option maxRecDepth 100000 in
theorem je_164_50b (rc : Nat → Nat × (Nat → Int32)) (d : Nat) (a0 : Nat) (x2 : Int32) (x4 : Int32) (a5 : Nat) (x6 : Int32) (h : jxH) : jb_164 rc d 50 [(0, .ref a0), (2, .int x2), (4, .int x4), (5, .ref a5), (6, .int x6)] [] h =
  if x4 = 0 then
    (jx_sI (jx_at h a5) 0 x6 (41 : Int32)).bind fun e1 =>
    (jx_gR (jx_at (jx_set h a5 e1) a0) 12 17).bind fun b2 =>
    (jx_sI (jx_at (jx_set h a5 e1) b2) 0 x2 (x6 + (1 : Int32))).bind fun e3 =>
    some (none, (jx_set (jx_set h a5 e1) b2 e3))
  else
    jx_cI (jx_C rc d 77 [.int x4] h) fun v5 h4 =>
    jb_164 rc d 59 [(0, .ref a0), (2, .int x2), (4, .int x4), (5, .ref a5), (6, .int x6), (7, .int v5), (8, .int (v5 + (1 : Int32)))] [] h4 :=
  (jx_G_run (jx_X_grows rc jx_dflt jx_mt d) 133 _).trans rfl
set_option maxRecDepth 100000 in
theorem je_164_59 (rc : Nat → Nat × (Nat → Int32)) (d : Nat) (a0 : Nat) (x2 : Int32) (x4 : Int32) (x6 : Int32) (x7 : Int32) (x8 : Int32) (h : jxH) : jb_164 rc d 59 [(0, .ref a0), (2, .int x2), (4, .int x4), (5, .null), (6, .int x6), (7, .int x7), (8, .int x8)] [] h =
  if (12 : Int32) ≤ x8 then
    jb_164 rc d 92 [(0, .ref a0), (2, .int x2), (4, .int x4), (5, .null), (6, .int x6), (7, .int x7), (8, .int (0 : Int32))] [] h
  else
    jx_cI (jx_C rc d 75 [.int x4, .int x8] h) fun v2 h1 =>
    if v2 = 0 then
      jb_164 rc d 59 [(0, .ref a0), (2, .int x2), (4, .int x4), (5, .null), (6, .int x6), (7, .int x7), (8, .int (x8 + (1 : Int32)))] [] h1
    else
      (jx_gR (jx_at h1 a0) 12 16).bind fun b3 =>
      (jx_aQ (jx_at h1 b3) 8 x8).bind fun o4 =>
      jx_mo o4 (fun b5 => (jx_gR (jx_at h1 a0) 12 17).bind fun b6 =>
        (jx_aI (jx_at h1 b6) 0 x8).bind fun v7 =>
        (jx_gR (jx_at h1 a0) 12 16).bind fun b8 =>
        (jx_aQ (jx_at h1 b8) 8 x7).bind fun o9 =>
        jx_mo o9 (fun b10 => (jx_gR (jx_at h1 a0) 12 17).bind fun b11 =>
          (jx_aI (jx_at h1 b11) 0 x7).bind fun v12 =>
          jx_cI (jx_C rc d 162 [.ref b5, .int v7, .ref b10, .int v12] h1) fun v14 h13 =>
          if v14 = 0 then
            jb_164 rc d 59 [(0, .ref a0), (2, .int x2), (4, .int x4), (5, .null), (6, .int x6), (7, .int x7), (8, .int (x8 + (1 : Int32)))] [] h13
          else
            jb_164 rc d 59 [(0, .ref a0), (2, .int x2), (4, .int x4), (5, .null), (6, .int x6), (7, .int x8), (8, .int (x8 + (1 : Int32)))] [] h13)
        ((jx_gR (jx_at h1 a0) 12 17).bind fun b15 =>
          (jx_aI (jx_at h1 b15) 0 x7).bind fun v16 =>
          jx_cI (jx_C rc d 162 [.ref b5, .int v7, .null, .int v16] h1) fun v18 h17 =>
          if v18 = 0 then
            jb_164 rc d 59 [(0, .ref a0), (2, .int x2), (4, .int x4), (5, .null), (6, .int x6), (7, .int x7), (8, .int (x8 + (1 : Int32)))] [] h17
          else
            jb_164 rc d 59 [(0, .ref a0), (2, .int x2), (4, .int x4), (5, .null), (6, .int x6), (7, .int x8), (8, .int (x8 + (1 : Int32)))] [] h17))
      ((jx_gR (jx_at h1 a0) 12 17).bind fun b19 =>
        (jx_aI (jx_at h1 b19) 0 x8).bind fun v20 =>
        (jx_gR (jx_at h1 a0) 12 16).bind fun b21 =>
        (jx_aQ (jx_at h1 b21) 8 x7).bind fun o22 =>
        jx_mo o22 (fun b23 => (jx_gR (jx_at h1 a0) 12 17).bind fun b24 =>
          (jx_aI (jx_at h1 b24) 0 x7).bind fun v25 =>
          jx_cI (jx_C rc d 162 [.null, .int v20, .ref b23, .int v25] h1) fun v27 h26 =>
          if v27 = 0 then
            jb_164 rc d 59 [(0, .ref a0), (2, .int x2), (4, .int x4), (5, .null), (6, .int x6), (7, .int x7), (8, .int (x8 + (1 : Int32)))] [] h26
          else
            jb_164 rc d 59 [(0, .ref a0), (2, .int x2), (4, .int x4), (5, .null), (6, .int x6), (7, .int x8), (8, .int (x8 + (1 : Int32)))] [] h26)
        ((jx_gR (jx_at h1 a0) 12 17).bind fun b28 =>
          (jx_aI (jx_at h1 b28) 0 x7).bind fun v29 =>
          jx_cI (jx_C rc d 162 [.null, .int v20, .null, .int v29] h1) fun v31 h30 =>
          if v31 = 0 then
            jb_164 rc d 59 [(0, .ref a0), (2, .int x2), (4, .int x4), (5, .null), (6, .int x6), (7, .int x7), (8, .int (x8 + (1 : Int32)))] [] h30
          else
            jb_164 rc d 59 [(0, .ref a0), (2, .int x2), (4, .int x4), (5, .null), (6, .int x6), (7, .int x8), (8, .int (x8 + (1 : Int32)))] [] h30)) :=
  (jx_G_run (jx_X_grows rc jx_dflt jx_mt d) 133 _).trans rfl
set_option maxRecDepth 100000 in
theorem je_164_59b (rc : Nat → Nat × (Nat → Int32)) (d : Nat) (a0 : Nat) (x2 : Int32) (x4 : Int32) (a5 : Nat) (x6 : Int32) (x7 : Int32) (x8 : Int32) (h : jxH) : jb_164 rc d 59 [(0, .ref a0), (2, .int x2), (4, .int x4), (5, .ref a5), (6, .int x6), (7, .int x7), (8, .int x8)] [] h =
  if (12 : Int32) ≤ x8 then
    jb_164 rc d 92 [(0, .ref a0), (2, .int x2), (4, .int x4), (5, .ref a5), (6, .int x6), (7, .int x7), (8, .int (0 : Int32))] [] h
  else
    jx_cI (jx_C rc d 75 [.int x4, .int x8] h) fun v2 h1 =>
    if v2 = 0 then
      jb_164 rc d 59 [(0, .ref a0), (2, .int x2), (4, .int x4), (5, .ref a5), (6, .int x6), (7, .int x7), (8, .int (x8 + (1 : Int32)))] [] h1
    else
      (jx_gR (jx_at h1 a0) 12 16).bind fun b3 =>
      (jx_aQ (jx_at h1 b3) 8 x8).bind fun o4 =>
      jx_mo o4 (fun b5 => (jx_gR (jx_at h1 a0) 12 17).bind fun b6 =>
        (jx_aI (jx_at h1 b6) 0 x8).bind fun v7 =>
        (jx_gR (jx_at h1 a0) 12 16).bind fun b8 =>
        (jx_aQ (jx_at h1 b8) 8 x7).bind fun o9 =>
        jx_mo o9 (fun b10 => (jx_gR (jx_at h1 a0) 12 17).bind fun b11 =>
          (jx_aI (jx_at h1 b11) 0 x7).bind fun v12 =>
          jx_cI (jx_C rc d 162 [.ref b5, .int v7, .ref b10, .int v12] h1) fun v14 h13 =>
          if v14 = 0 then
            jb_164 rc d 59 [(0, .ref a0), (2, .int x2), (4, .int x4), (5, .ref a5), (6, .int x6), (7, .int x7), (8, .int (x8 + (1 : Int32)))] [] h13
          else
            jb_164 rc d 59 [(0, .ref a0), (2, .int x2), (4, .int x4), (5, .ref a5), (6, .int x6), (7, .int x8), (8, .int (x8 + (1 : Int32)))] [] h13)
        ((jx_gR (jx_at h1 a0) 12 17).bind fun b15 =>
          (jx_aI (jx_at h1 b15) 0 x7).bind fun v16 =>
          jx_cI (jx_C rc d 162 [.ref b5, .int v7, .null, .int v16] h1) fun v18 h17 =>
          if v18 = 0 then
            jb_164 rc d 59 [(0, .ref a0), (2, .int x2), (4, .int x4), (5, .ref a5), (6, .int x6), (7, .int x7), (8, .int (x8 + (1 : Int32)))] [] h17
          else
            jb_164 rc d 59 [(0, .ref a0), (2, .int x2), (4, .int x4), (5, .ref a5), (6, .int x6), (7, .int x8), (8, .int (x8 + (1 : Int32)))] [] h17))
      ((jx_gR (jx_at h1 a0) 12 17).bind fun b19 =>
        (jx_aI (jx_at h1 b19) 0 x8).bind fun v20 =>
        (jx_gR (jx_at h1 a0) 12 16).bind fun b21 =>
        (jx_aQ (jx_at h1 b21) 8 x7).bind fun o22 =>
        jx_mo o22 (fun b23 => (jx_gR (jx_at h1 a0) 12 17).bind fun b24 =>
          (jx_aI (jx_at h1 b24) 0 x7).bind fun v25 =>
          jx_cI (jx_C rc d 162 [.null, .int v20, .ref b23, .int v25] h1) fun v27 h26 =>
          if v27 = 0 then
            jb_164 rc d 59 [(0, .ref a0), (2, .int x2), (4, .int x4), (5, .ref a5), (6, .int x6), (7, .int x7), (8, .int (x8 + (1 : Int32)))] [] h26
          else
            jb_164 rc d 59 [(0, .ref a0), (2, .int x2), (4, .int x4), (5, .ref a5), (6, .int x6), (7, .int x8), (8, .int (x8 + (1 : Int32)))] [] h26)
        ((jx_gR (jx_at h1 a0) 12 17).bind fun b28 =>
          (jx_aI (jx_at h1 b28) 0 x7).bind fun v29 =>
          jx_cI (jx_C rc d 162 [.null, .int v20, .null, .int v29] h1) fun v31 h30 =>
          if v31 = 0 then
            jb_164 rc d 59 [(0, .ref a0), (2, .int x2), (4, .int x4), (5, .ref a5), (6, .int x6), (7, .int x7), (8, .int (x8 + (1 : Int32)))] [] h30
          else
            jb_164 rc d 59 [(0, .ref a0), (2, .int x2), (4, .int x4), (5, .ref a5), (6, .int x6), (7, .int x8), (8, .int (x8 + (1 : Int32)))] [] h30)) :=
  (jx_G_run (jx_X_grows rc jx_dflt jx_mt d) 133 _).trans rfl
set_option maxRecDepth 100000 in
theorem je_164_92 (rc : Nat → Nat × (Nat → Int32)) (d : Nat) (a0 : Nat) (x2 : Int32) (x4 : Int32) (x6 : Int32) (x7 : Int32) (x8 : Int32) (h : jxH) : jb_164 rc d 92 [(0, .ref a0), (2, .int x2), (4, .int x4), (5, .null), (6, .int x6), (7, .int x7), (8, .int x8)] [] h =
  (jx_gR (jx_at h a0) 12 17).bind fun b1 =>
  (jx_aI (jx_at h b1) 0 x7).bind fun v2 =>
  if v2 ≤ x8 then
    jb_164 rc d 50 [(0, .ref a0), (2, .int x2), (4, .int (x4 &&& (((1 : Int32) <<< (x7 &&& 31)) ^^^ (-1 : Int32)))), (5, .null), (6, .int x6)] [] h
  else
    (jx_gR (jx_at h a0) 12 16).bind fun b3 =>
    (jx_aQ (jx_at h b3) 8 x7).bind fun o4 =>
    jx_mo o4 (fun b5 => (jx_aI (jx_at h b5) 0 x8).bind fun v6 =>
      none)
    (none) :=
  (jx_G_run (jx_X_grows rc jx_dflt jx_mt d) 133 _).trans rfl
set_option maxRecDepth 100000 in
theorem je_164_92b (rc : Nat → Nat × (Nat → Int32)) (d : Nat) (a0 : Nat) (x2 : Int32) (x4 : Int32) (a5 : Nat) (x6 : Int32) (x7 : Int32) (x8 : Int32) (h : jxH) : jb_164 rc d 92 [(0, .ref a0), (2, .int x2), (4, .int x4), (5, .ref a5), (6, .int x6), (7, .int x7), (8, .int x8)] [] h =
  (jx_gR (jx_at h a0) 12 17).bind fun b1 =>
  (jx_aI (jx_at h b1) 0 x7).bind fun v2 =>
  if v2 ≤ x8 then
    jb_164 rc d 50 [(0, .ref a0), (2, .int x2), (4, .int (x4 &&& (((1 : Int32) <<< (x7 &&& 31)) ^^^ (-1 : Int32)))), (5, .ref a5), (6, .int x6)] [] h
  else
    (jx_gR (jx_at h a0) 12 16).bind fun b3 =>
    (jx_aQ (jx_at h b3) 8 x7).bind fun o4 =>
    jx_mo o4 (fun b5 => (jx_aI (jx_at h b5) 0 x8).bind fun v6 =>
      (jx_sI (jx_at h a5) 0 x6 v6).bind fun e7 =>
      jb_164 rc d 92 [(0, .ref a0), (2, .int x2), (4, .int x4), (5, .ref a5), (6, .int (x6 + (1 : Int32))), (7, .int x7), (8, .int (x8 + (1 : Int32)))] [] (jx_set h a5 e7))
    (none) :=
  (jx_G_run (jx_X_grows rc jx_dflt jx_mt d) 133 _).trans rfl
-- RoomTreesModel.layTree([II)V
noncomputable def jb_165 (rc : Nat → Nat × (Nat → Int32)) (d : Nat) (i : Nat) (ls : List (Nat × Value)) (st : List Value) (h : jxH) : jxR := jx_G rc jx_dflt (jx_X rc jx_dflt jx_mt d) jc_165 (i, ls, st, h)
set_option maxRecDepth 100000 in
theorem je_165 (rc : Nat → Nat × (Nat → Int32)) (d : Nat) (a0 : Nat) (a1 : Nat) (x2 : Int32) (h : jxH) : jx_C rc (d + 1) 165 [.ref a0, .ref a1, .int x2] h =
  if jx_is (jx_at h a0) 12 = true then
  jx_cI (jx_C rc d 85 [.ref a1, .int x2] h) fun v2 h1 =>
  (jx_gR (jx_at h1 a0) 12 19).bind fun b3 =>
  (jx_sI (jx_at h1 b3) 0 x2 (0 : Int32)).bind fun e4 =>
  jb_165 rc d 11 [(0, .ref a0), (1, .ref a1), (2, .int x2), (3, .int v2), (4, .int (0 : Int32))] [] (jx_set h1 b3 e4)
  else none :=
  jx_enter ((jx_G_run (jx_X_grows rc jx_dflt jx_mt d) 81 (0, [(0, .ref a0), (1, .ref a1), (2, .int x2)], [], h)).trans rfl)
set_option maxRecDepth 100000 in
theorem je_165_11 (rc : Nat → Nat × (Nat → Int32)) (d : Nat) (a0 : Nat) (a1 : Nat) (x2 : Int32) (x3 : Int32) (x4 : Int32) (h : jxH) : jb_165 rc d 11 [(0, .ref a0), (1, .ref a1), (2, .int x2), (3, .int x3), (4, .int x4)] [] h =
  if (12 : Int32) ≤ x4 then
    some (none, h)
  else
    jx_cI (jx_C rc d 75 [.int x3, .int x4] h) fun v2 h1 =>
    if v2 = 0 then
      jb_165 rc d 11 [(0, .ref a0), (1, .ref a1), (2, .int x2), (3, .int x3), (4, .int (x4 + (1 : Int32)))] [] h1
    else
      jx_cV (jx_C rc d 164 [.ref a0, .ref a1, .int x4, .int (-1 : Int32)] h1) fun h3 =>
      (jx_gR (jx_at h3 a0) 12 19).bind fun b4 =>
      (jx_aI (jx_at h3 b4) 0 x2).bind fun v5 =>
      if v5 = 0 then
        jb_165 rc d 48 [(0, .ref a0), (1, .ref a1), (2, .int x2), (3, .int x3), (4, .int x4), (5, .int (0 : Int32))] [] h3
      else
        (jx_gR (jx_at h3 a0) 12 16).bind fun b6 =>
        (jx_aQ (jx_at h3 b6) 8 x4).bind fun o7 =>
        jx_mo o7 (fun b8 => (jx_gR (jx_at h3 a0) 12 17).bind fun b9 =>
          (jx_aI (jx_at h3 b9) 0 x4).bind fun v10 =>
          (jx_gR (jx_at h3 a0) 12 18).bind fun b11 =>
          (jx_aQ (jx_at h3 b11) 8 x2).bind fun o12 =>
          jx_mo o12 (fun b13 => (jx_gR (jx_at h3 a0) 12 19).bind fun b14 =>
            (jx_aI (jx_at h3 b14) 0 x2).bind fun v15 =>
            jx_cI (jx_C rc d 162 [.ref b8, .int v10, .ref b13, .int v15] h3) fun v17 h16 =>
            if v17 = 0 then
              jb_165 rc d 11 [(0, .ref a0), (1, .ref a1), (2, .int x2), (3, .int x3), (4, .int (x4 + (1 : Int32)))] [] h16
            else
              jb_165 rc d 48 [(0, .ref a0), (1, .ref a1), (2, .int x2), (3, .int x3), (4, .int x4), (5, .int (0 : Int32))] [] h16)
          ((jx_gR (jx_at h3 a0) 12 19).bind fun b18 =>
            (jx_aI (jx_at h3 b18) 0 x2).bind fun v19 =>
            jx_cI (jx_C rc d 162 [.ref b8, .int v10, .null, .int v19] h3) fun v21 h20 =>
            if v21 = 0 then
              jb_165 rc d 11 [(0, .ref a0), (1, .ref a1), (2, .int x2), (3, .int x3), (4, .int (x4 + (1 : Int32)))] [] h20
            else
              jb_165 rc d 48 [(0, .ref a0), (1, .ref a1), (2, .int x2), (3, .int x3), (4, .int x4), (5, .int (0 : Int32))] [] h20))
        ((jx_gR (jx_at h3 a0) 12 17).bind fun b22 =>
          (jx_aI (jx_at h3 b22) 0 x4).bind fun v23 =>
          (jx_gR (jx_at h3 a0) 12 18).bind fun b24 =>
          (jx_aQ (jx_at h3 b24) 8 x2).bind fun o25 =>
          jx_mo o25 (fun b26 => (jx_gR (jx_at h3 a0) 12 19).bind fun b27 =>
            (jx_aI (jx_at h3 b27) 0 x2).bind fun v28 =>
            jx_cI (jx_C rc d 162 [.null, .int v23, .ref b26, .int v28] h3) fun v30 h29 =>
            if v30 = 0 then
              jb_165 rc d 11 [(0, .ref a0), (1, .ref a1), (2, .int x2), (3, .int x3), (4, .int (x4 + (1 : Int32)))] [] h29
            else
              jb_165 rc d 48 [(0, .ref a0), (1, .ref a1), (2, .int x2), (3, .int x3), (4, .int x4), (5, .int (0 : Int32))] [] h29)
          ((jx_gR (jx_at h3 a0) 12 19).bind fun b31 =>
            (jx_aI (jx_at h3 b31) 0 x2).bind fun v32 =>
            jx_cI (jx_C rc d 162 [.null, .int v23, .null, .int v32] h3) fun v34 h33 =>
            if v34 = 0 then
              jb_165 rc d 11 [(0, .ref a0), (1, .ref a1), (2, .int x2), (3, .int x3), (4, .int (x4 + (1 : Int32)))] [] h33
            else
              jb_165 rc d 48 [(0, .ref a0), (1, .ref a1), (2, .int x2), (3, .int x3), (4, .int x4), (5, .int (0 : Int32))] [] h33)) :=
  (jx_G_run (jx_X_grows rc jx_dflt jx_mt d) 81 _).trans rfl
set_option maxRecDepth 100000 in
theorem je_165_48 (rc : Nat → Nat × (Nat → Int32)) (d : Nat) (a0 : Nat) (a1 : Nat) (x2 : Int32) (x3 : Int32) (x4 : Int32) (x5 : Int32) (h : jxH) : jb_165 rc d 48 [(0, .ref a0), (1, .ref a1), (2, .int x2), (3, .int x3), (4, .int x4), (5, .int x5)] [] h =
  (jx_gR (jx_at h a0) 12 17).bind fun b1 =>
  (jx_aI (jx_at h b1) 0 x4).bind fun v2 =>
  if v2 ≤ x5 then
    (jx_gR (jx_at h a0) 12 19).bind fun b3 =>
    (jx_gR (jx_at h a0) 12 17).bind fun b4 =>
    (jx_aI (jx_at h b4) 0 x4).bind fun v5 =>
    (jx_sI (jx_at h b3) 0 x2 v5).bind fun e6 =>
    jb_165 rc d 11 [(0, .ref a0), (1, .ref a1), (2, .int x2), (3, .int x3), (4, .int (x4 + (1 : Int32)))] [] (jx_set h b3 e6)
  else
    (jx_gR (jx_at h a0) 12 18).bind fun b7 =>
    (jx_aQ (jx_at h b7) 8 x2).bind fun o8 =>
    jx_mo o8 (fun b9 => (jx_gR (jx_at h a0) 12 16).bind fun b10 =>
      (jx_aQ (jx_at h b10) 8 x4).bind fun o11 =>
      jx_mo o11 (fun b12 => (jx_aI (jx_at h b12) 0 x5).bind fun v13 =>
        (jx_sI (jx_at h b9) 0 x5 v13).bind fun e14 =>
        jb_165 rc d 48 [(0, .ref a0), (1, .ref a1), (2, .int x2), (3, .int x3), (4, .int x4), (5, .int (x5 + (1 : Int32)))] [] (jx_set h b9 e14))
      (none))
    ((jx_gR (jx_at h a0) 12 16).bind fun b15 =>
      (jx_aQ (jx_at h b15) 8 x4).bind fun o16 =>
      jx_mo o16 (fun b17 => (jx_aI (jx_at h b17) 0 x5).bind fun v18 =>
        none)
      (none)) :=
  (jx_G_run (jx_X_grows rc jx_dflt jx_mt d) 81 _).trans rfl
