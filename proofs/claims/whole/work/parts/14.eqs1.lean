-- RoomTrees$Forest.follow(LRoomTrees$Forest;)V
theorem je_225 (rc : Nat → Nat × (Nat → Int32)) (d : Nat) (a0 : Nat) (a1 : Nat) (h : jxH) : jx_C rc (d + 1) 225 [.ref a0, .ref a1] h =
  if jx_is (jx_at h a0) 1 = true then
  (jx_gR (jx_at h a1) 1 0).bind fun b1 =>
  (jx_gR (jx_at h a0) 1 0).bind fun b2 =>
  (jx_cp (jx_at h b1) (jx_at h b2) 0 (0 : Int32) (0 : Int32) (12 : Int32)).bind fun e3 =>
  (jx_gR (jx_at (jx_set h b2 e3) a1) 1 1).bind fun b4 =>
  (jx_gR (jx_at (jx_set h b2 e3) a0) 1 1).bind fun b5 =>
  (jx_cp (jx_at (jx_set h b2 e3) b4) (jx_at (jx_set h b2 e3) b5) 0 (0 : Int32) (0 : Int32) (12 : Int32)).bind fun e6 =>
  (jx_gI (jx_at (jx_set (jx_set h b2 e3) b5 e6) a1) 1 2).bind fun v7 =>
  (jx_pF (jx_at (jx_set (jx_set h b2 e3) b5 e6) a0) 1 2 (.int v7)).bind fun e8 =>
  some (none, (jx_set (jx_set (jx_set h b2 e3) b5 e6) a0 e8))
  else none :=
  jx_enter ((jx_G_run (jx_X_grows rc jx_dflt jx_mt d) 23 (0, [(0, .ref a0), (1, .ref a1)], [], h)).trans rfl)
-- RoomTrees$Forest.has(I)Z
theorem je_226 (rc : Nat → Nat × (Nat → Int32)) (d : Nat) (a0 : Nat) (x1 : Int32) (h : jxH) : jx_C rc (d + 1) 226 [.ref a0, .int x1] h =
  if jx_is (jx_at h a0) 1 = true then
  if x1 < 0 then
    if jx_bool (0 : Int32) = true then some (some (.int (0 : Int32)), h) else none
  else
    if (12 : Int32) ≤ x1 then
      if jx_bool (0 : Int32) = true then some (some (.int (0 : Int32)), h) else none
    else
      (jx_gI (jx_at h a0) 1 2).bind fun v1 =>
      if ((v1 >>> (x1 &&& 31)) &&& (1 : Int32)) = 0 then
        if jx_bool (0 : Int32) = true then some (some (.int (0 : Int32)), h) else none
      else
        if jx_bool (1 : Int32) = true then some (some (.int (1 : Int32)), h) else none
  else none :=
  jx_enter ((jx_G_run (jx_X_grows rc jx_dflt jx_mt d) 18 (0, [(0, .ref a0), (1, .int x1)], [], h)).trans rfl)
-- RoomTrees$Forest.size()I
theorem je_227 (rc : Nat → Nat × (Nat → Int32)) (d : Nat) (a0 : Nat) (h : jxH) : jx_C rc (d + 1) 227 [.ref a0] h =
  if jx_is (jx_at h a0) 1 = true then
  (jx_gI (jx_at h a0) 1 2).bind fun v1 =>
  jx_cI (jx_C rc d 328 [.int v1] h) fun v3 h2 =>
  some (some (.int v3), h2)
  else none :=
  jx_enter ((jx_G_run (jx_X_grows rc jx_dflt jx_mt d) 6 (0, [(0, .ref a0)], [], h)).trans rfl)
-- RoomTrees$Forest.weightAt(I)I
theorem je_228 (rc : Nat → Nat × (Nat → Int32)) (d : Nat) (a0 : Nat) (x1 : Int32) (h : jxH) : jx_C rc (d + 1) 228 [.ref a0, .int x1] h =
  if jx_is (jx_at h a0) 1 = true then
  if x1 < 0 then
    some (some (.int (0 : Int32)), h)
  else
    if (12 : Int32) ≤ x1 then
      some (some (.int (0 : Int32)), h)
    else
      (jx_gR (jx_at h a0) 1 0).bind fun b1 =>
      (jx_aI (jx_at h b1) 0 x1).bind fun v2 =>
      some (some (.int v2), h)
  else none :=
  jx_enter ((jx_G_run (jx_X_grows rc jx_dflt jx_mt d) 14 (0, [(0, .ref a0), (1, .int x1)], [], h)).trans rfl)
-- RoomTrees$Forest.nearsAt(I)I
theorem je_229 (rc : Nat → Nat × (Nat → Int32)) (d : Nat) (a0 : Nat) (x1 : Int32) (h : jxH) : jx_C rc (d + 1) 229 [.ref a0, .int x1] h =
  if jx_is (jx_at h a0) 1 = true then
  if x1 < 0 then
    some (some (.int (0 : Int32)), h)
  else
    if (12 : Int32) ≤ x1 then
      some (some (.int (0 : Int32)), h)
    else
      (jx_gR (jx_at h a0) 1 1).bind fun b1 =>
      (jx_aI (jx_at h b1) 0 x1).bind fun v2 =>
      some (some (.int v2), h)
  else none :=
  jx_enter ((jx_G_run (jx_X_grows rc jx_dflt jx_mt d) 14 (0, [(0, .ref a0), (1, .int x1)], [], h)).trans rfl)
-- RoomTrees$Forest.degree(I)I
theorem je_230 (rc : Nat → Nat × (Nat → Int32)) (d : Nat) (a0 : Nat) (x1 : Int32) (h : jxH) : jx_C rc (d + 1) 230 [.ref a0, .int x1] h =
  if jx_is (jx_at h a0) 1 = true then
  if x1 < 0 then
    some (some (.int (0 : Int32)), h)
  else
    if (12 : Int32) ≤ x1 then
      some (some (.int (0 : Int32)), h)
    else
      (jx_gR (jx_at h a0) 1 1).bind fun b1 =>
      (jx_aI (jx_at h b1) 0 x1).bind fun v2 =>
      jx_cI (jx_C rc d 328 [.int v2] h) fun v4 h3 =>
      some (some (.int v4), h3)
  else none :=
  jx_enter ((jx_G_run (jx_X_grows rc jx_dflt jx_mt d) 15 (0, [(0, .ref a0), (1, .int x1)], [], h)).trans rfl)
-- RoomTrees$Forest.areNear(II)Z
theorem je_231 (rc : Nat → Nat × (Nat → Int32)) (d : Nat) (a0 : Nat) (x1 : Int32) (x2 : Int32) (h : jxH) : jx_C rc (d + 1) 231 [.ref a0, .int x1, .int x2] h =
  if jx_is (jx_at h a0) 1 = true then
  if x1 < 0 then
    if jx_bool (0 : Int32) = true then some (some (.int (0 : Int32)), h) else none
  else
    if (12 : Int32) ≤ x1 then
      if jx_bool (0 : Int32) = true then some (some (.int (0 : Int32)), h) else none
    else
      if x2 < 0 then
        if jx_bool (0 : Int32) = true then some (some (.int (0 : Int32)), h) else none
      else
        if (12 : Int32) ≤ x2 then
          if jx_bool (0 : Int32) = true then some (some (.int (0 : Int32)), h) else none
        else
          (jx_gR (jx_at h a0) 1 1).bind fun b1 =>
          (jx_aI (jx_at h b1) 0 x1).bind fun v2 =>
          if ((v2 >>> (x2 &&& 31)) &&& (1 : Int32)) = 0 then
            if jx_bool (0 : Int32) = true then some (some (.int (0 : Int32)), h) else none
          else
            if jx_bool (1 : Int32) = true then some (some (.int (1 : Int32)), h) else none
  else none :=
  jx_enter ((jx_G_run (jx_X_grows rc jx_dflt jx_mt d) 25 (0, [(0, .ref a0), (1, .int x1), (2, .int x2)], [], h)).trans rfl)
-- RoomTrees$Forest.edges()I
noncomputable def jb_232 (rc : Nat → Nat × (Nat → Int32)) (d : Nat) (i : Nat) (ls : List (Nat × Value)) (st : List Value) (h : jxH) : jxR := jx_G rc jx_dflt (jx_X rc jx_dflt jx_mt d) jc_232 (i, ls, st, h)
theorem je_232 (rc : Nat → Nat × (Nat → Int32)) (d : Nat) (a0 : Nat) (h : jxH) : jx_C rc (d + 1) 232 [.ref a0] h =
  if jx_is (jx_at h a0) 1 = true then
  jb_232 rc d 4 [(0, .ref a0), (1, .int (0 : Int32)), (2, .int (0 : Int32))] [] h
  else none :=
  jx_enter ((jx_G_run (jx_X_grows rc jx_dflt jx_mt d) 23 (0, [(0, .ref a0)], [], h)).trans rfl)
theorem je_232_4 (rc : Nat → Nat × (Nat → Int32)) (d : Nat) (a0 : Nat) (x1 : Int32) (x2 : Int32) (h : jxH) : jb_232 rc d 4 [(0, .ref a0), (1, .int x1), (2, .int x2)] [] h =
  if (12 : Int32) ≤ x2 then
    if (2 : Int32) = 0 then none else some (some (.int (x1 / (2 : Int32))), h)
  else
    (jx_gR (jx_at h a0) 1 1).bind fun b1 =>
    (jx_aI (jx_at h b1) 0 x2).bind fun v2 =>
    jx_cI (jx_C rc d 328 [.int v2] h) fun v4 h3 =>
    jb_232 rc d 4 [(0, .ref a0), (1, .int (x1 + v4)), (2, .int (x2 + (1 : Int32)))] [] h3 :=
  (jx_G_run (jx_X_grows rc jx_dflt jx_mt d) 23 _).trans rfl
-- RoomTrees$Forest.trees()I
theorem je_233 (rc : Nat → Nat × (Nat → Int32)) (d : Nat) (a0 : Nat) (h : jxH) : jx_C rc (d + 1) 233 [.ref a0] h =
  if jx_is (jx_at h a0) 1 = true then
  jx_cI (jx_C rc d 227 [.ref a0] h) fun v2 h1 =>
  jx_cI (jx_C rc d 232 [.ref a0] h1) fun v4 h3 =>
  some (some (.int (v2 - v4)), h3)
  else none :=
  jx_enter ((jx_G_run (jx_X_grows rc jx_dflt jx_mt d) 8 (0, [(0, .ref a0)], [], h)).trans rfl)
-- RoomTrees$Forest.weightSum()I
noncomputable def jb_234 (rc : Nat → Nat × (Nat → Int32)) (d : Nat) (i : Nat) (ls : List (Nat × Value)) (st : List Value) (h : jxH) : jxR := jx_G rc jx_dflt (jx_X rc jx_dflt jx_mt d) jc_234 (i, ls, st, h)
theorem je_234 (rc : Nat → Nat × (Nat → Int32)) (d : Nat) (a0 : Nat) (h : jxH) : jx_C rc (d + 1) 234 [.ref a0] h =
  if jx_is (jx_at h a0) 1 = true then
  jb_234 rc d 4 [(0, .ref a0), (1, .int (0 : Int32)), (2, .int (0 : Int32))] [] h
  else none :=
  jx_enter ((jx_G_run (jx_X_grows rc jx_dflt jx_mt d) 20 (0, [(0, .ref a0)], [], h)).trans rfl)
theorem je_234_4 (rc : Nat → Nat × (Nat → Int32)) (d : Nat) (a0 : Nat) (x1 : Int32) (x2 : Int32) (h : jxH) : jb_234 rc d 4 [(0, .ref a0), (1, .int x1), (2, .int x2)] [] h =
  if (12 : Int32) ≤ x2 then
    some (some (.int x1), h)
  else
    (jx_gR (jx_at h a0) 1 0).bind fun b1 =>
    (jx_aI (jx_at h b1) 0 x2).bind fun v2 =>
    jb_234 rc d 4 [(0, .ref a0), (1, .int (x1 + v2)), (2, .int (x2 + (1 : Int32)))] [] h :=
  (jx_G_run (jx_X_grows rc jx_dflt jx_mt d) 20 _).trans rfl
-- RoomTrees$Forest.isLine(I)Z
noncomputable def jb_235 (rc : Nat → Nat × (Nat → Int32)) (d : Nat) (i : Nat) (ls : List (Nat × Value)) (st : List Value) (h : jxH) : jxR := jx_G rc jx_dflt (jx_X rc jx_dflt jx_mt d) jc_235 (i, ls, st, h)
theorem je_235 (rc : Nat → Nat × (Nat → Int32)) (d : Nat) (a0 : Nat) (x1 : Int32) (h : jxH) : jx_C rc (d + 1) 235 [.ref a0, .int x1] h =
  if jx_is (jx_at h a0) 1 = true then
  jb_235 rc d 2 [(0, .ref a0), (1, .int x1), (2, .int (0 : Int32))] [] h
  else none :=
  jx_enter ((jx_G_run (jx_X_grows rc jx_dflt jx_mt d) 22 (0, [(0, .ref a0), (1, .int x1)], [], h)).trans rfl)
theorem je_235_2 (rc : Nat → Nat × (Nat → Int32)) (d : Nat) (a0 : Nat) (x1 : Int32) (x2 : Int32) (h : jxH) : jb_235 rc d 2 [(0, .ref a0), (1, .int x1), (2, .int x2)] [] h =
  if (12 : Int32) ≤ x2 then
    if jx_bool (1 : Int32) = true then some (some (.int (1 : Int32)), h) else none
  else
    jx_cI (jx_C rc d 60 [.int x2, .int x1] h) fun v2 h1 =>
    if v2 = 0 then
      jb_235 rc d 2 [(0, .ref a0), (1, .int x1), (2, .int (x2 + (1 : Int32)))] [] h1
    else
      jx_cI (jx_C rc d 230 [.ref a0, .int x2] h1) fun v4 h3 =>
      if v4 ≤ (2 : Int32) then
        jb_235 rc d 2 [(0, .ref a0), (1, .int x1), (2, .int (x2 + (1 : Int32)))] [] h3
      else
        if jx_bool (0 : Int32) = true then some (some (.int (0 : Int32)), h3) else none :=
  (jx_G_run (jx_X_grows rc jx_dflt jx_mt d) 22 _).trans rfl
-- RoomTrees$Forest.tableSum(I)I
noncomputable def jb_236 (rc : Nat → Nat × (Nat → Int32)) (d : Nat) (i : Nat) (ls : List (Nat × Value)) (st : List Value) (h : jxH) : jxR := jx_G rc jx_dflt (jx_X rc jx_dflt jx_mt d) jc_236 (i, ls, st, h)
theorem je_236 (rc : Nat → Nat × (Nat → Int32)) (d : Nat) (a0 : Nat) (x1 : Int32) (h : jxH) : jx_C rc (d + 1) 236 [.ref a0, .int x1] h =
  if jx_is (jx_at h a0) 1 = true then
  jb_236 rc d 4 [(0, .ref a0), (1, .int x1), (2, .int (0 : Int32)), (3, .int (0 : Int32))] [] h
  else none :=
  jx_enter ((jx_G_run (jx_X_grows rc jx_dflt jx_mt d) 32 (0, [(0, .ref a0), (1, .int x1)], [], h)).trans rfl)
theorem je_236_4 (rc : Nat → Nat × (Nat → Int32)) (d : Nat) (a0 : Nat) (x1 : Int32) (x2 : Int32) (x3 : Int32) (h : jxH) : jb_236 rc d 4 [(0, .ref a0), (1, .int x1), (2, .int x2), (3, .int x3)] [] h =
  if (12 : Int32) ≤ x3 then
    some (some (.int x2), h)
  else
    jx_cI (jx_C rc d 60 [.int x3, .int x1] h) fun v2 h1 =>
    if v2 = 0 then
      jb_236 rc d 4 [(0, .ref a0), (1, .int x1), (2, .int x2), (3, .int (x3 + (1 : Int32)))] [] h1
    else
      (jx_gR (jx_at h1 a0) 1 0).bind fun b3 =>
      (jx_aI (jx_at h1 b3) 0 x3).bind fun v4 =>
      (jx_gR (jx_at h1 a0) 1 1).bind fun b5 =>
      (jx_aI (jx_at h1 b5) 0 x3).bind fun v6 =>
      jx_cI (jx_C rc d 328 [.int (v6 &&& x1)] h1) fun v8 h7 =>
      jb_236 rc d 4 [(0, .ref a0), (1, .int x1), (2, .int (x2 + (v4 + v8))), (3, .int (x3 + (1 : Int32)))] [] h7 :=
  (jx_G_run (jx_X_grows rc jx_dflt jx_mt d) 32 _).trans rfl
-- RoomTrees$Forest.setWeight(II)V
theorem je_237 (rc : Nat → Nat × (Nat → Int32)) (d : Nat) (a0 : Nat) (x1 : Int32) (x2 : Int32) (h : jxH) : jx_C rc (d + 1) 237 [.ref a0, .int x1, .int x2] h =
  if jx_is (jx_at h a0) 1 = true then
  jx_cI (jx_C rc d 226 [.ref a0, .int x1] h) fun v2 h1 =>
  if v2 = 0 then
    some (none, h1)
  else
    (jx_gR (jx_at h1 a0) 1 0).bind fun b3 =>
    (jx_sI (jx_at h1 b3) 0 x1 x2).bind fun e4 =>
    some (none, (jx_set h1 b3 e4))
  else none :=
  jx_enter ((jx_G_run (jx_X_grows rc jx_dflt jx_mt d) 12 (0, [(0, .ref a0), (1, .int x1), (2, .int x2)], [], h)).trans rfl)
-- RoomTrees$Forest.addWeight(II)V
theorem je_238 (rc : Nat → Nat × (Nat → Int32)) (d : Nat) (a0 : Nat) (x1 : Int32) (x2 : Int32) (h : jxH) : jx_C rc (d + 1) 238 [.ref a0, .int x1, .int x2] h =
  if jx_is (jx_at h a0) 1 = true then
  jx_cI (jx_C rc d 226 [.ref a0, .int x1] h) fun v2 h1 =>
  if v2 = 0 then
    some (none, h1)
  else
    (jx_gR (jx_at h1 a0) 1 0).bind fun b3 =>
    (jx_aI (jx_at h1 b3) 0 x1).bind fun v4 =>
    (jx_sI (jx_at h1 b3) 0 x1 (v4 + x2)).bind fun e5 =>
    some (none, (jx_set h1 b3 e5))
  else none :=
  jx_enter ((jx_G_run (jx_X_grows rc jx_dflt jx_mt d) 15 (0, [(0, .ref a0), (1, .int x1), (2, .int x2)], [], h)).trans rfl)
-- RoomTrees$Forest.mirror()V
noncomputable def jb_239 (rc : Nat → Nat × (Nat → Int32)) (d : Nat) (i : Nat) (ls : List (Nat × Value)) (st : List Value) (h : jxH) : jxR := jx_G rc jx_dflt (jx_X rc jx_dflt jx_mt d) jc_239 (i, ls, st, h)
theorem je_239 (rc : Nat → Nat × (Nat → Int32)) (d : Nat) (a0 : Nat) (h : jxH) : jx_C rc (d + 1) 239 [.ref a0] h =
  if jx_is (jx_at h a0) 1 = true then
  jb_239 rc d 2 [(0, .ref a0), (1, .int (0 : Int32))] [] h
  else none :=
  jx_enter ((jx_G_run (jx_X_grows rc jx_dflt jx_mt d) 19 (0, [(0, .ref a0)], [], h)).trans rfl)
theorem je_239_2 (rc : Nat → Nat × (Nat → Int32)) (d : Nat) (a0 : Nat) (x1 : Int32) (h : jxH) : jb_239 rc d 2 [(0, .ref a0), (1, .int x1)] [] h =
  if (12 : Int32) ≤ x1 then
    some (none, h)
  else
    (jx_gR (jx_at h a0) 1 0).bind fun b1 =>
    (jx_gR (jx_at h a0) 1 0).bind fun b2 =>
    (jx_aI (jx_at h b2) 0 x1).bind fun v3 =>
    (jx_sI (jx_at h b1) 0 x1 (-v3)).bind fun e4 =>
    jb_239 rc d 2 [(0, .ref a0), (1, .int (x1 + (1 : Int32)))] [] (jx_set h b1 e4) :=
  (jx_G_run (jx_X_grows rc jx_dflt jx_mt d) 19 _).trans rfl
-- RoomTrees$Forest.grow(I)I
theorem je_240 (rc : Nat → Nat × (Nat → Int32)) (d : Nat) (a0 : Nat) (x1 : Int32) (h : jxH) : jx_C rc (d + 1) 240 [.ref a0, .int x1] h =
  if jx_is (jx_at h a0) 1 = true then
  (jx_gI (jx_at h a0) 1 2).bind fun v1 =>
  jx_cI (jx_C rc d 67 [.int (v1 ^^^ (-1 : Int32))] h) fun v3 h2 =>
  jx_cI (jx_C rc d 59 [.int v3] h2) fun v5 h4 =>
  if v5 = 0 then
    some (some (.int v3), h4)
  else
    (jx_gI (jx_at h4 a0) 1 2).bind fun v6 =>
    (jx_pF (jx_at h4 a0) 1 2 (.int (v6 ||| ((1 : Int32) <<< (v3 &&& 31))))).bind fun e7 =>
    (jx_gR (jx_at (jx_set h4 a0 e7) a0) 1 0).bind fun b8 =>
    (jx_sI (jx_at (jx_set h4 a0 e7) b8) 0 v3 x1).bind fun e9 =>
    some (some (.int v3), (jx_set (jx_set h4 a0 e7) b8 e9))
  else none :=
  jx_enter ((jx_G_run (jx_X_grows rc jx_dflt jx_mt d) 26 (0, [(0, .ref a0), (1, .int x1)], [], h)).trans rfl)
-- RoomTrees$Forest.join(II)V
theorem je_241 (rc : Nat → Nat × (Nat → Int32)) (d : Nat) (a0 : Nat) (x1 : Int32) (x2 : Int32) (h : jxH) : jx_C rc (d + 1) 241 [.ref a0, .int x1, .int x2] h =
  if jx_is (jx_at h a0) 1 = true then
  if x1 < 0 then
    some (none, h)
  else
    if (12 : Int32) ≤ x1 then
      some (none, h)
    else
      if x2 < 0 then
        some (none, h)
      else
        if (12 : Int32) ≤ x2 then
          some (none, h)
        else
          (jx_gR (jx_at h a0) 1 1).bind fun b1 =>
          (jx_aI (jx_at h b1) 0 x1).bind fun v2 =>
          (jx_sI (jx_at h b1) 0 x1 (v2 ||| ((1 : Int32) <<< (x2 &&& 31)))).bind fun e3 =>
          (jx_gR (jx_at (jx_set h b1 e3) a0) 1 1).bind fun b4 =>
          (jx_aI (jx_at (jx_set h b1 e3) b4) 0 x2).bind fun v5 =>
          (jx_sI (jx_at (jx_set h b1 e3) b4) 0 x2 (v5 ||| ((1 : Int32) <<< (x1 &&& 31)))).bind fun e6 =>
          some (none, (jx_set (jx_set h b1 e3) b4 e6))
  else none :=
  jx_enter ((jx_G_run (jx_X_grows rc jx_dflt jx_mt d) 33 (0, [(0, .ref a0), (1, .int x1), (2, .int x2)], [], h)).trans rfl)
-- RoomTrees$Forest.joinAll(II)V
noncomputable def jb_242 (rc : Nat → Nat × (Nat → Int32)) (d : Nat) (i : Nat) (ls : List (Nat × Value)) (st : List Value) (h : jxH) : jxR := jx_G rc jx_dflt (jx_X rc jx_dflt jx_mt d) jc_242 (i, ls, st, h)
theorem je_242 (rc : Nat → Nat × (Nat → Int32)) (d : Nat) (a0 : Nat) (x1 : Int32) (x2 : Int32) (h : jxH) : jx_C rc (d + 1) 242 [.ref a0, .int x1, .int x2] h =
  if jx_is (jx_at h a0) 1 = true then
  jb_242 rc d 2 [(0, .ref a0), (1, .int x1), (2, .int x2), (3, .int (0 : Int32))] [] h
  else none :=
  jx_enter ((jx_G_run (jx_X_grows rc jx_dflt jx_mt d) 20 (0, [(0, .ref a0), (1, .int x1), (2, .int x2)], [], h)).trans rfl)
theorem je_242_2 (rc : Nat → Nat × (Nat → Int32)) (d : Nat) (a0 : Nat) (x1 : Int32) (x2 : Int32) (x3 : Int32) (h : jxH) : jb_242 rc d 2 [(0, .ref a0), (1, .int x1), (2, .int x2), (3, .int x3)] [] h =
  if (12 : Int32) ≤ x3 then
    some (none, h)
  else
    if ((x2 >>> (x3 &&& 31)) &&& (1 : Int32)) = 0 then
      jb_242 rc d 2 [(0, .ref a0), (1, .int x1), (2, .int x2), (3, .int (x3 + (1 : Int32)))] [] h
    else
      jx_cV (jx_C rc d 241 [.ref a0, .int x1, .int x3] h) fun h1 =>
      jb_242 rc d 2 [(0, .ref a0), (1, .int x1), (2, .int x2), (3, .int (x3 + (1 : Int32)))] [] h1 :=
  (jx_G_run (jx_X_grows rc jx_dflt jx_mt d) 20 _).trans rfl
-- RoomTrees$Forest.part(II)V
theorem je_243 (rc : Nat → Nat × (Nat → Int32)) (d : Nat) (a0 : Nat) (x1 : Int32) (x2 : Int32) (h : jxH) : jx_C rc (d + 1) 243 [.ref a0, .int x1, .int x2] h =
  if jx_is (jx_at h a0) 1 = true then
  if x1 < 0 then
    some (none, h)
  else
    if (12 : Int32) ≤ x1 then
      some (none, h)
    else
      if x2 < 0 then
        some (none, h)
      else
        if (12 : Int32) ≤ x2 then
          some (none, h)
        else
          (jx_gR (jx_at h a0) 1 1).bind fun b1 =>
          (jx_aI (jx_at h b1) 0 x1).bind fun v2 =>
          (jx_sI (jx_at h b1) 0 x1 (v2 &&& (((1 : Int32) <<< (x2 &&& 31)) ^^^ (-1 : Int32)))).bind fun e3 =>
          (jx_gR (jx_at (jx_set h b1 e3) a0) 1 1).bind fun b4 =>
          (jx_aI (jx_at (jx_set h b1 e3) b4) 0 x2).bind fun v5 =>
          (jx_sI (jx_at (jx_set h b1 e3) b4) 0 x2 (v5 &&& (((1 : Int32) <<< (x1 &&& 31)) ^^^ (-1 : Int32)))).bind fun e6 =>
          some (none, (jx_set (jx_set h b1 e3) b4 e6))
  else none :=
  jx_enter ((jx_G_run (jx_X_grows rc jx_dflt jx_mt d) 37 (0, [(0, .ref a0), (1, .int x1), (2, .int x2)], [], h)).trans rfl)
-- RoomTrees$Forest.partAll(II)V
noncomputable def jb_244 (rc : Nat → Nat × (Nat → Int32)) (d : Nat) (i : Nat) (ls : List (Nat × Value)) (st : List Value) (h : jxH) : jxR := jx_G rc jx_dflt (jx_X rc jx_dflt jx_mt d) jc_244 (i, ls, st, h)
theorem je_244 (rc : Nat → Nat × (Nat → Int32)) (d : Nat) (a0 : Nat) (x1 : Int32) (x2 : Int32) (h : jxH) : jx_C rc (d + 1) 244 [.ref a0, .int x1, .int x2] h =
  if jx_is (jx_at h a0) 1 = true then
  jb_244 rc d 2 [(0, .ref a0), (1, .int x1), (2, .int x2), (3, .int (0 : Int32))] [] h
  else none :=
  jx_enter ((jx_G_run (jx_X_grows rc jx_dflt jx_mt d) 20 (0, [(0, .ref a0), (1, .int x1), (2, .int x2)], [], h)).trans rfl)
theorem je_244_2 (rc : Nat → Nat × (Nat → Int32)) (d : Nat) (a0 : Nat) (x1 : Int32) (x2 : Int32) (x3 : Int32) (h : jxH) : jb_244 rc d 2 [(0, .ref a0), (1, .int x1), (2, .int x2), (3, .int x3)] [] h =
  if (12 : Int32) ≤ x3 then
    some (none, h)
  else
    if ((x2 >>> (x3 &&& 31)) &&& (1 : Int32)) = 0 then
      jb_244 rc d 2 [(0, .ref a0), (1, .int x1), (2, .int x2), (3, .int (x3 + (1 : Int32)))] [] h
    else
      jx_cV (jx_C rc d 243 [.ref a0, .int x1, .int x3] h) fun h1 =>
      jb_244 rc d 2 [(0, .ref a0), (1, .int x1), (2, .int x2), (3, .int (x3 + (1 : Int32)))] [] h1 :=
  (jx_G_run (jx_X_grows rc jx_dflt jx_mt d) 20 _).trans rfl
-- RoomTrees$Forest.remove(I)V
noncomputable def jb_245 (rc : Nat → Nat × (Nat → Int32)) (d : Nat) (i : Nat) (ls : List (Nat × Value)) (st : List Value) (h : jxH) : jxR := jx_G rc jx_dflt (jx_X rc jx_dflt jx_mt d) jc_245 (i, ls, st, h)
theorem je_245 (rc : Nat → Nat × (Nat → Int32)) (d : Nat) (a0 : Nat) (x1 : Int32) (h : jxH) : jx_C rc (d + 1) 245 [.ref a0, .int x1] h =
  if jx_is (jx_at h a0) 1 = true then
  jx_cI (jx_C rc d 226 [.ref a0, .int x1] h) fun v2 h1 =>
  if v2 = 0 then
    some (none, h1)
  else
    jb_245 rc d 6 [(0, .ref a0), (1, .int x1), (2, .int (0 : Int32))] [] h1
  else none :=
  jx_enter ((jx_G_run (jx_X_grows rc jx_dflt jx_mt d) 46 (0, [(0, .ref a0), (1, .int x1)], [], h)).trans rfl)
theorem je_245_6 (rc : Nat → Nat × (Nat → Int32)) (d : Nat) (a0 : Nat) (x1 : Int32) (x2 : Int32) (h : jxH) : jb_245 rc d 6 [(0, .ref a0), (1, .int x1), (2, .int x2)] [] h =
  if (12 : Int32) ≤ x2 then
    (jx_gR (jx_at h a0) 1 1).bind fun b1 =>
    (jx_sI (jx_at h b1) 0 x1 (0 : Int32)).bind fun e2 =>
    (jx_gR (jx_at (jx_set h b1 e2) a0) 1 0).bind fun b3 =>
    (jx_sI (jx_at (jx_set h b1 e2) b3) 0 x1 (0 : Int32)).bind fun e4 =>
    (jx_gI (jx_at (jx_set (jx_set h b1 e2) b3 e4) a0) 1 2).bind fun v5 =>
    (jx_pF (jx_at (jx_set (jx_set h b1 e2) b3 e4) a0) 1 2 (.int (v5 &&& (((1 : Int32) <<< (x1 &&& 31)) ^^^ (-1 : Int32))))).bind fun e6 =>
    some (none, (jx_set (jx_set (jx_set h b1 e2) b3 e4) a0 e6))
  else
    (jx_gR (jx_at h a0) 1 1).bind fun b7 =>
    (jx_aI (jx_at h b7) 0 x2).bind fun v8 =>
    (jx_sI (jx_at h b7) 0 x2 (v8 &&& (((1 : Int32) <<< (x1 &&& 31)) ^^^ (-1 : Int32)))).bind fun e9 =>
    jb_245 rc d 6 [(0, .ref a0), (1, .int x1), (2, .int (x2 + (1 : Int32)))] [] (jx_set h b7 e9) :=
  (jx_G_run (jx_X_grows rc jx_dflt jx_mt d) 46 _).trans rfl
-- RoomTrees$Forest.print()I
noncomputable def jb_246 (rc : Nat → Nat × (Nat → Int32)) (d : Nat) (i : Nat) (ls : List (Nat × Value)) (st : List Value) (h : jxH) : jxR := jx_G rc jx_dflt (jx_X rc jx_dflt jx_mt d) jc_246 (i, ls, st, h)
theorem je_246 (rc : Nat → Nat × (Nat → Int32)) (d : Nat) (a0 : Nat) (h : jxH) : jx_C rc (d + 1) 246 [.ref a0] h =
  if jx_is (jx_at h a0) 1 = true then
  jb_246 rc d 4 [(0, .ref a0), (1, .int (0 : Int32)), (2, .int (0 : Int32))] [] h
  else none :=
  jx_enter ((jx_G_run (jx_X_grows rc jx_dflt jx_mt d) 44 (0, [(0, .ref a0)], [], h)).trans rfl)
theorem je_246_4 (rc : Nat → Nat × (Nat → Int32)) (d : Nat) (a0 : Nat) (x1 : Int32) (x2 : Int32) (h : jxH) : jb_246 rc d 4 [(0, .ref a0), (1, .int x1), (2, .int x2)] [] h =
  if (12 : Int32) ≤ x2 then
    some (some (.int x1), h)
  else
    jx_cI (jx_C rc d 226 [.ref a0, .int x2] h) fun v2 h1 =>
    if v2 = 0 then
      jb_246 rc d 4 [(0, .ref a0), (1, .int x1), (2, .int (x2 + (1 : Int32)))] [] h1
    else
      (jx_gR (jx_at h1 a0) 1 0).bind fun b3 =>
      (jx_aI (jx_at h1 b3) 0 x2).bind fun v4 =>
      jx_cI (jx_C rc d 230 [.ref a0, .int x2] h1) fun v6 h5 =>
      jx_cI (jx_C rc d 247 [.ref a0, .int x2] h5) fun v8 h7 =>
      jb_246 rc d 4 [(0, .ref a0), (1, .int (x1 + (((((((v4 * (31 : Int32)) + v6) * (1009 : Int32)) + v8) + (77777 : Int32)) * (((((v4 * (31 : Int32)) + v6) * (1009 : Int32)) + v8) + (77777 : Int32))) * (((((v4 * (31 : Int32)) + v6) * (1009 : Int32)) + v8) + (77777 : Int32))))), (2, .int (x2 + (1 : Int32)))] [] h7 :=
  (jx_G_run (jx_X_grows rc jx_dflt jx_mt d) 44 _).trans rfl
-- RoomTrees$Forest.nearSum(I)I
noncomputable def jb_247 (rc : Nat → Nat × (Nat → Int32)) (d : Nat) (i : Nat) (ls : List (Nat × Value)) (st : List Value) (h : jxH) : jxR := jx_G rc jx_dflt (jx_X rc jx_dflt jx_mt d) jc_247 (i, ls, st, h)
theorem je_247 (rc : Nat → Nat × (Nat → Int32)) (d : Nat) (a0 : Nat) (x1 : Int32) (h : jxH) : jx_C rc (d + 1) 247 [.ref a0, .int x1] h =
  if jx_is (jx_at h a0) 1 = true then
  jb_247 rc d 4 [(0, .ref a0), (1, .int x1), (2, .int (0 : Int32)), (3, .int (0 : Int32))] [] h
  else none :=
  jx_enter ((jx_G_run (jx_X_grows rc jx_dflt jx_mt d) 27 (0, [(0, .ref a0), (1, .int x1)], [], h)).trans rfl)
theorem je_247_4 (rc : Nat → Nat × (Nat → Int32)) (d : Nat) (a0 : Nat) (x1 : Int32) (x2 : Int32) (x3 : Int32) (h : jxH) : jb_247 rc d 4 [(0, .ref a0), (1, .int x1), (2, .int x2), (3, .int x3)] [] h =
  if (12 : Int32) ≤ x3 then
    some (some (.int x2), h)
  else
    jx_cI (jx_C rc d 231 [.ref a0, .int x1, .int x3] h) fun v2 h1 =>
    if v2 = 0 then
      jb_247 rc d 4 [(0, .ref a0), (1, .int x1), (2, .int (x2 + (0 : Int32))), (3, .int (x3 + (1 : Int32)))] [] h1
    else
      (jx_gR (jx_at h1 a0) 1 0).bind fun b3 =>
      (jx_aI (jx_at h1 b3) 0 x3).bind fun v4 =>
      jb_247 rc d 4 [(0, .ref a0), (1, .int x1), (2, .int (x2 + v4)), (3, .int (x3 + (1 : Int32)))] [] h1 :=
  (jx_G_run (jx_X_grows rc jx_dflt jx_mt d) 27 _).trans rfl
-- RoomTrees$Reckoner.<init>()V
theorem je_248 (rc : Nat → Nat × (Nat → Int32)) (d : Nat) (a0 : Nat) (h : jxH) : jx_C rc (d + 1) 248 [.ref a0] h =
  if jx_is (jx_at h a0) 2 = true then
  jx_cV (jx_C rc d 318 [.ref h.1] (jx_new h 5 (.inl (10, jx_dflt 10)))) fun h1 =>
  (jx_pF (jx_at h1 a0) 2 0 (.ref h.1)).bind fun e2 =>
  if (12 : Int32) < 0 ∨ 5000 < (12 : Int32) then none else
  (jx_pF (jx_at (jx_new (jx_set h1 a0 e2) ((12 : Int32)).toNatClampNeg (jx_arr 1 ((12 : Int32)).toNatClampNeg)) a0) 2 1 (.ref (jx_set h1 a0 e2).1)).bind fun e3 =>
  if (12 : Int32) < 0 ∨ 5000 < (12 : Int32) then none else
  (jx_pF (jx_at (jx_new (jx_set (jx_new (jx_set h1 a0 e2) ((12 : Int32)).toNatClampNeg (jx_arr 1 ((12 : Int32)).toNatClampNeg)) a0 e3) ((12 : Int32)).toNatClampNeg (jx_arr 1 ((12 : Int32)).toNatClampNeg)) a0) 2 2 (.ref (jx_set (jx_new (jx_set h1 a0 e2) ((12 : Int32)).toNatClampNeg (jx_arr 1 ((12 : Int32)).toNatClampNeg)) a0 e3).1)).bind fun e4 =>
  if (12 : Int32) < 0 ∨ 5000 < (12 : Int32) then none else
  (jx_pF (jx_at (jx_new (jx_set (jx_new (jx_set (jx_new (jx_set h1 a0 e2) ((12 : Int32)).toNatClampNeg (jx_arr 1 ((12 : Int32)).toNatClampNeg)) a0 e3) ((12 : Int32)).toNatClampNeg (jx_arr 1 ((12 : Int32)).toNatClampNeg)) a0 e4) ((12 : Int32)).toNatClampNeg (jx_arr 0 ((12 : Int32)).toNatClampNeg)) a0) 2 3 (.ref (jx_set (jx_new (jx_set (jx_new (jx_set h1 a0 e2) ((12 : Int32)).toNatClampNeg (jx_arr 1 ((12 : Int32)).toNatClampNeg)) a0 e3) ((12 : Int32)).toNatClampNeg (jx_arr 1 ((12 : Int32)).toNatClampNeg)) a0 e4).1)).bind fun e5 =>
  some (none, (jx_set (jx_new (jx_set (jx_new (jx_set (jx_new (jx_set h1 a0 e2) ((12 : Int32)).toNatClampNeg (jx_arr 1 ((12 : Int32)).toNatClampNeg)) a0 e3) ((12 : Int32)).toNatClampNeg (jx_arr 1 ((12 : Int32)).toNatClampNeg)) a0 e4) ((12 : Int32)).toNatClampNeg (jx_arr 0 ((12 : Int32)).toNatClampNeg)) a0 e5))
  else none :=
  jx_enter ((jx_G_run (jx_X_grows rc jx_dflt jx_mt d) 22 (0, [(0, .ref a0)], [], h)).trans rfl)
-- RoomTrees$Reckoner.minorOf(LRoomTrees$Forest;I)J
noncomputable def jb_249 (rc : Nat → Nat × (Nat → Int32)) (d : Nat) (i : Nat) (ls : List (Nat × Value)) (st : List Value) (h : jxH) : jxR := jx_G rc jx_dflt (jx_X rc jx_dflt jx_mt d) jc_249 (i, ls, st, h)
theorem je_249 (rc : Nat → Nat × (Nat → Int32)) (d : Nat) (a0 : Nat) (a1 : Nat) (x2 : Int32) (h : jxH) : jx_C rc (d + 1) 249 [.ref a0, .ref a1, .int x2] h =
  if jx_is (jx_at h a0) 2 = true then
  (jx_gR (jx_at h a0) 2 0).bind fun b1 =>
  jx_cV (jx_C rc d 319 [.ref b1, .ref a1, .int x2] h) fun h2 =>
  jx_cV (jx_C rc d 250 [.ref a0, .ref a1, .int (0 : Int32)] h2) fun h3 =>
  jb_249 rc d 13 [(0, .ref a0), (3, .long (1 : Int64)), (5, .int (11 : Int32))] [] h3
  else none :=
  jx_enter ((jx_G_run (jx_X_grows rc jx_dflt jx_mt d) 53 (0, [(0, .ref a0), (1, .ref a1), (2, .int x2)], [], h)).trans rfl)
theorem je_249_13 (rc : Nat → Nat × (Nat → Int32)) (d : Nat) (a0 : Nat) (x3 : Int64) (x5 : Int32) (h : jxH) : jb_249 rc d 13 [(0, .ref a0), (3, .long x3), (5, .int x5)] [] h =
  if x5 < 0 then
    some (some (.long x3), h)
  else
    (jx_gR (jx_at h a0) 2 0).bind fun b1 =>
    jx_cI (jx_C rc d 323 [.ref b1, .int x5] h) fun v3 h2 =>
    (jx_gR (jx_at h2 a0) 2 0).bind fun b4 =>
    jx_cI (jx_C rc d 324 [.ref b4, .int v3] h2) fun v6 h5 =>
    jx_cI (jx_C rc d 59 [.int v3] h5) fun v8 h7 =>
    if v8 = 0 then
      jx_cI (jx_C rc d 59 [.int v3] h7) fun v10 h9 =>
      if v10 = 0 then
        jb_249 rc d 13 [(0, .ref a0), (3, .long x3), (5, .int (x5 + (-1 : Int32)))] [] h9
      else
        (jx_gR (jx_at h9 a0) 2 1).bind fun b11 =>
        (jx_aL (jx_at h9 b11) v3).bind fun v12 =>
        jb_249 rc d 13 [(0, .ref a0), (3, .long (x3 * v12)), (5, .int (x5 + (-1 : Int32)))] [] h9
    else
      jx_cI (jx_C rc d 59 [.int v6] h7) fun v14 h13 =>
      if v14 = 0 then
        jx_cI (jx_C rc d 59 [.int v3] h13) fun v16 h15 =>
        if v16 = 0 then
          jb_249 rc d 13 [(0, .ref a0), (3, .long x3), (5, .int (x5 + (-1 : Int32)))] [] h15
        else
          (jx_gR (jx_at h15 a0) 2 1).bind fun b17 =>
          (jx_aL (jx_at h15 b17) v3).bind fun v18 =>
          jb_249 rc d 13 [(0, .ref a0), (3, .long (x3 * v18)), (5, .int (x5 + (-1 : Int32)))] [] h15
      else
        jx_cV (jx_C rc d 251 [.ref a0, .int v3, .int v6, .int (0 : Int32)] h13) fun h19 =>
        jb_249 rc d 13 [(0, .ref a0), (3, .long x3), (5, .int (x5 + (-1 : Int32)))] [] h19 :=
  (jx_G_run (jx_X_grows rc jx_dflt jx_mt d) 53 _).trans rfl
-- RoomTrees$Reckoner.start(LRoomTrees$Forest;I)V
noncomputable def jb_250 (rc : Nat → Nat × (Nat → Int32)) (d : Nat) (i : Nat) (ls : List (Nat × Value)) (st : List Value) (h : jxH) : jxR := jx_G rc jx_dflt (jx_X rc jx_dflt jx_mt d) jc_250 (i, ls, st, h)
theorem je_250 (rc : Nat → Nat × (Nat → Int32)) (d : Nat) (a0 : Nat) (a1 : Nat) (x2 : Int32) (h : jxH) : jx_C rc (d + 1) 250 [.ref a0, .ref a1, .int x2] h =
  if jx_is (jx_at h a0) 2 = true then
  jb_250 rc d 2 [(0, .ref a0), (1, .ref a1), (2, .int x2), (3, .int (0 : Int32))] [] h
  else none :=
  jx_enter ((jx_G_run (jx_X_grows rc jx_dflt jx_mt d) 25 (0, [(0, .ref a0), (1, .ref a1), (2, .int x2)], [], h)).trans rfl)
theorem je_250_2 (rc : Nat → Nat × (Nat → Int32)) (d : Nat) (a0 : Nat) (a1 : Nat) (x2 : Int32) (x3 : Int32) (h : jxH) : jb_250 rc d 2 [(0, .ref a0), (1, .ref a1), (2, .int x2), (3, .int x3)] [] h =
  if (12 : Int32) ≤ x3 then
    some (none, h)
  else
    (jx_gR (jx_at h a0) 2 1).bind fun b1 =>
    jx_cI (jx_C rc d 228 [.ref a1, .int x3] h) fun v3 h2 =>
    jx_cL (jx_C rc d 252 [.long (v3).toInt64, .int x2] h2) fun v5 h4 =>
    (jx_sL (jx_at h4 b1) x3 v5).bind fun e6 =>
    (jx_gR (jx_at (jx_set h4 b1 e6) a0) 2 2).bind fun b7 =>
    (jx_sL (jx_at (jx_set h4 b1 e6) b7) x3 (1 : Int64)).bind fun e8 =>
    jb_250 rc d 2 [(0, .ref a0), (1, .ref a1), (2, .int x2), (3, .int (x3 + (1 : Int32)))] [] (jx_set (jx_set h4 b1 e6) b7 e8) :=
  (jx_G_run (jx_X_grows rc jx_dflt jx_mt d) 25 _).trans rfl
-- RoomTrees$Reckoner.fold(III)V
theorem je_251 (rc : Nat → Nat × (Nat → Int32)) (d : Nat) (a0 : Nat) (x1 : Int32) (x2 : Int32) (x3 : Int32) (h : jxH) : jx_C rc (d + 1) 251 [.ref a0, .int x1, .int x2, .int x3] h =
  if jx_is (jx_at h a0) 2 = true then
  jx_cI (jx_C rc d 59 [.int x1] h) fun v2 h1 =>
  if v2 = 0 then
    some (none, h1)
  else
    jx_cI (jx_C rc d 59 [.int x2] h1) fun v4 h3 =>
    if v4 = 0 then
      some (none, h3)
    else
      (jx_gR (jx_at h3 a0) 2 1).bind fun b5 =>
      (jx_gR (jx_at h3 a0) 2 1).bind fun b6 =>
      (jx_aL (jx_at h3 b6) x2).bind fun v7 =>
      (jx_gR (jx_at h3 a0) 2 1).bind fun b8 =>
      (jx_aL (jx_at h3 b8) x1).bind fun v9 =>
      (jx_gR (jx_at h3 a0) 2 2).bind fun b10 =>
      (jx_aL (jx_at h3 b10) x2).bind fun v11 =>
      (jx_gR (jx_at h3 a0) 2 2).bind fun b12 =>
      (jx_aL (jx_at h3 b12) x1).bind fun v13 =>
      jx_cL (jx_C rc d 252 [.long ((v7 * v9) - (v11 * v13)), .int x3] h3) fun v15 h14 =>
      (jx_sL (jx_at h14 b5) x2 v15).bind fun e16 =>
      (jx_gR (jx_at (jx_set h14 b5 e16) a0) 2 2).bind fun b17 =>
      (jx_gR (jx_at (jx_set h14 b5 e16) a0) 2 2).bind fun b18 =>
      (jx_aL (jx_at (jx_set h14 b5 e16) b18) x2).bind fun v19 =>
      (jx_gR (jx_at (jx_set h14 b5 e16) a0) 2 1).bind fun b20 =>
      (jx_aL (jx_at (jx_set h14 b5 e16) b20) x1).bind fun v21 =>
      jx_cL (jx_C rc d 252 [.long (v19 * v21), .int x3] (jx_set h14 b5 e16)) fun v23 h22 =>
      (jx_sL (jx_at h22 b17) x2 v23).bind fun e24 =>
      some (none, (jx_set h22 b17 e24))
  else none :=
  jx_enter ((jx_G_run (jx_X_grows rc jx_dflt jx_mt d) 49 (0, [(0, .ref a0), (1, .int x1), (2, .int x2), (3, .int x3)], [], h)).trans rfl)
-- RoomTrees$Reckoner.left(JI)J
theorem je_252 (rc : Nat → Nat × (Nat → Int32)) (d : Nat) (x0 : Int64) (x2 : Int32) (h : jxH) : jx_C rc (d + 1) 252 [.long x0, .int x2] h =
  if x2 ≤ 0 then
    some (some (.long x0), h)
  else
    jx_cL (jx_C rc d 329 [.long x0, .long (x2).toInt64] h) fun v2 h1 =>
    some (some (.long v2), h1) :=
  (jx_G_run (jx_X_grows rc jx_dflt jx_mt d) 11 (0, [(0, .long x0), (2, .int x2)], [], h)).trans rfl
-- RoomTrees$Reckoner.inverseOf(LRoomTrees$Forest;II)Z
noncomputable def jb_253 (rc : Nat → Nat × (Nat → Int32)) (d : Nat) (i : Nat) (ls : List (Nat × Value)) (st : List Value) (h : jxH) : jxR := jx_G rc jx_dflt (jx_X rc jx_dflt jx_mt d) jc_253 (i, ls, st, h)
theorem je_253 (rc : Nat → Nat × (Nat → Int32)) (d : Nat) (a0 : Nat) (a1 : Nat) (x2 : Int32) (x3 : Int32) (h : jxH) : jx_C rc (d + 1) 253 [.ref a0, .ref a1, .int x2, .int x3] h =
  if jx_is (jx_at h a0) 2 = true then
  (jx_gI (jx_at h a1) 1 2).bind fun v1 =>
  jx_cL (jx_C rc d 249 [.ref a0, .ref a1, .int v1] h) fun v3 h2 =>
  if (lg_cmp v3 (0 : Int64)) = 0 then
    if jx_bool (0 : Int32) = true then some (some (.int (0 : Int32)), h2) else none
  else
    (jx_gR (jx_at h2 a0) 2 0).bind fun b4 =>
    jx_cI (jx_C rc d 327 [.ref b4, .ref a1, .int x2, .int x3] h2) fun v6 h5 =>
    if v6 = 0 then
      jx_cI (jx_C rc d 328 [.int v6] h5) fun v8 h7 =>
      if (v8 &&& (1 : Int32)) = 0 then
        jb_253 rc d 42 [(0, .ref a0), (4, .long v3)] [.long (-(0 : Int64))] h7
      else
        jb_253 rc d 42 [(0, .ref a0), (4, .long v3)] [.long (0 : Int64)] h7
    else
      (jx_gI (jx_at h5 a1) 1 2).bind fun v9 =>
      jx_cL (jx_C rc d 249 [.ref a0, .ref a1, .int (v9 &&& (v6 ^^^ (-1 : Int32)))] h5) fun v11 h10 =>
      jx_cI (jx_C rc d 328 [.int v6] h10) fun v13 h12 =>
      if (v13 &&& (1 : Int32)) = 0 then
        jb_253 rc d 42 [(0, .ref a0), (4, .long v3)] [.long (-v11)] h12
      else
        jb_253 rc d 42 [(0, .ref a0), (4, .long v3)] [.long v11] h12
  else none :=
  jx_enter ((jx_G_run (jx_X_grows rc jx_dflt jx_mt d) 82 (0, [(0, .ref a0), (1, .ref a1), (2, .int x2), (3, .int x3)], [], h)).trans rfl)
theorem je_253_42 (rc : Nat → Nat × (Nat → Int32)) (d : Nat) (a0 : Nat) (x4 : Int64) (s0 : Int64) (h : jxH) : jb_253 rc d 42 [(0, .ref a0), (4, .long x4)] [.long s0] h =
  jx_cL (jx_C rc d 69 [.long s0, .long x4] h) fun v2 h1 =>
  if (lg_cmp v2 (0 : Int64)) = 0 then
    if jx_bool (0 : Int32) = true then some (some (.int (0 : Int32)), h1) else none
  else
    if v2 = 0 then none else (jx_pF (jx_at h1 a0) 2 4 (.long (s0 / v2))).bind fun e3 =>
    if v2 = 0 then none else (jx_pF (jx_at (jx_set h1 a0 e3) a0) 2 5 (.long (x4 / v2))).bind fun e4 =>
    (jx_gL (jx_at (jx_set (jx_set h1 a0 e3) a0 e4) a0) 2 5).bind fun v5 =>
    if 0 ≤ (lg_cmp v5 (0 : Int64)) then
      if jx_bool (1 : Int32) = true then some (some (.int (1 : Int32)), (jx_set (jx_set h1 a0 e3) a0 e4)) else none
    else
      (jx_gL (jx_at (jx_set (jx_set h1 a0 e3) a0 e4) a0) 2 4).bind fun v6 =>
      (jx_pF (jx_at (jx_set (jx_set h1 a0 e3) a0 e4) a0) 2 4 (.long (-v6))).bind fun e7 =>
      (jx_gL (jx_at (jx_set (jx_set (jx_set h1 a0 e3) a0 e4) a0 e7) a0) 2 5).bind fun v8 =>
      (jx_pF (jx_at (jx_set (jx_set (jx_set h1 a0 e3) a0 e4) a0 e7) a0) 2 5 (.long (-v8))).bind fun e9 =>
      if jx_bool (1 : Int32) = true then some (some (.int (1 : Int32)), (jx_set (jx_set (jx_set (jx_set h1 a0 e3) a0 e4) a0 e7) a0 e9)) else none :=
  (jx_G_run (jx_X_grows rc jx_dflt jx_mt d) 82 _).trans rfl
-- RoomTrees$Reckoner.fractionOf(LRoomTrees$Forest;II)Z
theorem je_254 (rc : Nat → Nat × (Nat → Int32)) (d : Nat) (a0 : Nat) (a1 : Nat) (x2 : Int32) (x3 : Int32) (h : jxH) : jx_C rc (d + 1) 254 [.ref a0, .ref a1, .int x2, .int x3] h =
  if jx_is (jx_at h a0) 2 = true then
  (jx_gR (jx_at h a0) 2 0).bind fun b1 =>
  jx_cI (jx_C rc d 327 [.ref b1, .ref a1, .int x2, .int x3] h) fun v3 h2 =>
  if v3 = 0 then
    if jx_bool (0 : Int32) = true then some (some (.int (0 : Int32)), h2) else none
  else
    jx_cL (jx_C rc d 249 [.ref a0, .ref a1, .int v3] h2) fun v5 h4 =>
    (jx_pF (jx_at h4 a0) 2 4 (.long v5)).bind fun e6 =>
    jx_cL (jx_C rc d 249 [.ref a0, .ref a1, .int (v3 &&& (((1 : Int32) <<< (x2 &&& 31)) ^^^ (-1 : Int32)))] (jx_set h4 a0 e6)) fun v8 h7 =>
    (jx_pF (jx_at h7 a0) 2 5 (.long v8)).bind fun e9 =>
    (jx_gL (jx_at (jx_set h7 a0 e9) a0) 2 5).bind fun v10 =>
    if 0 ≤ (lg_cmp v10 (0 : Int64)) then
      (jx_gL (jx_at (jx_set h7 a0 e9) a0) 2 5).bind fun v11 =>
      if (lg_cmp v11 (0 : Int64)) = 0 then
        (jx_pF (jx_at (jx_set h7 a0 e9) a0) 2 4 (.long (1 : Int64))).bind fun e12 =>
        if jx_bool (1 : Int32) = true then some (some (.int (1 : Int32)), (jx_set (jx_set h7 a0 e9) a0 e12)) else none
      else
        if jx_bool (1 : Int32) = true then some (some (.int (1 : Int32)), (jx_set h7 a0 e9)) else none
    else
      (jx_gL (jx_at (jx_set h7 a0 e9) a0) 2 4).bind fun v13 =>
      (jx_pF (jx_at (jx_set h7 a0 e9) a0) 2 4 (.long (-v13))).bind fun e14 =>
      (jx_gL (jx_at (jx_set (jx_set h7 a0 e9) a0 e14) a0) 2 5).bind fun v15 =>
      (jx_pF (jx_at (jx_set (jx_set h7 a0 e9) a0 e14) a0) 2 5 (.long (-v15))).bind fun e16 =>
      if jx_bool (1 : Int32) = true then some (some (.int (1 : Int32)), (jx_set (jx_set (jx_set h7 a0 e9) a0 e14) a0 e16)) else none
  else none :=
  jx_enter ((jx_G_run (jx_X_grows rc jx_dflt jx_mt d) 57 (0, [(0, .ref a0), (1, .ref a1), (2, .int x2), (3, .int x3)], [], h)).trans rfl)
-- RoomTrees$Reckoner.roomOf(LRoomTrees$Forest;I)V
noncomputable def jb_255 (rc : Nat → Nat × (Nat → Int32)) (d : Nat) (i : Nat) (ls : List (Nat × Value)) (st : List Value) (h : jxH) : jxR := jx_G rc jx_dflt (jx_X rc jx_dflt jx_mt d) jc_255 (i, ls, st, h)
theorem je_255 (rc : Nat → Nat × (Nat → Int32)) (d : Nat) (a0 : Nat) (a1 : Nat) (x2 : Int32) (h : jxH) : jx_C rc (d + 1) 255 [.ref a0, .ref a1, .int x2] h =
  if jx_is (jx_at h a0) 2 = true then
  jb_255 rc d 4 [(0, .ref a0), (1, .ref a1), (2, .int x2), (3, .int (-1 : Int32)), (4, .int (11 : Int32))] [] h
  else none :=
  jx_enter ((jx_G_run (jx_X_grows rc jx_dflt jx_mt d) 77 (0, [(0, .ref a0), (1, .ref a1), (2, .int x2)], [], h)).trans rfl)
theorem je_255_4 (rc : Nat → Nat × (Nat → Int32)) (d : Nat) (a0 : Nat) (a1 : Nat) (x2 : Int32) (x3 : Int32) (x4 : Int32) (h : jxH) : jb_255 rc d 4 [(0, .ref a0), (1, .ref a1), (2, .int x2), (3, .int x3), (4, .int x4)] [] h =
  if x4 < 0 then
    jx_cI (jx_C rc d 59 [.int x3] h) fun v2 h1 =>
    if v2 = 0 then
      jx_cL (jx_C rc d 249 [.ref a0, .ref a1, .int x2] h1) fun v4 h3 =>
      jx_cL (jx_C rc d 249 [.ref a0, .ref a1, .int x2] h3) fun v6 h5 =>
      if 0 ≤ (lg_cmp v4 (0 : Int64)) then
        jb_255 rc d 51 [(0, .ref a0), (5, .long v4), (7, .long v6)] [.long v4, .ref a0] h5
      else
        jb_255 rc d 51 [(0, .ref a0), (5, .long v4), (7, .long v6)] [.long (-v4), .ref a0] h5
    else
      jx_cL (jx_C rc d 249 [.ref a0, .ref a1, .int x2] h1) fun v8 h7 =>
      jx_cL (jx_C rc d 249 [.ref a0, .ref a1, .int (x2 &&& (((1 : Int32) <<< (x3 &&& 31)) ^^^ (-1 : Int32)))] h7) fun v10 h9 =>
      if 0 ≤ (lg_cmp v8 (0 : Int64)) then
        jb_255 rc d 51 [(0, .ref a0), (5, .long v8), (7, .long v10)] [.long v8, .ref a0] h9
      else
        jb_255 rc d 51 [(0, .ref a0), (5, .long v8), (7, .long v10)] [.long (-v8), .ref a0] h9
  else
    jx_cI (jx_C rc d 60 [.int x4, .int x2] h) fun v12 h11 =>
    if v12 = 0 then
      jb_255 rc d 4 [(0, .ref a0), (1, .ref a1), (2, .int x2), (3, .int x3), (4, .int (x4 + (-1 : Int32)))] [] h11
    else
      jx_cI (jx_C rc d 230 [.ref a1, .int x4] h11) fun v14 h13 =>
      if (1 : Int32) < v14 then
        jb_255 rc d 4 [(0, .ref a0), (1, .ref a1), (2, .int x2), (3, .int x3), (4, .int (x4 + (-1 : Int32)))] [] h13
      else
        jb_255 rc d 4 [(0, .ref a0), (1, .ref a1), (2, .int x2), (3, .int x4), (4, .int (x4 + (-1 : Int32)))] [] h13 :=
  (jx_G_run (jx_X_grows rc jx_dflt jx_mt d) 77 _).trans rfl
theorem je_255_51 (rc : Nat → Nat × (Nat → Int32)) (d : Nat) (a0 : Nat) (x5 : Int64) (x7 : Int64) (s0 : Nat) (s1 : Int64) (h : jxH) : jb_255 rc d 51 [(0, .ref a0), (5, .long x5), (7, .long x7)] [.long s1, .ref s0] h =
  (jx_pF (jx_at h s0) 2 4 (.long s1)).bind fun e1 =>
  (jx_gL (jx_at (jx_set h s0 e1) a0) 2 4).bind fun v2 =>
  if 0 < (lg_cmp v2 (0 : Int64)) then
    if (lg_cmp x5 (0 : Int64)) ≤ 0 then
      (jx_gL (jx_at (jx_set h s0 e1) a0) 2 4).bind fun v3 =>
      jx_cL (jx_C rc d 329 [.long x7, .long v3] (jx_set h s0 e1)) fun v5 h4 =>
      (jx_pF (jx_at h4 a0) 2 5 (.long v5)).bind fun e6 =>
      some (none, (jx_set h4 a0 e6))
    else
      (jx_gL (jx_at (jx_set h s0 e1) a0) 2 4).bind fun v7 =>
      jx_cL (jx_C rc d 329 [.long (-x7), .long v7] (jx_set h s0 e1)) fun v9 h8 =>
      (jx_pF (jx_at h8 a0) 2 5 (.long v9)).bind fun e10 =>
      some (none, (jx_set h8 a0 e10))
  else
    (jx_pF (jx_at (jx_set h s0 e1) a0) 2 5 (.long (1 : Int64))).bind fun e11 =>
    some (none, (jx_set (jx_set h s0 e1) a0 e11)) :=
  (jx_G_run (jx_X_grows rc jx_dflt jx_mt d) 77 _).trans rfl
-- RoomTrees$Reckoner.sortSigns(LRoomTrees$Forest;I)V
noncomputable def jb_256 (rc : Nat → Nat × (Nat → Int32)) (d : Nat) (i : Nat) (ls : List (Nat × Value)) (st : List Value) (h : jxH) : jxR := jx_G rc jx_dflt (jx_X rc jx_dflt jx_mt d) jc_256 (i, ls, st, h)
theorem je_256 (rc : Nat → Nat × (Nat → Int32)) (d : Nat) (a0 : Nat) (a1 : Nat) (x2 : Int32) (h : jxH) : jx_C rc (d + 1) 256 [.ref a0, .ref a1, .int x2] h =
  if jx_is (jx_at h a0) 2 = true then
  (jx_gR (jx_at h a0) 2 0).bind fun b1 =>
  (jx_gI (jx_at h a1) 1 2).bind fun v2 =>
  jx_cV (jx_C rc d 319 [.ref b1, .ref a1, .int v2] h) fun h3 =>
  jx_cV (jx_C rc d 250 [.ref a0, .ref a1, .int x2] h3) fun h4 =>
  (jx_pF (jx_at h4 a0) 2 6 (.int (0 : Int32))).bind fun e5 =>
  (jx_pF (jx_at (jx_set h4 a0 e5) a0) 2 7 (.int (0 : Int32))).bind fun e6 =>
  (jx_pF (jx_at (jx_set (jx_set h4 a0 e5) a0 e6) a0) 2 8 (.int (0 : Int32))).bind fun e7 =>
  (jx_pF (jx_at (jx_set (jx_set (jx_set h4 a0 e5) a0 e6) a0 e7) a0) 2 9 (.int (0 : Int32))).bind fun e8 =>
  jb_256 rc d 24 [(0, .ref a0), (2, .int x2), (3, .int (11 : Int32))] [] (jx_set (jx_set (jx_set (jx_set h4 a0 e5) a0 e6) a0 e7) a0 e8)
  else none :=
  jx_enter ((jx_G_run (jx_X_grows rc jx_dflt jx_mt d) 47 (0, [(0, .ref a0), (1, .ref a1), (2, .int x2)], [], h)).trans rfl)
theorem je_256_24 (rc : Nat → Nat × (Nat → Int32)) (d : Nat) (a0 : Nat) (x2 : Int32) (x3 : Int32) (h : jxH) : jb_256 rc d 24 [(0, .ref a0), (2, .int x2), (3, .int x3)] [] h =
  if x3 < 0 then
    some (none, h)
  else
    (jx_gR (jx_at h a0) 2 0).bind fun b1 =>
    jx_cI (jx_C rc d 323 [.ref b1, .int x3] h) fun v3 h2 =>
    jx_cI (jx_C rc d 59 [.int v3] h2) fun v5 h4 =>
    if v5 = 0 then
      jb_256 rc d 24 [(0, .ref a0), (2, .int x2), (3, .int (x3 + (-1 : Int32)))] [] h4
    else
      (jx_gR (jx_at h4 a0) 2 0).bind fun b6 =>
      jx_cI (jx_C rc d 324 [.ref b6, .int v3] h4) fun v8 h7 =>
      jx_cV (jx_C rc d 257 [.ref a0, .int v3, .int v8, .int x2] h7) fun h9 =>
      jb_256 rc d 24 [(0, .ref a0), (2, .int x2), (3, .int (x3 + (-1 : Int32)))] [] h9 :=
  (jx_G_run (jx_X_grows rc jx_dflt jx_mt d) 47 _).trans rfl
-- RoomTrees$Reckoner.settle(III)V
noncomputable def jb_257 (rc : Nat → Nat × (Nat → Int32)) (d : Nat) (i : Nat) (ls : List (Nat × Value)) (st : List Value) (h : jxH) : jxR := jx_G rc jx_dflt (jx_X rc jx_dflt jx_mt d) jc_257 (i, ls, st, h)
theorem je_257 (rc : Nat → Nat × (Nat → Int32)) (d : Nat) (a0 : Nat) (x1 : Int32) (x2 : Int32) (x3 : Int32) (h : jxH) : jx_C rc (d + 1) 257 [.ref a0, .int x1, .int x2, .int x3] h =
  if jx_is (jx_at h a0) 2 = true then
  (jx_gI (jx_at h a0) 2 6).bind fun v1 =>
  jx_cI (jx_C rc d 60 [.int x1, .int v1] h) fun v3 h2 =>
  if v3 = 0 then
    jx_cI (jx_C rc d 59 [.int x1] h2) fun v5 h4 =>
    if v5 = 0 then
      jb_257 rc d 79 [(0, .ref a0), (2, .int x2)] [] h4
    else
      (jx_gR (jx_at h4 a0) 2 1).bind fun b6 =>
      (jx_aL (jx_at h4 b6) x1).bind fun v7 =>
      if (lg_cmp v7 (0 : Int64)) = 0 then
        jb_257 rc d 79 [(0, .ref a0), (2, .int x2)] [] h4
      else
        (jx_gR (jx_at h4 a0) 2 1).bind fun b8 =>
        (jx_aL (jx_at h4 b8) x1).bind fun v9 =>
        if (lg_cmp v9 (0 : Int64)) ≤ 0 then
          jb_257 rc d 38 [(0, .ref a0), (1, .int x1), (2, .int x2), (3, .int x3)] [.int (0 : Int32)] h4
        else
          jb_257 rc d 38 [(0, .ref a0), (1, .int x1), (2, .int x2), (3, .int x3)] [.int (1 : Int32)] h4
  else
    (jx_gI (jx_at h2 a0) 2 7).bind fun v10 =>
    (jx_pF (jx_at h2 a0) 2 7 (.int (v10 + (1 : Int32)))).bind fun e11 =>
    (jx_gI (jx_at (jx_set h2 a0 e11) a0) 2 8).bind fun v12 =>
    (jx_pF (jx_at (jx_set h2 a0 e11) a0) 2 8 (.int (v12 + (1 : Int32)))).bind fun e13 =>
    some (none, (jx_set (jx_set h2 a0 e11) a0 e13))
  else none :=
  jx_enter ((jx_G_run (jx_X_grows rc jx_dflt jx_mt d) 105 (0, [(0, .ref a0), (1, .int x1), (2, .int x2), (3, .int x3)], [], h)).trans rfl)
theorem je_257_38 (rc : Nat → Nat × (Nat → Int32)) (d : Nat) (a0 : Nat) (x1 : Int32) (x2 : Int32) (x3 : Int32) (s0 : Int32) (h : jxH) : jb_257 rc d 38 [(0, .ref a0), (1, .int x1), (2, .int x2), (3, .int x3)] [.int s0] h =
  (jx_gR (jx_at h a0) 2 2).bind fun b1 =>
  (jx_aL (jx_at h b1) x1).bind fun v2 =>
  if (lg_cmp v2 (0 : Int64)) ≤ 0 then
    if s0 = (0 : Int32) then
      (jx_gI (jx_at h a0) 2 7).bind fun v3 =>
      if (1 : Int32) = 0 then
        jb_257 rc d 61 [(0, .ref a0), (1, .int x1), (2, .int x2), (3, .int x3), (4, .int (1 : Int32))] [.int (0 : Int32), .int v3, .ref a0] h
      else
        jb_257 rc d 61 [(0, .ref a0), (1, .int x1), (2, .int x2), (3, .int x3), (4, .int (1 : Int32))] [.int (1 : Int32), .int v3, .ref a0] h
    else
      (jx_gI (jx_at h a0) 2 7).bind fun v4 =>
      if (0 : Int32) = 0 then
        jb_257 rc d 61 [(0, .ref a0), (1, .int x1), (2, .int x2), (3, .int x3), (4, .int (0 : Int32))] [.int (0 : Int32), .int v4, .ref a0] h
      else
        jb_257 rc d 61 [(0, .ref a0), (1, .int x1), (2, .int x2), (3, .int x3), (4, .int (0 : Int32))] [.int (1 : Int32), .int v4, .ref a0] h
  else
    if s0 = (1 : Int32) then
      (jx_gI (jx_at h a0) 2 7).bind fun v5 =>
      if (1 : Int32) = 0 then
        jb_257 rc d 61 [(0, .ref a0), (1, .int x1), (2, .int x2), (3, .int x3), (4, .int (1 : Int32))] [.int (0 : Int32), .int v5, .ref a0] h
      else
        jb_257 rc d 61 [(0, .ref a0), (1, .int x1), (2, .int x2), (3, .int x3), (4, .int (1 : Int32))] [.int (1 : Int32), .int v5, .ref a0] h
    else
      (jx_gI (jx_at h a0) 2 7).bind fun v6 =>
      if (0 : Int32) = 0 then
        jb_257 rc d 61 [(0, .ref a0), (1, .int x1), (2, .int x2), (3, .int x3), (4, .int (0 : Int32))] [.int (0 : Int32), .int v6, .ref a0] h
      else
        jb_257 rc d 61 [(0, .ref a0), (1, .int x1), (2, .int x2), (3, .int x3), (4, .int (0 : Int32))] [.int (1 : Int32), .int v6, .ref a0] h :=
  (jx_G_run (jx_X_grows rc jx_dflt jx_mt d) 105 _).trans rfl
theorem je_257_61 (rc : Nat → Nat × (Nat → Int32)) (d : Nat) (a0 : Nat) (x1 : Int32) (x2 : Int32) (x3 : Int32) (x4 : Int32) (s0 : Nat) (s1 : Int32) (s2 : Int32) (h : jxH) : jb_257 rc d 61 [(0, .ref a0), (1, .int x1), (2, .int x2), (3, .int x3), (4, .int x4)] [.int s2, .int s1, .ref s0] h =
  (jx_pF (jx_at h s0) 2 7 (.int (s1 + s2))).bind fun e1 =>
  (jx_gI (jx_at (jx_set h s0 e1) a0) 2 8).bind fun v2 =>
  if x4 = 0 then
    (jx_pF (jx_at (jx_set h s0 e1) a0) 2 8 (.int (v2 + (1 : Int32)))).bind fun e3 =>
    jx_cV (jx_C rc d 251 [.ref a0, .int x1, .int x2, .int x3] (jx_set (jx_set h s0 e1) a0 e3)) fun h4 =>
    some (none, h4)
  else
    (jx_pF (jx_at (jx_set h s0 e1) a0) 2 8 (.int (v2 + (0 : Int32)))).bind fun e5 =>
    jx_cV (jx_C rc d 251 [.ref a0, .int x1, .int x2, .int x3] (jx_set (jx_set h s0 e1) a0 e5)) fun h6 =>
    some (none, h6) :=
  (jx_G_run (jx_X_grows rc jx_dflt jx_mt d) 105 _).trans rfl
theorem je_257_79 (rc : Nat → Nat × (Nat → Int32)) (d : Nat) (a0 : Nat) (x2 : Int32) (h : jxH) : jb_257 rc d 79 [(0, .ref a0), (2, .int x2)] [] h =
  jx_cI (jx_C rc d 59 [.int x2] h) fun v2 h1 =>
  if v2 = 0 then
    (jx_gI (jx_at h1 a0) 2 9).bind fun v3 =>
    (jx_pF (jx_at h1 a0) 2 9 (.int (v3 + (1 : Int32)))).bind fun e4 =>
    some (none, (jx_set h1 a0 e4))
  else
    (jx_gI (jx_at h1 a0) 2 6).bind fun v5 =>
    jx_cI (jx_C rc d 60 [.int x2, .int v5] h1) fun v7 h6 =>
    if v7 = 0 then
      (jx_gI (jx_at h6 a0) 2 6).bind fun v8 =>
      (jx_pF (jx_at h6 a0) 2 6 (.int (v8 ||| ((1 : Int32) <<< (x2 &&& 31))))).bind fun e9 =>
      some (none, (jx_set h6 a0 e9))
    else
      (jx_gI (jx_at h6 a0) 2 9).bind fun v10 =>
      (jx_pF (jx_at h6 a0) 2 9 (.int (v10 + (1 : Int32)))).bind fun e11 =>
      some (none, (jx_set h6 a0 e11)) :=
  (jx_G_run (jx_X_grows rc jx_dflt jx_mt d) 105 _).trans rfl
-- RoomTrees$Reckoner.solveWu(LRoomTrees$Forest;)V
noncomputable def jb_258 (rc : Nat → Nat × (Nat → Int32)) (d : Nat) (i : Nat) (ls : List (Nat × Value)) (st : List Value) (h : jxH) : jxR := jx_G rc jx_dflt (jx_X rc jx_dflt jx_mt d) jc_258 (i, ls, st, h)
theorem je_258 (rc : Nat → Nat × (Nat → Int32)) (d : Nat) (a0 : Nat) (a1 : Nat) (h : jxH) : jx_C rc (d + 1) 258 [.ref a0, .ref a1] h =
  if jx_is (jx_at h a0) 2 = true then
  jb_258 rc d 2 [(0, .ref a0), (1, .ref a1), (2, .int (0 : Int32))] [] h
  else none :=
  jx_enter ((jx_G_run (jx_X_grows rc jx_dflt jx_mt d) 88 (0, [(0, .ref a0), (1, .ref a1)], [], h)).trans rfl)
theorem je_258_2 (rc : Nat → Nat × (Nat → Int32)) (d : Nat) (a0 : Nat) (a1 : Nat) (x2 : Int32) (h : jxH) : jb_258 rc d 2 [(0, .ref a0), (1, .ref a1), (2, .int x2)] [] h =
  if (12 : Int32) ≤ x2 then
    (jx_pF (jx_at h a0) 2 11 (.int (0 : Int32))).bind fun e1 =>
    jb_258 rc d 35 [(0, .ref a0), (1, .ref a1), (2, .int (0 : Int32)), (3, .int (0 : Int32))] [] (jx_set h a0 e1)
  else
    jx_cI (jx_C rc d 228 [.ref a1, .int x2] h) fun v3 h2 =>
    (jx_gR (jx_at h2 a0) 2 3).bind fun b4 =>
    jx_cI (jx_C rc d 229 [.ref a1, .int x2] h2) fun v6 h5 =>
    (jx_sI (jx_at h5 b4) 0 x2 ((v6 ||| ((v3 &&& (1 : Int32)) <<< (x2 &&& 31))) ||| ((v3 &&& (1 : Int32)) <<< ((12 : Int32) &&& 31)))).bind fun e7 =>
    jb_258 rc d 2 [(0, .ref a0), (1, .ref a1), (2, .int (x2 + (1 : Int32)))] [] (jx_set h5 b4 e7) :=
  (jx_G_run (jx_X_grows rc jx_dflt jx_mt d) 88 _).trans rfl
theorem je_258_35 (rc : Nat → Nat × (Nat → Int32)) (d : Nat) (a0 : Nat) (a1 : Nat) (x2 : Int32) (x3 : Int32) (h : jxH) : jb_258 rc d 35 [(0, .ref a0), (1, .ref a1), (2, .int x2), (3, .int x3)] [] h =
  if (12 : Int32) ≤ x3 then
    jx_cI (jx_C rc d 227 [.ref a1] h) fun v2 h1 =>
    jx_cI (jx_C rc d 330 [.int (0 : Int32), .int (v2 - x2)] h1) fun v4 h3 =>
    (jx_pF (jx_at h3 a0) 2 10 (.int v4)).bind fun e5 =>
    jx_cV (jx_C rc d 261 [.ref a0, .int x2] (jx_set h3 a0 e5)) fun h6 =>
    some (none, h6)
  else
    jx_cI (jx_C rc d 259 [.ref a0, .int x3, .int x2] h) fun v8 h7 =>
    jx_cI (jx_C rc d 59 [.int v8] h7) fun v10 h9 =>
    if v10 = 0 then
      jb_258 rc d 35 [(0, .ref a0), (1, .ref a1), (2, .int x2), (3, .int (x3 + (1 : Int32)))] [] h9
    else
      jx_cI (jx_C rc d 59 [.int x2] h9) fun v12 h11 =>
      if v12 = 0 then
        jb_258 rc d 35 [(0, .ref a0), (1, .ref a1), (2, .int x2), (3, .int (x3 + (1 : Int32)))] [] h11
      else
        (jx_gR (jx_at h11 a0) 2 3).bind fun b13 =>
        (jx_aI (jx_at h11 b13) 0 v8).bind fun v14 =>
        (jx_gR (jx_at h11 a0) 2 3).bind fun b15 =>
        (jx_gR (jx_at h11 a0) 2 3).bind fun b16 =>
        (jx_aI (jx_at h11 b16) 0 x2).bind fun v17 =>
        (jx_sI (jx_at h11 b15) 0 v8 v17).bind fun e18 =>
        (jx_gR (jx_at (jx_set h11 b15 e18) a0) 2 3).bind fun b19 =>
        (jx_sI (jx_at (jx_set h11 b15 e18) b19) 0 x2 v14).bind fun e20 =>
        jx_cV (jx_C rc d 260 [.ref a0, .int x3, .int x2] (jx_set (jx_set h11 b15 e18) b19 e20)) fun h21 =>
        jb_258 rc d 35 [(0, .ref a0), (1, .ref a1), (2, .int (x2 + (1 : Int32))), (3, .int (x3 + (1 : Int32)))] [] h21 :=
  (jx_G_run (jx_X_grows rc jx_dflt jx_mt d) 88 _).trans rfl
-- RoomTrees$Reckoner.rowWith(II)I
noncomputable def jb_259 (rc : Nat → Nat × (Nat → Int32)) (d : Nat) (i : Nat) (ls : List (Nat × Value)) (st : List Value) (h : jxH) : jxR := jx_G rc jx_dflt (jx_X rc jx_dflt jx_mt d) jc_259 (i, ls, st, h)
theorem je_259 (rc : Nat → Nat × (Nat → Int32)) (d : Nat) (a0 : Nat) (x1 : Int32) (x2 : Int32) (h : jxH) : jx_C rc (d + 1) 259 [.ref a0, .int x1, .int x2] h =
  if jx_is (jx_at h a0) 2 = true then
  jb_259 rc d 2 [(0, .ref a0), (1, .int x1), (2, .int x2), (3, .int (0 : Int32))] [] h
  else none :=
  jx_enter ((jx_G_run (jx_X_grows rc jx_dflt jx_mt d) 23 (0, [(0, .ref a0), (1, .int x1), (2, .int x2)], [], h)).trans rfl)
theorem je_259_2 (rc : Nat → Nat × (Nat → Int32)) (d : Nat) (a0 : Nat) (x1 : Int32) (x2 : Int32) (x3 : Int32) (h : jxH) : jb_259 rc d 2 [(0, .ref a0), (1, .int x1), (2, .int x2), (3, .int x3)] [] h =
  if (12 : Int32) ≤ x3 then
    some (some (.int (-1 : Int32)), h)
  else
    if x3 < x2 then
      jb_259 rc d 2 [(0, .ref a0), (1, .int x1), (2, .int x2), (3, .int (x3 + (1 : Int32)))] [] h
    else
      (jx_gR (jx_at h a0) 2 3).bind fun b1 =>
      (jx_aI (jx_at h b1) 0 x3).bind fun v2 =>
      jx_cI (jx_C rc d 60 [.int x1, .int v2] h) fun v4 h3 =>
      if v4 = 0 then
        jb_259 rc d 2 [(0, .ref a0), (1, .int x1), (2, .int x2), (3, .int (x3 + (1 : Int32)))] [] h3
      else
        some (some (.int x3), h3) :=
  (jx_G_run (jx_X_grows rc jx_dflt jx_mt d) 23 _).trans rfl
-- RoomTrees$Reckoner.clearColumn(II)V
noncomputable def jb_260 (rc : Nat → Nat × (Nat → Int32)) (d : Nat) (i : Nat) (ls : List (Nat × Value)) (st : List Value) (h : jxH) : jxR := jx_G rc jx_dflt (jx_X rc jx_dflt jx_mt d) jc_260 (i, ls, st, h)
theorem je_260 (rc : Nat → Nat × (Nat → Int32)) (d : Nat) (a0 : Nat) (x1 : Int32) (x2 : Int32) (h : jxH) : jx_C rc (d + 1) 260 [.ref a0, .int x1, .int x2] h =
  if jx_is (jx_at h a0) 2 = true then
  jb_260 rc d 2 [(0, .ref a0), (1, .int x1), (2, .int x2), (3, .int (0 : Int32))] [] h
  else none :=
  jx_enter ((jx_G_run (jx_X_grows rc jx_dflt jx_mt d) 34 (0, [(0, .ref a0), (1, .int x1), (2, .int x2)], [], h)).trans rfl)
theorem je_260_2 (rc : Nat → Nat × (Nat → Int32)) (d : Nat) (a0 : Nat) (x1 : Int32) (x2 : Int32) (x3 : Int32) (h : jxH) : jb_260 rc d 2 [(0, .ref a0), (1, .int x1), (2, .int x2), (3, .int x3)] [] h =
  if (12 : Int32) ≤ x3 then
    some (none, h)
  else
    if x3 = x2 then
      jb_260 rc d 2 [(0, .ref a0), (1, .int x1), (2, .int x2), (3, .int (x3 + (1 : Int32)))] [] h
    else
      jx_cI (jx_C rc d 59 [.int x2] h) fun v2 h1 =>
      if v2 = 0 then
        jb_260 rc d 2 [(0, .ref a0), (1, .int x1), (2, .int x2), (3, .int (x3 + (1 : Int32)))] [] h1
      else
        (jx_gR (jx_at h1 a0) 2 3).bind fun b3 =>
        (jx_aI (jx_at h1 b3) 0 x3).bind fun v4 =>
        jx_cI (jx_C rc d 60 [.int x1, .int v4] h1) fun v6 h5 =>
        if v6 = 0 then
          jb_260 rc d 2 [(0, .ref a0), (1, .int x1), (2, .int x2), (3, .int (x3 + (1 : Int32)))] [] h5
        else
          (jx_gR (jx_at h5 a0) 2 3).bind fun b7 =>
          (jx_aI (jx_at h5 b7) 0 x3).bind fun v8 =>
          (jx_gR (jx_at h5 a0) 2 3).bind fun b9 =>
          (jx_aI (jx_at h5 b9) 0 x2).bind fun v10 =>
          (jx_sI (jx_at h5 b7) 0 x3 (v8 ^^^ v10)).bind fun e11 =>
          jb_260 rc d 2 [(0, .ref a0), (1, .int x1), (2, .int x2), (3, .int (x3 + (1 : Int32)))] [] (jx_set h5 b7 e11) :=
  (jx_G_run (jx_X_grows rc jx_dflt jx_mt d) 34 _).trans rfl
-- RoomTrees$Reckoner.readLeast(I)V
noncomputable def jb_261 (rc : Nat → Nat × (Nat → Int32)) (d : Nat) (i : Nat) (ls : List (Nat × Value)) (st : List Value) (h : jxH) : jxR := jx_G rc jx_dflt (jx_X rc jx_dflt jx_mt d) jc_261 (i, ls, st, h)
theorem je_261 (rc : Nat → Nat × (Nat → Int32)) (d : Nat) (a0 : Nat) (x1 : Int32) (h : jxH) : jx_C rc (d + 1) 261 [.ref a0, .int x1] h =
  if jx_is (jx_at h a0) 2 = true then
  jb_261 rc d 2 [(0, .ref a0), (1, .int x1), (2, .int (0 : Int32))] [] h
  else none :=
  jx_enter ((jx_G_run (jx_X_grows rc jx_dflt jx_mt d) 36 (0, [(0, .ref a0), (1, .int x1)], [], h)).trans rfl)
theorem je_261_2 (rc : Nat → Nat × (Nat → Int32)) (d : Nat) (a0 : Nat) (x1 : Int32) (x2 : Int32) (h : jxH) : jb_261 rc d 2 [(0, .ref a0), (1, .int x1), (2, .int x2)] [] h =
  if x1 ≤ x2 then
    some (none, h)
  else
    if (12 : Int32) ≤ x2 then
      some (none, h)
    else
      (jx_gR (jx_at h a0) 2 3).bind fun b1 =>
      (jx_aI (jx_at h b1) 0 x2).bind fun v2 =>
      if ((v2 >>> ((12 : Int32) &&& 31)) &&& (1 : Int32)) = 0 then
        jb_261 rc d 2 [(0, .ref a0), (1, .int x1), (2, .int (x2 + (1 : Int32)))] [] h
      else
        (jx_gI (jx_at h a0) 2 11).bind fun v3 =>
        (jx_gR (jx_at h a0) 2 3).bind fun b4 =>
        (jx_aI (jx_at h b4) 0 x2).bind fun v5 =>
        jx_cI (jx_C rc d 67 [.int v5] h) fun v7 h6 =>
        jx_cI (jx_C rc d 330 [.int (0 : Int32), .int v7] h6) fun v9 h8 =>
        (jx_pF (jx_at h8 a0) 2 11 (.int (v3 ||| ((1 : Int32) <<< (v9 &&& 31))))).bind fun e10 =>
        jb_261 rc d 2 [(0, .ref a0), (1, .int x1), (2, .int (x2 + (1 : Int32)))] [] (jx_set h8 a0 e10) :=
  (jx_G_run (jx_X_grows rc jx_dflt jx_mt d) 36 _).trans rfl
-- RoomTrees$Speller.addInOrder(LRoomTrees$Text;[LRoomTrees$Text;I)V
noncomputable def jb_279 (rc : Nat → Nat × (Nat → Int32)) (d : Nat) (i : Nat) (ls : List (Nat × Value)) (st : List Value) (h : jxH) : jxR := jx_G rc jx_dflt (jx_X rc jx_dflt jx_mt d) jc_279 (i, ls, st, h)
theorem je_279 (rc : Nat → Nat × (Nat → Int32)) (d : Nat) (a0 : Nat) (a1 : Nat) (x2 : Int32) (h : jxH) : jx_C rc (d + 1) 279 [.ref a0, .ref a1, .int x2] h =
  jb_279 rc d 4 [(0, .ref a0), (1, .ref a1), (3, .int x2), (4, .int (0 : Int32))] [] h :=
  (jx_G_run (jx_X_grows rc jx_dflt jx_mt d) 64 (0, [(0, .ref a0), (1, .ref a1), (2, .int x2)], [], h)).trans rfl
theorem je_279_4 (rc : Nat → Nat × (Nat → Int32)) (d : Nat) (a0 : Nat) (a1 : Nat) (x3 : Int32) (x4 : Int32) (h : jxH) : jb_279 rc d 4 [(0, .ref a0), (1, .ref a1), (3, .int x3), (4, .int x4)] [] h =
  if (12 : Int32) ≤ x4 then
    some (none, h)
  else
    if x3 = 0 then
      some (none, h)
    else
      jb_279 rc d 15 [(0, .ref a0), (1, .ref a1), (3, .int x3), (4, .int x4), (5, .null), (6, .int (0 : Int32)), (7, .int (0 : Int32))] [] h :=
  (jx_G_run (jx_X_grows rc jx_dflt jx_mt d) 64 _).trans rfl
theorem je_279_15 (rc : Nat → Nat × (Nat → Int32)) (d : Nat) (a0 : Nat) (a1 : Nat) (x3 : Int32) (x4 : Int32) (a5 : Nat) (x6 : Int32) (x7 : Int32) (h : jxH) : jb_279 rc d 15 [(0, .ref a0), (1, .ref a1), (3, .int x3), (4, .int x4), (5, .ref a5), (6, .int x6), (7, .int x7)] [] h =
  if (12 : Int32) ≤ x7 then
    jb_279 rc d 46 [(0, .ref a0), (1, .ref a1), (3, .int x3), (4, .int x4), (5, .ref a5), (6, .int x6)] [] h
  else
    (jx_len (jx_at h a1)).bind fun n1 =>
    if (Int32.ofNat n1) ≤ x7 then
      jb_279 rc d 46 [(0, .ref a0), (1, .ref a1), (3, .int x3), (4, .int x4), (5, .ref a5), (6, .int x6)] [] h
    else
      jx_cI (jx_C rc d 60 [.int x7, .int x3] h) fun v3 h2 =>
      if v3 = 0 then
        jb_279 rc d 31 [(0, .ref a0), (1, .ref a1), (3, .int x3), (4, .int x4), (5, .ref a5), (6, .int x6), (7, .int x7)] [.null] h2
      else
        (jx_aQ (jx_at h2 a1) 7 x7).bind fun o4 =>
        jx_mo o4 (fun b5 => jb_279 rc d 31 [(0, .ref a0), (1, .ref a1), (3, .int x3), (4, .int x4), (5, .ref a5), (6, .int x6), (7, .int x7)] [.ref b5] h2)
        (jb_279 rc d 31 [(0, .ref a0), (1, .ref a1), (3, .int x3), (4, .int x4), (5, .ref a5), (6, .int x6), (7, .int x7)] [.null] h2) :=
  (jx_G_run (jx_X_grows rc jx_dflt jx_mt d) 64 _).trans rfl
theorem je_279_15b (rc : Nat → Nat × (Nat → Int32)) (d : Nat) (a0 : Nat) (a1 : Nat) (x3 : Int32) (x4 : Int32) (x6 : Int32) (x7 : Int32) (h : jxH) : jb_279 rc d 15 [(0, .ref a0), (1, .ref a1), (3, .int x3), (4, .int x4), (5, .null), (6, .int x6), (7, .int x7)] [] h =
  if (12 : Int32) ≤ x7 then
    jb_279 rc d 46 [(0, .ref a0), (1, .ref a1), (3, .int x3), (4, .int x4), (5, .null), (6, .int x6)] [] h
  else
    (jx_len (jx_at h a1)).bind fun n1 =>
    if (Int32.ofNat n1) ≤ x7 then
      jb_279 rc d 46 [(0, .ref a0), (1, .ref a1), (3, .int x3), (4, .int x4), (5, .null), (6, .int x6)] [] h
    else
      jx_cI (jx_C rc d 60 [.int x7, .int x3] h) fun v3 h2 =>
      if v3 = 0 then
        jb_279 rc d 31 [(0, .ref a0), (1, .ref a1), (3, .int x3), (4, .int x4), (5, .null), (6, .int x6), (7, .int x7)] [.null] h2
      else
        (jx_aQ (jx_at h2 a1) 7 x7).bind fun o4 =>
        jx_mo o4 (fun b5 => jb_279 rc d 31 [(0, .ref a0), (1, .ref a1), (3, .int x3), (4, .int x4), (5, .null), (6, .int x6), (7, .int x7)] [.ref b5] h2)
        (jb_279 rc d 31 [(0, .ref a0), (1, .ref a1), (3, .int x3), (4, .int x4), (5, .null), (6, .int x6), (7, .int x7)] [.null] h2) :=
  (jx_G_run (jx_X_grows rc jx_dflt jx_mt d) 64 _).trans rfl
theorem je_279_31 (rc : Nat → Nat × (Nat → Int32)) (d : Nat) (a0 : Nat) (a1 : Nat) (x3 : Int32) (x4 : Int32) (a5 : Nat) (x6 : Int32) (x7 : Int32) (s0 : Nat) (h : jxH) : jb_279 rc d 31 [(0, .ref a0), (1, .ref a1), (3, .int x3), (4, .int x4), (5, .ref a5), (6, .int x6), (7, .int x7)] [.ref s0] h =
  jx_cI (jx_C rc d 309 [.ref s0, .ref a5] h) fun v2 h1 =>
  if v2 = 0 then
    jb_279 rc d 15 [(0, .ref a0), (1, .ref a1), (3, .int x3), (4, .int x4), (5, .ref a5), (6, .int x6), (7, .int (x7 + (1 : Int32)))] [] h1
  else
    jb_279 rc d 15 [(0, .ref a0), (1, .ref a1), (3, .int x3), (4, .int x4), (5, .ref s0), (6, .int x7), (7, .int (x7 + (1 : Int32)))] [] h1 :=
  (jx_G_run (jx_X_grows rc jx_dflt jx_mt d) 64 _).trans rfl
theorem je_279_31b (rc : Nat → Nat × (Nat → Int32)) (d : Nat) (a0 : Nat) (a1 : Nat) (x3 : Int32) (x4 : Int32) (a5 : Nat) (x6 : Int32) (x7 : Int32) (h : jxH) : jb_279 rc d 31 [(0, .ref a0), (1, .ref a1), (3, .int x3), (4, .int x4), (5, .ref a5), (6, .int x6), (7, .int x7)] [.null] h =
  jb_279 rc d 15 [(0, .ref a0), (1, .ref a1), (3, .int x3), (4, .int x4), (5, .ref a5), (6, .int x6), (7, .int (x7 + (1 : Int32)))] [] h :=
  (jx_G_run (jx_X_grows rc jx_dflt jx_mt d) 64 _).trans rfl
theorem je_279_31c (rc : Nat → Nat × (Nat → Int32)) (d : Nat) (a0 : Nat) (a1 : Nat) (x3 : Int32) (x4 : Int32) (x6 : Int32) (x7 : Int32) (s0 : Nat) (h : jxH) : jb_279 rc d 31 [(0, .ref a0), (1, .ref a1), (3, .int x3), (4, .int x4), (5, .null), (6, .int x6), (7, .int x7)] [.ref s0] h =
  jb_279 rc d 15 [(0, .ref a0), (1, .ref a1), (3, .int x3), (4, .int x4), (5, .ref s0), (6, .int x7), (7, .int (x7 + (1 : Int32)))] [] h :=
  (jx_G_run (jx_X_grows rc jx_dflt jx_mt d) 64 _).trans rfl
theorem je_279_31d (rc : Nat → Nat × (Nat → Int32)) (d : Nat) (a0 : Nat) (a1 : Nat) (x3 : Int32) (x4 : Int32) (x6 : Int32) (x7 : Int32) (h : jxH) : jb_279 rc d 31 [(0, .ref a0), (1, .ref a1), (3, .int x3), (4, .int x4), (5, .null), (6, .int x6), (7, .int x7)] [.null] h =
  jb_279 rc d 15 [(0, .ref a0), (1, .ref a1), (3, .int x3), (4, .int x4), (5, .null), (6, .int x6), (7, .int (x7 + (1 : Int32)))] [] h :=
  (jx_G_run (jx_X_grows rc jx_dflt jx_mt d) 64 _).trans rfl
theorem je_279_46 (rc : Nat → Nat × (Nat → Int32)) (d : Nat) (a0 : Nat) (a1 : Nat) (x3 : Int32) (x4 : Int32) (a5 : Nat) (x6 : Int32) (h : jxH) : jb_279 rc d 46 [(0, .ref a0), (1, .ref a1), (3, .int x3), (4, .int x4), (5, .ref a5), (6, .int x6)] [] h =
  jx_cV (jx_C rc d 307 [.ref a0, .ref a5] h) fun h1 =>
  jb_279 rc d 4 [(0, .ref a0), (1, .ref a1), (3, .int (x3 &&& (((1 : Int32) <<< (x6 &&& 31)) ^^^ (-1 : Int32)))), (4, .int (x4 + (1 : Int32)))] [] h1 :=
  (jx_G_run (jx_X_grows rc jx_dflt jx_mt d) 64 _).trans rfl
theorem je_279_46b (rc : Nat → Nat × (Nat → Int32)) (d : Nat) (a0 : Nat) (a1 : Nat) (x3 : Int32) (x4 : Int32) (x6 : Int32) (h : jxH) : jb_279 rc d 46 [(0, .ref a0), (1, .ref a1), (3, .int x3), (4, .int x4), (5, .null), (6, .int x6)] [] h =
  jb_279 rc d 4 [(0, .ref a0), (1, .ref a1), (3, .int (x3 &&& (((1 : Int32) <<< (x6 &&& 31)) ^^^ (-1 : Int32)))), (4, .int (x4 + (1 : Int32)))] [] h :=
  (jx_G_run (jx_X_grows rc jx_dflt jx_mt d) 64 _).trans rfl
-- java/lang/Integer.bitCount(I)I
theorem je_328 (rc : Nat → Nat × (Nat → Int32)) (d : Nat) (x0 : Int32) (h : jxH) : jx_C rc (d + 1) 328 [.int x0] h =
  some (some (.int ((((((((x0 - (((x0).toUInt32 >>> (((1 : Int32)).toUInt32 &&& Int32.toUInt32 31)).toInt32 &&& (1431655765 : Int32))) &&& (858993459 : Int32)) + ((((x0 - (((x0).toUInt32 >>> (((1 : Int32)).toUInt32 &&& Int32.toUInt32 31)).toInt32 &&& (1431655765 : Int32)))).toUInt32 >>> (((2 : Int32)).toUInt32 &&& Int32.toUInt32 31)).toInt32 &&& (858993459 : Int32))) + (((((x0 - (((x0).toUInt32 >>> (((1 : Int32)).toUInt32 &&& Int32.toUInt32 31)).toInt32 &&& (1431655765 : Int32))) &&& (858993459 : Int32)) + ((((x0 - (((x0).toUInt32 >>> (((1 : Int32)).toUInt32 &&& Int32.toUInt32 31)).toInt32 &&& (1431655765 : Int32)))).toUInt32 >>> (((2 : Int32)).toUInt32 &&& Int32.toUInt32 31)).toInt32 &&& (858993459 : Int32)))).toUInt32 >>> (((4 : Int32)).toUInt32 &&& Int32.toUInt32 31)).toInt32) &&& (252645135 : Int32)) + (((((((x0 - (((x0).toUInt32 >>> (((1 : Int32)).toUInt32 &&& Int32.toUInt32 31)).toInt32 &&& (1431655765 : Int32))) &&& (858993459 : Int32)) + ((((x0 - (((x0).toUInt32 >>> (((1 : Int32)).toUInt32 &&& Int32.toUInt32 31)).toInt32 &&& (1431655765 : Int32)))).toUInt32 >>> (((2 : Int32)).toUInt32 &&& Int32.toUInt32 31)).toInt32 &&& (858993459 : Int32))) + (((((x0 - (((x0).toUInt32 >>> (((1 : Int32)).toUInt32 &&& Int32.toUInt32 31)).toInt32 &&& (1431655765 : Int32))) &&& (858993459 : Int32)) + ((((x0 - (((x0).toUInt32 >>> (((1 : Int32)).toUInt32 &&& Int32.toUInt32 31)).toInt32 &&& (1431655765 : Int32)))).toUInt32 >>> (((2 : Int32)).toUInt32 &&& Int32.toUInt32 31)).toInt32 &&& (858993459 : Int32)))).toUInt32 >>> (((4 : Int32)).toUInt32 &&& Int32.toUInt32 31)).toInt32) &&& (252645135 : Int32))).toUInt32 >>> (((8 : Int32)).toUInt32 &&& Int32.toUInt32 31)).toInt32) + ((((((((x0 - (((x0).toUInt32 >>> (((1 : Int32)).toUInt32 &&& Int32.toUInt32 31)).toInt32 &&& (1431655765 : Int32))) &&& (858993459 : Int32)) + ((((x0 - (((x0).toUInt32 >>> (((1 : Int32)).toUInt32 &&& Int32.toUInt32 31)).toInt32 &&& (1431655765 : Int32)))).toUInt32 >>> (((2 : Int32)).toUInt32 &&& Int32.toUInt32 31)).toInt32 &&& (858993459 : Int32))) + (((((x0 - (((x0).toUInt32 >>> (((1 : Int32)).toUInt32 &&& Int32.toUInt32 31)).toInt32 &&& (1431655765 : Int32))) &&& (858993459 : Int32)) + ((((x0 - (((x0).toUInt32 >>> (((1 : Int32)).toUInt32 &&& Int32.toUInt32 31)).toInt32 &&& (1431655765 : Int32)))).toUInt32 >>> (((2 : Int32)).toUInt32 &&& Int32.toUInt32 31)).toInt32 &&& (858993459 : Int32)))).toUInt32 >>> (((4 : Int32)).toUInt32 &&& Int32.toUInt32 31)).toInt32) &&& (252645135 : Int32)) + (((((((x0 - (((x0).toUInt32 >>> (((1 : Int32)).toUInt32 &&& Int32.toUInt32 31)).toInt32 &&& (1431655765 : Int32))) &&& (858993459 : Int32)) + ((((x0 - (((x0).toUInt32 >>> (((1 : Int32)).toUInt32 &&& Int32.toUInt32 31)).toInt32 &&& (1431655765 : Int32)))).toUInt32 >>> (((2 : Int32)).toUInt32 &&& Int32.toUInt32 31)).toInt32 &&& (858993459 : Int32))) + (((((x0 - (((x0).toUInt32 >>> (((1 : Int32)).toUInt32 &&& Int32.toUInt32 31)).toInt32 &&& (1431655765 : Int32))) &&& (858993459 : Int32)) + ((((x0 - (((x0).toUInt32 >>> (((1 : Int32)).toUInt32 &&& Int32.toUInt32 31)).toInt32 &&& (1431655765 : Int32)))).toUInt32 >>> (((2 : Int32)).toUInt32 &&& Int32.toUInt32 31)).toInt32 &&& (858993459 : Int32)))).toUInt32 >>> (((4 : Int32)).toUInt32 &&& Int32.toUInt32 31)).toInt32) &&& (252645135 : Int32))).toUInt32 >>> (((8 : Int32)).toUInt32 &&& Int32.toUInt32 31)).toInt32)).toUInt32 >>> (((16 : Int32)).toUInt32 &&& Int32.toUInt32 31)).toInt32) &&& (63 : Int32))), h) :=
  (jx_G_run (jx_X_grows rc jx_dflt jx_mt d) 44 (0, [(0, .int x0)], [], h)).trans rfl
