-- RoomTrees$Walk.from(LRoomTrees$Forest;I)V
set_option maxRecDepth 100000 in
theorem je_320 (rc : Nat → Nat × (Nat → Int32)) (d : Nat) (a0 : Nat) (a1 : Nat) (x2 : Int32) (h : jxH) : jx_C rc (d + 1) 320 [.ref a0, .ref a1, .int x2] h =
  if jx_is (jx_at h a0) 10 = true then
  (jx_pF (jx_at h a0) 10 3 (.int (0 : Int32))).bind fun e1 =>
  (jx_pF (jx_at (jx_set h a0 e1) a0) 10 4 (.int (0 : Int32))).bind fun e2 =>
  jx_cI (jx_C rc d 226 [.ref a1, .int x2] (jx_set (jx_set h a0 e1) a0 e2)) fun v4 h3 =>
  if v4 = 0 then
    some (none, h3)
  else
    (jx_gI (jx_at h3 a1) 1 2).bind fun v5 =>
    jx_cV (jx_C rc d 321 [.ref a0, .ref a1, .int v5, .int x2] h3) fun h6 =>
    some (none, h6)
  else none :=
  jx_enter ((jx_G_run (jx_X_grows rc jx_dflt jx_mt d) 19 (0, [(0, .ref a0), (1, .ref a1), (2, .int x2)], [], h)).trans rfl)
-- RoomTrees$Walk.spread(LRoomTrees$Forest;II)V
noncomputable def jb_321 (rc : Nat → Nat × (Nat → Int32)) (d : Nat) (i : Nat) (ls : List (Nat × Value)) (st : List Value) (h : jxH) : jxR := jx_G rc jx_dflt (jx_X rc jx_dflt jx_mt d) jc_321 (i, ls, st, h)
set_option maxRecDepth 100000 in
theorem je_321 (rc : Nat → Nat × (Nat → Int32)) (d : Nat) (a0 : Nat) (a1 : Nat) (x2 : Int32) (x3 : Int32) (h : jxH) : jx_C rc (d + 1) 321 [.ref a0, .ref a1, .int x2, .int x3] h =
  if jx_is (jx_at h a0) 10 = true then
  (jx_gI (jx_at h a0) 10 3).bind fun v1 =>
  jx_cV (jx_C rc d 322 [.ref a0, .int x3, .int (-1 : Int32), .int (0 : Int32)] h) fun h2 =>
  jb_321 rc d 10 [(0, .ref a0), (1, .ref a1), (2, .int x2), (5, .int v1)] [] h2
  else none :=
  jx_enter ((jx_G_run (jx_X_grows rc jx_dflt jx_mt d) 58 (0, [(0, .ref a0), (1, .ref a1), (2, .int x2), (3, .int x3)], [], h)).trans rfl)
set_option maxRecDepth 100000 in
theorem je_321_10 (rc : Nat → Nat × (Nat → Int32)) (d : Nat) (a0 : Nat) (a1 : Nat) (x2 : Int32) (x5 : Int32) (h : jxH) : jb_321 rc d 10 [(0, .ref a0), (1, .ref a1), (2, .int x2), (5, .int x5)] [] h =
  (jx_gI (jx_at h a0) 10 3).bind fun v1 =>
  if v1 ≤ x5 then
    some (none, h)
  else
    if (12 : Int32) ≤ x5 then
      some (none, h)
    else
      (jx_gR (jx_at h a0) 10 0).bind fun b2 =>
      (jx_aI (jx_at h b2) 0 x5).bind fun v3 =>
      jx_cI (jx_C rc d 229 [.ref a1, .int v3] h) fun v5 h4 =>
      (jx_gI (jx_at h4 a0) 10 4).bind fun v6 =>
      jb_321 rc d 35 [(0, .ref a0), (1, .ref a1), (2, .int x2), (5, .int x5), (6, .int v3), (7, .int ((v5 &&& x2) &&& (v6 ^^^ (-1 : Int32)))), (8, .int (0 : Int32))] [] h4 :=
  (jx_G_run (jx_X_grows rc jx_dflt jx_mt d) 58 _).trans rfl
set_option maxRecDepth 100000 in
theorem je_321_35 (rc : Nat → Nat × (Nat → Int32)) (d : Nat) (a0 : Nat) (a1 : Nat) (x2 : Int32) (x5 : Int32) (x6 : Int32) (x7 : Int32) (x8 : Int32) (h : jxH) : jb_321 rc d 35 [(0, .ref a0), (1, .ref a1), (2, .int x2), (5, .int x5), (6, .int x6), (7, .int x7), (8, .int x8)] [] h =
  if (12 : Int32) ≤ x8 then
    jb_321 rc d 10 [(0, .ref a0), (1, .ref a1), (2, .int x2), (5, .int (x5 + (1 : Int32)))] [] h
  else
    jx_cI (jx_C rc d 60 [.int x8, .int x7] h) fun v2 h1 =>
    if v2 = 0 then
      jb_321 rc d 35 [(0, .ref a0), (1, .ref a1), (2, .int x2), (5, .int x5), (6, .int x6), (7, .int x7), (8, .int (x8 + (1 : Int32)))] [] h1
    else
      jx_cI (jx_C rc d 325 [.ref a0, .int x6] h1) fun v4 h3 =>
      jx_cV (jx_C rc d 322 [.ref a0, .int x8, .int x6, .int (v4 + (1 : Int32))] h3) fun h5 =>
      jb_321 rc d 35 [(0, .ref a0), (1, .ref a1), (2, .int x2), (5, .int x5), (6, .int x6), (7, .int x7), (8, .int (x8 + (1 : Int32)))] [] h5 :=
  (jx_G_run (jx_X_grows rc jx_dflt jx_mt d) 58 _).trans rfl
-- RoomTrees$Walk.enter(III)V
set_option maxRecDepth 100000 in
theorem je_322 (rc : Nat → Nat × (Nat → Int32)) (d : Nat) (a0 : Nat) (x1 : Int32) (x2 : Int32) (x3 : Int32) (h : jxH) : jx_C rc (d + 1) 322 [.ref a0, .int x1, .int x2, .int x3] h =
  if jx_is (jx_at h a0) 10 = true then
  if x1 < 0 then
    some (none, h)
  else
    if (12 : Int32) ≤ x1 then
      some (none, h)
    else
      (jx_gI (jx_at h a0) 10 3).bind fun v1 =>
      if v1 < 0 then
        some (none, h)
      else
        (jx_gI (jx_at h a0) 10 3).bind fun v2 =>
        if (12 : Int32) ≤ v2 then
          some (none, h)
        else
          (jx_gR (jx_at h a0) 10 0).bind fun b3 =>
          (jx_gI (jx_at h a0) 10 3).bind fun v4 =>
          (jx_sI (jx_at h b3) 0 v4 x1).bind fun e5 =>
          (jx_gI (jx_at (jx_set h b3 e5) a0) 10 3).bind fun v6 =>
          (jx_pF (jx_at (jx_set h b3 e5) a0) 10 3 (.int (v6 + (1 : Int32)))).bind fun e7 =>
          (jx_gR (jx_at (jx_set (jx_set h b3 e5) a0 e7) a0) 10 1).bind fun b8 =>
          (jx_sI (jx_at (jx_set (jx_set h b3 e5) a0 e7) b8) 0 x1 x2).bind fun e9 =>
          (jx_gR (jx_at (jx_set (jx_set (jx_set h b3 e5) a0 e7) b8 e9) a0) 10 2).bind fun b10 =>
          (jx_sI (jx_at (jx_set (jx_set (jx_set h b3 e5) a0 e7) b8 e9) b10) 0 x1 x3).bind fun e11 =>
          (jx_gI (jx_at (jx_set (jx_set (jx_set (jx_set h b3 e5) a0 e7) b8 e9) b10 e11) a0) 10 4).bind fun v12 =>
          (jx_pF (jx_at (jx_set (jx_set (jx_set (jx_set h b3 e5) a0 e7) b8 e9) b10 e11) a0) 10 4 (.int (v12 ||| ((1 : Int32) <<< (x1 &&& 31))))).bind fun e13 =>
          some (none, (jx_set (jx_set (jx_set (jx_set (jx_set h b3 e5) a0 e7) b8 e9) b10 e11) a0 e13))
  else none :=
  jx_enter ((jx_G_run (jx_X_grows rc jx_dflt jx_mt d) 45 (0, [(0, .ref a0), (1, .int x1), (2, .int x2), (3, .int x3)], [], h)).trans rfl)
-- RoomTrees$Walk.placeAt(I)I
set_option maxRecDepth 100000 in
theorem je_323 (rc : Nat → Nat × (Nat → Int32)) (d : Nat) (a0 : Nat) (x1 : Int32) (h : jxH) : jx_C rc (d + 1) 323 [.ref a0, .int x1] h =
  if jx_is (jx_at h a0) 10 = true then
  if x1 < 0 then
    some (some (.int (-1 : Int32)), h)
  else
    (jx_gI (jx_at h a0) 10 3).bind fun v1 =>
    if v1 ≤ x1 then
      some (some (.int (-1 : Int32)), h)
    else
      if (12 : Int32) ≤ x1 then
        some (some (.int (-1 : Int32)), h)
      else
        (jx_gR (jx_at h a0) 10 0).bind fun b2 =>
        (jx_aI (jx_at h b2) 0 x1).bind fun v3 =>
        some (some (.int v3), h)
  else none :=
  jx_enter ((jx_G_run (jx_X_grows rc jx_dflt jx_mt d) 18 (0, [(0, .ref a0), (1, .int x1)], [], h)).trans rfl)
-- RoomTrees$Walk.holderOf(I)I
set_option maxRecDepth 100000 in
theorem je_324 (rc : Nat → Nat × (Nat → Int32)) (d : Nat) (a0 : Nat) (x1 : Int32) (h : jxH) : jx_C rc (d + 1) 324 [.ref a0, .int x1] h =
  if jx_is (jx_at h a0) 10 = true then
  if x1 < 0 then
    some (some (.int (-1 : Int32)), h)
  else
    if (12 : Int32) ≤ x1 then
      some (some (.int (-1 : Int32)), h)
    else
      (jx_gR (jx_at h a0) 10 1).bind fun b1 =>
      (jx_aI (jx_at h b1) 0 x1).bind fun v2 =>
      some (some (.int v2), h)
  else none :=
  jx_enter ((jx_G_run (jx_X_grows rc jx_dflt jx_mt d) 14 (0, [(0, .ref a0), (1, .int x1)], [], h)).trans rfl)
-- RoomTrees$Walk.depthAt(I)I
set_option maxRecDepth 100000 in
theorem je_325 (rc : Nat → Nat × (Nat → Int32)) (d : Nat) (a0 : Nat) (x1 : Int32) (h : jxH) : jx_C rc (d + 1) 325 [.ref a0, .int x1] h =
  if jx_is (jx_at h a0) 10 = true then
  if x1 < 0 then
    some (some (.int (0 : Int32)), h)
  else
    if (12 : Int32) ≤ x1 then
      some (some (.int (0 : Int32)), h)
    else
      (jx_gR (jx_at h a0) 10 2).bind fun b1 =>
      (jx_aI (jx_at h b1) 0 x1).bind fun v2 =>
      some (some (.int v2), h)
  else none :=
  jx_enter ((jx_G_run (jx_X_grows rc jx_dflt jx_mt d) 14 (0, [(0, .ref a0), (1, .int x1)], [], h)).trans rfl)
-- RoomTrees$Walk.farthest()I
set_option maxRecDepth 100000 in
theorem je_326 (rc : Nat → Nat × (Nat → Int32)) (d : Nat) (a0 : Nat) (h : jxH) : jx_C rc (d + 1) 326 [.ref a0] h =
  if jx_is (jx_at h a0) 10 = true then
  (jx_gI (jx_at h a0) 10 3).bind fun v1 =>
  jx_cI (jx_C rc d 323 [.ref a0, .int (v1 - (1 : Int32))] h) fun v3 h2 =>
  jx_cI (jx_C rc d 325 [.ref a0, .int v3] h2) fun v5 h4 =>
  some (some (.int v5), h4)
  else none :=
  jx_enter ((jx_G_run (jx_X_grows rc jx_dflt jx_mt d) 11 (0, [(0, .ref a0)], [], h)).trans rfl)
-- RoomTrees$Walk.path(LRoomTrees$Forest;II)I
noncomputable def jb_327 (rc : Nat → Nat × (Nat → Int32)) (d : Nat) (i : Nat) (ls : List (Nat × Value)) (st : List Value) (h : jxH) : jxR := jx_G rc jx_dflt (jx_X rc jx_dflt jx_mt d) jc_327 (i, ls, st, h)
set_option maxRecDepth 100000 in
theorem je_327 (rc : Nat → Nat × (Nat → Int32)) (d : Nat) (a0 : Nat) (a1 : Nat) (x2 : Int32) (x3 : Int32) (h : jxH) : jx_C rc (d + 1) 327 [.ref a0, .ref a1, .int x2, .int x3] h =
  if jx_is (jx_at h a0) 10 = true then
  jx_cV (jx_C rc d 320 [.ref a0, .ref a1, .int x3] h) fun h1 =>
  (jx_gI (jx_at h1 a0) 10 4).bind fun v2 =>
  jx_cI (jx_C rc d 60 [.int x2, .int v2] h1) fun v4 h3 =>
  if v4 = 0 then
    some (some (.int (0 : Int32)), h3)
  else
    jb_327 rc d 17 [(0, .ref a0), (4, .int (0 : Int32)), (5, .int x2), (6, .int (0 : Int32))] [] h3
  else none :=
  jx_enter ((jx_G_run (jx_X_grows rc jx_dflt jx_mt d) 39 (0, [(0, .ref a0), (1, .ref a1), (2, .int x2), (3, .int x3)], [], h)).trans rfl)
set_option maxRecDepth 100000 in
theorem je_327_17 (rc : Nat → Nat × (Nat → Int32)) (d : Nat) (a0 : Nat) (x4 : Int32) (x5 : Int32) (x6 : Int32) (h : jxH) : jb_327 rc d 17 [(0, .ref a0), (4, .int x4), (5, .int x5), (6, .int x6)] [] h =
  if (12 : Int32) ≤ x6 then
    some (some (.int x4), h)
  else
    jx_cI (jx_C rc d 59 [.int x5] h) fun v2 h1 =>
    if v2 = 0 then
      some (some (.int x4), h1)
    else
      jx_cI (jx_C rc d 324 [.ref a0, .int x5] h1) fun v4 h3 =>
      jb_327 rc d 17 [(0, .ref a0), (4, .int (x4 ||| ((1 : Int32) <<< (x5 &&& 31)))), (5, .int v4), (6, .int (x6 + (1 : Int32)))] [] h3 :=
  (jx_G_run (jx_X_grows rc jx_dflt jx_mt d) 39 _).trans rfl
-- java/lang/Integer.bitCount(I)I
set_option maxRecDepth 100000 in
theorem je_328 (rc : Nat → Nat × (Nat → Int32)) (d : Nat) (x0 : Int32) (h : jxH) : jx_C rc (d + 1) 328 [.int x0] h =
  some (some (.int ((((((((x0 - (((x0).toUInt32 >>> (((1 : Int32)).toUInt32 &&& Int32.toUInt32 31)).toInt32 &&& (1431655765 : Int32))) &&& (858993459 : Int32)) + ((((x0 - (((x0).toUInt32 >>> (((1 : Int32)).toUInt32 &&& Int32.toUInt32 31)).toInt32 &&& (1431655765 : Int32)))).toUInt32 >>> (((2 : Int32)).toUInt32 &&& Int32.toUInt32 31)).toInt32 &&& (858993459 : Int32))) + (((((x0 - (((x0).toUInt32 >>> (((1 : Int32)).toUInt32 &&& Int32.toUInt32 31)).toInt32 &&& (1431655765 : Int32))) &&& (858993459 : Int32)) + ((((x0 - (((x0).toUInt32 >>> (((1 : Int32)).toUInt32 &&& Int32.toUInt32 31)).toInt32 &&& (1431655765 : Int32)))).toUInt32 >>> (((2 : Int32)).toUInt32 &&& Int32.toUInt32 31)).toInt32 &&& (858993459 : Int32)))).toUInt32 >>> (((4 : Int32)).toUInt32 &&& Int32.toUInt32 31)).toInt32) &&& (252645135 : Int32)) + (((((((x0 - (((x0).toUInt32 >>> (((1 : Int32)).toUInt32 &&& Int32.toUInt32 31)).toInt32 &&& (1431655765 : Int32))) &&& (858993459 : Int32)) + ((((x0 - (((x0).toUInt32 >>> (((1 : Int32)).toUInt32 &&& Int32.toUInt32 31)).toInt32 &&& (1431655765 : Int32)))).toUInt32 >>> (((2 : Int32)).toUInt32 &&& Int32.toUInt32 31)).toInt32 &&& (858993459 : Int32))) + (((((x0 - (((x0).toUInt32 >>> (((1 : Int32)).toUInt32 &&& Int32.toUInt32 31)).toInt32 &&& (1431655765 : Int32))) &&& (858993459 : Int32)) + ((((x0 - (((x0).toUInt32 >>> (((1 : Int32)).toUInt32 &&& Int32.toUInt32 31)).toInt32 &&& (1431655765 : Int32)))).toUInt32 >>> (((2 : Int32)).toUInt32 &&& Int32.toUInt32 31)).toInt32 &&& (858993459 : Int32)))).toUInt32 >>> (((4 : Int32)).toUInt32 &&& Int32.toUInt32 31)).toInt32) &&& (252645135 : Int32))).toUInt32 >>> (((8 : Int32)).toUInt32 &&& Int32.toUInt32 31)).toInt32) + ((((((((x0 - (((x0).toUInt32 >>> (((1 : Int32)).toUInt32 &&& Int32.toUInt32 31)).toInt32 &&& (1431655765 : Int32))) &&& (858993459 : Int32)) + ((((x0 - (((x0).toUInt32 >>> (((1 : Int32)).toUInt32 &&& Int32.toUInt32 31)).toInt32 &&& (1431655765 : Int32)))).toUInt32 >>> (((2 : Int32)).toUInt32 &&& Int32.toUInt32 31)).toInt32 &&& (858993459 : Int32))) + (((((x0 - (((x0).toUInt32 >>> (((1 : Int32)).toUInt32 &&& Int32.toUInt32 31)).toInt32 &&& (1431655765 : Int32))) &&& (858993459 : Int32)) + ((((x0 - (((x0).toUInt32 >>> (((1 : Int32)).toUInt32 &&& Int32.toUInt32 31)).toInt32 &&& (1431655765 : Int32)))).toUInt32 >>> (((2 : Int32)).toUInt32 &&& Int32.toUInt32 31)).toInt32 &&& (858993459 : Int32)))).toUInt32 >>> (((4 : Int32)).toUInt32 &&& Int32.toUInt32 31)).toInt32) &&& (252645135 : Int32)) + (((((((x0 - (((x0).toUInt32 >>> (((1 : Int32)).toUInt32 &&& Int32.toUInt32 31)).toInt32 &&& (1431655765 : Int32))) &&& (858993459 : Int32)) + ((((x0 - (((x0).toUInt32 >>> (((1 : Int32)).toUInt32 &&& Int32.toUInt32 31)).toInt32 &&& (1431655765 : Int32)))).toUInt32 >>> (((2 : Int32)).toUInt32 &&& Int32.toUInt32 31)).toInt32 &&& (858993459 : Int32))) + (((((x0 - (((x0).toUInt32 >>> (((1 : Int32)).toUInt32 &&& Int32.toUInt32 31)).toInt32 &&& (1431655765 : Int32))) &&& (858993459 : Int32)) + ((((x0 - (((x0).toUInt32 >>> (((1 : Int32)).toUInt32 &&& Int32.toUInt32 31)).toInt32 &&& (1431655765 : Int32)))).toUInt32 >>> (((2 : Int32)).toUInt32 &&& Int32.toUInt32 31)).toInt32 &&& (858993459 : Int32)))).toUInt32 >>> (((4 : Int32)).toUInt32 &&& Int32.toUInt32 31)).toInt32) &&& (252645135 : Int32))).toUInt32 >>> (((8 : Int32)).toUInt32 &&& Int32.toUInt32 31)).toInt32)).toUInt32 >>> (((16 : Int32)).toUInt32 &&& Int32.toUInt32 31)).toInt32) &&& (63 : Int32))), h) :=
  (jx_G_run (jx_X_grows rc jx_dflt jx_mt d) 44 (0, [(0, .int x0)], [], h)).trans rfl
-- java/lang/Math.floorMod(JJ)J
set_option maxRecDepth 100000 in
theorem je_329 (rc : Nat → Nat × (Nat → Int32)) (d : Nat) (x0 : Int64) (x2 : Int64) (h : jxH) : jx_C rc (d + 1) 329 [.long x0, .long x2] h =
  if x2 = 0 then none else if 0 ≤ (lg_cmp (x0 ^^^ x2) (0 : Int64)) then
    some (some (.long (x0 - x0 / x2 * x2)), h)
  else
    if (lg_cmp (x0 - x0 / x2 * x2) (0 : Int64)) = 0 then
      some (some (.long (x0 - x0 / x2 * x2)), h)
    else
      some (some (.long ((x0 - x0 / x2 * x2) + x2)), h) :=
  (jx_G_run (jx_X_grows rc jx_dflt jx_mt d) 22 (0, [(0, .long x0), (2, .long x2)], [], h)).trans rfl
-- java/lang/Math.max(II)I
set_option maxRecDepth 100000 in
theorem je_330 (rc : Nat → Nat × (Nat → Int32)) (d : Nat) (x0 : Int32) (x1 : Int32) (h : jxH) : jx_C rc (d + 1) 330 [.int x0, .int x1] h =
  if x0 < x1 then
    some (some (.int x1), h)
  else
    some (some (.int x0), h) :=
  (jx_G_run (jx_X_grows rc jx_dflt jx_mt d) 9 (0, [(0, .int x0), (1, .int x1)], [], h)).trans rfl
-- java/lang/Math.min(II)I
set_option maxRecDepth 100000 in
theorem je_331 (rc : Nat → Nat × (Nat → Int32)) (d : Nat) (x0 : Int32) (x1 : Int32) (h : jxH) : jx_C rc (d + 1) 331 [.int x0, .int x1] h =
  if x1 < x0 then
    some (some (.int x1), h)
  else
    some (some (.int x0), h) :=
  (jx_G_run (jx_X_grows rc jx_dflt jx_mt d) 9 (0, [(0, .int x0), (1, .int x1)], [], h)).trans rfl
-- java/util/Arrays.fill([II)V
noncomputable def jb_332 (rc : Nat → Nat × (Nat → Int32)) (d : Nat) (i : Nat) (ls : List (Nat × Value)) (st : List Value) (h : jxH) : jxR := jx_G rc jx_dflt (jx_X rc jx_dflt jx_mt d) jc_332 (i, ls, st, h)
set_option maxRecDepth 100000 in
theorem je_332 (rc : Nat → Nat × (Nat → Int32)) (d : Nat) (a0 : Nat) (x1 : Int32) (h : jxH) : jx_C rc (d + 1) 332 [.ref a0, .int x1] h =
  (jx_len (jx_at h a0)).bind fun n1 =>
  jb_332 rc d 5 [(0, .ref a0), (1, .int x1), (2, .int (0 : Int32)), (3, .int (Int32.ofNat n1))] [] h :=
  (jx_G_run (jx_X_grows rc jx_dflt jx_mt d) 17 (0, [(0, .ref a0), (1, .int x1)], [], h)).trans rfl
set_option maxRecDepth 100000 in
theorem je_332_5 (rc : Nat → Nat × (Nat → Int32)) (d : Nat) (a0 : Nat) (x1 : Int32) (x2 : Int32) (x3 : Int32) (h : jxH) : jb_332 rc d 5 [(0, .ref a0), (1, .int x1), (2, .int x2), (3, .int x3)] [] h =
  if x3 ≤ x2 then
    some (none, h)
  else
    (jx_sI (jx_at h a0) 0 x2 x1).bind fun e1 =>
    jb_332 rc d 5 [(0, .ref a0), (1, .int x1), (2, .int (x2 + (1 : Int32))), (3, .int x3)] [] (jx_set h a0 e1) :=
  (jx_G_run (jx_X_grows rc jx_dflt jx_mt d) 17 _).trans rfl
-- RoomTreesLaw.law([I)Z
noncomputable def jb_333 (rc : Nat → Nat × (Nat → Int32)) (d : Nat) (i : Nat) (ls : List (Nat × Value)) (st : List Value) (h : jxH) : jxR := jx_G rc jx_dflt (jx_X rc jx_dflt jx_mt d) jc_333 (i, ls, st, h)
set_option maxRecDepth 100000 in
theorem je_333 (rc : Nat → Nat × (Nat → Int32)) (d : Nat) (h : jxH) : jb_333 rc d 0 [(0, .retAddr 0)] [] h =
  jx_cV (jx_C rc d 0 [.ref h.1] (jx_new h 17 (.inl (11, jx_dflt 11)))) fun h1 =>
  jx_cV (jx_C rc d 71 [.ref h1.1] (jx_new h1 40 (.inl (12, jx_dflt 12)))) fun h2 =>
  jb_333 rc d 10 [(0, .retAddr 0), (1, .ref h.1), (2, .ref h1.1), (3, .int (0 : Int32))] [] h2 :=
  (jx_G_run (jx_X_grows rc jx_dflt jx_mt d) 1246 _).trans rfl
set_option maxRecDepth 100000 in
theorem je_333_10 (rc : Nat → Nat × (Nat → Int32)) (d : Nat) (a1 : Nat) (a2 : Nat) (x3 : Int32) (h : jxH) : jb_333 rc d 10 [(0, .retAddr 0), (1, .ref a1), (2, .ref a2), (3, .int x3)] [] h =
  if ((Int32.ofNat (rc 0).1) - (6 : Int32)) < x3 then
    if jx_bool (1 : Int32) = true then some (some (.int (1 : Int32)), h) else none
  else
    if jx_out x3 (rc 0).1 = true then none else
    if (((rc 0).2 (x3).toNatClampNeg) &&& (63 : Int32)) = (0 : Int32) then
      jb_333 rc d 22 [(0, .retAddr 0), (1, .ref a1), (2, .ref a2), (3, .int x3)] [] h
    else if (((rc 0).2 (x3).toNatClampNeg) &&& (63 : Int32)) = ((0 : Int32) + 1) then
      jb_333 rc d 39 [(0, .retAddr 0), (1, .ref a1), (2, .ref a2), (3, .int x3)] [] h
    else if (((rc 0).2 (x3).toNatClampNeg) &&& (63 : Int32)) = (((0 : Int32) + 1) + 1) then
      jb_333 rc d 66 [(0, .retAddr 0), (1, .ref a1), (2, .ref a2), (3, .int x3)] [] h
    else if (((rc 0).2 (x3).toNatClampNeg) &&& (63 : Int32)) = ((((0 : Int32) + 1) + 1) + 1) then
      jb_333 rc d 93 [(0, .retAddr 0), (1, .ref a1), (2, .ref a2), (3, .int x3)] [] h
    else if (((rc 0).2 (x3).toNatClampNeg) &&& (63 : Int32)) = (((((0 : Int32) + 1) + 1) + 1) + 1) then
      jb_333 rc d 120 [(0, .retAddr 0), (1, .ref a1), (2, .ref a2), (3, .int x3)] [] h
    else if (((rc 0).2 (x3).toNatClampNeg) &&& (63 : Int32)) = ((((((0 : Int32) + 1) + 1) + 1) + 1) + 1) then
      jb_333 rc d 137 [(0, .retAddr 0), (1, .ref a1), (2, .ref a2), (3, .int x3)] [] h
    else if (((rc 0).2 (x3).toNatClampNeg) &&& (63 : Int32)) = (((((((0 : Int32) + 1) + 1) + 1) + 1) + 1) + 1) then
      jb_333 rc d 164 [(0, .retAddr 0), (1, .ref a1), (2, .ref a2), (3, .int x3)] [] h
    else if (((rc 0).2 (x3).toNatClampNeg) &&& (63 : Int32)) = ((((((((0 : Int32) + 1) + 1) + 1) + 1) + 1) + 1) + 1) then
      jb_333 rc d 191 [(0, .retAddr 0), (1, .ref a1), (2, .ref a2), (3, .int x3)] [] h
    else if (((rc 0).2 (x3).toNatClampNeg) &&& (63 : Int32)) = (((((((((0 : Int32) + 1) + 1) + 1) + 1) + 1) + 1) + 1) + 1) then
      jb_333 rc d 248 [(0, .retAddr 0), (1, .ref a1), (2, .ref a2), (3, .int x3)] [] h
    else if (((rc 0).2 (x3).toNatClampNeg) &&& (63 : Int32)) = ((((((((((0 : Int32) + 1) + 1) + 1) + 1) + 1) + 1) + 1) + 1) + 1) then
      jb_333 rc d 255 [(0, .retAddr 0), (1, .ref a1), (2, .ref a2), (3, .int x3)] [] h
    else if (((rc 0).2 (x3).toNatClampNeg) &&& (63 : Int32)) = (((((((((((0 : Int32) + 1) + 1) + 1) + 1) + 1) + 1) + 1) + 1) + 1) + 1) then
      jb_333 rc d 262 [(0, .retAddr 0), (1, .ref a1), (2, .ref a2), (3, .int x3)] [] h
    else if (((rc 0).2 (x3).toNatClampNeg) &&& (63 : Int32)) = ((((((((((((0 : Int32) + 1) + 1) + 1) + 1) + 1) + 1) + 1) + 1) + 1) + 1) + 1) then
      jb_333 rc d 289 [(0, .retAddr 0), (1, .ref a1), (2, .ref a2), (3, .int x3)] [] h
    else if (((rc 0).2 (x3).toNatClampNeg) &&& (63 : Int32)) = (((((((((((((0 : Int32) + 1) + 1) + 1) + 1) + 1) + 1) + 1) + 1) + 1) + 1) + 1) + 1) then
      jb_333 rc d 296 [(0, .retAddr 0), (1, .ref a1), (2, .ref a2), (3, .int x3)] [] h
    else if (((rc 0).2 (x3).toNatClampNeg) &&& (63 : Int32)) = ((((((((((((((0 : Int32) + 1) + 1) + 1) + 1) + 1) + 1) + 1) + 1) + 1) + 1) + 1) + 1) + 1) then
      jb_333 rc d 313 [(0, .retAddr 0), (1, .ref a1), (2, .ref a2), (3, .int x3)] [] h
    else if (((rc 0).2 (x3).toNatClampNeg) &&& (63 : Int32)) = (((((((((((((((0 : Int32) + 1) + 1) + 1) + 1) + 1) + 1) + 1) + 1) + 1) + 1) + 1) + 1) + 1) + 1) then
      jb_333 rc d 320 [(0, .retAddr 0), (1, .ref a1), (2, .ref a2), (3, .int x3)] [] h
    else if (((rc 0).2 (x3).toNatClampNeg) &&& (63 : Int32)) = ((((((((((((((((0 : Int32) + 1) + 1) + 1) + 1) + 1) + 1) + 1) + 1) + 1) + 1) + 1) + 1) + 1) + 1) + 1) then
      jb_333 rc d 357 [(0, .retAddr 0), (1, .ref a1), (2, .ref a2), (3, .int x3)] [] h
    else if (((rc 0).2 (x3).toNatClampNeg) &&& (63 : Int32)) = (((((((((((((((((0 : Int32) + 1) + 1) + 1) + 1) + 1) + 1) + 1) + 1) + 1) + 1) + 1) + 1) + 1) + 1) + 1) + 1) then
      jb_333 rc d 374 [(0, .retAddr 0), (1, .ref a1), (2, .ref a2), (3, .int x3)] [] h
    else if (((rc 0).2 (x3).toNatClampNeg) &&& (63 : Int32)) = ((((((((((((((((((0 : Int32) + 1) + 1) + 1) + 1) + 1) + 1) + 1) + 1) + 1) + 1) + 1) + 1) + 1) + 1) + 1) + 1) + 1) then
      jb_333 rc d 391 [(0, .retAddr 0), (1, .ref a1), (2, .ref a2), (3, .int x3)] [] h
    else if (((rc 0).2 (x3).toNatClampNeg) &&& (63 : Int32)) = (((((((((((((((((((0 : Int32) + 1) + 1) + 1) + 1) + 1) + 1) + 1) + 1) + 1) + 1) + 1) + 1) + 1) + 1) + 1) + 1) + 1) + 1) then
      jb_333 rc d 408 [(0, .retAddr 0), (1, .ref a1), (2, .ref a2), (3, .int x3)] [] h
    else if (((rc 0).2 (x3).toNatClampNeg) &&& (63 : Int32)) = ((((((((((((((((((((0 : Int32) + 1) + 1) + 1) + 1) + 1) + 1) + 1) + 1) + 1) + 1) + 1) + 1) + 1) + 1) + 1) + 1) + 1) + 1) + 1) then
      jb_333 rc d 415 [(0, .retAddr 0), (1, .ref a1), (2, .ref a2), (3, .int x3)] [] h
    else if (((rc 0).2 (x3).toNatClampNeg) &&& (63 : Int32)) = (((((((((((((((((((((0 : Int32) + 1) + 1) + 1) + 1) + 1) + 1) + 1) + 1) + 1) + 1) + 1) + 1) + 1) + 1) + 1) + 1) + 1) + 1) + 1) + 1) then
      jb_333 rc d 452 [(0, .retAddr 0), (1, .ref a1), (2, .ref a2), (3, .int x3)] [] h
    else if (((rc 0).2 (x3).toNatClampNeg) &&& (63 : Int32)) = ((((((((((((((((((((((0 : Int32) + 1) + 1) + 1) + 1) + 1) + 1) + 1) + 1) + 1) + 1) + 1) + 1) + 1) + 1) + 1) + 1) + 1) + 1) + 1) + 1) + 1) then
      jb_333 rc d 479 [(0, .retAddr 0), (1, .ref a1), (2, .ref a2), (3, .int x3)] [] h
    else if (((rc 0).2 (x3).toNatClampNeg) &&& (63 : Int32)) = (((((((((((((((((((((((0 : Int32) + 1) + 1) + 1) + 1) + 1) + 1) + 1) + 1) + 1) + 1) + 1) + 1) + 1) + 1) + 1) + 1) + 1) + 1) + 1) + 1) + 1) + 1) then
      jb_333 rc d 506 [(0, .retAddr 0), (1, .ref a1), (2, .ref a2), (3, .int x3)] [] h
    else if (((rc 0).2 (x3).toNatClampNeg) &&& (63 : Int32)) = ((((((((((((((((((((((((0 : Int32) + 1) + 1) + 1) + 1) + 1) + 1) + 1) + 1) + 1) + 1) + 1) + 1) + 1) + 1) + 1) + 1) + 1) + 1) + 1) + 1) + 1) + 1) + 1) then
      jb_333 rc d 543 [(0, .retAddr 0), (1, .ref a1), (2, .ref a2), (3, .int x3)] [] h
    else if (((rc 0).2 (x3).toNatClampNeg) &&& (63 : Int32)) = (((((((((((((((((((((((((0 : Int32) + 1) + 1) + 1) + 1) + 1) + 1) + 1) + 1) + 1) + 1) + 1) + 1) + 1) + 1) + 1) + 1) + 1) + 1) + 1) + 1) + 1) + 1) + 1) + 1) then
      jb_333 rc d 570 [(0, .retAddr 0), (1, .ref a1), (2, .ref a2), (3, .int x3)] [] h
    else if (((rc 0).2 (x3).toNatClampNeg) &&& (63 : Int32)) = ((((((((((((((((((((((((((0 : Int32) + 1) + 1) + 1) + 1) + 1) + 1) + 1) + 1) + 1) + 1) + 1) + 1) + 1) + 1) + 1) + 1) + 1) + 1) + 1) + 1) + 1) + 1) + 1) + 1) + 1) then
      jb_333 rc d 621 [(0, .retAddr 0), (1, .ref a1), (2, .ref a2), (3, .int x3)] [] h
    else if (((rc 0).2 (x3).toNatClampNeg) &&& (63 : Int32)) = (((((((((((((((((((((((((((0 : Int32) + 1) + 1) + 1) + 1) + 1) + 1) + 1) + 1) + 1) + 1) + 1) + 1) + 1) + 1) + 1) + 1) + 1) + 1) + 1) + 1) + 1) + 1) + 1) + 1) + 1) + 1) then
      jb_333 rc d 628 [(0, .retAddr 0), (1, .ref a1), (2, .ref a2), (3, .int x3)] [] h
    else if (((rc 0).2 (x3).toNatClampNeg) &&& (63 : Int32)) = ((((((((((((((((((((((((((((0 : Int32) + 1) + 1) + 1) + 1) + 1) + 1) + 1) + 1) + 1) + 1) + 1) + 1) + 1) + 1) + 1) + 1) + 1) + 1) + 1) + 1) + 1) + 1) + 1) + 1) + 1) + 1) + 1) then
      jb_333 rc d 645 [(0, .retAddr 0), (1, .ref a1), (2, .ref a2), (3, .int x3)] [] h
    else if (((rc 0).2 (x3).toNatClampNeg) &&& (63 : Int32)) = (((((((((((((((((((((((((((((0 : Int32) + 1) + 1) + 1) + 1) + 1) + 1) + 1) + 1) + 1) + 1) + 1) + 1) + 1) + 1) + 1) + 1) + 1) + 1) + 1) + 1) + 1) + 1) + 1) + 1) + 1) + 1) + 1) + 1) then
      jb_333 rc d 662 [(0, .retAddr 0), (1, .ref a1), (2, .ref a2), (3, .int x3)] [] h
    else if (((rc 0).2 (x3).toNatClampNeg) &&& (63 : Int32)) = ((((((((((((((((((((((((((((((0 : Int32) + 1) + 1) + 1) + 1) + 1) + 1) + 1) + 1) + 1) + 1) + 1) + 1) + 1) + 1) + 1) + 1) + 1) + 1) + 1) + 1) + 1) + 1) + 1) + 1) + 1) + 1) + 1) + 1) + 1) then
      jb_333 rc d 679 [(0, .retAddr 0), (1, .ref a1), (2, .ref a2), (3, .int x3)] [] h
    else if (((rc 0).2 (x3).toNatClampNeg) &&& (63 : Int32)) = (((((((((((((((((((((((((((((((0 : Int32) + 1) + 1) + 1) + 1) + 1) + 1) + 1) + 1) + 1) + 1) + 1) + 1) + 1) + 1) + 1) + 1) + 1) + 1) + 1) + 1) + 1) + 1) + 1) + 1) + 1) + 1) + 1) + 1) + 1) + 1) then
      jb_333 rc d 696 [(0, .retAddr 0), (1, .ref a1), (2, .ref a2), (3, .int x3)] [] h
    else if (((rc 0).2 (x3).toNatClampNeg) &&& (63 : Int32)) = ((((((((((((((((((((((((((((((((0 : Int32) + 1) + 1) + 1) + 1) + 1) + 1) + 1) + 1) + 1) + 1) + 1) + 1) + 1) + 1) + 1) + 1) + 1) + 1) + 1) + 1) + 1) + 1) + 1) + 1) + 1) + 1) + 1) + 1) + 1) + 1) + 1) then
      jb_333 rc d 713 [(0, .retAddr 0), (1, .ref a1), (2, .ref a2), (3, .int x3)] [] h
    else if (((rc 0).2 (x3).toNatClampNeg) &&& (63 : Int32)) = (((((((((((((((((((((((((((((((((0 : Int32) + 1) + 1) + 1) + 1) + 1) + 1) + 1) + 1) + 1) + 1) + 1) + 1) + 1) + 1) + 1) + 1) + 1) + 1) + 1) + 1) + 1) + 1) + 1) + 1) + 1) + 1) + 1) + 1) + 1) + 1) + 1) + 1) then
      jb_333 rc d 740 [(0, .retAddr 0), (1, .ref a1), (2, .ref a2), (3, .int x3)] [] h
    else if (((rc 0).2 (x3).toNatClampNeg) &&& (63 : Int32)) = ((((((((((((((((((((((((((((((((((0 : Int32) + 1) + 1) + 1) + 1) + 1) + 1) + 1) + 1) + 1) + 1) + 1) + 1) + 1) + 1) + 1) + 1) + 1) + 1) + 1) + 1) + 1) + 1) + 1) + 1) + 1) + 1) + 1) + 1) + 1) + 1) + 1) + 1) + 1) then
      jb_333 rc d 767 [(0, .retAddr 0), (1, .ref a1), (2, .ref a2), (3, .int x3)] [] h
    else if (((rc 0).2 (x3).toNatClampNeg) &&& (63 : Int32)) = (((((((((((((((((((((((((((((((((((0 : Int32) + 1) + 1) + 1) + 1) + 1) + 1) + 1) + 1) + 1) + 1) + 1) + 1) + 1) + 1) + 1) + 1) + 1) + 1) + 1) + 1) + 1) + 1) + 1) + 1) + 1) + 1) + 1) + 1) + 1) + 1) + 1) + 1) + 1) + 1) then
      jb_333 rc d 794 [(0, .retAddr 0), (1, .ref a1), (2, .ref a2), (3, .int x3)] [] h
    else if (((rc 0).2 (x3).toNatClampNeg) &&& (63 : Int32)) = ((((((((((((((((((((((((((((((((((((0 : Int32) + 1) + 1) + 1) + 1) + 1) + 1) + 1) + 1) + 1) + 1) + 1) + 1) + 1) + 1) + 1) + 1) + 1) + 1) + 1) + 1) + 1) + 1) + 1) + 1) + 1) + 1) + 1) + 1) + 1) + 1) + 1) + 1) + 1) + 1) + 1) then
      jb_333 rc d 821 [(0, .retAddr 0), (1, .ref a1), (2, .ref a2), (3, .int x3)] [] h
    else if (((rc 0).2 (x3).toNatClampNeg) &&& (63 : Int32)) = (((((((((((((((((((((((((((((((((((((0 : Int32) + 1) + 1) + 1) + 1) + 1) + 1) + 1) + 1) + 1) + 1) + 1) + 1) + 1) + 1) + 1) + 1) + 1) + 1) + 1) + 1) + 1) + 1) + 1) + 1) + 1) + 1) + 1) + 1) + 1) + 1) + 1) + 1) + 1) + 1) + 1) + 1) then
      jb_333 rc d 848 [(0, .retAddr 0), (1, .ref a1), (2, .ref a2), (3, .int x3)] [] h
    else if (((rc 0).2 (x3).toNatClampNeg) &&& (63 : Int32)) = ((((((((((((((((((((((((((((((((((((((0 : Int32) + 1) + 1) + 1) + 1) + 1) + 1) + 1) + 1) + 1) + 1) + 1) + 1) + 1) + 1) + 1) + 1) + 1) + 1) + 1) + 1) + 1) + 1) + 1) + 1) + 1) + 1) + 1) + 1) + 1) + 1) + 1) + 1) + 1) + 1) + 1) + 1) + 1) then
      jb_333 rc d 875 [(0, .retAddr 0), (1, .ref a1), (2, .ref a2), (3, .int x3)] [] h
    else if (((rc 0).2 (x3).toNatClampNeg) &&& (63 : Int32)) = (((((((((((((((((((((((((((((((((((((((0 : Int32) + 1) + 1) + 1) + 1) + 1) + 1) + 1) + 1) + 1) + 1) + 1) + 1) + 1) + 1) + 1) + 1) + 1) + 1) + 1) + 1) + 1) + 1) + 1) + 1) + 1) + 1) + 1) + 1) + 1) + 1) + 1) + 1) + 1) + 1) + 1) + 1) + 1) + 1) then
      jb_333 rc d 902 [(0, .retAddr 0), (1, .ref a1), (2, .ref a2), (3, .int x3)] [] h
    else if (((rc 0).2 (x3).toNatClampNeg) &&& (63 : Int32)) = ((((((((((((((((((((((((((((((((((((((((0 : Int32) + 1) + 1) + 1) + 1) + 1) + 1) + 1) + 1) + 1) + 1) + 1) + 1) + 1) + 1) + 1) + 1) + 1) + 1) + 1) + 1) + 1) + 1) + 1) + 1) + 1) + 1) + 1) + 1) + 1) + 1) + 1) + 1) + 1) + 1) + 1) + 1) + 1) + 1) + 1) then
      jb_333 rc d 919 [(0, .retAddr 0), (1, .ref a1), (2, .ref a2), (3, .int x3)] [] h
    else if (((rc 0).2 (x3).toNatClampNeg) &&& (63 : Int32)) = (((((((((((((((((((((((((((((((((((((((((0 : Int32) + 1) + 1) + 1) + 1) + 1) + 1) + 1) + 1) + 1) + 1) + 1) + 1) + 1) + 1) + 1) + 1) + 1) + 1) + 1) + 1) + 1) + 1) + 1) + 1) + 1) + 1) + 1) + 1) + 1) + 1) + 1) + 1) + 1) + 1) + 1) + 1) + 1) + 1) + 1) + 1) then
      jb_333 rc d 946 [(0, .retAddr 0), (1, .ref a1), (2, .ref a2), (3, .int x3)] [] h
    else if (((rc 0).2 (x3).toNatClampNeg) &&& (63 : Int32)) = ((((((((((((((((((((((((((((((((((((((((((0 : Int32) + 1) + 1) + 1) + 1) + 1) + 1) + 1) + 1) + 1) + 1) + 1) + 1) + 1) + 1) + 1) + 1) + 1) + 1) + 1) + 1) + 1) + 1) + 1) + 1) + 1) + 1) + 1) + 1) + 1) + 1) + 1) + 1) + 1) + 1) + 1) + 1) + 1) + 1) + 1) + 1) + 1) then
      jb_333 rc d 973 [(0, .retAddr 0), (1, .ref a1), (2, .ref a2), (3, .int x3)] [] h
    else if (((rc 0).2 (x3).toNatClampNeg) &&& (63 : Int32)) = (((((((((((((((((((((((((((((((((((((((((((0 : Int32) + 1) + 1) + 1) + 1) + 1) + 1) + 1) + 1) + 1) + 1) + 1) + 1) + 1) + 1) + 1) + 1) + 1) + 1) + 1) + 1) + 1) + 1) + 1) + 1) + 1) + 1) + 1) + 1) + 1) + 1) + 1) + 1) + 1) + 1) + 1) + 1) + 1) + 1) + 1) + 1) + 1) + 1) then
      jb_333 rc d 1010 [(0, .retAddr 0), (1, .ref a1), (2, .ref a2), (3, .int x3)] [] h
    else if (((rc 0).2 (x3).toNatClampNeg) &&& (63 : Int32)) = ((((((((((((((((((((((((((((((((((((((((((((0 : Int32) + 1) + 1) + 1) + 1) + 1) + 1) + 1) + 1) + 1) + 1) + 1) + 1) + 1) + 1) + 1) + 1) + 1) + 1) + 1) + 1) + 1) + 1) + 1) + 1) + 1) + 1) + 1) + 1) + 1) + 1) + 1) + 1) + 1) + 1) + 1) + 1) + 1) + 1) + 1) + 1) + 1) + 1) + 1) then
      jb_333 rc d 1047 [(0, .retAddr 0), (1, .ref a1), (2, .ref a2), (3, .int x3)] [] h
    else if (((rc 0).2 (x3).toNatClampNeg) &&& (63 : Int32)) = (((((((((((((((((((((((((((((((((((((((((((((0 : Int32) + 1) + 1) + 1) + 1) + 1) + 1) + 1) + 1) + 1) + 1) + 1) + 1) + 1) + 1) + 1) + 1) + 1) + 1) + 1) + 1) + 1) + 1) + 1) + 1) + 1) + 1) + 1) + 1) + 1) + 1) + 1) + 1) + 1) + 1) + 1) + 1) + 1) + 1) + 1) + 1) + 1) + 1) + 1) + 1) then
      jb_333 rc d 1074 [(0, .retAddr 0), (1, .ref a1), (2, .ref a2), (3, .int x3)] [] h
    else if (((rc 0).2 (x3).toNatClampNeg) &&& (63 : Int32)) = ((((((((((((((((((((((((((((((((((((((((((((((0 : Int32) + 1) + 1) + 1) + 1) + 1) + 1) + 1) + 1) + 1) + 1) + 1) + 1) + 1) + 1) + 1) + 1) + 1) + 1) + 1) + 1) + 1) + 1) + 1) + 1) + 1) + 1) + 1) + 1) + 1) + 1) + 1) + 1) + 1) + 1) + 1) + 1) + 1) + 1) + 1) + 1) + 1) + 1) + 1) + 1) + 1) then
      jb_333 rc d 1131 [(0, .retAddr 0), (1, .ref a1), (2, .ref a2), (3, .int x3)] [] h
    else if (((rc 0).2 (x3).toNatClampNeg) &&& (63 : Int32)) = (((((((((((((((((((((((((((((((((((((((((((((((0 : Int32) + 1) + 1) + 1) + 1) + 1) + 1) + 1) + 1) + 1) + 1) + 1) + 1) + 1) + 1) + 1) + 1) + 1) + 1) + 1) + 1) + 1) + 1) + 1) + 1) + 1) + 1) + 1) + 1) + 1) + 1) + 1) + 1) + 1) + 1) + 1) + 1) + 1) + 1) + 1) + 1) + 1) + 1) + 1) + 1) + 1) + 1) then
      jb_333 rc d 1148 [(0, .retAddr 0), (1, .ref a1), (2, .ref a2), (3, .int x3)] [] h
    else if (((rc 0).2 (x3).toNatClampNeg) &&& (63 : Int32)) = ((((((((((((((((((((((((((((((((((((((((((((((((0 : Int32) + 1) + 1) + 1) + 1) + 1) + 1) + 1) + 1) + 1) + 1) + 1) + 1) + 1) + 1) + 1) + 1) + 1) + 1) + 1) + 1) + 1) + 1) + 1) + 1) + 1) + 1) + 1) + 1) + 1) + 1) + 1) + 1) + 1) + 1) + 1) + 1) + 1) + 1) + 1) + 1) + 1) + 1) + 1) + 1) + 1) + 1) + 1) then
      jb_333 rc d 1165 [(0, .retAddr 0), (1, .ref a1), (2, .ref a2), (3, .int x3)] [] h
    else if (((rc 0).2 (x3).toNatClampNeg) &&& (63 : Int32)) = (((((((((((((((((((((((((((((((((((((((((((((((((0 : Int32) + 1) + 1) + 1) + 1) + 1) + 1) + 1) + 1) + 1) + 1) + 1) + 1) + 1) + 1) + 1) + 1) + 1) + 1) + 1) + 1) + 1) + 1) + 1) + 1) + 1) + 1) + 1) + 1) + 1) + 1) + 1) + 1) + 1) + 1) + 1) + 1) + 1) + 1) + 1) + 1) + 1) + 1) + 1) + 1) + 1) + 1) + 1) + 1) then
      jb_333 rc d 1192 [(0, .retAddr 0), (1, .ref a1), (2, .ref a2), (3, .int x3)] [] h
    else if (((rc 0).2 (x3).toNatClampNeg) &&& (63 : Int32)) = ((((((((((((((((((((((((((((((((((((((((((((((((((0 : Int32) + 1) + 1) + 1) + 1) + 1) + 1) + 1) + 1) + 1) + 1) + 1) + 1) + 1) + 1) + 1) + 1) + 1) + 1) + 1) + 1) + 1) + 1) + 1) + 1) + 1) + 1) + 1) + 1) + 1) + 1) + 1) + 1) + 1) + 1) + 1) + 1) + 1) + 1) + 1) + 1) + 1) + 1) + 1) + 1) + 1) + 1) + 1) + 1) + 1) then
      jb_333 rc d 1199 [(0, .retAddr 0), (1, .ref a1), (2, .ref a2), (3, .int x3)] [] h
    else if (((rc 0).2 (x3).toNatClampNeg) &&& (63 : Int32)) = (((((((((((((((((((((((((((((((((((((((((((((((((((0 : Int32) + 1) + 1) + 1) + 1) + 1) + 1) + 1) + 1) + 1) + 1) + 1) + 1) + 1) + 1) + 1) + 1) + 1) + 1) + 1) + 1) + 1) + 1) + 1) + 1) + 1) + 1) + 1) + 1) + 1) + 1) + 1) + 1) + 1) + 1) + 1) + 1) + 1) + 1) + 1) + 1) + 1) + 1) + 1) + 1) + 1) + 1) + 1) + 1) + 1) + 1) then
      jb_333 rc d 1206 [(0, .retAddr 0), (1, .ref a1), (2, .ref a2), (3, .int x3)] [] h
    else if (((rc 0).2 (x3).toNatClampNeg) &&& (63 : Int32)) = ((((((((((((((((((((((((((((((((((((((((((((((((((((0 : Int32) + 1) + 1) + 1) + 1) + 1) + 1) + 1) + 1) + 1) + 1) + 1) + 1) + 1) + 1) + 1) + 1) + 1) + 1) + 1) + 1) + 1) + 1) + 1) + 1) + 1) + 1) + 1) + 1) + 1) + 1) + 1) + 1) + 1) + 1) + 1) + 1) + 1) + 1) + 1) + 1) + 1) + 1) + 1) + 1) + 1) + 1) + 1) + 1) + 1) + 1) + 1) then
      jb_333 rc d 1223 [(0, .retAddr 0), (1, .ref a1), (2, .ref a2), (3, .int x3)] [] h
    else 
      jb_333 rc d 10 [(0, .retAddr 0), (1, .ref a1), (2, .ref a2), (3, .int (x3 + (6 : Int32)))] [] h :=
  (jx_G_run (jx_X_grows rc jx_dflt jx_mt d) 64 _).trans rfl
set_option maxRecDepth 100000 in
theorem je_333_22 (rc : Nat → Nat × (Nat → Int32)) (d : Nat) (a1 : Nat) (a2 : Nat) (x3 : Int32) (h : jxH) : jb_333 rc d 22 [(0, .retAddr 0), (1, .ref a1), (2, .ref a2), (3, .int x3)] [] h =
  if jx_out (x3 + (1 : Int32)) (rc 0).1 = true then none else
  jx_cI (jx_C rc d 1 [.ref a1, .int ((rc 0).2 ((x3 + (1 : Int32))).toNatClampNeg)] h) fun v2 h1 =>
  if jx_out (x3 + (1 : Int32)) (rc 0).1 = true then none else
  jx_cI (jx_C rc d 107 [.ref a2, .int ((rc 0).2 ((x3 + (1 : Int32))).toNatClampNeg)] h1) fun v4 h3 =>
  if v2 = v4 then
    jb_333 rc d 10 [(0, .retAddr 0), (1, .ref a1), (2, .ref a2), (3, .int (x3 + (6 : Int32)))] [] h3
  else
    if jx_bool (0 : Int32) = true then some (some (.int (0 : Int32)), h3) else none :=
  (jx_G_run (jx_X_grows rc jx_dflt jx_mt d) 64 _).trans rfl
set_option maxRecDepth 100000 in
theorem je_333_39 (rc : Nat → Nat × (Nat → Int32)) (d : Nat) (a1 : Nat) (a2 : Nat) (x3 : Int32) (h : jxH) : jb_333 rc d 39 [(0, .retAddr 0), (1, .ref a1), (2, .ref a2), (3, .int x3)] [] h =
  if jx_out (x3 + (1 : Int32)) (rc 0).1 = true then none else
  if jx_out (x3 + (2 : Int32)) (rc 0).1 = true then none else
  jx_cI (jx_C rc d 2 [.ref a1, .int ((rc 0).2 ((x3 + (1 : Int32))).toNatClampNeg), .int ((rc 0).2 ((x3 + (2 : Int32))).toNatClampNeg)] h) fun v2 h1 =>
  if jx_out (x3 + (1 : Int32)) (rc 0).1 = true then none else
  if jx_out (x3 + (2 : Int32)) (rc 0).1 = true then none else
  jx_cI (jx_C rc d 108 [.ref a2, .int ((rc 0).2 ((x3 + (1 : Int32))).toNatClampNeg), .int ((rc 0).2 ((x3 + (2 : Int32))).toNatClampNeg)] h1) fun v4 h3 =>
  if v2 = v4 then
    jb_333 rc d 10 [(0, .retAddr 0), (1, .ref a1), (2, .ref a2), (3, .int (x3 + (6 : Int32)))] [] h3
  else
    if jx_bool (0 : Int32) = true then some (some (.int (0 : Int32)), h3) else none :=
  (jx_G_run (jx_X_grows rc jx_dflt jx_mt d) 64 _).trans rfl
set_option maxRecDepth 100000 in
theorem je_333_66 (rc : Nat → Nat × (Nat → Int32)) (d : Nat) (a1 : Nat) (a2 : Nat) (x3 : Int32) (h : jxH) : jb_333 rc d 66 [(0, .retAddr 0), (1, .ref a1), (2, .ref a2), (3, .int x3)] [] h =
  if jx_out (x3 + (1 : Int32)) (rc 0).1 = true then none else
  if jx_out (x3 + (2 : Int32)) (rc 0).1 = true then none else
  jx_cI (jx_C rc d 3 [.ref a1, .int ((rc 0).2 ((x3 + (1 : Int32))).toNatClampNeg), .int ((rc 0).2 ((x3 + (2 : Int32))).toNatClampNeg)] h) fun v2 h1 =>
  if jx_out (x3 + (1 : Int32)) (rc 0).1 = true then none else
  if jx_out (x3 + (2 : Int32)) (rc 0).1 = true then none else
  jx_cI (jx_C rc d 109 [.ref a2, .int ((rc 0).2 ((x3 + (1 : Int32))).toNatClampNeg), .int ((rc 0).2 ((x3 + (2 : Int32))).toNatClampNeg)] h1) fun v4 h3 =>
  if v2 = v4 then
    jb_333 rc d 10 [(0, .retAddr 0), (1, .ref a1), (2, .ref a2), (3, .int (x3 + (6 : Int32)))] [] h3
  else
    if jx_bool (0 : Int32) = true then some (some (.int (0 : Int32)), h3) else none :=
  (jx_G_run (jx_X_grows rc jx_dflt jx_mt d) 64 _).trans rfl
set_option maxRecDepth 100000 in
theorem je_333_93 (rc : Nat → Nat × (Nat → Int32)) (d : Nat) (a1 : Nat) (a2 : Nat) (x3 : Int32) (h : jxH) : jb_333 rc d 93 [(0, .retAddr 0), (1, .ref a1), (2, .ref a2), (3, .int x3)] [] h =
  if jx_out (x3 + (1 : Int32)) (rc 0).1 = true then none else
  if jx_out (x3 + (2 : Int32)) (rc 0).1 = true then none else
  jx_cI (jx_C rc d 4 [.ref a1, .int ((rc 0).2 ((x3 + (1 : Int32))).toNatClampNeg), .int ((rc 0).2 ((x3 + (2 : Int32))).toNatClampNeg)] h) fun v2 h1 =>
  if jx_out (x3 + (1 : Int32)) (rc 0).1 = true then none else
  if jx_out (x3 + (2 : Int32)) (rc 0).1 = true then none else
  jx_cI (jx_C rc d 110 [.ref a2, .int ((rc 0).2 ((x3 + (1 : Int32))).toNatClampNeg), .int ((rc 0).2 ((x3 + (2 : Int32))).toNatClampNeg)] h1) fun v4 h3 =>
  if v2 = v4 then
    jb_333 rc d 10 [(0, .retAddr 0), (1, .ref a1), (2, .ref a2), (3, .int (x3 + (6 : Int32)))] [] h3
  else
    if jx_bool (0 : Int32) = true then some (some (.int (0 : Int32)), h3) else none :=
  (jx_G_run (jx_X_grows rc jx_dflt jx_mt d) 64 _).trans rfl
set_option maxRecDepth 100000 in
theorem je_333_120 (rc : Nat → Nat × (Nat → Int32)) (d : Nat) (a1 : Nat) (a2 : Nat) (x3 : Int32) (h : jxH) : jb_333 rc d 120 [(0, .retAddr 0), (1, .ref a1), (2, .ref a2), (3, .int x3)] [] h =
  if jx_out (x3 + (1 : Int32)) (rc 0).1 = true then none else
  jx_cI (jx_C rc d 5 [.ref a1, .int ((rc 0).2 ((x3 + (1 : Int32))).toNatClampNeg)] h) fun v2 h1 =>
  if jx_out (x3 + (1 : Int32)) (rc 0).1 = true then none else
  jx_cI (jx_C rc d 111 [.ref a2, .int ((rc 0).2 ((x3 + (1 : Int32))).toNatClampNeg)] h1) fun v4 h3 =>
  if v2 = v4 then
    jb_333 rc d 10 [(0, .retAddr 0), (1, .ref a1), (2, .ref a2), (3, .int (x3 + (6 : Int32)))] [] h3
  else
    if jx_bool (0 : Int32) = true then some (some (.int (0 : Int32)), h3) else none :=
  (jx_G_run (jx_X_grows rc jx_dflt jx_mt d) 64 _).trans rfl
set_option maxRecDepth 100000 in
theorem je_333_137 (rc : Nat → Nat × (Nat → Int32)) (d : Nat) (a1 : Nat) (a2 : Nat) (x3 : Int32) (h : jxH) : jb_333 rc d 137 [(0, .retAddr 0), (1, .ref a1), (2, .ref a2), (3, .int x3)] [] h =
  if jx_out (x3 + (1 : Int32)) (rc 0).1 = true then none else
  if jx_out (x3 + (2 : Int32)) (rc 0).1 = true then none else
  jx_cI (jx_C rc d 6 [.ref a1, .int ((rc 0).2 ((x3 + (1 : Int32))).toNatClampNeg), .int ((rc 0).2 ((x3 + (2 : Int32))).toNatClampNeg)] h) fun v2 h1 =>
  if jx_out (x3 + (1 : Int32)) (rc 0).1 = true then none else
  if jx_out (x3 + (2 : Int32)) (rc 0).1 = true then none else
  jx_cI (jx_C rc d 114 [.ref a2, .int ((rc 0).2 ((x3 + (1 : Int32))).toNatClampNeg), .int ((rc 0).2 ((x3 + (2 : Int32))).toNatClampNeg)] h1) fun v4 h3 =>
  if v2 = v4 then
    jb_333 rc d 10 [(0, .retAddr 0), (1, .ref a1), (2, .ref a2), (3, .int (x3 + (6 : Int32)))] [] h3
  else
    if jx_bool (0 : Int32) = true then some (some (.int (0 : Int32)), h3) else none :=
  (jx_G_run (jx_X_grows rc jx_dflt jx_mt d) 64 _).trans rfl
set_option maxRecDepth 100000 in
theorem je_333_164 (rc : Nat → Nat × (Nat → Int32)) (d : Nat) (a1 : Nat) (a2 : Nat) (x3 : Int32) (h : jxH) : jb_333 rc d 164 [(0, .retAddr 0), (1, .ref a1), (2, .ref a2), (3, .int x3)] [] h =
  if jx_out (x3 + (1 : Int32)) (rc 0).1 = true then none else
  if jx_out (x3 + (2 : Int32)) (rc 0).1 = true then none else
  jx_cI (jx_C rc d 7 [.ref a1, .int ((rc 0).2 ((x3 + (1 : Int32))).toNatClampNeg), .int ((rc 0).2 ((x3 + (2 : Int32))).toNatClampNeg)] h) fun v2 h1 =>
  if jx_out (x3 + (1 : Int32)) (rc 0).1 = true then none else
  if jx_out (x3 + (2 : Int32)) (rc 0).1 = true then none else
  jx_cI (jx_C rc d 116 [.ref a2, .int ((rc 0).2 ((x3 + (1 : Int32))).toNatClampNeg), .int ((rc 0).2 ((x3 + (2 : Int32))).toNatClampNeg)] h1) fun v4 h3 =>
  if v2 = v4 then
    jb_333 rc d 10 [(0, .retAddr 0), (1, .ref a1), (2, .ref a2), (3, .int (x3 + (6 : Int32)))] [] h3
  else
    if jx_bool (0 : Int32) = true then some (some (.int (0 : Int32)), h3) else none :=
  (jx_G_run (jx_X_grows rc jx_dflt jx_mt d) 64 _).trans rfl
set_option maxRecDepth 100000 in
theorem je_333_191 (rc : Nat → Nat × (Nat → Int32)) (d : Nat) (a1 : Nat) (a2 : Nat) (x3 : Int32) (h : jxH) : jb_333 rc d 191 [(0, .retAddr 0), (1, .ref a1), (2, .ref a2), (3, .int x3)] [] h =
  if jx_out (x3 + (1 : Int32)) (rc 0).1 = true then none else
  if jx_out (x3 + (2 : Int32)) (rc 0).1 = true then none else
  if jx_out (x3 + (3 : Int32)) (rc 0).1 = true then none else
  if jx_out (x3 + (4 : Int32)) (rc 0).1 = true then none else
  if jx_out (x3 + (5 : Int32)) (rc 0).1 = true then none else
  jx_cI (jx_C rc d 8 [.ref a1, .int ((rc 0).2 ((x3 + (1 : Int32))).toNatClampNeg), .int ((rc 0).2 ((x3 + (2 : Int32))).toNatClampNeg), .int ((rc 0).2 ((x3 + (3 : Int32))).toNatClampNeg), .int ((rc 0).2 ((x3 + (4 : Int32))).toNatClampNeg), .int ((rc 0).2 ((x3 + (5 : Int32))).toNatClampNeg)] h) fun v2 h1 =>
  if jx_out (x3 + (1 : Int32)) (rc 0).1 = true then none else
  if jx_out (x3 + (2 : Int32)) (rc 0).1 = true then none else
  if jx_out (x3 + (3 : Int32)) (rc 0).1 = true then none else
  if jx_out (x3 + (4 : Int32)) (rc 0).1 = true then none else
  if jx_out (x3 + (5 : Int32)) (rc 0).1 = true then none else
  jx_cI (jx_C rc d 102 [.ref a2, .int ((rc 0).2 ((x3 + (1 : Int32))).toNatClampNeg), .int ((rc 0).2 ((x3 + (2 : Int32))).toNatClampNeg), .int ((rc 0).2 ((x3 + (3 : Int32))).toNatClampNeg), .int ((rc 0).2 ((x3 + (4 : Int32))).toNatClampNeg), .int ((rc 0).2 ((x3 + (5 : Int32))).toNatClampNeg)] h1) fun v4 h3 =>
  if v2 = v4 then
    jb_333 rc d 10 [(0, .retAddr 0), (1, .ref a1), (2, .ref a2), (3, .int (x3 + (6 : Int32)))] [] h3
  else
    if jx_bool (0 : Int32) = true then some (some (.int (0 : Int32)), h3) else none :=
  (jx_G_run (jx_X_grows rc jx_dflt jx_mt d) 64 _).trans rfl
set_option maxRecDepth 100000 in
theorem je_333_248 (rc : Nat → Nat × (Nat → Int32)) (d : Nat) (a1 : Nat) (a2 : Nat) (x3 : Int32) (h : jxH) : jb_333 rc d 248 [(0, .retAddr 0), (1, .ref a1), (2, .ref a2), (3, .int x3)] [] h =
  jx_cI (jx_C rc d 9 [.ref a1] h) fun v2 h1 =>
  jx_cI (jx_C rc d 103 [.ref a2] h1) fun v4 h3 =>
  if v2 = v4 then
    jb_333 rc d 10 [(0, .retAddr 0), (1, .ref a1), (2, .ref a2), (3, .int (x3 + (6 : Int32)))] [] h3
  else
    if jx_bool (0 : Int32) = true then some (some (.int (0 : Int32)), h3) else none :=
  (jx_G_run (jx_X_grows rc jx_dflt jx_mt d) 64 _).trans rfl
set_option maxRecDepth 100000 in
theorem je_333_255 (rc : Nat → Nat × (Nat → Int32)) (d : Nat) (a1 : Nat) (a2 : Nat) (x3 : Int32) (h : jxH) : jb_333 rc d 255 [(0, .retAddr 0), (1, .ref a1), (2, .ref a2), (3, .int x3)] [] h =
  jx_cI (jx_C rc d 10 [.ref a1] h) fun v2 h1 =>
  jx_cI (jx_C rc d 104 [.ref a2] h1) fun v4 h3 =>
  if v2 = v4 then
    jb_333 rc d 10 [(0, .retAddr 0), (1, .ref a1), (2, .ref a2), (3, .int (x3 + (6 : Int32)))] [] h3
  else
    if jx_bool (0 : Int32) = true then some (some (.int (0 : Int32)), h3) else none :=
  (jx_G_run (jx_X_grows rc jx_dflt jx_mt d) 64 _).trans rfl
set_option maxRecDepth 100000 in
theorem je_333_262 (rc : Nat → Nat × (Nat → Int32)) (d : Nat) (a1 : Nat) (a2 : Nat) (x3 : Int32) (h : jxH) : jb_333 rc d 262 [(0, .retAddr 0), (1, .ref a1), (2, .ref a2), (3, .int x3)] [] h =
  if jx_out (x3 + (1 : Int32)) (rc 0).1 = true then none else
  if jx_out (x3 + (2 : Int32)) (rc 0).1 = true then none else
  jx_cI (jx_C rc d 11 [.ref a1, .int ((rc 0).2 ((x3 + (1 : Int32))).toNatClampNeg), .int ((rc 0).2 ((x3 + (2 : Int32))).toNatClampNeg)] h) fun v2 h1 =>
  if jx_out (x3 + (1 : Int32)) (rc 0).1 = true then none else
  if jx_out (x3 + (2 : Int32)) (rc 0).1 = true then none else
  jx_cI (jx_C rc d 105 [.ref a2, .int ((rc 0).2 ((x3 + (1 : Int32))).toNatClampNeg), .int ((rc 0).2 ((x3 + (2 : Int32))).toNatClampNeg)] h1) fun v4 h3 =>
  if v2 = v4 then
    jb_333 rc d 10 [(0, .retAddr 0), (1, .ref a1), (2, .ref a2), (3, .int (x3 + (6 : Int32)))] [] h3
  else
    if jx_bool (0 : Int32) = true then some (some (.int (0 : Int32)), h3) else none :=
  (jx_G_run (jx_X_grows rc jx_dflt jx_mt d) 64 _).trans rfl
set_option maxRecDepth 100000 in
theorem je_333_289 (rc : Nat → Nat × (Nat → Int32)) (d : Nat) (a1 : Nat) (a2 : Nat) (x3 : Int32) (h : jxH) : jb_333 rc d 289 [(0, .retAddr 0), (1, .ref a1), (2, .ref a2), (3, .int x3)] [] h =
  jx_cI (jx_C rc d 12 [.ref a1] h) fun v2 h1 =>
  jx_cI (jx_C rc d 106 [.ref a2] h1) fun v4 h3 =>
  if v2 = v4 then
    jb_333 rc d 10 [(0, .retAddr 0), (1, .ref a1), (2, .ref a2), (3, .int (x3 + (6 : Int32)))] [] h3
  else
    if jx_bool (0 : Int32) = true then some (some (.int (0 : Int32)), h3) else none :=
  (jx_G_run (jx_X_grows rc jx_dflt jx_mt d) 64 _).trans rfl
set_option maxRecDepth 100000 in
theorem je_333_296 (rc : Nat → Nat × (Nat → Int32)) (d : Nat) (a1 : Nat) (a2 : Nat) (x3 : Int32) (h : jxH) : jb_333 rc d 296 [(0, .retAddr 0), (1, .ref a1), (2, .ref a2), (3, .int x3)] [] h =
  if jx_out (x3 + (1 : Int32)) (rc 0).1 = true then none else
  jx_cI (jx_C rc d 13 [.ref a1, .int ((rc 0).2 ((x3 + (1 : Int32))).toNatClampNeg)] h) fun v2 h1 =>
  if jx_out (x3 + (1 : Int32)) (rc 0).1 = true then none else
  jx_cI (jx_C rc d 120 [.ref a2, .int ((rc 0).2 ((x3 + (1 : Int32))).toNatClampNeg)] h1) fun v4 h3 =>
  if v2 = v4 then
    jb_333 rc d 10 [(0, .retAddr 0), (1, .ref a1), (2, .ref a2), (3, .int (x3 + (6 : Int32)))] [] h3
  else
    if jx_bool (0 : Int32) = true then some (some (.int (0 : Int32)), h3) else none :=
  (jx_G_run (jx_X_grows rc jx_dflt jx_mt d) 64 _).trans rfl
set_option maxRecDepth 100000 in
theorem je_333_313 (rc : Nat → Nat × (Nat → Int32)) (d : Nat) (a1 : Nat) (a2 : Nat) (x3 : Int32) (h : jxH) : jb_333 rc d 313 [(0, .retAddr 0), (1, .ref a1), (2, .ref a2), (3, .int x3)] [] h =
  jx_cI (jx_C rc d 14 [.ref a1] h) fun v2 h1 =>
  jx_cI (jx_C rc d 121 [.ref a2] h1) fun v4 h3 =>
  if v2 = v4 then
    jb_333 rc d 10 [(0, .retAddr 0), (1, .ref a1), (2, .ref a2), (3, .int (x3 + (6 : Int32)))] [] h3
  else
    if jx_bool (0 : Int32) = true then some (some (.int (0 : Int32)), h3) else none :=
  (jx_G_run (jx_X_grows rc jx_dflt jx_mt d) 64 _).trans rfl
set_option maxRecDepth 100000 in
theorem je_333_320 (rc : Nat → Nat × (Nat → Int32)) (d : Nat) (a1 : Nat) (a2 : Nat) (x3 : Int32) (h : jxH) : jb_333 rc d 320 [(0, .retAddr 0), (1, .ref a1), (2, .ref a2), (3, .int x3)] [] h =
  if jx_out (x3 + (1 : Int32)) (rc 0).1 = true then none else
  if jx_out (x3 + (2 : Int32)) (rc 0).1 = true then none else
  if jx_out (x3 + (3 : Int32)) (rc 0).1 = true then none else
  jx_cI (jx_C rc d 15 [.ref a1, .int ((rc 0).2 ((x3 + (1 : Int32))).toNatClampNeg), .int ((rc 0).2 ((x3 + (2 : Int32))).toNatClampNeg), .int ((rc 0).2 ((x3 + (3 : Int32))).toNatClampNeg)] h) fun v2 h1 =>
  if jx_out (x3 + (1 : Int32)) (rc 0).1 = true then none else
  if jx_out (x3 + (2 : Int32)) (rc 0).1 = true then none else
  if jx_out (x3 + (3 : Int32)) (rc 0).1 = true then none else
  jx_cI (jx_C rc d 126 [.ref a2, .int ((rc 0).2 ((x3 + (1 : Int32))).toNatClampNeg), .int ((rc 0).2 ((x3 + (2 : Int32))).toNatClampNeg), .int ((rc 0).2 ((x3 + (3 : Int32))).toNatClampNeg)] h1) fun v4 h3 =>
  if v2 = v4 then
    jb_333 rc d 10 [(0, .retAddr 0), (1, .ref a1), (2, .ref a2), (3, .int (x3 + (6 : Int32)))] [] h3
  else
    if jx_bool (0 : Int32) = true then some (some (.int (0 : Int32)), h3) else none :=
  (jx_G_run (jx_X_grows rc jx_dflt jx_mt d) 64 _).trans rfl
set_option maxRecDepth 100000 in
theorem je_333_357 (rc : Nat → Nat × (Nat → Int32)) (d : Nat) (a1 : Nat) (a2 : Nat) (x3 : Int32) (h : jxH) : jb_333 rc d 357 [(0, .retAddr 0), (1, .ref a1), (2, .ref a2), (3, .int x3)] [] h =
  if jx_out (x3 + (1 : Int32)) (rc 0).1 = true then none else
  jx_cI (jx_C rc d 16 [.ref a1, .int ((rc 0).2 ((x3 + (1 : Int32))).toNatClampNeg)] h) fun v2 h1 =>
  if jx_out (x3 + (1 : Int32)) (rc 0).1 = true then none else
  jx_cI (jx_C rc d 131 [.ref a2, .int ((rc 0).2 ((x3 + (1 : Int32))).toNatClampNeg)] h1) fun v4 h3 =>
  if v2 = v4 then
    jb_333 rc d 10 [(0, .retAddr 0), (1, .ref a1), (2, .ref a2), (3, .int (x3 + (6 : Int32)))] [] h3
  else
    if jx_bool (0 : Int32) = true then some (some (.int (0 : Int32)), h3) else none :=
  (jx_G_run (jx_X_grows rc jx_dflt jx_mt d) 64 _).trans rfl
set_option maxRecDepth 100000 in
theorem je_333_374 (rc : Nat → Nat × (Nat → Int32)) (d : Nat) (a1 : Nat) (a2 : Nat) (x3 : Int32) (h : jxH) : jb_333 rc d 374 [(0, .retAddr 0), (1, .ref a1), (2, .ref a2), (3, .int x3)] [] h =
  if jx_out (x3 + (1 : Int32)) (rc 0).1 = true then none else
  jx_cI (jx_C rc d 17 [.ref a1, .int ((rc 0).2 ((x3 + (1 : Int32))).toNatClampNeg)] h) fun v2 h1 =>
  if jx_out (x3 + (1 : Int32)) (rc 0).1 = true then none else
  jx_cI (jx_C rc d 136 [.ref a2, .int ((rc 0).2 ((x3 + (1 : Int32))).toNatClampNeg)] h1) fun v4 h3 =>
  if v2 = v4 then
    jb_333 rc d 10 [(0, .retAddr 0), (1, .ref a1), (2, .ref a2), (3, .int (x3 + (6 : Int32)))] [] h3
  else
    if jx_bool (0 : Int32) = true then some (some (.int (0 : Int32)), h3) else none :=
  (jx_G_run (jx_X_grows rc jx_dflt jx_mt d) 64 _).trans rfl
set_option maxRecDepth 100000 in
theorem je_333_391 (rc : Nat → Nat × (Nat → Int32)) (d : Nat) (a1 : Nat) (a2 : Nat) (x3 : Int32) (h : jxH) : jb_333 rc d 391 [(0, .retAddr 0), (1, .ref a1), (2, .ref a2), (3, .int x3)] [] h =
  if jx_out (x3 + (1 : Int32)) (rc 0).1 = true then none else
  jx_cI (jx_C rc d 18 [.ref a1, .int ((rc 0).2 ((x3 + (1 : Int32))).toNatClampNeg)] h) fun v2 h1 =>
  if jx_out (x3 + (1 : Int32)) (rc 0).1 = true then none else
  jx_cI (jx_C rc d 140 [.ref a2, .int ((rc 0).2 ((x3 + (1 : Int32))).toNatClampNeg)] h1) fun v4 h3 =>
  if v2 = v4 then
    jb_333 rc d 10 [(0, .retAddr 0), (1, .ref a1), (2, .ref a2), (3, .int (x3 + (6 : Int32)))] [] h3
  else
    if jx_bool (0 : Int32) = true then some (some (.int (0 : Int32)), h3) else none :=
  (jx_G_run (jx_X_grows rc jx_dflt jx_mt d) 64 _).trans rfl
set_option maxRecDepth 100000 in
theorem je_333_408 (rc : Nat → Nat × (Nat → Int32)) (d : Nat) (a1 : Nat) (a2 : Nat) (x3 : Int32) (h : jxH) : jb_333 rc d 408 [(0, .retAddr 0), (1, .ref a1), (2, .ref a2), (3, .int x3)] [] h =
  jx_cI (jx_C rc d 19 [.ref a1] h) fun v2 h1 =>
  jx_cI (jx_C rc d 141 [.ref a2] h1) fun v4 h3 =>
  if v2 = v4 then
    jb_333 rc d 10 [(0, .retAddr 0), (1, .ref a1), (2, .ref a2), (3, .int (x3 + (6 : Int32)))] [] h3
  else
    if jx_bool (0 : Int32) = true then some (some (.int (0 : Int32)), h3) else none :=
  (jx_G_run (jx_X_grows rc jx_dflt jx_mt d) 64 _).trans rfl
set_option maxRecDepth 100000 in
theorem je_333_415 (rc : Nat → Nat × (Nat → Int32)) (d : Nat) (a1 : Nat) (a2 : Nat) (x3 : Int32) (h : jxH) : jb_333 rc d 415 [(0, .retAddr 0), (1, .ref a1), (2, .ref a2), (3, .int x3)] [] h =
  if jx_out (x3 + (1 : Int32)) (rc 0).1 = true then none else
  if jx_out (x3 + (2 : Int32)) (rc 0).1 = true then none else
  if jx_out (x3 + (3 : Int32)) (rc 0).1 = true then none else
  jx_cI (jx_C rc d 20 [.ref a1, .int ((rc 0).2 ((x3 + (1 : Int32))).toNatClampNeg), .int ((rc 0).2 ((x3 + (2 : Int32))).toNatClampNeg), .int ((rc 0).2 ((x3 + (3 : Int32))).toNatClampNeg)] h) fun v2 h1 =>
  if jx_out (x3 + (1 : Int32)) (rc 0).1 = true then none else
  if jx_out (x3 + (2 : Int32)) (rc 0).1 = true then none else
  if jx_out (x3 + (3 : Int32)) (rc 0).1 = true then none else
  jx_cI (jx_C rc d 143 [.ref a2, .int ((rc 0).2 ((x3 + (1 : Int32))).toNatClampNeg), .int ((rc 0).2 ((x3 + (2 : Int32))).toNatClampNeg), .int ((rc 0).2 ((x3 + (3 : Int32))).toNatClampNeg)] h1) fun v4 h3 =>
  if v2 = v4 then
    jb_333 rc d 10 [(0, .retAddr 0), (1, .ref a1), (2, .ref a2), (3, .int (x3 + (6 : Int32)))] [] h3
  else
    if jx_bool (0 : Int32) = true then some (some (.int (0 : Int32)), h3) else none :=
  (jx_G_run (jx_X_grows rc jx_dflt jx_mt d) 64 _).trans rfl
set_option maxRecDepth 100000 in
theorem je_333_452 (rc : Nat → Nat × (Nat → Int32)) (d : Nat) (a1 : Nat) (a2 : Nat) (x3 : Int32) (h : jxH) : jb_333 rc d 452 [(0, .retAddr 0), (1, .ref a1), (2, .ref a2), (3, .int x3)] [] h =
  if jx_out (x3 + (1 : Int32)) (rc 0).1 = true then none else
  if jx_out (x3 + (2 : Int32)) (rc 0).1 = true then none else
  jx_cI (jx_C rc d 21 [.ref a1, .int ((rc 0).2 ((x3 + (1 : Int32))).toNatClampNeg), .int ((rc 0).2 ((x3 + (2 : Int32))).toNatClampNeg)] h) fun v2 h1 =>
  if jx_out (x3 + (1 : Int32)) (rc 0).1 = true then none else
  if jx_out (x3 + (2 : Int32)) (rc 0).1 = true then none else
  jx_cI (jx_C rc d 148 [.ref a2, .int ((rc 0).2 ((x3 + (1 : Int32))).toNatClampNeg), .int ((rc 0).2 ((x3 + (2 : Int32))).toNatClampNeg)] h1) fun v4 h3 =>
  if v2 = v4 then
    jb_333 rc d 10 [(0, .retAddr 0), (1, .ref a1), (2, .ref a2), (3, .int (x3 + (6 : Int32)))] [] h3
  else
    if jx_bool (0 : Int32) = true then some (some (.int (0 : Int32)), h3) else none :=
  (jx_G_run (jx_X_grows rc jx_dflt jx_mt d) 64 _).trans rfl
set_option maxRecDepth 100000 in
theorem je_333_479 (rc : Nat → Nat × (Nat → Int32)) (d : Nat) (a1 : Nat) (a2 : Nat) (x3 : Int32) (h : jxH) : jb_333 rc d 479 [(0, .retAddr 0), (1, .ref a1), (2, .ref a2), (3, .int x3)] [] h =
  if jx_out (x3 + (1 : Int32)) (rc 0).1 = true then none else
  if jx_out (x3 + (2 : Int32)) (rc 0).1 = true then none else
  jx_cI (jx_C rc d 22 [.ref a1, .int ((rc 0).2 ((x3 + (1 : Int32))).toNatClampNeg), .int ((rc 0).2 ((x3 + (2 : Int32))).toNatClampNeg)] h) fun v2 h1 =>
  if jx_out (x3 + (1 : Int32)) (rc 0).1 = true then none else
  if jx_out (x3 + (2 : Int32)) (rc 0).1 = true then none else
  jx_cI (jx_C rc d 149 [.ref a2, .int ((rc 0).2 ((x3 + (1 : Int32))).toNatClampNeg), .int ((rc 0).2 ((x3 + (2 : Int32))).toNatClampNeg)] h1) fun v4 h3 =>
  if v2 = v4 then
    jb_333 rc d 10 [(0, .retAddr 0), (1, .ref a1), (2, .ref a2), (3, .int (x3 + (6 : Int32)))] [] h3
  else
    if jx_bool (0 : Int32) = true then some (some (.int (0 : Int32)), h3) else none :=
  (jx_G_run (jx_X_grows rc jx_dflt jx_mt d) 64 _).trans rfl
set_option maxRecDepth 100000 in
theorem je_333_506 (rc : Nat → Nat × (Nat → Int32)) (d : Nat) (a1 : Nat) (a2 : Nat) (x3 : Int32) (h : jxH) : jb_333 rc d 506 [(0, .retAddr 0), (1, .ref a1), (2, .ref a2), (3, .int x3)] [] h =
  if jx_out (x3 + (1 : Int32)) (rc 0).1 = true then none else
  if jx_out (x3 + (2 : Int32)) (rc 0).1 = true then none else
  if jx_out (x3 + (3 : Int32)) (rc 0).1 = true then none else
  jx_cI (jx_C rc d 23 [.ref a1, .int ((rc 0).2 ((x3 + (1 : Int32))).toNatClampNeg), .int ((rc 0).2 ((x3 + (2 : Int32))).toNatClampNeg), .int ((rc 0).2 ((x3 + (3 : Int32))).toNatClampNeg)] h) fun v2 h1 =>
  if jx_out (x3 + (1 : Int32)) (rc 0).1 = true then none else
  if jx_out (x3 + (2 : Int32)) (rc 0).1 = true then none else
  if jx_out (x3 + (3 : Int32)) (rc 0).1 = true then none else
  jx_cI (jx_C rc d 152 [.ref a2, .int ((rc 0).2 ((x3 + (1 : Int32))).toNatClampNeg), .int ((rc 0).2 ((x3 + (2 : Int32))).toNatClampNeg), .int ((rc 0).2 ((x3 + (3 : Int32))).toNatClampNeg)] h1) fun v4 h3 =>
  if v2 = v4 then
    jb_333 rc d 10 [(0, .retAddr 0), (1, .ref a1), (2, .ref a2), (3, .int (x3 + (6 : Int32)))] [] h3
  else
    if jx_bool (0 : Int32) = true then some (some (.int (0 : Int32)), h3) else none :=
  (jx_G_run (jx_X_grows rc jx_dflt jx_mt d) 64 _).trans rfl
set_option maxRecDepth 100000 in
theorem je_333_543 (rc : Nat → Nat × (Nat → Int32)) (d : Nat) (a1 : Nat) (a2 : Nat) (x3 : Int32) (h : jxH) : jb_333 rc d 543 [(0, .retAddr 0), (1, .ref a1), (2, .ref a2), (3, .int x3)] [] h =
  if jx_out (x3 + (1 : Int32)) (rc 0).1 = true then none else
  if jx_out (x3 + (2 : Int32)) (rc 0).1 = true then none else
  jx_cI (jx_C rc d 24 [.ref a1, .int ((rc 0).2 ((x3 + (1 : Int32))).toNatClampNeg), .int ((rc 0).2 ((x3 + (2 : Int32))).toNatClampNeg)] h) fun v2 h1 =>
  if jx_out (x3 + (1 : Int32)) (rc 0).1 = true then none else
  if jx_out (x3 + (2 : Int32)) (rc 0).1 = true then none else
  jx_cI (jx_C rc d 153 [.ref a2, .int ((rc 0).2 ((x3 + (1 : Int32))).toNatClampNeg), .int ((rc 0).2 ((x3 + (2 : Int32))).toNatClampNeg)] h1) fun v4 h3 =>
  if v2 = v4 then
    jb_333 rc d 10 [(0, .retAddr 0), (1, .ref a1), (2, .ref a2), (3, .int (x3 + (6 : Int32)))] [] h3
  else
    if jx_bool (0 : Int32) = true then some (some (.int (0 : Int32)), h3) else none :=
  (jx_G_run (jx_X_grows rc jx_dflt jx_mt d) 64 _).trans rfl
set_option maxRecDepth 100000 in
theorem je_333_570 (rc : Nat → Nat × (Nat → Int32)) (d : Nat) (a1 : Nat) (a2 : Nat) (x3 : Int32) (h : jxH) : jb_333 rc d 570 [(0, .retAddr 0), (1, .ref a1), (2, .ref a2), (3, .int x3)] [] h =
  if jx_out (x3 + (1 : Int32)) (rc 0).1 = true then none else
  if jx_out (x3 + (2 : Int32)) (rc 0).1 = true then none else
  if jx_out (x3 + (3 : Int32)) (rc 0).1 = true then none else
  jx_cI (jx_C rc d 25 [.ref a1, .long (((((rc 0).2 ((x3 + (1 : Int32))).toNatClampNeg)).toInt64 <<< (((32 : Int32)).toInt64 &&& 63)) ||| ((((rc 0).2 ((x3 + (2 : Int32))).toNatClampNeg)).toInt64 &&& (4294967295 : Int64))), .int ((rc 0).2 ((x3 + (3 : Int32))).toNatClampNeg)] h) fun v2 h1 =>
  if jx_out (x3 + (1 : Int32)) (rc 0).1 = true then none else
  if jx_out (x3 + (2 : Int32)) (rc 0).1 = true then none else
  if jx_out (x3 + (3 : Int32)) (rc 0).1 = true then none else
  jx_cI (jx_C rc d 154 [.ref a2, .long (((((rc 0).2 ((x3 + (1 : Int32))).toNatClampNeg)).toInt64 <<< (((32 : Int32)).toInt64 &&& 63)) ||| ((((rc 0).2 ((x3 + (2 : Int32))).toNatClampNeg)).toInt64 &&& (4294967295 : Int64))), .int ((rc 0).2 ((x3 + (3 : Int32))).toNatClampNeg)] h1) fun v4 h3 =>
  if v2 = v4 then
    jb_333 rc d 10 [(0, .retAddr 0), (1, .ref a1), (2, .ref a2), (3, .int (x3 + (6 : Int32)))] [] h3
  else
    if jx_bool (0 : Int32) = true then some (some (.int (0 : Int32)), h3) else none :=
  (jx_G_run (jx_X_grows rc jx_dflt jx_mt d) 64 _).trans rfl
set_option maxRecDepth 100000 in
theorem je_333_621 (rc : Nat → Nat × (Nat → Int32)) (d : Nat) (a1 : Nat) (a2 : Nat) (x3 : Int32) (h : jxH) : jb_333 rc d 621 [(0, .retAddr 0), (1, .ref a1), (2, .ref a2), (3, .int x3)] [] h =
  jx_cI (jx_C rc d 26 [.ref a1] h) fun v2 h1 =>
  jx_cI (jx_C rc d 161 [.ref a2] h1) fun v4 h3 =>
  if v2 = v4 then
    jb_333 rc d 10 [(0, .retAddr 0), (1, .ref a1), (2, .ref a2), (3, .int (x3 + (6 : Int32)))] [] h3
  else
    if jx_bool (0 : Int32) = true then some (some (.int (0 : Int32)), h3) else none :=
  (jx_G_run (jx_X_grows rc jx_dflt jx_mt d) 64 _).trans rfl
set_option maxRecDepth 100000 in
theorem je_333_628 (rc : Nat → Nat × (Nat → Int32)) (d : Nat) (a1 : Nat) (a2 : Nat) (x3 : Int32) (h : jxH) : jb_333 rc d 628 [(0, .retAddr 0), (1, .ref a1), (2, .ref a2), (3, .int x3)] [] h =
  if jx_out (x3 + (1 : Int32)) (rc 0).1 = true then none else
  jx_cI (jx_C rc d 27 [.ref a1, .int ((rc 0).2 ((x3 + (1 : Int32))).toNatClampNeg)] h) fun v2 h1 =>
  if jx_out (x3 + (1 : Int32)) (rc 0).1 = true then none else
  jx_cI (jx_C rc d 167 [.ref a2, .int ((rc 0).2 ((x3 + (1 : Int32))).toNatClampNeg)] h1) fun v4 h3 =>
  if v2 = v4 then
    jb_333 rc d 10 [(0, .retAddr 0), (1, .ref a1), (2, .ref a2), (3, .int (x3 + (6 : Int32)))] [] h3
  else
    if jx_bool (0 : Int32) = true then some (some (.int (0 : Int32)), h3) else none :=
  (jx_G_run (jx_X_grows rc jx_dflt jx_mt d) 64 _).trans rfl
set_option maxRecDepth 100000 in
theorem je_333_645 (rc : Nat → Nat × (Nat → Int32)) (d : Nat) (a1 : Nat) (a2 : Nat) (x3 : Int32) (h : jxH) : jb_333 rc d 645 [(0, .retAddr 0), (1, .ref a1), (2, .ref a2), (3, .int x3)] [] h =
  if jx_out (x3 + (1 : Int32)) (rc 0).1 = true then none else
  jx_cI (jx_C rc d 28 [.ref a1, .int ((rc 0).2 ((x3 + (1 : Int32))).toNatClampNeg)] h) fun v2 h1 =>
  if jx_out (x3 + (1 : Int32)) (rc 0).1 = true then none else
  jx_cI (jx_C rc d 169 [.ref a2, .int ((rc 0).2 ((x3 + (1 : Int32))).toNatClampNeg)] h1) fun v4 h3 =>
  if v2 = v4 then
    jb_333 rc d 10 [(0, .retAddr 0), (1, .ref a1), (2, .ref a2), (3, .int (x3 + (6 : Int32)))] [] h3
  else
    if jx_bool (0 : Int32) = true then some (some (.int (0 : Int32)), h3) else none :=
  (jx_G_run (jx_X_grows rc jx_dflt jx_mt d) 64 _).trans rfl
set_option maxRecDepth 100000 in
theorem je_333_662 (rc : Nat → Nat × (Nat → Int32)) (d : Nat) (a1 : Nat) (a2 : Nat) (x3 : Int32) (h : jxH) : jb_333 rc d 662 [(0, .retAddr 0), (1, .ref a1), (2, .ref a2), (3, .int x3)] [] h =
  if jx_out (x3 + (1 : Int32)) (rc 0).1 = true then none else
  jx_cI (jx_C rc d 29 [.ref a1, .int ((rc 0).2 ((x3 + (1 : Int32))).toNatClampNeg)] h) fun v2 h1 =>
  if jx_out (x3 + (1 : Int32)) (rc 0).1 = true then none else
  jx_cI (jx_C rc d 170 [.ref a2, .int ((rc 0).2 ((x3 + (1 : Int32))).toNatClampNeg)] h1) fun v4 h3 =>
  if v2 = v4 then
    jb_333 rc d 10 [(0, .retAddr 0), (1, .ref a1), (2, .ref a2), (3, .int (x3 + (6 : Int32)))] [] h3
  else
    if jx_bool (0 : Int32) = true then some (some (.int (0 : Int32)), h3) else none :=
  (jx_G_run (jx_X_grows rc jx_dflt jx_mt d) 64 _).trans rfl
set_option maxRecDepth 100000 in
theorem je_333_679 (rc : Nat → Nat × (Nat → Int32)) (d : Nat) (a1 : Nat) (a2 : Nat) (x3 : Int32) (h : jxH) : jb_333 rc d 679 [(0, .retAddr 0), (1, .ref a1), (2, .ref a2), (3, .int x3)] [] h =
  if jx_out (x3 + (1 : Int32)) (rc 0).1 = true then none else
  jx_cI (jx_C rc d 30 [.ref a1, .int ((rc 0).2 ((x3 + (1 : Int32))).toNatClampNeg)] h) fun v2 h1 =>
  if jx_out (x3 + (1 : Int32)) (rc 0).1 = true then none else
  jx_cI (jx_C rc d 171 [.ref a2, .int ((rc 0).2 ((x3 + (1 : Int32))).toNatClampNeg)] h1) fun v4 h3 =>
  if v2 = v4 then
    jb_333 rc d 10 [(0, .retAddr 0), (1, .ref a1), (2, .ref a2), (3, .int (x3 + (6 : Int32)))] [] h3
  else
    if jx_bool (0 : Int32) = true then some (some (.int (0 : Int32)), h3) else none :=
  (jx_G_run (jx_X_grows rc jx_dflt jx_mt d) 64 _).trans rfl
set_option maxRecDepth 100000 in
theorem je_333_696 (rc : Nat → Nat × (Nat → Int32)) (d : Nat) (a1 : Nat) (a2 : Nat) (x3 : Int32) (h : jxH) : jb_333 rc d 696 [(0, .retAddr 0), (1, .ref a1), (2, .ref a2), (3, .int x3)] [] h =
  if jx_out (x3 + (1 : Int32)) (rc 0).1 = true then none else
  jx_cI (jx_C rc d 31 [.ref a1, .int ((rc 0).2 ((x3 + (1 : Int32))).toNatClampNeg)] h) fun v2 h1 =>
  if jx_out (x3 + (1 : Int32)) (rc 0).1 = true then none else
  jx_cI (jx_C rc d 174 [.ref a2, .int ((rc 0).2 ((x3 + (1 : Int32))).toNatClampNeg)] h1) fun v4 h3 =>
  if v2 = v4 then
    jb_333 rc d 10 [(0, .retAddr 0), (1, .ref a1), (2, .ref a2), (3, .int (x3 + (6 : Int32)))] [] h3
  else
    if jx_bool (0 : Int32) = true then some (some (.int (0 : Int32)), h3) else none :=
  (jx_G_run (jx_X_grows rc jx_dflt jx_mt d) 64 _).trans rfl
set_option maxRecDepth 100000 in
theorem je_333_713 (rc : Nat → Nat × (Nat → Int32)) (d : Nat) (a1 : Nat) (a2 : Nat) (x3 : Int32) (h : jxH) : jb_333 rc d 713 [(0, .retAddr 0), (1, .ref a1), (2, .ref a2), (3, .int x3)] [] h =
  if jx_out (x3 + (1 : Int32)) (rc 0).1 = true then none else
  if jx_out (x3 + (2 : Int32)) (rc 0).1 = true then none else
  jx_cI (jx_C rc d 32 [.ref a1, .int ((rc 0).2 ((x3 + (1 : Int32))).toNatClampNeg), .int ((rc 0).2 ((x3 + (2 : Int32))).toNatClampNeg)] h) fun v2 h1 =>
  if jx_out (x3 + (1 : Int32)) (rc 0).1 = true then none else
  if jx_out (x3 + (2 : Int32)) (rc 0).1 = true then none else
  jx_cI (jx_C rc d 176 [.ref a2, .int ((rc 0).2 ((x3 + (1 : Int32))).toNatClampNeg), .int ((rc 0).2 ((x3 + (2 : Int32))).toNatClampNeg)] h1) fun v4 h3 =>
  if v2 = v4 then
    jb_333 rc d 10 [(0, .retAddr 0), (1, .ref a1), (2, .ref a2), (3, .int (x3 + (6 : Int32)))] [] h3
  else
    if jx_bool (0 : Int32) = true then some (some (.int (0 : Int32)), h3) else none :=
  (jx_G_run (jx_X_grows rc jx_dflt jx_mt d) 64 _).trans rfl
set_option maxRecDepth 100000 in
theorem je_333_740 (rc : Nat → Nat × (Nat → Int32)) (d : Nat) (a1 : Nat) (a2 : Nat) (x3 : Int32) (h : jxH) : jb_333 rc d 740 [(0, .retAddr 0), (1, .ref a1), (2, .ref a2), (3, .int x3)] [] h =
  if jx_out (x3 + (1 : Int32)) (rc 0).1 = true then none else
  if jx_out (x3 + (2 : Int32)) (rc 0).1 = true then none else
  jx_cI (jx_C rc d 33 [.ref a1, .int ((rc 0).2 ((x3 + (1 : Int32))).toNatClampNeg), .int ((rc 0).2 ((x3 + (2 : Int32))).toNatClampNeg)] h) fun v2 h1 =>
  if jx_out (x3 + (1 : Int32)) (rc 0).1 = true then none else
  if jx_out (x3 + (2 : Int32)) (rc 0).1 = true then none else
  jx_cI (jx_C rc d 178 [.ref a2, .int ((rc 0).2 ((x3 + (1 : Int32))).toNatClampNeg), .int ((rc 0).2 ((x3 + (2 : Int32))).toNatClampNeg)] h1) fun v4 h3 =>
  if v2 = v4 then
    jb_333 rc d 10 [(0, .retAddr 0), (1, .ref a1), (2, .ref a2), (3, .int (x3 + (6 : Int32)))] [] h3
  else
    if jx_bool (0 : Int32) = true then some (some (.int (0 : Int32)), h3) else none :=
  (jx_G_run (jx_X_grows rc jx_dflt jx_mt d) 64 _).trans rfl
set_option maxRecDepth 100000 in
theorem je_333_767 (rc : Nat → Nat × (Nat → Int32)) (d : Nat) (a1 : Nat) (a2 : Nat) (x3 : Int32) (h : jxH) : jb_333 rc d 767 [(0, .retAddr 0), (1, .ref a1), (2, .ref a2), (3, .int x3)] [] h =
  if jx_out (x3 + (1 : Int32)) (rc 0).1 = true then none else
  if jx_out (x3 + (2 : Int32)) (rc 0).1 = true then none else
  jx_cI (jx_C rc d 34 [.ref a1, .int ((rc 0).2 ((x3 + (1 : Int32))).toNatClampNeg), .int ((rc 0).2 ((x3 + (2 : Int32))).toNatClampNeg)] h) fun v2 h1 =>
  if jx_out (x3 + (1 : Int32)) (rc 0).1 = true then none else
  if jx_out (x3 + (2 : Int32)) (rc 0).1 = true then none else
  jx_cI (jx_C rc d 179 [.ref a2, .int ((rc 0).2 ((x3 + (1 : Int32))).toNatClampNeg), .int ((rc 0).2 ((x3 + (2 : Int32))).toNatClampNeg)] h1) fun v4 h3 =>
  if v2 = v4 then
    jb_333 rc d 10 [(0, .retAddr 0), (1, .ref a1), (2, .ref a2), (3, .int (x3 + (6 : Int32)))] [] h3
  else
    if jx_bool (0 : Int32) = true then some (some (.int (0 : Int32)), h3) else none :=
  (jx_G_run (jx_X_grows rc jx_dflt jx_mt d) 64 _).trans rfl
set_option maxRecDepth 100000 in
theorem je_333_794 (rc : Nat → Nat × (Nat → Int32)) (d : Nat) (a1 : Nat) (a2 : Nat) (x3 : Int32) (h : jxH) : jb_333 rc d 794 [(0, .retAddr 0), (1, .ref a1), (2, .ref a2), (3, .int x3)] [] h =
  if jx_out (x3 + (1 : Int32)) (rc 0).1 = true then none else
  if jx_out (x3 + (2 : Int32)) (rc 0).1 = true then none else
  jx_cI (jx_C rc d 35 [.ref a1, .int ((rc 0).2 ((x3 + (1 : Int32))).toNatClampNeg), .int ((rc 0).2 ((x3 + (2 : Int32))).toNatClampNeg)] h) fun v2 h1 =>
  if jx_out (x3 + (1 : Int32)) (rc 0).1 = true then none else
  if jx_out (x3 + (2 : Int32)) (rc 0).1 = true then none else
  jx_cI (jx_C rc d 180 [.ref a2, .int ((rc 0).2 ((x3 + (1 : Int32))).toNatClampNeg), .int ((rc 0).2 ((x3 + (2 : Int32))).toNatClampNeg)] h1) fun v4 h3 =>
  if v2 = v4 then
    jb_333 rc d 10 [(0, .retAddr 0), (1, .ref a1), (2, .ref a2), (3, .int (x3 + (6 : Int32)))] [] h3
  else
    if jx_bool (0 : Int32) = true then some (some (.int (0 : Int32)), h3) else none :=
  (jx_G_run (jx_X_grows rc jx_dflt jx_mt d) 64 _).trans rfl
set_option maxRecDepth 100000 in
theorem je_333_821 (rc : Nat → Nat × (Nat → Int32)) (d : Nat) (a1 : Nat) (a2 : Nat) (x3 : Int32) (h : jxH) : jb_333 rc d 821 [(0, .retAddr 0), (1, .ref a1), (2, .ref a2), (3, .int x3)] [] h =
  if jx_out (x3 + (1 : Int32)) (rc 0).1 = true then none else
  if jx_out (x3 + (2 : Int32)) (rc 0).1 = true then none else
  jx_cI (jx_C rc d 36 [.ref a1, .int ((rc 0).2 ((x3 + (1 : Int32))).toNatClampNeg), .int ((rc 0).2 ((x3 + (2 : Int32))).toNatClampNeg)] h) fun v2 h1 =>
  if jx_out (x3 + (1 : Int32)) (rc 0).1 = true then none else
  if jx_out (x3 + (2 : Int32)) (rc 0).1 = true then none else
  jx_cI (jx_C rc d 183 [.ref a2, .int ((rc 0).2 ((x3 + (1 : Int32))).toNatClampNeg), .int ((rc 0).2 ((x3 + (2 : Int32))).toNatClampNeg)] h1) fun v4 h3 =>
  if v2 = v4 then
    jb_333 rc d 10 [(0, .retAddr 0), (1, .ref a1), (2, .ref a2), (3, .int (x3 + (6 : Int32)))] [] h3
  else
    if jx_bool (0 : Int32) = true then some (some (.int (0 : Int32)), h3) else none :=
  (jx_G_run (jx_X_grows rc jx_dflt jx_mt d) 64 _).trans rfl
set_option maxRecDepth 100000 in
theorem je_333_848 (rc : Nat → Nat × (Nat → Int32)) (d : Nat) (a1 : Nat) (a2 : Nat) (x3 : Int32) (h : jxH) : jb_333 rc d 848 [(0, .retAddr 0), (1, .ref a1), (2, .ref a2), (3, .int x3)] [] h =
  if jx_out (x3 + (1 : Int32)) (rc 0).1 = true then none else
  if jx_out (x3 + (2 : Int32)) (rc 0).1 = true then none else
  jx_cI (jx_C rc d 37 [.ref a1, .int ((rc 0).2 ((x3 + (1 : Int32))).toNatClampNeg), .int ((rc 0).2 ((x3 + (2 : Int32))).toNatClampNeg)] h) fun v2 h1 =>
  if jx_out (x3 + (1 : Int32)) (rc 0).1 = true then none else
  if jx_out (x3 + (2 : Int32)) (rc 0).1 = true then none else
  jx_cI (jx_C rc d 184 [.ref a2, .int ((rc 0).2 ((x3 + (1 : Int32))).toNatClampNeg), .int ((rc 0).2 ((x3 + (2 : Int32))).toNatClampNeg)] h1) fun v4 h3 =>
  if v2 = v4 then
    jb_333 rc d 10 [(0, .retAddr 0), (1, .ref a1), (2, .ref a2), (3, .int (x3 + (6 : Int32)))] [] h3
  else
    if jx_bool (0 : Int32) = true then some (some (.int (0 : Int32)), h3) else none :=
  (jx_G_run (jx_X_grows rc jx_dflt jx_mt d) 64 _).trans rfl
set_option maxRecDepth 100000 in
theorem je_333_875 (rc : Nat → Nat × (Nat → Int32)) (d : Nat) (a1 : Nat) (a2 : Nat) (x3 : Int32) (h : jxH) : jb_333 rc d 875 [(0, .retAddr 0), (1, .ref a1), (2, .ref a2), (3, .int x3)] [] h =
  if jx_out (x3 + (1 : Int32)) (rc 0).1 = true then none else
  if jx_out (x3 + (2 : Int32)) (rc 0).1 = true then none else
  jx_cI (jx_C rc d 38 [.ref a1, .int ((rc 0).2 ((x3 + (1 : Int32))).toNatClampNeg), .int ((rc 0).2 ((x3 + (2 : Int32))).toNatClampNeg)] h) fun v2 h1 =>
  if jx_out (x3 + (1 : Int32)) (rc 0).1 = true then none else
  if jx_out (x3 + (2 : Int32)) (rc 0).1 = true then none else
  jx_cI (jx_C rc d 187 [.ref a2, .int ((rc 0).2 ((x3 + (1 : Int32))).toNatClampNeg), .int ((rc 0).2 ((x3 + (2 : Int32))).toNatClampNeg)] h1) fun v4 h3 =>
  if v2 = v4 then
    jb_333 rc d 10 [(0, .retAddr 0), (1, .ref a1), (2, .ref a2), (3, .int (x3 + (6 : Int32)))] [] h3
  else
    if jx_bool (0 : Int32) = true then some (some (.int (0 : Int32)), h3) else none :=
  (jx_G_run (jx_X_grows rc jx_dflt jx_mt d) 64 _).trans rfl
set_option maxRecDepth 100000 in
theorem je_333_902 (rc : Nat → Nat × (Nat → Int32)) (d : Nat) (a1 : Nat) (a2 : Nat) (x3 : Int32) (h : jxH) : jb_333 rc d 902 [(0, .retAddr 0), (1, .ref a1), (2, .ref a2), (3, .int x3)] [] h =
  if jx_out (x3 + (1 : Int32)) (rc 0).1 = true then none else
  jx_cI (jx_C rc d 39 [.ref a1, .int ((rc 0).2 ((x3 + (1 : Int32))).toNatClampNeg)] h) fun v2 h1 =>
  if jx_out (x3 + (1 : Int32)) (rc 0).1 = true then none else
  jx_cI (jx_C rc d 188 [.ref a2, .int ((rc 0).2 ((x3 + (1 : Int32))).toNatClampNeg)] h1) fun v4 h3 =>
  if v2 = v4 then
    jb_333 rc d 10 [(0, .retAddr 0), (1, .ref a1), (2, .ref a2), (3, .int (x3 + (6 : Int32)))] [] h3
  else
    if jx_bool (0 : Int32) = true then some (some (.int (0 : Int32)), h3) else none :=
  (jx_G_run (jx_X_grows rc jx_dflt jx_mt d) 64 _).trans rfl
set_option maxRecDepth 100000 in
theorem je_333_919 (rc : Nat → Nat × (Nat → Int32)) (d : Nat) (a1 : Nat) (a2 : Nat) (x3 : Int32) (h : jxH) : jb_333 rc d 919 [(0, .retAddr 0), (1, .ref a1), (2, .ref a2), (3, .int x3)] [] h =
  if jx_out (x3 + (1 : Int32)) (rc 0).1 = true then none else
  if jx_out (x3 + (2 : Int32)) (rc 0).1 = true then none else
  jx_cI (jx_C rc d 40 [.ref a1, .int ((rc 0).2 ((x3 + (1 : Int32))).toNatClampNeg), .int ((rc 0).2 ((x3 + (2 : Int32))).toNatClampNeg)] h) fun v2 h1 =>
  if jx_out (x3 + (1 : Int32)) (rc 0).1 = true then none else
  if jx_out (x3 + (2 : Int32)) (rc 0).1 = true then none else
  jx_cI (jx_C rc d 190 [.ref a2, .int ((rc 0).2 ((x3 + (1 : Int32))).toNatClampNeg), .int ((rc 0).2 ((x3 + (2 : Int32))).toNatClampNeg)] h1) fun v4 h3 =>
  if v2 = v4 then
    jb_333 rc d 10 [(0, .retAddr 0), (1, .ref a1), (2, .ref a2), (3, .int (x3 + (6 : Int32)))] [] h3
  else
    if jx_bool (0 : Int32) = true then some (some (.int (0 : Int32)), h3) else none :=
  (jx_G_run (jx_X_grows rc jx_dflt jx_mt d) 64 _).trans rfl
set_option maxRecDepth 100000 in
theorem je_333_946 (rc : Nat → Nat × (Nat → Int32)) (d : Nat) (a1 : Nat) (a2 : Nat) (x3 : Int32) (h : jxH) : jb_333 rc d 946 [(0, .retAddr 0), (1, .ref a1), (2, .ref a2), (3, .int x3)] [] h =
  if jx_out (x3 + (1 : Int32)) (rc 0).1 = true then none else
  if jx_out (x3 + (2 : Int32)) (rc 0).1 = true then none else
  jx_cI (jx_C rc d 41 [.ref a1, .int ((rc 0).2 ((x3 + (1 : Int32))).toNatClampNeg), .int ((rc 0).2 ((x3 + (2 : Int32))).toNatClampNeg)] h) fun v2 h1 =>
  if jx_out (x3 + (1 : Int32)) (rc 0).1 = true then none else
  if jx_out (x3 + (2 : Int32)) (rc 0).1 = true then none else
  jx_cI (jx_C rc d 192 [.ref a2, .int ((rc 0).2 ((x3 + (1 : Int32))).toNatClampNeg), .int ((rc 0).2 ((x3 + (2 : Int32))).toNatClampNeg)] h1) fun v4 h3 =>
  if v2 = v4 then
    jb_333 rc d 10 [(0, .retAddr 0), (1, .ref a1), (2, .ref a2), (3, .int (x3 + (6 : Int32)))] [] h3
  else
    if jx_bool (0 : Int32) = true then some (some (.int (0 : Int32)), h3) else none :=
  (jx_G_run (jx_X_grows rc jx_dflt jx_mt d) 64 _).trans rfl
set_option maxRecDepth 100000 in
theorem je_333_973 (rc : Nat → Nat × (Nat → Int32)) (d : Nat) (a1 : Nat) (a2 : Nat) (x3 : Int32) (h : jxH) : jb_333 rc d 973 [(0, .retAddr 0), (1, .ref a1), (2, .ref a2), (3, .int x3)] [] h =
  if jx_out (x3 + (1 : Int32)) (rc 0).1 = true then none else
  if jx_out (x3 + (2 : Int32)) (rc 0).1 = true then none else
  if jx_out (x3 + (3 : Int32)) (rc 0).1 = true then none else
  jx_cI (jx_C rc d 42 [.ref a1, .int ((rc 0).2 ((x3 + (1 : Int32))).toNatClampNeg), .int ((rc 0).2 ((x3 + (2 : Int32))).toNatClampNeg), .int ((rc 0).2 ((x3 + (3 : Int32))).toNatClampNeg)] h) fun v2 h1 =>
  if jx_out (x3 + (1 : Int32)) (rc 0).1 = true then none else
  if jx_out (x3 + (2 : Int32)) (rc 0).1 = true then none else
  if jx_out (x3 + (3 : Int32)) (rc 0).1 = true then none else
  jx_cI (jx_C rc d 193 [.ref a2, .int ((rc 0).2 ((x3 + (1 : Int32))).toNatClampNeg), .int ((rc 0).2 ((x3 + (2 : Int32))).toNatClampNeg), .int ((rc 0).2 ((x3 + (3 : Int32))).toNatClampNeg)] h1) fun v4 h3 =>
  if v2 = v4 then
    jb_333 rc d 10 [(0, .retAddr 0), (1, .ref a1), (2, .ref a2), (3, .int (x3 + (6 : Int32)))] [] h3
  else
    if jx_bool (0 : Int32) = true then some (some (.int (0 : Int32)), h3) else none :=
  (jx_G_run (jx_X_grows rc jx_dflt jx_mt d) 64 _).trans rfl
set_option maxRecDepth 100000 in
theorem je_333_1010 (rc : Nat → Nat × (Nat → Int32)) (d : Nat) (a1 : Nat) (a2 : Nat) (x3 : Int32) (h : jxH) : jb_333 rc d 1010 [(0, .retAddr 0), (1, .ref a1), (2, .ref a2), (3, .int x3)] [] h =
  if jx_out (x3 + (1 : Int32)) (rc 0).1 = true then none else
  if jx_out (x3 + (2 : Int32)) (rc 0).1 = true then none else
  if jx_out (x3 + (3 : Int32)) (rc 0).1 = true then none else
  jx_cI (jx_C rc d 43 [.ref a1, .int ((rc 0).2 ((x3 + (1 : Int32))).toNatClampNeg), .int ((rc 0).2 ((x3 + (2 : Int32))).toNatClampNeg), .int ((rc 0).2 ((x3 + (3 : Int32))).toNatClampNeg)] h) fun v2 h1 =>
  if jx_out (x3 + (1 : Int32)) (rc 0).1 = true then none else
  if jx_out (x3 + (2 : Int32)) (rc 0).1 = true then none else
  if jx_out (x3 + (3 : Int32)) (rc 0).1 = true then none else
  jx_cI (jx_C rc d 196 [.ref a2, .int ((rc 0).2 ((x3 + (1 : Int32))).toNatClampNeg), .int ((rc 0).2 ((x3 + (2 : Int32))).toNatClampNeg), .int ((rc 0).2 ((x3 + (3 : Int32))).toNatClampNeg)] h1) fun v4 h3 =>
  if v2 = v4 then
    jb_333 rc d 10 [(0, .retAddr 0), (1, .ref a1), (2, .ref a2), (3, .int (x3 + (6 : Int32)))] [] h3
  else
    if jx_bool (0 : Int32) = true then some (some (.int (0 : Int32)), h3) else none :=
  (jx_G_run (jx_X_grows rc jx_dflt jx_mt d) 64 _).trans rfl
set_option maxRecDepth 100000 in
theorem je_333_1047 (rc : Nat → Nat × (Nat → Int32)) (d : Nat) (a1 : Nat) (a2 : Nat) (x3 : Int32) (h : jxH) : jb_333 rc d 1047 [(0, .retAddr 0), (1, .ref a1), (2, .ref a2), (3, .int x3)] [] h =
  if jx_out (x3 + (1 : Int32)) (rc 0).1 = true then none else
  if jx_out (x3 + (2 : Int32)) (rc 0).1 = true then none else
  jx_cI (jx_C rc d 44 [.ref a1, .int ((rc 0).2 ((x3 + (1 : Int32))).toNatClampNeg), .int ((rc 0).2 ((x3 + (2 : Int32))).toNatClampNeg)] h) fun v2 h1 =>
  if jx_out (x3 + (1 : Int32)) (rc 0).1 = true then none else
  if jx_out (x3 + (2 : Int32)) (rc 0).1 = true then none else
  jx_cI (jx_C rc d 197 [.ref a2, .int ((rc 0).2 ((x3 + (1 : Int32))).toNatClampNeg), .int ((rc 0).2 ((x3 + (2 : Int32))).toNatClampNeg)] h1) fun v4 h3 =>
  if v2 = v4 then
    jb_333 rc d 10 [(0, .retAddr 0), (1, .ref a1), (2, .ref a2), (3, .int (x3 + (6 : Int32)))] [] h3
  else
    if jx_bool (0 : Int32) = true then some (some (.int (0 : Int32)), h3) else none :=
  (jx_G_run (jx_X_grows rc jx_dflt jx_mt d) 64 _).trans rfl
set_option maxRecDepth 100000 in
theorem je_333_1074 (rc : Nat → Nat × (Nat → Int32)) (d : Nat) (a1 : Nat) (a2 : Nat) (x3 : Int32) (h : jxH) : jb_333 rc d 1074 [(0, .retAddr 0), (1, .ref a1), (2, .ref a2), (3, .int x3)] [] h =
  if jx_out (x3 + (1 : Int32)) (rc 0).1 = true then none else
  if jx_out (x3 + (2 : Int32)) (rc 0).1 = true then none else
  if jx_out (x3 + (3 : Int32)) (rc 0).1 = true then none else
  if jx_out (x3 + (4 : Int32)) (rc 0).1 = true then none else
  if jx_out (x3 + (5 : Int32)) (rc 0).1 = true then none else
  jx_cI (jx_C rc d 45 [.ref a1, .int ((rc 0).2 ((x3 + (1 : Int32))).toNatClampNeg), .int ((rc 0).2 ((x3 + (2 : Int32))).toNatClampNeg), .int ((rc 0).2 ((x3 + (3 : Int32))).toNatClampNeg), .int ((rc 0).2 ((x3 + (4 : Int32))).toNatClampNeg), .int ((rc 0).2 ((x3 + (5 : Int32))).toNatClampNeg)] h) fun v2 h1 =>
  if jx_out (x3 + (1 : Int32)) (rc 0).1 = true then none else
  if jx_out (x3 + (2 : Int32)) (rc 0).1 = true then none else
  if jx_out (x3 + (3 : Int32)) (rc 0).1 = true then none else
  if jx_out (x3 + (4 : Int32)) (rc 0).1 = true then none else
  if jx_out (x3 + (5 : Int32)) (rc 0).1 = true then none else
  jx_cI (jx_C rc d 198 [.ref a2, .int ((rc 0).2 ((x3 + (1 : Int32))).toNatClampNeg), .int ((rc 0).2 ((x3 + (2 : Int32))).toNatClampNeg), .int ((rc 0).2 ((x3 + (3 : Int32))).toNatClampNeg), .int ((rc 0).2 ((x3 + (4 : Int32))).toNatClampNeg), .int ((rc 0).2 ((x3 + (5 : Int32))).toNatClampNeg)] h1) fun v4 h3 =>
  if v2 = v4 then
    jb_333 rc d 10 [(0, .retAddr 0), (1, .ref a1), (2, .ref a2), (3, .int (x3 + (6 : Int32)))] [] h3
  else
    if jx_bool (0 : Int32) = true then some (some (.int (0 : Int32)), h3) else none :=
  (jx_G_run (jx_X_grows rc jx_dflt jx_mt d) 64 _).trans rfl
set_option maxRecDepth 100000 in
theorem je_333_1131 (rc : Nat → Nat × (Nat → Int32)) (d : Nat) (a1 : Nat) (a2 : Nat) (x3 : Int32) (h : jxH) : jb_333 rc d 1131 [(0, .retAddr 0), (1, .ref a1), (2, .ref a2), (3, .int x3)] [] h =
  if jx_out (x3 + (1 : Int32)) (rc 0).1 = true then none else
  jx_cI (jx_C rc d 46 [.ref a1, .int ((rc 0).2 ((x3 + (1 : Int32))).toNatClampNeg)] h) fun v2 h1 =>
  if jx_out (x3 + (1 : Int32)) (rc 0).1 = true then none else
  jx_cI (jx_C rc d 200 [.ref a2, .int ((rc 0).2 ((x3 + (1 : Int32))).toNatClampNeg)] h1) fun v4 h3 =>
  if v2 = v4 then
    jb_333 rc d 10 [(0, .retAddr 0), (1, .ref a1), (2, .ref a2), (3, .int (x3 + (6 : Int32)))] [] h3
  else
    if jx_bool (0 : Int32) = true then some (some (.int (0 : Int32)), h3) else none :=
  (jx_G_run (jx_X_grows rc jx_dflt jx_mt d) 64 _).trans rfl
set_option maxRecDepth 100000 in
theorem je_333_1148 (rc : Nat → Nat × (Nat → Int32)) (d : Nat) (a1 : Nat) (a2 : Nat) (x3 : Int32) (h : jxH) : jb_333 rc d 1148 [(0, .retAddr 0), (1, .ref a1), (2, .ref a2), (3, .int x3)] [] h =
  if jx_out (x3 + (1 : Int32)) (rc 0).1 = true then none else
  jx_cI (jx_C rc d 47 [.ref a1, .int ((rc 0).2 ((x3 + (1 : Int32))).toNatClampNeg)] h) fun v2 h1 =>
  if jx_out (x3 + (1 : Int32)) (rc 0).1 = true then none else
  jx_cI (jx_C rc d 201 [.ref a2, .int ((rc 0).2 ((x3 + (1 : Int32))).toNatClampNeg)] h1) fun v4 h3 =>
  if v2 = v4 then
    jb_333 rc d 10 [(0, .retAddr 0), (1, .ref a1), (2, .ref a2), (3, .int (x3 + (6 : Int32)))] [] h3
  else
    if jx_bool (0 : Int32) = true then some (some (.int (0 : Int32)), h3) else none :=
  (jx_G_run (jx_X_grows rc jx_dflt jx_mt d) 64 _).trans rfl
set_option maxRecDepth 100000 in
theorem je_333_1165 (rc : Nat → Nat × (Nat → Int32)) (d : Nat) (a1 : Nat) (a2 : Nat) (x3 : Int32) (h : jxH) : jb_333 rc d 1165 [(0, .retAddr 0), (1, .ref a1), (2, .ref a2), (3, .int x3)] [] h =
  if jx_out (x3 + (1 : Int32)) (rc 0).1 = true then none else
  if jx_out (x3 + (2 : Int32)) (rc 0).1 = true then none else
  jx_cI (jx_C rc d 48 [.ref a1, .int ((rc 0).2 ((x3 + (1 : Int32))).toNatClampNeg), .int ((rc 0).2 ((x3 + (2 : Int32))).toNatClampNeg)] h) fun v2 h1 =>
  if jx_out (x3 + (1 : Int32)) (rc 0).1 = true then none else
  if jx_out (x3 + (2 : Int32)) (rc 0).1 = true then none else
  jx_cI (jx_C rc d 202 [.ref a2, .int ((rc 0).2 ((x3 + (1 : Int32))).toNatClampNeg), .int ((rc 0).2 ((x3 + (2 : Int32))).toNatClampNeg)] h1) fun v4 h3 =>
  if v2 = v4 then
    jb_333 rc d 10 [(0, .retAddr 0), (1, .ref a1), (2, .ref a2), (3, .int (x3 + (6 : Int32)))] [] h3
  else
    if jx_bool (0 : Int32) = true then some (some (.int (0 : Int32)), h3) else none :=
  (jx_G_run (jx_X_grows rc jx_dflt jx_mt d) 64 _).trans rfl
set_option maxRecDepth 100000 in
theorem je_333_1192 (rc : Nat → Nat × (Nat → Int32)) (d : Nat) (a1 : Nat) (a2 : Nat) (x3 : Int32) (h : jxH) : jb_333 rc d 1192 [(0, .retAddr 0), (1, .ref a1), (2, .ref a2), (3, .int x3)] [] h =
  jx_cI (jx_C rc d 49 [.ref a1] h) fun v2 h1 =>
  jx_cI (jx_C rc d 203 [.ref a2] h1) fun v4 h3 =>
  if v2 = v4 then
    jb_333 rc d 10 [(0, .retAddr 0), (1, .ref a1), (2, .ref a2), (3, .int (x3 + (6 : Int32)))] [] h3
  else
    if jx_bool (0 : Int32) = true then some (some (.int (0 : Int32)), h3) else none :=
  (jx_G_run (jx_X_grows rc jx_dflt jx_mt d) 64 _).trans rfl
set_option maxRecDepth 100000 in
theorem je_333_1199 (rc : Nat → Nat × (Nat → Int32)) (d : Nat) (a1 : Nat) (a2 : Nat) (x3 : Int32) (h : jxH) : jb_333 rc d 1199 [(0, .retAddr 0), (1, .ref a1), (2, .ref a2), (3, .int x3)] [] h =
  jx_cI (jx_C rc d 50 [.ref a1] h) fun v2 h1 =>
  jx_cI (jx_C rc d 204 [.ref a2] h1) fun v4 h3 =>
  if v2 = v4 then
    jb_333 rc d 10 [(0, .retAddr 0), (1, .ref a1), (2, .ref a2), (3, .int (x3 + (6 : Int32)))] [] h3
  else
    if jx_bool (0 : Int32) = true then some (some (.int (0 : Int32)), h3) else none :=
  (jx_G_run (jx_X_grows rc jx_dflt jx_mt d) 64 _).trans rfl
set_option maxRecDepth 100000 in
theorem je_333_1206 (rc : Nat → Nat × (Nat → Int32)) (d : Nat) (a1 : Nat) (a2 : Nat) (x3 : Int32) (h : jxH) : jb_333 rc d 1206 [(0, .retAddr 0), (1, .ref a1), (2, .ref a2), (3, .int x3)] [] h =
  if jx_out (x3 + (1 : Int32)) (rc 0).1 = true then none else
  jx_cI (jx_C rc d 51 [.ref a1, .int ((rc 0).2 ((x3 + (1 : Int32))).toNatClampNeg)] h) fun v2 h1 =>
  if jx_out (x3 + (1 : Int32)) (rc 0).1 = true then none else
  jx_cI (jx_C rc d 208 [.ref a2, .int ((rc 0).2 ((x3 + (1 : Int32))).toNatClampNeg)] h1) fun v4 h3 =>
  if v2 = v4 then
    jb_333 rc d 10 [(0, .retAddr 0), (1, .ref a1), (2, .ref a2), (3, .int (x3 + (6 : Int32)))] [] h3
  else
    if jx_bool (0 : Int32) = true then some (some (.int (0 : Int32)), h3) else none :=
  (jx_G_run (jx_X_grows rc jx_dflt jx_mt d) 64 _).trans rfl
set_option maxRecDepth 100000 in
theorem je_333_1223 (rc : Nat → Nat × (Nat → Int32)) (d : Nat) (a1 : Nat) (a2 : Nat) (x3 : Int32) (h : jxH) : jb_333 rc d 1223 [(0, .retAddr 0), (1, .ref a1), (2, .ref a2), (3, .int x3)] [] h =
  if jx_out (x3 + (1 : Int32)) (rc 0).1 = true then none else
  jx_cI (jx_C rc d 52 [.ref a1, .int ((rc 0).2 ((x3 + (1 : Int32))).toNatClampNeg)] h) fun v2 h1 =>
  if jx_out (x3 + (1 : Int32)) (rc 0).1 = true then none else
  jx_cI (jx_C rc d 209 [.ref a2, .int ((rc 0).2 ((x3 + (1 : Int32))).toNatClampNeg)] h1) fun v4 h3 =>
  if v2 = v4 then
    jb_333 rc d 10 [(0, .retAddr 0), (1, .ref a1), (2, .ref a2), (3, .int (x3 + (6 : Int32)))] [] h3
  else
    if jx_bool (0 : Int32) = true then some (some (.int (0 : Int32)), h3) else none :=
  (jx_G_run (jx_X_grows rc jx_dflt jx_mt d) 64 _).trans rfl
