-- RoomTreesModel.<init>()V
set_option maxRecDepth 100000 in
theorem je_71 (rc : Nat → Nat × (Nat → Int32)) (d : Nat) (a0 : Nat) (h : jxH) : jx_C rc (d + 1) 71 [.ref a0] h =
  if jx_is (jx_at h a0) 12 = true then
  if (8 : Int32) < 0 ∨ 5000 < (8 : Int32) then none else
  (jx_pF (jx_at (jx_new h ((8 : Int32)).toNatClampNeg (jx_arr 0 ((8 : Int32)).toNatClampNeg)) a0) 12 0 (.ref h.1)).bind fun e1 =>
  if (25 : Int32) < 0 ∨ 5000 < (25 : Int32) then none else
  (jx_pF (jx_at (jx_new (jx_set (jx_new h ((8 : Int32)).toNatClampNeg (jx_arr 0 ((8 : Int32)).toNatClampNeg)) a0 e1) ((25 : Int32)).toNatClampNeg (jx_arr 0 ((25 : Int32)).toNatClampNeg)) a0) 12 1 (.ref (jx_set (jx_new h ((8 : Int32)).toNatClampNeg (jx_arr 0 ((8 : Int32)).toNatClampNeg)) a0 e1).1)).bind fun e2 =>
  if (41 : Int32) < 0 ∨ 5000 < (41 : Int32) ∨ (25 : Int32) < 0 ∨ 5000 < (25 : Int32) then none else
  (jx_pF (jx_at (jx_inner (jx_set (jx_new (jx_set (jx_new h ((8 : Int32)).toNatClampNeg (jx_arr 0 ((8 : Int32)).toNatClampNeg)) a0 e1) ((25 : Int32)).toNatClampNeg (jx_arr 0 ((25 : Int32)).toNatClampNeg)) a0 e2) ((41 : Int32)).toNatClampNeg ((25 : Int32)).toNatClampNeg) a0) 12 2 (.ref (jx_set (jx_new (jx_set (jx_new h ((8 : Int32)).toNatClampNeg (jx_arr 0 ((8 : Int32)).toNatClampNeg)) a0 e1) ((25 : Int32)).toNatClampNeg (jx_arr 0 ((25 : Int32)).toNatClampNeg)) a0 e2).1)).bind fun e3 =>
  if (240 : Int32) < 0 ∨ 5000 < (240 : Int32) then none else
  (jx_pF (jx_at (jx_new (jx_set (jx_inner (jx_set (jx_new (jx_set (jx_new h ((8 : Int32)).toNatClampNeg (jx_arr 0 ((8 : Int32)).toNatClampNeg)) a0 e1) ((25 : Int32)).toNatClampNeg (jx_arr 0 ((25 : Int32)).toNatClampNeg)) a0 e2) ((41 : Int32)).toNatClampNeg ((25 : Int32)).toNatClampNeg) a0 e3) ((240 : Int32)).toNatClampNeg (jx_arr 0 ((240 : Int32)).toNatClampNeg)) a0) 12 3 (.ref (jx_set (jx_inner (jx_set (jx_new (jx_set (jx_new h ((8 : Int32)).toNatClampNeg (jx_arr 0 ((8 : Int32)).toNatClampNeg)) a0 e1) ((25 : Int32)).toNatClampNeg (jx_arr 0 ((25 : Int32)).toNatClampNeg)) a0 e2) ((41 : Int32)).toNatClampNeg ((25 : Int32)).toNatClampNeg) a0 e3).1)).bind fun e4 =>
  if (4096 : Int32) < 0 ∨ 5000 < (4096 : Int32) then none else
  (jx_pF (jx_at (jx_new (jx_set (jx_new (jx_set (jx_inner (jx_set (jx_new (jx_set (jx_new h ((8 : Int32)).toNatClampNeg (jx_arr 0 ((8 : Int32)).toNatClampNeg)) a0 e1) ((25 : Int32)).toNatClampNeg (jx_arr 0 ((25 : Int32)).toNatClampNeg)) a0 e2) ((41 : Int32)).toNatClampNeg ((25 : Int32)).toNatClampNeg) a0 e3) ((240 : Int32)).toNatClampNeg (jx_arr 0 ((240 : Int32)).toNatClampNeg)) a0 e4) ((4096 : Int32)).toNatClampNeg (jx_arr 1 ((4096 : Int32)).toNatClampNeg)) a0) 12 6 (.ref (jx_set (jx_new (jx_set (jx_inner (jx_set (jx_new (jx_set (jx_new h ((8 : Int32)).toNatClampNeg (jx_arr 0 ((8 : Int32)).toNatClampNeg)) a0 e1) ((25 : Int32)).toNatClampNeg (jx_arr 0 ((25 : Int32)).toNatClampNeg)) a0 e2) ((41 : Int32)).toNatClampNeg ((25 : Int32)).toNatClampNeg) a0 e3) ((240 : Int32)).toNatClampNeg (jx_arr 0 ((240 : Int32)).toNatClampNeg)) a0 e4).1)).bind fun e5 =>
  if (4096 : Int32) < 0 ∨ 5000 < (4096 : Int32) then none else
  (jx_pF (jx_at (jx_new (jx_set (jx_new (jx_set (jx_new (jx_set (jx_inner (jx_set (jx_new (jx_set (jx_new h ((8 : Int32)).toNatClampNeg (jx_arr 0 ((8 : Int32)).toNatClampNeg)) a0 e1) ((25 : Int32)).toNatClampNeg (jx_arr 0 ((25 : Int32)).toNatClampNeg)) a0 e2) ((41 : Int32)).toNatClampNeg ((25 : Int32)).toNatClampNeg) a0 e3) ((240 : Int32)).toNatClampNeg (jx_arr 0 ((240 : Int32)).toNatClampNeg)) a0 e4) ((4096 : Int32)).toNatClampNeg (jx_arr 1 ((4096 : Int32)).toNatClampNeg)) a0 e5) ((4096 : Int32)).toNatClampNeg (jx_arr 1 ((4096 : Int32)).toNatClampNeg)) a0) 12 7 (.ref (jx_set (jx_new (jx_set (jx_new (jx_set (jx_inner (jx_set (jx_new (jx_set (jx_new h ((8 : Int32)).toNatClampNeg (jx_arr 0 ((8 : Int32)).toNatClampNeg)) a0 e1) ((25 : Int32)).toNatClampNeg (jx_arr 0 ((25 : Int32)).toNatClampNeg)) a0 e2) ((41 : Int32)).toNatClampNeg ((25 : Int32)).toNatClampNeg) a0 e3) ((240 : Int32)).toNatClampNeg (jx_arr 0 ((240 : Int32)).toNatClampNeg)) a0 e4) ((4096 : Int32)).toNatClampNeg (jx_arr 1 ((4096 : Int32)).toNatClampNeg)) a0 e5).1)).bind fun e6 =>
  if (13 : Int32) < 0 ∨ 5000 < (13 : Int32) then none else
  (jx_pF (jx_at (jx_new (jx_set (jx_new (jx_set (jx_new (jx_set (jx_new (jx_set (jx_inner (jx_set (jx_new (jx_set (jx_new h ((8 : Int32)).toNatClampNeg (jx_arr 0 ((8 : Int32)).toNatClampNeg)) a0 e1) ((25 : Int32)).toNatClampNeg (jx_arr 0 ((25 : Int32)).toNatClampNeg)) a0 e2) ((41 : Int32)).toNatClampNeg ((25 : Int32)).toNatClampNeg) a0 e3) ((240 : Int32)).toNatClampNeg (jx_arr 0 ((240 : Int32)).toNatClampNeg)) a0 e4) ((4096 : Int32)).toNatClampNeg (jx_arr 1 ((4096 : Int32)).toNatClampNeg)) a0 e5) ((4096 : Int32)).toNatClampNeg (jx_arr 1 ((4096 : Int32)).toNatClampNeg)) a0 e6) ((13 : Int32)).toNatClampNeg (jx_arr 1 ((13 : Int32)).toNatClampNeg)) a0) 12 8 (.ref (jx_set (jx_new (jx_set (jx_new (jx_set (jx_new (jx_set (jx_inner (jx_set (jx_new (jx_set (jx_new h ((8 : Int32)).toNatClampNeg (jx_arr 0 ((8 : Int32)).toNatClampNeg)) a0 e1) ((25 : Int32)).toNatClampNeg (jx_arr 0 ((25 : Int32)).toNatClampNeg)) a0 e2) ((41 : Int32)).toNatClampNeg ((25 : Int32)).toNatClampNeg) a0 e3) ((240 : Int32)).toNatClampNeg (jx_arr 0 ((240 : Int32)).toNatClampNeg)) a0 e4) ((4096 : Int32)).toNatClampNeg (jx_arr 1 ((4096 : Int32)).toNatClampNeg)) a0 e5) ((4096 : Int32)).toNatClampNeg (jx_arr 1 ((4096 : Int32)).toNatClampNeg)) a0 e6).1)).bind fun e7 =>
  if (12 : Int32) < 0 ∨ 5000 < (12 : Int32) ∨ (12 : Int32) < 0 ∨ 5000 < (12 : Int32) then none else
  (jx_pF (jx_at (jx_inner (jx_set (jx_new (jx_set (jx_new (jx_set (jx_new (jx_set (jx_new (jx_set (jx_inner (jx_set (jx_new (jx_set (jx_new h ((8 : Int32)).toNatClampNeg (jx_arr 0 ((8 : Int32)).toNatClampNeg)) a0 e1) ((25 : Int32)).toNatClampNeg (jx_arr 0 ((25 : Int32)).toNatClampNeg)) a0 e2) ((41 : Int32)).toNatClampNeg ((25 : Int32)).toNatClampNeg) a0 e3) ((240 : Int32)).toNatClampNeg (jx_arr 0 ((240 : Int32)).toNatClampNeg)) a0 e4) ((4096 : Int32)).toNatClampNeg (jx_arr 1 ((4096 : Int32)).toNatClampNeg)) a0 e5) ((4096 : Int32)).toNatClampNeg (jx_arr 1 ((4096 : Int32)).toNatClampNeg)) a0 e6) ((13 : Int32)).toNatClampNeg (jx_arr 1 ((13 : Int32)).toNatClampNeg)) a0 e7) ((12 : Int32)).toNatClampNeg ((12 : Int32)).toNatClampNeg) a0) 12 9 (.ref (jx_set (jx_new (jx_set (jx_new (jx_set (jx_new (jx_set (jx_new (jx_set (jx_inner (jx_set (jx_new (jx_set (jx_new h ((8 : Int32)).toNatClampNeg (jx_arr 0 ((8 : Int32)).toNatClampNeg)) a0 e1) ((25 : Int32)).toNatClampNeg (jx_arr 0 ((25 : Int32)).toNatClampNeg)) a0 e2) ((41 : Int32)).toNatClampNeg ((25 : Int32)).toNatClampNeg) a0 e3) ((240 : Int32)).toNatClampNeg (jx_arr 0 ((240 : Int32)).toNatClampNeg)) a0 e4) ((4096 : Int32)).toNatClampNeg (jx_arr 1 ((4096 : Int32)).toNatClampNeg)) a0 e5) ((4096 : Int32)).toNatClampNeg (jx_arr 1 ((4096 : Int32)).toNatClampNeg)) a0 e6) ((13 : Int32)).toNatClampNeg (jx_arr 1 ((13 : Int32)).toNatClampNeg)) a0 e7).1)).bind fun e8 =>
  if (120 : Int32) < 0 ∨ 5000 < (120 : Int32) then none else
  (jx_pF (jx_at (jx_new (jx_set (jx_inner (jx_set (jx_new (jx_set (jx_new (jx_set (jx_new (jx_set (jx_new (jx_set (jx_inner (jx_set (jx_new (jx_set (jx_new h ((8 : Int32)).toNatClampNeg (jx_arr 0 ((8 : Int32)).toNatClampNeg)) a0 e1) ((25 : Int32)).toNatClampNeg (jx_arr 0 ((25 : Int32)).toNatClampNeg)) a0 e2) ((41 : Int32)).toNatClampNeg ((25 : Int32)).toNatClampNeg) a0 e3) ((240 : Int32)).toNatClampNeg (jx_arr 0 ((240 : Int32)).toNatClampNeg)) a0 e4) ((4096 : Int32)).toNatClampNeg (jx_arr 1 ((4096 : Int32)).toNatClampNeg)) a0 e5) ((4096 : Int32)).toNatClampNeg (jx_arr 1 ((4096 : Int32)).toNatClampNeg)) a0 e6) ((13 : Int32)).toNatClampNeg (jx_arr 1 ((13 : Int32)).toNatClampNeg)) a0 e7) ((12 : Int32)).toNatClampNeg ((12 : Int32)).toNatClampNeg) a0 e8) ((120 : Int32)).toNatClampNeg (jx_arr 0 ((120 : Int32)).toNatClampNeg)) a0) 12 10 (.ref (jx_set (jx_inner (jx_set (jx_new (jx_set (jx_new (jx_set (jx_new (jx_set (jx_new (jx_set (jx_inner (jx_set (jx_new (jx_set (jx_new h ((8 : Int32)).toNatClampNeg (jx_arr 0 ((8 : Int32)).toNatClampNeg)) a0 e1) ((25 : Int32)).toNatClampNeg (jx_arr 0 ((25 : Int32)).toNatClampNeg)) a0 e2) ((41 : Int32)).toNatClampNeg ((25 : Int32)).toNatClampNeg) a0 e3) ((240 : Int32)).toNatClampNeg (jx_arr 0 ((240 : Int32)).toNatClampNeg)) a0 e4) ((4096 : Int32)).toNatClampNeg (jx_arr 1 ((4096 : Int32)).toNatClampNeg)) a0 e5) ((4096 : Int32)).toNatClampNeg (jx_arr 1 ((4096 : Int32)).toNatClampNeg)) a0 e6) ((13 : Int32)).toNatClampNeg (jx_arr 1 ((13 : Int32)).toNatClampNeg)) a0 e7) ((12 : Int32)).toNatClampNeg ((12 : Int32)).toNatClampNeg) a0 e8).1)).bind fun e9 =>
  if (25 : Int32) < 0 ∨ 5000 < (25 : Int32) then none else
  (jx_pF (jx_at (jx_new (jx_set (jx_new (jx_set (jx_inner (jx_set (jx_new (jx_set (jx_new (jx_set (jx_new (jx_set (jx_new (jx_set (jx_inner (jx_set (jx_new (jx_set (jx_new h ((8 : Int32)).toNatClampNeg (jx_arr 0 ((8 : Int32)).toNatClampNeg)) a0 e1) ((25 : Int32)).toNatClampNeg (jx_arr 0 ((25 : Int32)).toNatClampNeg)) a0 e2) ((41 : Int32)).toNatClampNeg ((25 : Int32)).toNatClampNeg) a0 e3) ((240 : Int32)).toNatClampNeg (jx_arr 0 ((240 : Int32)).toNatClampNeg)) a0 e4) ((4096 : Int32)).toNatClampNeg (jx_arr 1 ((4096 : Int32)).toNatClampNeg)) a0 e5) ((4096 : Int32)).toNatClampNeg (jx_arr 1 ((4096 : Int32)).toNatClampNeg)) a0 e6) ((13 : Int32)).toNatClampNeg (jx_arr 1 ((13 : Int32)).toNatClampNeg)) a0 e7) ((12 : Int32)).toNatClampNeg ((12 : Int32)).toNatClampNeg) a0 e8) ((120 : Int32)).toNatClampNeg (jx_arr 0 ((120 : Int32)).toNatClampNeg)) a0 e9) ((25 : Int32)).toNatClampNeg (jx_arr 0 ((25 : Int32)).toNatClampNeg)) a0) 12 14 (.ref (jx_set (jx_new (jx_set (jx_inner (jx_set (jx_new (jx_set (jx_new (jx_set (jx_new (jx_set (jx_new (jx_set (jx_inner (jx_set (jx_new (jx_set (jx_new h ((8 : Int32)).toNatClampNeg (jx_arr 0 ((8 : Int32)).toNatClampNeg)) a0 e1) ((25 : Int32)).toNatClampNeg (jx_arr 0 ((25 : Int32)).toNatClampNeg)) a0 e2) ((41 : Int32)).toNatClampNeg ((25 : Int32)).toNatClampNeg) a0 e3) ((240 : Int32)).toNatClampNeg (jx_arr 0 ((240 : Int32)).toNatClampNeg)) a0 e4) ((4096 : Int32)).toNatClampNeg (jx_arr 1 ((4096 : Int32)).toNatClampNeg)) a0 e5) ((4096 : Int32)).toNatClampNeg (jx_arr 1 ((4096 : Int32)).toNatClampNeg)) a0 e6) ((13 : Int32)).toNatClampNeg (jx_arr 1 ((13 : Int32)).toNatClampNeg)) a0 e7) ((12 : Int32)).toNatClampNeg ((12 : Int32)).toNatClampNeg) a0 e8) ((120 : Int32)).toNatClampNeg (jx_arr 0 ((120 : Int32)).toNatClampNeg)) a0 e9).1)).bind fun e10 =>
  if (12 : Int32) < 0 ∨ 5000 < (12 : Int32) then none else
  (jx_pF (jx_at (jx_new (jx_set (jx_new (jx_set (jx_new (jx_set (jx_inner (jx_set (jx_new (jx_set (jx_new (jx_set (jx_new (jx_set (jx_new (jx_set (jx_inner (jx_set (jx_new (jx_set (jx_new h ((8 : Int32)).toNatClampNeg (jx_arr 0 ((8 : Int32)).toNatClampNeg)) a0 e1) ((25 : Int32)).toNatClampNeg (jx_arr 0 ((25 : Int32)).toNatClampNeg)) a0 e2) ((41 : Int32)).toNatClampNeg ((25 : Int32)).toNatClampNeg) a0 e3) ((240 : Int32)).toNatClampNeg (jx_arr 0 ((240 : Int32)).toNatClampNeg)) a0 e4) ((4096 : Int32)).toNatClampNeg (jx_arr 1 ((4096 : Int32)).toNatClampNeg)) a0 e5) ((4096 : Int32)).toNatClampNeg (jx_arr 1 ((4096 : Int32)).toNatClampNeg)) a0 e6) ((13 : Int32)).toNatClampNeg (jx_arr 1 ((13 : Int32)).toNatClampNeg)) a0 e7) ((12 : Int32)).toNatClampNeg ((12 : Int32)).toNatClampNeg) a0 e8) ((120 : Int32)).toNatClampNeg (jx_arr 0 ((120 : Int32)).toNatClampNeg)) a0 e9) ((25 : Int32)).toNatClampNeg (jx_arr 0 ((25 : Int32)).toNatClampNeg)) a0 e10) ((12 : Int32)).toNatClampNeg (jx_arr 0 ((12 : Int32)).toNatClampNeg)) a0) 12 15 (.ref (jx_set (jx_new (jx_set (jx_new (jx_set (jx_inner (jx_set (jx_new (jx_set (jx_new (jx_set (jx_new (jx_set (jx_new (jx_set (jx_inner (jx_set (jx_new (jx_set (jx_new h ((8 : Int32)).toNatClampNeg (jx_arr 0 ((8 : Int32)).toNatClampNeg)) a0 e1) ((25 : Int32)).toNatClampNeg (jx_arr 0 ((25 : Int32)).toNatClampNeg)) a0 e2) ((41 : Int32)).toNatClampNeg ((25 : Int32)).toNatClampNeg) a0 e3) ((240 : Int32)).toNatClampNeg (jx_arr 0 ((240 : Int32)).toNatClampNeg)) a0 e4) ((4096 : Int32)).toNatClampNeg (jx_arr 1 ((4096 : Int32)).toNatClampNeg)) a0 e5) ((4096 : Int32)).toNatClampNeg (jx_arr 1 ((4096 : Int32)).toNatClampNeg)) a0 e6) ((13 : Int32)).toNatClampNeg (jx_arr 1 ((13 : Int32)).toNatClampNeg)) a0 e7) ((12 : Int32)).toNatClampNeg ((12 : Int32)).toNatClampNeg) a0 e8) ((120 : Int32)).toNatClampNeg (jx_arr 0 ((120 : Int32)).toNatClampNeg)) a0 e9) ((25 : Int32)).toNatClampNeg (jx_arr 0 ((25 : Int32)).toNatClampNeg)) a0 e10).1)).bind fun e11 =>
  if (12 : Int32) < 0 ∨ 5000 < (12 : Int32) ∨ (64 : Int32) < 0 ∨ 5000 < (64 : Int32) then none else
  (jx_pF (jx_at (jx_inner (jx_set (jx_new (jx_set (jx_new (jx_set (jx_new (jx_set (jx_inner (jx_set (jx_new (jx_set (jx_new (jx_set (jx_new (jx_set (jx_new (jx_set (jx_inner (jx_set (jx_new (jx_set (jx_new h ((8 : Int32)).toNatClampNeg (jx_arr 0 ((8 : Int32)).toNatClampNeg)) a0 e1) ((25 : Int32)).toNatClampNeg (jx_arr 0 ((25 : Int32)).toNatClampNeg)) a0 e2) ((41 : Int32)).toNatClampNeg ((25 : Int32)).toNatClampNeg) a0 e3) ((240 : Int32)).toNatClampNeg (jx_arr 0 ((240 : Int32)).toNatClampNeg)) a0 e4) ((4096 : Int32)).toNatClampNeg (jx_arr 1 ((4096 : Int32)).toNatClampNeg)) a0 e5) ((4096 : Int32)).toNatClampNeg (jx_arr 1 ((4096 : Int32)).toNatClampNeg)) a0 e6) ((13 : Int32)).toNatClampNeg (jx_arr 1 ((13 : Int32)).toNatClampNeg)) a0 e7) ((12 : Int32)).toNatClampNeg ((12 : Int32)).toNatClampNeg) a0 e8) ((120 : Int32)).toNatClampNeg (jx_arr 0 ((120 : Int32)).toNatClampNeg)) a0 e9) ((25 : Int32)).toNatClampNeg (jx_arr 0 ((25 : Int32)).toNatClampNeg)) a0 e10) ((12 : Int32)).toNatClampNeg (jx_arr 0 ((12 : Int32)).toNatClampNeg)) a0 e11) ((12 : Int32)).toNatClampNeg ((64 : Int32)).toNatClampNeg) a0) 12 16 (.ref (jx_set (jx_new (jx_set (jx_new (jx_set (jx_new (jx_set (jx_inner (jx_set (jx_new (jx_set (jx_new (jx_set (jx_new (jx_set (jx_new (jx_set (jx_inner (jx_set (jx_new (jx_set (jx_new h ((8 : Int32)).toNatClampNeg (jx_arr 0 ((8 : Int32)).toNatClampNeg)) a0 e1) ((25 : Int32)).toNatClampNeg (jx_arr 0 ((25 : Int32)).toNatClampNeg)) a0 e2) ((41 : Int32)).toNatClampNeg ((25 : Int32)).toNatClampNeg) a0 e3) ((240 : Int32)).toNatClampNeg (jx_arr 0 ((240 : Int32)).toNatClampNeg)) a0 e4) ((4096 : Int32)).toNatClampNeg (jx_arr 1 ((4096 : Int32)).toNatClampNeg)) a0 e5) ((4096 : Int32)).toNatClampNeg (jx_arr 1 ((4096 : Int32)).toNatClampNeg)) a0 e6) ((13 : Int32)).toNatClampNeg (jx_arr 1 ((13 : Int32)).toNatClampNeg)) a0 e7) ((12 : Int32)).toNatClampNeg ((12 : Int32)).toNatClampNeg) a0 e8) ((120 : Int32)).toNatClampNeg (jx_arr 0 ((120 : Int32)).toNatClampNeg)) a0 e9) ((25 : Int32)).toNatClampNeg (jx_arr 0 ((25 : Int32)).toNatClampNeg)) a0 e10) ((12 : Int32)).toNatClampNeg (jx_arr 0 ((12 : Int32)).toNatClampNeg)) a0 e11).1)).bind fun e12 =>
  if (12 : Int32) < 0 ∨ 5000 < (12 : Int32) then none else
  (jx_pF (jx_at (jx_new (jx_set (jx_inner (jx_set (jx_new (jx_set (jx_new (jx_set (jx_new (jx_set (jx_inner (jx_set (jx_new (jx_set (jx_new (jx_set (jx_new (jx_set (jx_new (jx_set (jx_inner (jx_set (jx_new (jx_set (jx_new h ((8 : Int32)).toNatClampNeg (jx_arr 0 ((8 : Int32)).toNatClampNeg)) a0 e1) ((25 : Int32)).toNatClampNeg (jx_arr 0 ((25 : Int32)).toNatClampNeg)) a0 e2) ((41 : Int32)).toNatClampNeg ((25 : Int32)).toNatClampNeg) a0 e3) ((240 : Int32)).toNatClampNeg (jx_arr 0 ((240 : Int32)).toNatClampNeg)) a0 e4) ((4096 : Int32)).toNatClampNeg (jx_arr 1 ((4096 : Int32)).toNatClampNeg)) a0 e5) ((4096 : Int32)).toNatClampNeg (jx_arr 1 ((4096 : Int32)).toNatClampNeg)) a0 e6) ((13 : Int32)).toNatClampNeg (jx_arr 1 ((13 : Int32)).toNatClampNeg)) a0 e7) ((12 : Int32)).toNatClampNeg ((12 : Int32)).toNatClampNeg) a0 e8) ((120 : Int32)).toNatClampNeg (jx_arr 0 ((120 : Int32)).toNatClampNeg)) a0 e9) ((25 : Int32)).toNatClampNeg (jx_arr 0 ((25 : Int32)).toNatClampNeg)) a0 e10) ((12 : Int32)).toNatClampNeg (jx_arr 0 ((12 : Int32)).toNatClampNeg)) a0 e11) ((12 : Int32)).toNatClampNeg ((64 : Int32)).toNatClampNeg) a0 e12) ((12 : Int32)).toNatClampNeg (jx_arr 0 ((12 : Int32)).toNatClampNeg)) a0) 12 17 (.ref (jx_set (jx_inner (jx_set (jx_new (jx_set (jx_new (jx_set (jx_new (jx_set (jx_inner (jx_set (jx_new (jx_set (jx_new (jx_set (jx_new (jx_set (jx_new (jx_set (jx_inner (jx_set (jx_new (jx_set (jx_new h ((8 : Int32)).toNatClampNeg (jx_arr 0 ((8 : Int32)).toNatClampNeg)) a0 e1) ((25 : Int32)).toNatClampNeg (jx_arr 0 ((25 : Int32)).toNatClampNeg)) a0 e2) ((41 : Int32)).toNatClampNeg ((25 : Int32)).toNatClampNeg) a0 e3) ((240 : Int32)).toNatClampNeg (jx_arr 0 ((240 : Int32)).toNatClampNeg)) a0 e4) ((4096 : Int32)).toNatClampNeg (jx_arr 1 ((4096 : Int32)).toNatClampNeg)) a0 e5) ((4096 : Int32)).toNatClampNeg (jx_arr 1 ((4096 : Int32)).toNatClampNeg)) a0 e6) ((13 : Int32)).toNatClampNeg (jx_arr 1 ((13 : Int32)).toNatClampNeg)) a0 e7) ((12 : Int32)).toNatClampNeg ((12 : Int32)).toNatClampNeg) a0 e8) ((120 : Int32)).toNatClampNeg (jx_arr 0 ((120 : Int32)).toNatClampNeg)) a0 e9) ((25 : Int32)).toNatClampNeg (jx_arr 0 ((25 : Int32)).toNatClampNeg)) a0 e10) ((12 : Int32)).toNatClampNeg (jx_arr 0 ((12 : Int32)).toNatClampNeg)) a0 e11) ((12 : Int32)).toNatClampNeg ((64 : Int32)).toNatClampNeg) a0 e12).1)).bind fun e13 =>
  if (12 : Int32) < 0 ∨ 5000 < (12 : Int32) ∨ (64 : Int32) < 0 ∨ 5000 < (64 : Int32) then none else
  (jx_pF (jx_at (jx_inner (jx_set (jx_new (jx_set (jx_inner (jx_set (jx_new (jx_set (jx_new (jx_set (jx_new (jx_set (jx_inner (jx_set (jx_new (jx_set (jx_new (jx_set (jx_new (jx_set (jx_new (jx_set (jx_inner (jx_set (jx_new (jx_set (jx_new h ((8 : Int32)).toNatClampNeg (jx_arr 0 ((8 : Int32)).toNatClampNeg)) a0 e1) ((25 : Int32)).toNatClampNeg (jx_arr 0 ((25 : Int32)).toNatClampNeg)) a0 e2) ((41 : Int32)).toNatClampNeg ((25 : Int32)).toNatClampNeg) a0 e3) ((240 : Int32)).toNatClampNeg (jx_arr 0 ((240 : Int32)).toNatClampNeg)) a0 e4) ((4096 : Int32)).toNatClampNeg (jx_arr 1 ((4096 : Int32)).toNatClampNeg)) a0 e5) ((4096 : Int32)).toNatClampNeg (jx_arr 1 ((4096 : Int32)).toNatClampNeg)) a0 e6) ((13 : Int32)).toNatClampNeg (jx_arr 1 ((13 : Int32)).toNatClampNeg)) a0 e7) ((12 : Int32)).toNatClampNeg ((12 : Int32)).toNatClampNeg) a0 e8) ((120 : Int32)).toNatClampNeg (jx_arr 0 ((120 : Int32)).toNatClampNeg)) a0 e9) ((25 : Int32)).toNatClampNeg (jx_arr 0 ((25 : Int32)).toNatClampNeg)) a0 e10) ((12 : Int32)).toNatClampNeg (jx_arr 0 ((12 : Int32)).toNatClampNeg)) a0 e11) ((12 : Int32)).toNatClampNeg ((64 : Int32)).toNatClampNeg) a0 e12) ((12 : Int32)).toNatClampNeg (jx_arr 0 ((12 : Int32)).toNatClampNeg)) a0 e13) ((12 : Int32)).toNatClampNeg ((64 : Int32)).toNatClampNeg) a0) 12 18 (.ref (jx_set (jx_new (jx_set (jx_inner (jx_set (jx_new (jx_set (jx_new (jx_set (jx_new (jx_set (jx_inner (jx_set (jx_new (jx_set (jx_new (jx_set (jx_new (jx_set (jx_new (jx_set (jx_inner (jx_set (jx_new (jx_set (jx_new h ((8 : Int32)).toNatClampNeg (jx_arr 0 ((8 : Int32)).toNatClampNeg)) a0 e1) ((25 : Int32)).toNatClampNeg (jx_arr 0 ((25 : Int32)).toNatClampNeg)) a0 e2) ((41 : Int32)).toNatClampNeg ((25 : Int32)).toNatClampNeg) a0 e3) ((240 : Int32)).toNatClampNeg (jx_arr 0 ((240 : Int32)).toNatClampNeg)) a0 e4) ((4096 : Int32)).toNatClampNeg (jx_arr 1 ((4096 : Int32)).toNatClampNeg)) a0 e5) ((4096 : Int32)).toNatClampNeg (jx_arr 1 ((4096 : Int32)).toNatClampNeg)) a0 e6) ((13 : Int32)).toNatClampNeg (jx_arr 1 ((13 : Int32)).toNatClampNeg)) a0 e7) ((12 : Int32)).toNatClampNeg ((12 : Int32)).toNatClampNeg) a0 e8) ((120 : Int32)).toNatClampNeg (jx_arr 0 ((120 : Int32)).toNatClampNeg)) a0 e9) ((25 : Int32)).toNatClampNeg (jx_arr 0 ((25 : Int32)).toNatClampNeg)) a0 e10) ((12 : Int32)).toNatClampNeg (jx_arr 0 ((12 : Int32)).toNatClampNeg)) a0 e11) ((12 : Int32)).toNatClampNeg ((64 : Int32)).toNatClampNeg) a0 e12) ((12 : Int32)).toNatClampNeg (jx_arr 0 ((12 : Int32)).toNatClampNeg)) a0 e13).1)).bind fun e14 =>
  if (12 : Int32) < 0 ∨ 5000 < (12 : Int32) then none else
  (jx_pF (jx_at (jx_new (jx_set (jx_inner (jx_set (jx_new (jx_set (jx_inner (jx_set (jx_new (jx_set (jx_new (jx_set (jx_new (jx_set (jx_inner (jx_set (jx_new (jx_set (jx_new (jx_set (jx_new (jx_set (jx_new (jx_set (jx_inner (jx_set (jx_new (jx_set (jx_new h ((8 : Int32)).toNatClampNeg (jx_arr 0 ((8 : Int32)).toNatClampNeg)) a0 e1) ((25 : Int32)).toNatClampNeg (jx_arr 0 ((25 : Int32)).toNatClampNeg)) a0 e2) ((41 : Int32)).toNatClampNeg ((25 : Int32)).toNatClampNeg) a0 e3) ((240 : Int32)).toNatClampNeg (jx_arr 0 ((240 : Int32)).toNatClampNeg)) a0 e4) ((4096 : Int32)).toNatClampNeg (jx_arr 1 ((4096 : Int32)).toNatClampNeg)) a0 e5) ((4096 : Int32)).toNatClampNeg (jx_arr 1 ((4096 : Int32)).toNatClampNeg)) a0 e6) ((13 : Int32)).toNatClampNeg (jx_arr 1 ((13 : Int32)).toNatClampNeg)) a0 e7) ((12 : Int32)).toNatClampNeg ((12 : Int32)).toNatClampNeg) a0 e8) ((120 : Int32)).toNatClampNeg (jx_arr 0 ((120 : Int32)).toNatClampNeg)) a0 e9) ((25 : Int32)).toNatClampNeg (jx_arr 0 ((25 : Int32)).toNatClampNeg)) a0 e10) ((12 : Int32)).toNatClampNeg (jx_arr 0 ((12 : Int32)).toNatClampNeg)) a0 e11) ((12 : Int32)).toNatClampNeg ((64 : Int32)).toNatClampNeg) a0 e12) ((12 : Int32)).toNatClampNeg (jx_arr 0 ((12 : Int32)).toNatClampNeg)) a0 e13) ((12 : Int32)).toNatClampNeg ((64 : Int32)).toNatClampNeg) a0 e14) ((12 : Int32)).toNatClampNeg (jx_arr 0 ((12 : Int32)).toNatClampNeg)) a0) 12 19 (.ref (jx_set (jx_inner (jx_set (jx_new (jx_set (jx_inner (jx_set (jx_new (jx_set (jx_new (jx_set (jx_new (jx_set (jx_inner (jx_set (jx_new (jx_set (jx_new (jx_set (jx_new (jx_set (jx_new (jx_set (jx_inner (jx_set (jx_new (jx_set (jx_new h ((8 : Int32)).toNatClampNeg (jx_arr 0 ((8 : Int32)).toNatClampNeg)) a0 e1) ((25 : Int32)).toNatClampNeg (jx_arr 0 ((25 : Int32)).toNatClampNeg)) a0 e2) ((41 : Int32)).toNatClampNeg ((25 : Int32)).toNatClampNeg) a0 e3) ((240 : Int32)).toNatClampNeg (jx_arr 0 ((240 : Int32)).toNatClampNeg)) a0 e4) ((4096 : Int32)).toNatClampNeg (jx_arr 1 ((4096 : Int32)).toNatClampNeg)) a0 e5) ((4096 : Int32)).toNatClampNeg (jx_arr 1 ((4096 : Int32)).toNatClampNeg)) a0 e6) ((13 : Int32)).toNatClampNeg (jx_arr 1 ((13 : Int32)).toNatClampNeg)) a0 e7) ((12 : Int32)).toNatClampNeg ((12 : Int32)).toNatClampNeg) a0 e8) ((120 : Int32)).toNatClampNeg (jx_arr 0 ((120 : Int32)).toNatClampNeg)) a0 e9) ((25 : Int32)).toNatClampNeg (jx_arr 0 ((25 : Int32)).toNatClampNeg)) a0 e10) ((12 : Int32)).toNatClampNeg (jx_arr 0 ((12 : Int32)).toNatClampNeg)) a0 e11) ((12 : Int32)).toNatClampNeg ((64 : Int32)).toNatClampNeg) a0 e12) ((12 : Int32)).toNatClampNeg (jx_arr 0 ((12 : Int32)).toNatClampNeg)) a0 e13) ((12 : Int32)).toNatClampNeg ((64 : Int32)).toNatClampNeg) a0 e14).1)).bind fun e15 =>
  if (64 : Int32) < 0 ∨ 5000 < (64 : Int32) then none else
  (jx_pF (jx_at (jx_new (jx_set (jx_new (jx_set (jx_inner (jx_set (jx_new (jx_set (jx_inner (jx_set (jx_new (jx_set (jx_new (jx_set (jx_new (jx_set (jx_inner (jx_set (jx_new (jx_set (jx_new (jx_set (jx_new (jx_set (jx_new (jx_set (jx_inner (jx_set (jx_new (jx_set (jx_new h ((8 : Int32)).toNatClampNeg (jx_arr 0 ((8 : Int32)).toNatClampNeg)) a0 e1) ((25 : Int32)).toNatClampNeg (jx_arr 0 ((25 : Int32)).toNatClampNeg)) a0 e2) ((41 : Int32)).toNatClampNeg ((25 : Int32)).toNatClampNeg) a0 e3) ((240 : Int32)).toNatClampNeg (jx_arr 0 ((240 : Int32)).toNatClampNeg)) a0 e4) ((4096 : Int32)).toNatClampNeg (jx_arr 1 ((4096 : Int32)).toNatClampNeg)) a0 e5) ((4096 : Int32)).toNatClampNeg (jx_arr 1 ((4096 : Int32)).toNatClampNeg)) a0 e6) ((13 : Int32)).toNatClampNeg (jx_arr 1 ((13 : Int32)).toNatClampNeg)) a0 e7) ((12 : Int32)).toNatClampNeg ((12 : Int32)).toNatClampNeg) a0 e8) ((120 : Int32)).toNatClampNeg (jx_arr 0 ((120 : Int32)).toNatClampNeg)) a0 e9) ((25 : Int32)).toNatClampNeg (jx_arr 0 ((25 : Int32)).toNatClampNeg)) a0 e10) ((12 : Int32)).toNatClampNeg (jx_arr 0 ((12 : Int32)).toNatClampNeg)) a0 e11) ((12 : Int32)).toNatClampNeg ((64 : Int32)).toNatClampNeg) a0 e12) ((12 : Int32)).toNatClampNeg (jx_arr 0 ((12 : Int32)).toNatClampNeg)) a0 e13) ((12 : Int32)).toNatClampNeg ((64 : Int32)).toNatClampNeg) a0 e14) ((12 : Int32)).toNatClampNeg (jx_arr 0 ((12 : Int32)).toNatClampNeg)) a0 e15) ((64 : Int32)).toNatClampNeg (jx_arr 0 ((64 : Int32)).toNatClampNeg)) a0) 12 20 (.ref (jx_set (jx_new (jx_set (jx_inner (jx_set (jx_new (jx_set (jx_inner (jx_set (jx_new (jx_set (jx_new (jx_set (jx_new (jx_set (jx_inner (jx_set (jx_new (jx_set (jx_new (jx_set (jx_new (jx_set (jx_new (jx_set (jx_inner (jx_set (jx_new (jx_set (jx_new h ((8 : Int32)).toNatClampNeg (jx_arr 0 ((8 : Int32)).toNatClampNeg)) a0 e1) ((25 : Int32)).toNatClampNeg (jx_arr 0 ((25 : Int32)).toNatClampNeg)) a0 e2) ((41 : Int32)).toNatClampNeg ((25 : Int32)).toNatClampNeg) a0 e3) ((240 : Int32)).toNatClampNeg (jx_arr 0 ((240 : Int32)).toNatClampNeg)) a0 e4) ((4096 : Int32)).toNatClampNeg (jx_arr 1 ((4096 : Int32)).toNatClampNeg)) a0 e5) ((4096 : Int32)).toNatClampNeg (jx_arr 1 ((4096 : Int32)).toNatClampNeg)) a0 e6) ((13 : Int32)).toNatClampNeg (jx_arr 1 ((13 : Int32)).toNatClampNeg)) a0 e7) ((12 : Int32)).toNatClampNeg ((12 : Int32)).toNatClampNeg) a0 e8) ((120 : Int32)).toNatClampNeg (jx_arr 0 ((120 : Int32)).toNatClampNeg)) a0 e9) ((25 : Int32)).toNatClampNeg (jx_arr 0 ((25 : Int32)).toNatClampNeg)) a0 e10) ((12 : Int32)).toNatClampNeg (jx_arr 0 ((12 : Int32)).toNatClampNeg)) a0 e11) ((12 : Int32)).toNatClampNeg ((64 : Int32)).toNatClampNeg) a0 e12) ((12 : Int32)).toNatClampNeg (jx_arr 0 ((12 : Int32)).toNatClampNeg)) a0 e13) ((12 : Int32)).toNatClampNeg ((64 : Int32)).toNatClampNeg) a0 e14) ((12 : Int32)).toNatClampNeg (jx_arr 0 ((12 : Int32)).toNatClampNeg)) a0 e15).1)).bind fun e16 =>
  if (4 : Int32) < 0 ∨ 5000 < (4 : Int32) ∨ (25 : Int32) < 0 ∨ 5000 < (25 : Int32) then none else
  (jx_pF (jx_at (jx_inner (jx_set (jx_new (jx_set (jx_new (jx_set (jx_inner (jx_set (jx_new (jx_set (jx_inner (jx_set (jx_new (jx_set (jx_new (jx_set (jx_new (jx_set (jx_inner (jx_set (jx_new (jx_set (jx_new (jx_set (jx_new (jx_set (jx_new (jx_set (jx_inner (jx_set (jx_new (jx_set (jx_new h ((8 : Int32)).toNatClampNeg (jx_arr 0 ((8 : Int32)).toNatClampNeg)) a0 e1) ((25 : Int32)).toNatClampNeg (jx_arr 0 ((25 : Int32)).toNatClampNeg)) a0 e2) ((41 : Int32)).toNatClampNeg ((25 : Int32)).toNatClampNeg) a0 e3) ((240 : Int32)).toNatClampNeg (jx_arr 0 ((240 : Int32)).toNatClampNeg)) a0 e4) ((4096 : Int32)).toNatClampNeg (jx_arr 1 ((4096 : Int32)).toNatClampNeg)) a0 e5) ((4096 : Int32)).toNatClampNeg (jx_arr 1 ((4096 : Int32)).toNatClampNeg)) a0 e6) ((13 : Int32)).toNatClampNeg (jx_arr 1 ((13 : Int32)).toNatClampNeg)) a0 e7) ((12 : Int32)).toNatClampNeg ((12 : Int32)).toNatClampNeg) a0 e8) ((120 : Int32)).toNatClampNeg (jx_arr 0 ((120 : Int32)).toNatClampNeg)) a0 e9) ((25 : Int32)).toNatClampNeg (jx_arr 0 ((25 : Int32)).toNatClampNeg)) a0 e10) ((12 : Int32)).toNatClampNeg (jx_arr 0 ((12 : Int32)).toNatClampNeg)) a0 e11) ((12 : Int32)).toNatClampNeg ((64 : Int32)).toNatClampNeg) a0 e12) ((12 : Int32)).toNatClampNeg (jx_arr 0 ((12 : Int32)).toNatClampNeg)) a0 e13) ((12 : Int32)).toNatClampNeg ((64 : Int32)).toNatClampNeg) a0 e14) ((12 : Int32)).toNatClampNeg (jx_arr 0 ((12 : Int32)).toNatClampNeg)) a0 e15) ((64 : Int32)).toNatClampNeg (jx_arr 0 ((64 : Int32)).toNatClampNeg)) a0 e16) ((4 : Int32)).toNatClampNeg ((25 : Int32)).toNatClampNeg) a0) 12 22 (.ref (jx_set (jx_new (jx_set (jx_new (jx_set (jx_inner (jx_set (jx_new (jx_set (jx_inner (jx_set (jx_new (jx_set (jx_new (jx_set (jx_new (jx_set (jx_inner (jx_set (jx_new (jx_set (jx_new (jx_set (jx_new (jx_set (jx_new (jx_set (jx_inner (jx_set (jx_new (jx_set (jx_new h ((8 : Int32)).toNatClampNeg (jx_arr 0 ((8 : Int32)).toNatClampNeg)) a0 e1) ((25 : Int32)).toNatClampNeg (jx_arr 0 ((25 : Int32)).toNatClampNeg)) a0 e2) ((41 : Int32)).toNatClampNeg ((25 : Int32)).toNatClampNeg) a0 e3) ((240 : Int32)).toNatClampNeg (jx_arr 0 ((240 : Int32)).toNatClampNeg)) a0 e4) ((4096 : Int32)).toNatClampNeg (jx_arr 1 ((4096 : Int32)).toNatClampNeg)) a0 e5) ((4096 : Int32)).toNatClampNeg (jx_arr 1 ((4096 : Int32)).toNatClampNeg)) a0 e6) ((13 : Int32)).toNatClampNeg (jx_arr 1 ((13 : Int32)).toNatClampNeg)) a0 e7) ((12 : Int32)).toNatClampNeg ((12 : Int32)).toNatClampNeg) a0 e8) ((120 : Int32)).toNatClampNeg (jx_arr 0 ((120 : Int32)).toNatClampNeg)) a0 e9) ((25 : Int32)).toNatClampNeg (jx_arr 0 ((25 : Int32)).toNatClampNeg)) a0 e10) ((12 : Int32)).toNatClampNeg (jx_arr 0 ((12 : Int32)).toNatClampNeg)) a0 e11) ((12 : Int32)).toNatClampNeg ((64 : Int32)).toNatClampNeg) a0 e12) ((12 : Int32)).toNatClampNeg (jx_arr 0 ((12 : Int32)).toNatClampNeg)) a0 e13) ((12 : Int32)).toNatClampNeg ((64 : Int32)).toNatClampNeg) a0 e14) ((12 : Int32)).toNatClampNeg (jx_arr 0 ((12 : Int32)).toNatClampNeg)) a0 e15) ((64 : Int32)).toNatClampNeg (jx_arr 0 ((64 : Int32)).toNatClampNeg)) a0 e16).1)).bind fun e17 =>
  if (4 : Int32) < 0 ∨ 5000 < (4 : Int32) then none else
  (jx_pF (jx_at (jx_new (jx_set (jx_inner (jx_set (jx_new (jx_set (jx_new (jx_set (jx_inner (jx_set (jx_new (jx_set (jx_inner (jx_set (jx_new (jx_set (jx_new (jx_set (jx_new (jx_set (jx_inner (jx_set (jx_new (jx_set (jx_new (jx_set (jx_new (jx_set (jx_new (jx_set (jx_inner (jx_set (jx_new (jx_set (jx_new h ((8 : Int32)).toNatClampNeg (jx_arr 0 ((8 : Int32)).toNatClampNeg)) a0 e1) ((25 : Int32)).toNatClampNeg (jx_arr 0 ((25 : Int32)).toNatClampNeg)) a0 e2) ((41 : Int32)).toNatClampNeg ((25 : Int32)).toNatClampNeg) a0 e3) ((240 : Int32)).toNatClampNeg (jx_arr 0 ((240 : Int32)).toNatClampNeg)) a0 e4) ((4096 : Int32)).toNatClampNeg (jx_arr 1 ((4096 : Int32)).toNatClampNeg)) a0 e5) ((4096 : Int32)).toNatClampNeg (jx_arr 1 ((4096 : Int32)).toNatClampNeg)) a0 e6) ((13 : Int32)).toNatClampNeg (jx_arr 1 ((13 : Int32)).toNatClampNeg)) a0 e7) ((12 : Int32)).toNatClampNeg ((12 : Int32)).toNatClampNeg) a0 e8) ((120 : Int32)).toNatClampNeg (jx_arr 0 ((120 : Int32)).toNatClampNeg)) a0 e9) ((25 : Int32)).toNatClampNeg (jx_arr 0 ((25 : Int32)).toNatClampNeg)) a0 e10) ((12 : Int32)).toNatClampNeg (jx_arr 0 ((12 : Int32)).toNatClampNeg)) a0 e11) ((12 : Int32)).toNatClampNeg ((64 : Int32)).toNatClampNeg) a0 e12) ((12 : Int32)).toNatClampNeg (jx_arr 0 ((12 : Int32)).toNatClampNeg)) a0 e13) ((12 : Int32)).toNatClampNeg ((64 : Int32)).toNatClampNeg) a0 e14) ((12 : Int32)).toNatClampNeg (jx_arr 0 ((12 : Int32)).toNatClampNeg)) a0 e15) ((64 : Int32)).toNatClampNeg (jx_arr 0 ((64 : Int32)).toNatClampNeg)) a0 e16) ((4 : Int32)).toNatClampNeg ((25 : Int32)).toNatClampNeg) a0 e17) ((4 : Int32)).toNatClampNeg (jx_arr 3 ((4 : Int32)).toNatClampNeg)) a0) 12 23 (.ref (jx_set (jx_inner (jx_set (jx_new (jx_set (jx_new (jx_set (jx_inner (jx_set (jx_new (jx_set (jx_inner (jx_set (jx_new (jx_set (jx_new (jx_set (jx_new (jx_set (jx_inner (jx_set (jx_new (jx_set (jx_new (jx_set (jx_new (jx_set (jx_new (jx_set (jx_inner (jx_set (jx_new (jx_set (jx_new h ((8 : Int32)).toNatClampNeg (jx_arr 0 ((8 : Int32)).toNatClampNeg)) a0 e1) ((25 : Int32)).toNatClampNeg (jx_arr 0 ((25 : Int32)).toNatClampNeg)) a0 e2) ((41 : Int32)).toNatClampNeg ((25 : Int32)).toNatClampNeg) a0 e3) ((240 : Int32)).toNatClampNeg (jx_arr 0 ((240 : Int32)).toNatClampNeg)) a0 e4) ((4096 : Int32)).toNatClampNeg (jx_arr 1 ((4096 : Int32)).toNatClampNeg)) a0 e5) ((4096 : Int32)).toNatClampNeg (jx_arr 1 ((4096 : Int32)).toNatClampNeg)) a0 e6) ((13 : Int32)).toNatClampNeg (jx_arr 1 ((13 : Int32)).toNatClampNeg)) a0 e7) ((12 : Int32)).toNatClampNeg ((12 : Int32)).toNatClampNeg) a0 e8) ((120 : Int32)).toNatClampNeg (jx_arr 0 ((120 : Int32)).toNatClampNeg)) a0 e9) ((25 : Int32)).toNatClampNeg (jx_arr 0 ((25 : Int32)).toNatClampNeg)) a0 e10) ((12 : Int32)).toNatClampNeg (jx_arr 0 ((12 : Int32)).toNatClampNeg)) a0 e11) ((12 : Int32)).toNatClampNeg ((64 : Int32)).toNatClampNeg) a0 e12) ((12 : Int32)).toNatClampNeg (jx_arr 0 ((12 : Int32)).toNatClampNeg)) a0 e13) ((12 : Int32)).toNatClampNeg ((64 : Int32)).toNatClampNeg) a0 e14) ((12 : Int32)).toNatClampNeg (jx_arr 0 ((12 : Int32)).toNatClampNeg)) a0 e15) ((64 : Int32)).toNatClampNeg (jx_arr 0 ((64 : Int32)).toNatClampNeg)) a0 e16) ((4 : Int32)).toNatClampNeg ((25 : Int32)).toNatClampNeg) a0 e17).1)).bind fun e18 =>
  if (64 : Int32) < 0 ∨ 5000 < (64 : Int32) then none else
  (jx_pF (jx_at (jx_new (jx_set (jx_new (jx_set (jx_inner (jx_set (jx_new (jx_set (jx_new (jx_set (jx_inner (jx_set (jx_new (jx_set (jx_inner (jx_set (jx_new (jx_set (jx_new (jx_set (jx_new (jx_set (jx_inner (jx_set (jx_new (jx_set (jx_new (jx_set (jx_new (jx_set (jx_new (jx_set (jx_inner (jx_set (jx_new (jx_set (jx_new h ((8 : Int32)).toNatClampNeg (jx_arr 0 ((8 : Int32)).toNatClampNeg)) a0 e1) ((25 : Int32)).toNatClampNeg (jx_arr 0 ((25 : Int32)).toNatClampNeg)) a0 e2) ((41 : Int32)).toNatClampNeg ((25 : Int32)).toNatClampNeg) a0 e3) ((240 : Int32)).toNatClampNeg (jx_arr 0 ((240 : Int32)).toNatClampNeg)) a0 e4) ((4096 : Int32)).toNatClampNeg (jx_arr 1 ((4096 : Int32)).toNatClampNeg)) a0 e5) ((4096 : Int32)).toNatClampNeg (jx_arr 1 ((4096 : Int32)).toNatClampNeg)) a0 e6) ((13 : Int32)).toNatClampNeg (jx_arr 1 ((13 : Int32)).toNatClampNeg)) a0 e7) ((12 : Int32)).toNatClampNeg ((12 : Int32)).toNatClampNeg) a0 e8) ((120 : Int32)).toNatClampNeg (jx_arr 0 ((120 : Int32)).toNatClampNeg)) a0 e9) ((25 : Int32)).toNatClampNeg (jx_arr 0 ((25 : Int32)).toNatClampNeg)) a0 e10) ((12 : Int32)).toNatClampNeg (jx_arr 0 ((12 : Int32)).toNatClampNeg)) a0 e11) ((12 : Int32)).toNatClampNeg ((64 : Int32)).toNatClampNeg) a0 e12) ((12 : Int32)).toNatClampNeg (jx_arr 0 ((12 : Int32)).toNatClampNeg)) a0 e13) ((12 : Int32)).toNatClampNeg ((64 : Int32)).toNatClampNeg) a0 e14) ((12 : Int32)).toNatClampNeg (jx_arr 0 ((12 : Int32)).toNatClampNeg)) a0 e15) ((64 : Int32)).toNatClampNeg (jx_arr 0 ((64 : Int32)).toNatClampNeg)) a0 e16) ((4 : Int32)).toNatClampNeg ((25 : Int32)).toNatClampNeg) a0 e17) ((4 : Int32)).toNatClampNeg (jx_arr 3 ((4 : Int32)).toNatClampNeg)) a0 e18) ((64 : Int32)).toNatClampNeg (jx_arr 0 ((64 : Int32)).toNatClampNeg)) a0) 12 24 (.ref (jx_set (jx_new (jx_set (jx_inner (jx_set (jx_new (jx_set (jx_new (jx_set (jx_inner (jx_set (jx_new (jx_set (jx_inner (jx_set (jx_new (jx_set (jx_new (jx_set (jx_new (jx_set (jx_inner (jx_set (jx_new (jx_set (jx_new (jx_set (jx_new (jx_set (jx_new (jx_set (jx_inner (jx_set (jx_new (jx_set (jx_new h ((8 : Int32)).toNatClampNeg (jx_arr 0 ((8 : Int32)).toNatClampNeg)) a0 e1) ((25 : Int32)).toNatClampNeg (jx_arr 0 ((25 : Int32)).toNatClampNeg)) a0 e2) ((41 : Int32)).toNatClampNeg ((25 : Int32)).toNatClampNeg) a0 e3) ((240 : Int32)).toNatClampNeg (jx_arr 0 ((240 : Int32)).toNatClampNeg)) a0 e4) ((4096 : Int32)).toNatClampNeg (jx_arr 1 ((4096 : Int32)).toNatClampNeg)) a0 e5) ((4096 : Int32)).toNatClampNeg (jx_arr 1 ((4096 : Int32)).toNatClampNeg)) a0 e6) ((13 : Int32)).toNatClampNeg (jx_arr 1 ((13 : Int32)).toNatClampNeg)) a0 e7) ((12 : Int32)).toNatClampNeg ((12 : Int32)).toNatClampNeg) a0 e8) ((120 : Int32)).toNatClampNeg (jx_arr 0 ((120 : Int32)).toNatClampNeg)) a0 e9) ((25 : Int32)).toNatClampNeg (jx_arr 0 ((25 : Int32)).toNatClampNeg)) a0 e10) ((12 : Int32)).toNatClampNeg (jx_arr 0 ((12 : Int32)).toNatClampNeg)) a0 e11) ((12 : Int32)).toNatClampNeg ((64 : Int32)).toNatClampNeg) a0 e12) ((12 : Int32)).toNatClampNeg (jx_arr 0 ((12 : Int32)).toNatClampNeg)) a0 e13) ((12 : Int32)).toNatClampNeg ((64 : Int32)).toNatClampNeg) a0 e14) ((12 : Int32)).toNatClampNeg (jx_arr 0 ((12 : Int32)).toNatClampNeg)) a0 e15) ((64 : Int32)).toNatClampNeg (jx_arr 0 ((64 : Int32)).toNatClampNeg)) a0 e16) ((4 : Int32)).toNatClampNeg ((25 : Int32)).toNatClampNeg) a0 e17) ((4 : Int32)).toNatClampNeg (jx_arr 3 ((4 : Int32)).toNatClampNeg)) a0 e18).1)).bind fun e19 =>
  if (18 : Int32) < 0 ∨ 5000 < (18 : Int32) then none else
  (jx_pF (jx_at (jx_new (jx_set (jx_new (jx_set (jx_new (jx_set (jx_inner (jx_set (jx_new (jx_set (jx_new (jx_set (jx_inner (jx_set (jx_new (jx_set (jx_inner (jx_set (jx_new (jx_set (jx_new (jx_set (jx_new (jx_set (jx_inner (jx_set (jx_new (jx_set (jx_new (jx_set (jx_new (jx_set (jx_new (jx_set (jx_inner (jx_set (jx_new (jx_set (jx_new h ((8 : Int32)).toNatClampNeg (jx_arr 0 ((8 : Int32)).toNatClampNeg)) a0 e1) ((25 : Int32)).toNatClampNeg (jx_arr 0 ((25 : Int32)).toNatClampNeg)) a0 e2) ((41 : Int32)).toNatClampNeg ((25 : Int32)).toNatClampNeg) a0 e3) ((240 : Int32)).toNatClampNeg (jx_arr 0 ((240 : Int32)).toNatClampNeg)) a0 e4) ((4096 : Int32)).toNatClampNeg (jx_arr 1 ((4096 : Int32)).toNatClampNeg)) a0 e5) ((4096 : Int32)).toNatClampNeg (jx_arr 1 ((4096 : Int32)).toNatClampNeg)) a0 e6) ((13 : Int32)).toNatClampNeg (jx_arr 1 ((13 : Int32)).toNatClampNeg)) a0 e7) ((12 : Int32)).toNatClampNeg ((12 : Int32)).toNatClampNeg) a0 e8) ((120 : Int32)).toNatClampNeg (jx_arr 0 ((120 : Int32)).toNatClampNeg)) a0 e9) ((25 : Int32)).toNatClampNeg (jx_arr 0 ((25 : Int32)).toNatClampNeg)) a0 e10) ((12 : Int32)).toNatClampNeg (jx_arr 0 ((12 : Int32)).toNatClampNeg)) a0 e11) ((12 : Int32)).toNatClampNeg ((64 : Int32)).toNatClampNeg) a0 e12) ((12 : Int32)).toNatClampNeg (jx_arr 0 ((12 : Int32)).toNatClampNeg)) a0 e13) ((12 : Int32)).toNatClampNeg ((64 : Int32)).toNatClampNeg) a0 e14) ((12 : Int32)).toNatClampNeg (jx_arr 0 ((12 : Int32)).toNatClampNeg)) a0 e15) ((64 : Int32)).toNatClampNeg (jx_arr 0 ((64 : Int32)).toNatClampNeg)) a0 e16) ((4 : Int32)).toNatClampNeg ((25 : Int32)).toNatClampNeg) a0 e17) ((4 : Int32)).toNatClampNeg (jx_arr 3 ((4 : Int32)).toNatClampNeg)) a0 e18) ((64 : Int32)).toNatClampNeg (jx_arr 0 ((64 : Int32)).toNatClampNeg)) a0 e19) ((18 : Int32)).toNatClampNeg (jx_arr 0 ((18 : Int32)).toNatClampNeg)) a0) 12 26 (.ref (jx_set (jx_new (jx_set (jx_new (jx_set (jx_inner (jx_set (jx_new (jx_set (jx_new (jx_set (jx_inner (jx_set (jx_new (jx_set (jx_inner (jx_set (jx_new (jx_set (jx_new (jx_set (jx_new (jx_set (jx_inner (jx_set (jx_new (jx_set (jx_new (jx_set (jx_new (jx_set (jx_new (jx_set (jx_inner (jx_set (jx_new (jx_set (jx_new h ((8 : Int32)).toNatClampNeg (jx_arr 0 ((8 : Int32)).toNatClampNeg)) a0 e1) ((25 : Int32)).toNatClampNeg (jx_arr 0 ((25 : Int32)).toNatClampNeg)) a0 e2) ((41 : Int32)).toNatClampNeg ((25 : Int32)).toNatClampNeg) a0 e3) ((240 : Int32)).toNatClampNeg (jx_arr 0 ((240 : Int32)).toNatClampNeg)) a0 e4) ((4096 : Int32)).toNatClampNeg (jx_arr 1 ((4096 : Int32)).toNatClampNeg)) a0 e5) ((4096 : Int32)).toNatClampNeg (jx_arr 1 ((4096 : Int32)).toNatClampNeg)) a0 e6) ((13 : Int32)).toNatClampNeg (jx_arr 1 ((13 : Int32)).toNatClampNeg)) a0 e7) ((12 : Int32)).toNatClampNeg ((12 : Int32)).toNatClampNeg) a0 e8) ((120 : Int32)).toNatClampNeg (jx_arr 0 ((120 : Int32)).toNatClampNeg)) a0 e9) ((25 : Int32)).toNatClampNeg (jx_arr 0 ((25 : Int32)).toNatClampNeg)) a0 e10) ((12 : Int32)).toNatClampNeg (jx_arr 0 ((12 : Int32)).toNatClampNeg)) a0 e11) ((12 : Int32)).toNatClampNeg ((64 : Int32)).toNatClampNeg) a0 e12) ((12 : Int32)).toNatClampNeg (jx_arr 0 ((12 : Int32)).toNatClampNeg)) a0 e13) ((12 : Int32)).toNatClampNeg ((64 : Int32)).toNatClampNeg) a0 e14) ((12 : Int32)).toNatClampNeg (jx_arr 0 ((12 : Int32)).toNatClampNeg)) a0 e15) ((64 : Int32)).toNatClampNeg (jx_arr 0 ((64 : Int32)).toNatClampNeg)) a0 e16) ((4 : Int32)).toNatClampNeg ((25 : Int32)).toNatClampNeg) a0 e17) ((4 : Int32)).toNatClampNeg (jx_arr 3 ((4 : Int32)).toNatClampNeg)) a0 e18) ((64 : Int32)).toNatClampNeg (jx_arr 0 ((64 : Int32)).toNatClampNeg)) a0 e19).1)).bind fun e20 =>
  if (6 : Int32) < 0 ∨ 5000 < (6 : Int32) ∨ (25 : Int32) < 0 ∨ 5000 < (25 : Int32) then none else
  (jx_pF (jx_at (jx_inner (jx_set (jx_new (jx_set (jx_new (jx_set (jx_new (jx_set (jx_inner (jx_set (jx_new (jx_set (jx_new (jx_set (jx_inner (jx_set (jx_new (jx_set (jx_inner (jx_set (jx_new (jx_set (jx_new (jx_set (jx_new (jx_set (jx_inner (jx_set (jx_new (jx_set (jx_new (jx_set (jx_new (jx_set (jx_new (jx_set (jx_inner (jx_set (jx_new (jx_set (jx_new h ((8 : Int32)).toNatClampNeg (jx_arr 0 ((8 : Int32)).toNatClampNeg)) a0 e1) ((25 : Int32)).toNatClampNeg (jx_arr 0 ((25 : Int32)).toNatClampNeg)) a0 e2) ((41 : Int32)).toNatClampNeg ((25 : Int32)).toNatClampNeg) a0 e3) ((240 : Int32)).toNatClampNeg (jx_arr 0 ((240 : Int32)).toNatClampNeg)) a0 e4) ((4096 : Int32)).toNatClampNeg (jx_arr 1 ((4096 : Int32)).toNatClampNeg)) a0 e5) ((4096 : Int32)).toNatClampNeg (jx_arr 1 ((4096 : Int32)).toNatClampNeg)) a0 e6) ((13 : Int32)).toNatClampNeg (jx_arr 1 ((13 : Int32)).toNatClampNeg)) a0 e7) ((12 : Int32)).toNatClampNeg ((12 : Int32)).toNatClampNeg) a0 e8) ((120 : Int32)).toNatClampNeg (jx_arr 0 ((120 : Int32)).toNatClampNeg)) a0 e9) ((25 : Int32)).toNatClampNeg (jx_arr 0 ((25 : Int32)).toNatClampNeg)) a0 e10) ((12 : Int32)).toNatClampNeg (jx_arr 0 ((12 : Int32)).toNatClampNeg)) a0 e11) ((12 : Int32)).toNatClampNeg ((64 : Int32)).toNatClampNeg) a0 e12) ((12 : Int32)).toNatClampNeg (jx_arr 0 ((12 : Int32)).toNatClampNeg)) a0 e13) ((12 : Int32)).toNatClampNeg ((64 : Int32)).toNatClampNeg) a0 e14) ((12 : Int32)).toNatClampNeg (jx_arr 0 ((12 : Int32)).toNatClampNeg)) a0 e15) ((64 : Int32)).toNatClampNeg (jx_arr 0 ((64 : Int32)).toNatClampNeg)) a0 e16) ((4 : Int32)).toNatClampNeg ((25 : Int32)).toNatClampNeg) a0 e17) ((4 : Int32)).toNatClampNeg (jx_arr 3 ((4 : Int32)).toNatClampNeg)) a0 e18) ((64 : Int32)).toNatClampNeg (jx_arr 0 ((64 : Int32)).toNatClampNeg)) a0 e19) ((18 : Int32)).toNatClampNeg (jx_arr 0 ((18 : Int32)).toNatClampNeg)) a0 e20) ((6 : Int32)).toNatClampNeg ((25 : Int32)).toNatClampNeg) a0) 12 28 (.ref (jx_set (jx_new (jx_set (jx_new (jx_set (jx_new (jx_set (jx_inner (jx_set (jx_new (jx_set (jx_new (jx_set (jx_inner (jx_set (jx_new (jx_set (jx_inner (jx_set (jx_new (jx_set (jx_new (jx_set (jx_new (jx_set (jx_inner (jx_set (jx_new (jx_set (jx_new (jx_set (jx_new (jx_set (jx_new (jx_set (jx_inner (jx_set (jx_new (jx_set (jx_new h ((8 : Int32)).toNatClampNeg (jx_arr 0 ((8 : Int32)).toNatClampNeg)) a0 e1) ((25 : Int32)).toNatClampNeg (jx_arr 0 ((25 : Int32)).toNatClampNeg)) a0 e2) ((41 : Int32)).toNatClampNeg ((25 : Int32)).toNatClampNeg) a0 e3) ((240 : Int32)).toNatClampNeg (jx_arr 0 ((240 : Int32)).toNatClampNeg)) a0 e4) ((4096 : Int32)).toNatClampNeg (jx_arr 1 ((4096 : Int32)).toNatClampNeg)) a0 e5) ((4096 : Int32)).toNatClampNeg (jx_arr 1 ((4096 : Int32)).toNatClampNeg)) a0 e6) ((13 : Int32)).toNatClampNeg (jx_arr 1 ((13 : Int32)).toNatClampNeg)) a0 e7) ((12 : Int32)).toNatClampNeg ((12 : Int32)).toNatClampNeg) a0 e8) ((120 : Int32)).toNatClampNeg (jx_arr 0 ((120 : Int32)).toNatClampNeg)) a0 e9) ((25 : Int32)).toNatClampNeg (jx_arr 0 ((25 : Int32)).toNatClampNeg)) a0 e10) ((12 : Int32)).toNatClampNeg (jx_arr 0 ((12 : Int32)).toNatClampNeg)) a0 e11) ((12 : Int32)).toNatClampNeg ((64 : Int32)).toNatClampNeg) a0 e12) ((12 : Int32)).toNatClampNeg (jx_arr 0 ((12 : Int32)).toNatClampNeg)) a0 e13) ((12 : Int32)).toNatClampNeg ((64 : Int32)).toNatClampNeg) a0 e14) ((12 : Int32)).toNatClampNeg (jx_arr 0 ((12 : Int32)).toNatClampNeg)) a0 e15) ((64 : Int32)).toNatClampNeg (jx_arr 0 ((64 : Int32)).toNatClampNeg)) a0 e16) ((4 : Int32)).toNatClampNeg ((25 : Int32)).toNatClampNeg) a0 e17) ((4 : Int32)).toNatClampNeg (jx_arr 3 ((4 : Int32)).toNatClampNeg)) a0 e18) ((64 : Int32)).toNatClampNeg (jx_arr 0 ((64 : Int32)).toNatClampNeg)) a0 e19) ((18 : Int32)).toNatClampNeg (jx_arr 0 ((18 : Int32)).toNatClampNeg)) a0 e20).1)).bind fun e21 =>
  if (4 : Int32) < 0 ∨ 5000 < (4 : Int32) then none else
  (jx_pF (jx_at (jx_new (jx_set (jx_inner (jx_set (jx_new (jx_set (jx_new (jx_set (jx_new (jx_set (jx_inner (jx_set (jx_new (jx_set (jx_new (jx_set (jx_inner (jx_set (jx_new (jx_set (jx_inner (jx_set (jx_new (jx_set (jx_new (jx_set (jx_new (jx_set (jx_inner (jx_set (jx_new (jx_set (jx_new (jx_set (jx_new (jx_set (jx_new (jx_set (jx_inner (jx_set (jx_new (jx_set (jx_new h ((8 : Int32)).toNatClampNeg (jx_arr 0 ((8 : Int32)).toNatClampNeg)) a0 e1) ((25 : Int32)).toNatClampNeg (jx_arr 0 ((25 : Int32)).toNatClampNeg)) a0 e2) ((41 : Int32)).toNatClampNeg ((25 : Int32)).toNatClampNeg) a0 e3) ((240 : Int32)).toNatClampNeg (jx_arr 0 ((240 : Int32)).toNatClampNeg)) a0 e4) ((4096 : Int32)).toNatClampNeg (jx_arr 1 ((4096 : Int32)).toNatClampNeg)) a0 e5) ((4096 : Int32)).toNatClampNeg (jx_arr 1 ((4096 : Int32)).toNatClampNeg)) a0 e6) ((13 : Int32)).toNatClampNeg (jx_arr 1 ((13 : Int32)).toNatClampNeg)) a0 e7) ((12 : Int32)).toNatClampNeg ((12 : Int32)).toNatClampNeg) a0 e8) ((120 : Int32)).toNatClampNeg (jx_arr 0 ((120 : Int32)).toNatClampNeg)) a0 e9) ((25 : Int32)).toNatClampNeg (jx_arr 0 ((25 : Int32)).toNatClampNeg)) a0 e10) ((12 : Int32)).toNatClampNeg (jx_arr 0 ((12 : Int32)).toNatClampNeg)) a0 e11) ((12 : Int32)).toNatClampNeg ((64 : Int32)).toNatClampNeg) a0 e12) ((12 : Int32)).toNatClampNeg (jx_arr 0 ((12 : Int32)).toNatClampNeg)) a0 e13) ((12 : Int32)).toNatClampNeg ((64 : Int32)).toNatClampNeg) a0 e14) ((12 : Int32)).toNatClampNeg (jx_arr 0 ((12 : Int32)).toNatClampNeg)) a0 e15) ((64 : Int32)).toNatClampNeg (jx_arr 0 ((64 : Int32)).toNatClampNeg)) a0 e16) ((4 : Int32)).toNatClampNeg ((25 : Int32)).toNatClampNeg) a0 e17) ((4 : Int32)).toNatClampNeg (jx_arr 3 ((4 : Int32)).toNatClampNeg)) a0 e18) ((64 : Int32)).toNatClampNeg (jx_arr 0 ((64 : Int32)).toNatClampNeg)) a0 e19) ((18 : Int32)).toNatClampNeg (jx_arr 0 ((18 : Int32)).toNatClampNeg)) a0 e20) ((6 : Int32)).toNatClampNeg ((25 : Int32)).toNatClampNeg) a0 e21) ((4 : Int32)).toNatClampNeg (jx_arr 0 ((4 : Int32)).toNatClampNeg)) a0) 12 32 (.ref (jx_set (jx_inner (jx_set (jx_new (jx_set (jx_new (jx_set (jx_new (jx_set (jx_inner (jx_set (jx_new (jx_set (jx_new (jx_set (jx_inner (jx_set (jx_new (jx_set (jx_inner (jx_set (jx_new (jx_set (jx_new (jx_set (jx_new (jx_set (jx_inner (jx_set (jx_new (jx_set (jx_new (jx_set (jx_new (jx_set (jx_new (jx_set (jx_inner (jx_set (jx_new (jx_set (jx_new h ((8 : Int32)).toNatClampNeg (jx_arr 0 ((8 : Int32)).toNatClampNeg)) a0 e1) ((25 : Int32)).toNatClampNeg (jx_arr 0 ((25 : Int32)).toNatClampNeg)) a0 e2) ((41 : Int32)).toNatClampNeg ((25 : Int32)).toNatClampNeg) a0 e3) ((240 : Int32)).toNatClampNeg (jx_arr 0 ((240 : Int32)).toNatClampNeg)) a0 e4) ((4096 : Int32)).toNatClampNeg (jx_arr 1 ((4096 : Int32)).toNatClampNeg)) a0 e5) ((4096 : Int32)).toNatClampNeg (jx_arr 1 ((4096 : Int32)).toNatClampNeg)) a0 e6) ((13 : Int32)).toNatClampNeg (jx_arr 1 ((13 : Int32)).toNatClampNeg)) a0 e7) ((12 : Int32)).toNatClampNeg ((12 : Int32)).toNatClampNeg) a0 e8) ((120 : Int32)).toNatClampNeg (jx_arr 0 ((120 : Int32)).toNatClampNeg)) a0 e9) ((25 : Int32)).toNatClampNeg (jx_arr 0 ((25 : Int32)).toNatClampNeg)) a0 e10) ((12 : Int32)).toNatClampNeg (jx_arr 0 ((12 : Int32)).toNatClampNeg)) a0 e11) ((12 : Int32)).toNatClampNeg ((64 : Int32)).toNatClampNeg) a0 e12) ((12 : Int32)).toNatClampNeg (jx_arr 0 ((12 : Int32)).toNatClampNeg)) a0 e13) ((12 : Int32)).toNatClampNeg ((64 : Int32)).toNatClampNeg) a0 e14) ((12 : Int32)).toNatClampNeg (jx_arr 0 ((12 : Int32)).toNatClampNeg)) a0 e15) ((64 : Int32)).toNatClampNeg (jx_arr 0 ((64 : Int32)).toNatClampNeg)) a0 e16) ((4 : Int32)).toNatClampNeg ((25 : Int32)).toNatClampNeg) a0 e17) ((4 : Int32)).toNatClampNeg (jx_arr 3 ((4 : Int32)).toNatClampNeg)) a0 e18) ((64 : Int32)).toNatClampNeg (jx_arr 0 ((64 : Int32)).toNatClampNeg)) a0 e19) ((18 : Int32)).toNatClampNeg (jx_arr 0 ((18 : Int32)).toNatClampNeg)) a0 e20) ((6 : Int32)).toNatClampNeg ((25 : Int32)).toNatClampNeg) a0 e21).1)).bind fun e22 =>
  if (4 : Int32) < 0 ∨ 5000 < (4 : Int32) then none else
  (jx_pF (jx_at (jx_new (jx_set (jx_new (jx_set (jx_inner (jx_set (jx_new (jx_set (jx_new (jx_set (jx_new (jx_set (jx_inner (jx_set (jx_new (jx_set (jx_new (jx_set (jx_inner (jx_set (jx_new (jx_set (jx_inner (jx_set (jx_new (jx_set (jx_new (jx_set (jx_new (jx_set (jx_inner (jx_set (jx_new (jx_set (jx_new (jx_set (jx_new (jx_set (jx_new (jx_set (jx_inner (jx_set (jx_new (jx_set (jx_new h ((8 : Int32)).toNatClampNeg (jx_arr 0 ((8 : Int32)).toNatClampNeg)) a0 e1) ((25 : Int32)).toNatClampNeg (jx_arr 0 ((25 : Int32)).toNatClampNeg)) a0 e2) ((41 : Int32)).toNatClampNeg ((25 : Int32)).toNatClampNeg) a0 e3) ((240 : Int32)).toNatClampNeg (jx_arr 0 ((240 : Int32)).toNatClampNeg)) a0 e4) ((4096 : Int32)).toNatClampNeg (jx_arr 1 ((4096 : Int32)).toNatClampNeg)) a0 e5) ((4096 : Int32)).toNatClampNeg (jx_arr 1 ((4096 : Int32)).toNatClampNeg)) a0 e6) ((13 : Int32)).toNatClampNeg (jx_arr 1 ((13 : Int32)).toNatClampNeg)) a0 e7) ((12 : Int32)).toNatClampNeg ((12 : Int32)).toNatClampNeg) a0 e8) ((120 : Int32)).toNatClampNeg (jx_arr 0 ((120 : Int32)).toNatClampNeg)) a0 e9) ((25 : Int32)).toNatClampNeg (jx_arr 0 ((25 : Int32)).toNatClampNeg)) a0 e10) ((12 : Int32)).toNatClampNeg (jx_arr 0 ((12 : Int32)).toNatClampNeg)) a0 e11) ((12 : Int32)).toNatClampNeg ((64 : Int32)).toNatClampNeg) a0 e12) ((12 : Int32)).toNatClampNeg (jx_arr 0 ((12 : Int32)).toNatClampNeg)) a0 e13) ((12 : Int32)).toNatClampNeg ((64 : Int32)).toNatClampNeg) a0 e14) ((12 : Int32)).toNatClampNeg (jx_arr 0 ((12 : Int32)).toNatClampNeg)) a0 e15) ((64 : Int32)).toNatClampNeg (jx_arr 0 ((64 : Int32)).toNatClampNeg)) a0 e16) ((4 : Int32)).toNatClampNeg ((25 : Int32)).toNatClampNeg) a0 e17) ((4 : Int32)).toNatClampNeg (jx_arr 3 ((4 : Int32)).toNatClampNeg)) a0 e18) ((64 : Int32)).toNatClampNeg (jx_arr 0 ((64 : Int32)).toNatClampNeg)) a0 e19) ((18 : Int32)).toNatClampNeg (jx_arr 0 ((18 : Int32)).toNatClampNeg)) a0 e20) ((6 : Int32)).toNatClampNeg ((25 : Int32)).toNatClampNeg) a0 e21) ((4 : Int32)).toNatClampNeg (jx_arr 0 ((4 : Int32)).toNatClampNeg)) a0 e22) ((4 : Int32)).toNatClampNeg (jx_arr 0 ((4 : Int32)).toNatClampNeg)) a0) 12 33 (.ref (jx_set (jx_new (jx_set (jx_inner (jx_set (jx_new (jx_set (jx_new (jx_set (jx_new (jx_set (jx_inner (jx_set (jx_new (jx_set (jx_new (jx_set (jx_inner (jx_set (jx_new (jx_set (jx_inner (jx_set (jx_new (jx_set (jx_new (jx_set (jx_new (jx_set (jx_inner (jx_set (jx_new (jx_set (jx_new (jx_set (jx_new (jx_set (jx_new (jx_set (jx_inner (jx_set (jx_new (jx_set (jx_new h ((8 : Int32)).toNatClampNeg (jx_arr 0 ((8 : Int32)).toNatClampNeg)) a0 e1) ((25 : Int32)).toNatClampNeg (jx_arr 0 ((25 : Int32)).toNatClampNeg)) a0 e2) ((41 : Int32)).toNatClampNeg ((25 : Int32)).toNatClampNeg) a0 e3) ((240 : Int32)).toNatClampNeg (jx_arr 0 ((240 : Int32)).toNatClampNeg)) a0 e4) ((4096 : Int32)).toNatClampNeg (jx_arr 1 ((4096 : Int32)).toNatClampNeg)) a0 e5) ((4096 : Int32)).toNatClampNeg (jx_arr 1 ((4096 : Int32)).toNatClampNeg)) a0 e6) ((13 : Int32)).toNatClampNeg (jx_arr 1 ((13 : Int32)).toNatClampNeg)) a0 e7) ((12 : Int32)).toNatClampNeg ((12 : Int32)).toNatClampNeg) a0 e8) ((120 : Int32)).toNatClampNeg (jx_arr 0 ((120 : Int32)).toNatClampNeg)) a0 e9) ((25 : Int32)).toNatClampNeg (jx_arr 0 ((25 : Int32)).toNatClampNeg)) a0 e10) ((12 : Int32)).toNatClampNeg (jx_arr 0 ((12 : Int32)).toNatClampNeg)) a0 e11) ((12 : Int32)).toNatClampNeg ((64 : Int32)).toNatClampNeg) a0 e12) ((12 : Int32)).toNatClampNeg (jx_arr 0 ((12 : Int32)).toNatClampNeg)) a0 e13) ((12 : Int32)).toNatClampNeg ((64 : Int32)).toNatClampNeg) a0 e14) ((12 : Int32)).toNatClampNeg (jx_arr 0 ((12 : Int32)).toNatClampNeg)) a0 e15) ((64 : Int32)).toNatClampNeg (jx_arr 0 ((64 : Int32)).toNatClampNeg)) a0 e16) ((4 : Int32)).toNatClampNeg ((25 : Int32)).toNatClampNeg) a0 e17) ((4 : Int32)).toNatClampNeg (jx_arr 3 ((4 : Int32)).toNatClampNeg)) a0 e18) ((64 : Int32)).toNatClampNeg (jx_arr 0 ((64 : Int32)).toNatClampNeg)) a0 e19) ((18 : Int32)).toNatClampNeg (jx_arr 0 ((18 : Int32)).toNatClampNeg)) a0 e20) ((6 : Int32)).toNatClampNeg ((25 : Int32)).toNatClampNeg) a0 e21) ((4 : Int32)).toNatClampNeg (jx_arr 0 ((4 : Int32)).toNatClampNeg)) a0 e22).1)).bind fun e23 =>
  if (96 : Int32) < 0 ∨ 5000 < (96 : Int32) then none else
  (jx_pF (jx_at (jx_new (jx_set (jx_new (jx_set (jx_new (jx_set (jx_inner (jx_set (jx_new (jx_set (jx_new (jx_set (jx_new (jx_set (jx_inner (jx_set (jx_new (jx_set (jx_new (jx_set (jx_inner (jx_set (jx_new (jx_set (jx_inner (jx_set (jx_new (jx_set (jx_new (jx_set (jx_new (jx_set (jx_inner (jx_set (jx_new (jx_set (jx_new (jx_set (jx_new (jx_set (jx_new (jx_set (jx_inner (jx_set (jx_new (jx_set (jx_new h ((8 : Int32)).toNatClampNeg (jx_arr 0 ((8 : Int32)).toNatClampNeg)) a0 e1) ((25 : Int32)).toNatClampNeg (jx_arr 0 ((25 : Int32)).toNatClampNeg)) a0 e2) ((41 : Int32)).toNatClampNeg ((25 : Int32)).toNatClampNeg) a0 e3) ((240 : Int32)).toNatClampNeg (jx_arr 0 ((240 : Int32)).toNatClampNeg)) a0 e4) ((4096 : Int32)).toNatClampNeg (jx_arr 1 ((4096 : Int32)).toNatClampNeg)) a0 e5) ((4096 : Int32)).toNatClampNeg (jx_arr 1 ((4096 : Int32)).toNatClampNeg)) a0 e6) ((13 : Int32)).toNatClampNeg (jx_arr 1 ((13 : Int32)).toNatClampNeg)) a0 e7) ((12 : Int32)).toNatClampNeg ((12 : Int32)).toNatClampNeg) a0 e8) ((120 : Int32)).toNatClampNeg (jx_arr 0 ((120 : Int32)).toNatClampNeg)) a0 e9) ((25 : Int32)).toNatClampNeg (jx_arr 0 ((25 : Int32)).toNatClampNeg)) a0 e10) ((12 : Int32)).toNatClampNeg (jx_arr 0 ((12 : Int32)).toNatClampNeg)) a0 e11) ((12 : Int32)).toNatClampNeg ((64 : Int32)).toNatClampNeg) a0 e12) ((12 : Int32)).toNatClampNeg (jx_arr 0 ((12 : Int32)).toNatClampNeg)) a0 e13) ((12 : Int32)).toNatClampNeg ((64 : Int32)).toNatClampNeg) a0 e14) ((12 : Int32)).toNatClampNeg (jx_arr 0 ((12 : Int32)).toNatClampNeg)) a0 e15) ((64 : Int32)).toNatClampNeg (jx_arr 0 ((64 : Int32)).toNatClampNeg)) a0 e16) ((4 : Int32)).toNatClampNeg ((25 : Int32)).toNatClampNeg) a0 e17) ((4 : Int32)).toNatClampNeg (jx_arr 3 ((4 : Int32)).toNatClampNeg)) a0 e18) ((64 : Int32)).toNatClampNeg (jx_arr 0 ((64 : Int32)).toNatClampNeg)) a0 e19) ((18 : Int32)).toNatClampNeg (jx_arr 0 ((18 : Int32)).toNatClampNeg)) a0 e20) ((6 : Int32)).toNatClampNeg ((25 : Int32)).toNatClampNeg) a0 e21) ((4 : Int32)).toNatClampNeg (jx_arr 0 ((4 : Int32)).toNatClampNeg)) a0 e22) ((4 : Int32)).toNatClampNeg (jx_arr 0 ((4 : Int32)).toNatClampNeg)) a0 e23) ((96 : Int32)).toNatClampNeg (jx_arr 0 ((96 : Int32)).toNatClampNeg)) a0) 12 34 (.ref (jx_set (jx_new (jx_set (jx_new (jx_set (jx_inner (jx_set (jx_new (jx_set (jx_new (jx_set (jx_new (jx_set (jx_inner (jx_set (jx_new (jx_set (jx_new (jx_set (jx_inner (jx_set (jx_new (jx_set (jx_inner (jx_set (jx_new (jx_set (jx_new (jx_set (jx_new (jx_set (jx_inner (jx_set (jx_new (jx_set (jx_new (jx_set (jx_new (jx_set (jx_new (jx_set (jx_inner (jx_set (jx_new (jx_set (jx_new h ((8 : Int32)).toNatClampNeg (jx_arr 0 ((8 : Int32)).toNatClampNeg)) a0 e1) ((25 : Int32)).toNatClampNeg (jx_arr 0 ((25 : Int32)).toNatClampNeg)) a0 e2) ((41 : Int32)).toNatClampNeg ((25 : Int32)).toNatClampNeg) a0 e3) ((240 : Int32)).toNatClampNeg (jx_arr 0 ((240 : Int32)).toNatClampNeg)) a0 e4) ((4096 : Int32)).toNatClampNeg (jx_arr 1 ((4096 : Int32)).toNatClampNeg)) a0 e5) ((4096 : Int32)).toNatClampNeg (jx_arr 1 ((4096 : Int32)).toNatClampNeg)) a0 e6) ((13 : Int32)).toNatClampNeg (jx_arr 1 ((13 : Int32)).toNatClampNeg)) a0 e7) ((12 : Int32)).toNatClampNeg ((12 : Int32)).toNatClampNeg) a0 e8) ((120 : Int32)).toNatClampNeg (jx_arr 0 ((120 : Int32)).toNatClampNeg)) a0 e9) ((25 : Int32)).toNatClampNeg (jx_arr 0 ((25 : Int32)).toNatClampNeg)) a0 e10) ((12 : Int32)).toNatClampNeg (jx_arr 0 ((12 : Int32)).toNatClampNeg)) a0 e11) ((12 : Int32)).toNatClampNeg ((64 : Int32)).toNatClampNeg) a0 e12) ((12 : Int32)).toNatClampNeg (jx_arr 0 ((12 : Int32)).toNatClampNeg)) a0 e13) ((12 : Int32)).toNatClampNeg ((64 : Int32)).toNatClampNeg) a0 e14) ((12 : Int32)).toNatClampNeg (jx_arr 0 ((12 : Int32)).toNatClampNeg)) a0 e15) ((64 : Int32)).toNatClampNeg (jx_arr 0 ((64 : Int32)).toNatClampNeg)) a0 e16) ((4 : Int32)).toNatClampNeg ((25 : Int32)).toNatClampNeg) a0 e17) ((4 : Int32)).toNatClampNeg (jx_arr 3 ((4 : Int32)).toNatClampNeg)) a0 e18) ((64 : Int32)).toNatClampNeg (jx_arr 0 ((64 : Int32)).toNatClampNeg)) a0 e19) ((18 : Int32)).toNatClampNeg (jx_arr 0 ((18 : Int32)).toNatClampNeg)) a0 e20) ((6 : Int32)).toNatClampNeg ((25 : Int32)).toNatClampNeg) a0 e21) ((4 : Int32)).toNatClampNeg (jx_arr 0 ((4 : Int32)).toNatClampNeg)) a0 e22) ((4 : Int32)).toNatClampNeg (jx_arr 0 ((4 : Int32)).toNatClampNeg)) a0 e23).1)).bind fun e24 =>
  if (24 : Int32) < 0 ∨ 5000 < (24 : Int32) then none else
  (jx_pF (jx_at (jx_new (jx_set (jx_new (jx_set (jx_new (jx_set (jx_new (jx_set (jx_inner (jx_set (jx_new (jx_set (jx_new (jx_set (jx_new (jx_set (jx_inner (jx_set (jx_new (jx_set (jx_new (jx_set (jx_inner (jx_set (jx_new (jx_set (jx_inner (jx_set (jx_new (jx_set (jx_new (jx_set (jx_new (jx_set (jx_inner (jx_set (jx_new (jx_set (jx_new (jx_set (jx_new (jx_set (jx_new (jx_set (jx_inner (jx_set (jx_new (jx_set (jx_new h ((8 : Int32)).toNatClampNeg (jx_arr 0 ((8 : Int32)).toNatClampNeg)) a0 e1) ((25 : Int32)).toNatClampNeg (jx_arr 0 ((25 : Int32)).toNatClampNeg)) a0 e2) ((41 : Int32)).toNatClampNeg ((25 : Int32)).toNatClampNeg) a0 e3) ((240 : Int32)).toNatClampNeg (jx_arr 0 ((240 : Int32)).toNatClampNeg)) a0 e4) ((4096 : Int32)).toNatClampNeg (jx_arr 1 ((4096 : Int32)).toNatClampNeg)) a0 e5) ((4096 : Int32)).toNatClampNeg (jx_arr 1 ((4096 : Int32)).toNatClampNeg)) a0 e6) ((13 : Int32)).toNatClampNeg (jx_arr 1 ((13 : Int32)).toNatClampNeg)) a0 e7) ((12 : Int32)).toNatClampNeg ((12 : Int32)).toNatClampNeg) a0 e8) ((120 : Int32)).toNatClampNeg (jx_arr 0 ((120 : Int32)).toNatClampNeg)) a0 e9) ((25 : Int32)).toNatClampNeg (jx_arr 0 ((25 : Int32)).toNatClampNeg)) a0 e10) ((12 : Int32)).toNatClampNeg (jx_arr 0 ((12 : Int32)).toNatClampNeg)) a0 e11) ((12 : Int32)).toNatClampNeg ((64 : Int32)).toNatClampNeg) a0 e12) ((12 : Int32)).toNatClampNeg (jx_arr 0 ((12 : Int32)).toNatClampNeg)) a0 e13) ((12 : Int32)).toNatClampNeg ((64 : Int32)).toNatClampNeg) a0 e14) ((12 : Int32)).toNatClampNeg (jx_arr 0 ((12 : Int32)).toNatClampNeg)) a0 e15) ((64 : Int32)).toNatClampNeg (jx_arr 0 ((64 : Int32)).toNatClampNeg)) a0 e16) ((4 : Int32)).toNatClampNeg ((25 : Int32)).toNatClampNeg) a0 e17) ((4 : Int32)).toNatClampNeg (jx_arr 3 ((4 : Int32)).toNatClampNeg)) a0 e18) ((64 : Int32)).toNatClampNeg (jx_arr 0 ((64 : Int32)).toNatClampNeg)) a0 e19) ((18 : Int32)).toNatClampNeg (jx_arr 0 ((18 : Int32)).toNatClampNeg)) a0 e20) ((6 : Int32)).toNatClampNeg ((25 : Int32)).toNatClampNeg) a0 e21) ((4 : Int32)).toNatClampNeg (jx_arr 0 ((4 : Int32)).toNatClampNeg)) a0 e22) ((4 : Int32)).toNatClampNeg (jx_arr 0 ((4 : Int32)).toNatClampNeg)) a0 e23) ((96 : Int32)).toNatClampNeg (jx_arr 0 ((96 : Int32)).toNatClampNeg)) a0 e24) ((24 : Int32)).toNatClampNeg (jx_arr 0 ((24 : Int32)).toNatClampNeg)) a0) 12 35 (.ref (jx_set (jx_new (jx_set (jx_new (jx_set (jx_new (jx_set (jx_inner (jx_set (jx_new (jx_set (jx_new (jx_set (jx_new (jx_set (jx_inner (jx_set (jx_new (jx_set (jx_new (jx_set (jx_inner (jx_set (jx_new (jx_set (jx_inner (jx_set (jx_new (jx_set (jx_new (jx_set (jx_new (jx_set (jx_inner (jx_set (jx_new (jx_set (jx_new (jx_set (jx_new (jx_set (jx_new (jx_set (jx_inner (jx_set (jx_new (jx_set (jx_new h ((8 : Int32)).toNatClampNeg (jx_arr 0 ((8 : Int32)).toNatClampNeg)) a0 e1) ((25 : Int32)).toNatClampNeg (jx_arr 0 ((25 : Int32)).toNatClampNeg)) a0 e2) ((41 : Int32)).toNatClampNeg ((25 : Int32)).toNatClampNeg) a0 e3) ((240 : Int32)).toNatClampNeg (jx_arr 0 ((240 : Int32)).toNatClampNeg)) a0 e4) ((4096 : Int32)).toNatClampNeg (jx_arr 1 ((4096 : Int32)).toNatClampNeg)) a0 e5) ((4096 : Int32)).toNatClampNeg (jx_arr 1 ((4096 : Int32)).toNatClampNeg)) a0 e6) ((13 : Int32)).toNatClampNeg (jx_arr 1 ((13 : Int32)).toNatClampNeg)) a0 e7) ((12 : Int32)).toNatClampNeg ((12 : Int32)).toNatClampNeg) a0 e8) ((120 : Int32)).toNatClampNeg (jx_arr 0 ((120 : Int32)).toNatClampNeg)) a0 e9) ((25 : Int32)).toNatClampNeg (jx_arr 0 ((25 : Int32)).toNatClampNeg)) a0 e10) ((12 : Int32)).toNatClampNeg (jx_arr 0 ((12 : Int32)).toNatClampNeg)) a0 e11) ((12 : Int32)).toNatClampNeg ((64 : Int32)).toNatClampNeg) a0 e12) ((12 : Int32)).toNatClampNeg (jx_arr 0 ((12 : Int32)).toNatClampNeg)) a0 e13) ((12 : Int32)).toNatClampNeg ((64 : Int32)).toNatClampNeg) a0 e14) ((12 : Int32)).toNatClampNeg (jx_arr 0 ((12 : Int32)).toNatClampNeg)) a0 e15) ((64 : Int32)).toNatClampNeg (jx_arr 0 ((64 : Int32)).toNatClampNeg)) a0 e16) ((4 : Int32)).toNatClampNeg ((25 : Int32)).toNatClampNeg) a0 e17) ((4 : Int32)).toNatClampNeg (jx_arr 3 ((4 : Int32)).toNatClampNeg)) a0 e18) ((64 : Int32)).toNatClampNeg (jx_arr 0 ((64 : Int32)).toNatClampNeg)) a0 e19) ((18 : Int32)).toNatClampNeg (jx_arr 0 ((18 : Int32)).toNatClampNeg)) a0 e20) ((6 : Int32)).toNatClampNeg ((25 : Int32)).toNatClampNeg) a0 e21) ((4 : Int32)).toNatClampNeg (jx_arr 0 ((4 : Int32)).toNatClampNeg)) a0 e22) ((4 : Int32)).toNatClampNeg (jx_arr 0 ((4 : Int32)).toNatClampNeg)) a0 e23) ((96 : Int32)).toNatClampNeg (jx_arr 0 ((96 : Int32)).toNatClampNeg)) a0 e24).1)).bind fun e25 =>
  if (25 : Int32) < 0 ∨ 5000 < (25 : Int32) then none else
  (jx_pF (jx_at (jx_new (jx_set (jx_new (jx_set (jx_new (jx_set (jx_new (jx_set (jx_new (jx_set (jx_inner (jx_set (jx_new (jx_set (jx_new (jx_set (jx_new (jx_set (jx_inner (jx_set (jx_new (jx_set (jx_new (jx_set (jx_inner (jx_set (jx_new (jx_set (jx_inner (jx_set (jx_new (jx_set (jx_new (jx_set (jx_new (jx_set (jx_inner (jx_set (jx_new (jx_set (jx_new (jx_set (jx_new (jx_set (jx_new (jx_set (jx_inner (jx_set (jx_new (jx_set (jx_new h ((8 : Int32)).toNatClampNeg (jx_arr 0 ((8 : Int32)).toNatClampNeg)) a0 e1) ((25 : Int32)).toNatClampNeg (jx_arr 0 ((25 : Int32)).toNatClampNeg)) a0 e2) ((41 : Int32)).toNatClampNeg ((25 : Int32)).toNatClampNeg) a0 e3) ((240 : Int32)).toNatClampNeg (jx_arr 0 ((240 : Int32)).toNatClampNeg)) a0 e4) ((4096 : Int32)).toNatClampNeg (jx_arr 1 ((4096 : Int32)).toNatClampNeg)) a0 e5) ((4096 : Int32)).toNatClampNeg (jx_arr 1 ((4096 : Int32)).toNatClampNeg)) a0 e6) ((13 : Int32)).toNatClampNeg (jx_arr 1 ((13 : Int32)).toNatClampNeg)) a0 e7) ((12 : Int32)).toNatClampNeg ((12 : Int32)).toNatClampNeg) a0 e8) ((120 : Int32)).toNatClampNeg (jx_arr 0 ((120 : Int32)).toNatClampNeg)) a0 e9) ((25 : Int32)).toNatClampNeg (jx_arr 0 ((25 : Int32)).toNatClampNeg)) a0 e10) ((12 : Int32)).toNatClampNeg (jx_arr 0 ((12 : Int32)).toNatClampNeg)) a0 e11) ((12 : Int32)).toNatClampNeg ((64 : Int32)).toNatClampNeg) a0 e12) ((12 : Int32)).toNatClampNeg (jx_arr 0 ((12 : Int32)).toNatClampNeg)) a0 e13) ((12 : Int32)).toNatClampNeg ((64 : Int32)).toNatClampNeg) a0 e14) ((12 : Int32)).toNatClampNeg (jx_arr 0 ((12 : Int32)).toNatClampNeg)) a0 e15) ((64 : Int32)).toNatClampNeg (jx_arr 0 ((64 : Int32)).toNatClampNeg)) a0 e16) ((4 : Int32)).toNatClampNeg ((25 : Int32)).toNatClampNeg) a0 e17) ((4 : Int32)).toNatClampNeg (jx_arr 3 ((4 : Int32)).toNatClampNeg)) a0 e18) ((64 : Int32)).toNatClampNeg (jx_arr 0 ((64 : Int32)).toNatClampNeg)) a0 e19) ((18 : Int32)).toNatClampNeg (jx_arr 0 ((18 : Int32)).toNatClampNeg)) a0 e20) ((6 : Int32)).toNatClampNeg ((25 : Int32)).toNatClampNeg) a0 e21) ((4 : Int32)).toNatClampNeg (jx_arr 0 ((4 : Int32)).toNatClampNeg)) a0 e22) ((4 : Int32)).toNatClampNeg (jx_arr 0 ((4 : Int32)).toNatClampNeg)) a0 e23) ((96 : Int32)).toNatClampNeg (jx_arr 0 ((96 : Int32)).toNatClampNeg)) a0 e24) ((24 : Int32)).toNatClampNeg (jx_arr 0 ((24 : Int32)).toNatClampNeg)) a0 e25) ((25 : Int32)).toNatClampNeg (jx_arr 0 ((25 : Int32)).toNatClampNeg)) a0) 12 36 (.ref (jx_set (jx_new (jx_set (jx_new (jx_set (jx_new (jx_set (jx_new (jx_set (jx_inner (jx_set (jx_new (jx_set (jx_new (jx_set (jx_new (jx_set (jx_inner (jx_set (jx_new (jx_set (jx_new (jx_set (jx_inner (jx_set (jx_new (jx_set (jx_inner (jx_set (jx_new (jx_set (jx_new (jx_set (jx_new (jx_set (jx_inner (jx_set (jx_new (jx_set (jx_new (jx_set (jx_new (jx_set (jx_new (jx_set (jx_inner (jx_set (jx_new (jx_set (jx_new h ((8 : Int32)).toNatClampNeg (jx_arr 0 ((8 : Int32)).toNatClampNeg)) a0 e1) ((25 : Int32)).toNatClampNeg (jx_arr 0 ((25 : Int32)).toNatClampNeg)) a0 e2) ((41 : Int32)).toNatClampNeg ((25 : Int32)).toNatClampNeg) a0 e3) ((240 : Int32)).toNatClampNeg (jx_arr 0 ((240 : Int32)).toNatClampNeg)) a0 e4) ((4096 : Int32)).toNatClampNeg (jx_arr 1 ((4096 : Int32)).toNatClampNeg)) a0 e5) ((4096 : Int32)).toNatClampNeg (jx_arr 1 ((4096 : Int32)).toNatClampNeg)) a0 e6) ((13 : Int32)).toNatClampNeg (jx_arr 1 ((13 : Int32)).toNatClampNeg)) a0 e7) ((12 : Int32)).toNatClampNeg ((12 : Int32)).toNatClampNeg) a0 e8) ((120 : Int32)).toNatClampNeg (jx_arr 0 ((120 : Int32)).toNatClampNeg)) a0 e9) ((25 : Int32)).toNatClampNeg (jx_arr 0 ((25 : Int32)).toNatClampNeg)) a0 e10) ((12 : Int32)).toNatClampNeg (jx_arr 0 ((12 : Int32)).toNatClampNeg)) a0 e11) ((12 : Int32)).toNatClampNeg ((64 : Int32)).toNatClampNeg) a0 e12) ((12 : Int32)).toNatClampNeg (jx_arr 0 ((12 : Int32)).toNatClampNeg)) a0 e13) ((12 : Int32)).toNatClampNeg ((64 : Int32)).toNatClampNeg) a0 e14) ((12 : Int32)).toNatClampNeg (jx_arr 0 ((12 : Int32)).toNatClampNeg)) a0 e15) ((64 : Int32)).toNatClampNeg (jx_arr 0 ((64 : Int32)).toNatClampNeg)) a0 e16) ((4 : Int32)).toNatClampNeg ((25 : Int32)).toNatClampNeg) a0 e17) ((4 : Int32)).toNatClampNeg (jx_arr 3 ((4 : Int32)).toNatClampNeg)) a0 e18) ((64 : Int32)).toNatClampNeg (jx_arr 0 ((64 : Int32)).toNatClampNeg)) a0 e19) ((18 : Int32)).toNatClampNeg (jx_arr 0 ((18 : Int32)).toNatClampNeg)) a0 e20) ((6 : Int32)).toNatClampNeg ((25 : Int32)).toNatClampNeg) a0 e21) ((4 : Int32)).toNatClampNeg (jx_arr 0 ((4 : Int32)).toNatClampNeg)) a0 e22) ((4 : Int32)).toNatClampNeg (jx_arr 0 ((4 : Int32)).toNatClampNeg)) a0 e23) ((96 : Int32)).toNatClampNeg (jx_arr 0 ((96 : Int32)).toNatClampNeg)) a0 e24) ((24 : Int32)).toNatClampNeg (jx_arr 0 ((24 : Int32)).toNatClampNeg)) a0 e25).1)).bind fun e26 =>
  if (18 : Int32) < 0 ∨ 5000 < (18 : Int32) then none else
  (jx_pF (jx_at (jx_new (jx_set (jx_new (jx_set (jx_new (jx_set (jx_new (jx_set (jx_new (jx_set (jx_new (jx_set (jx_inner (jx_set (jx_new (jx_set (jx_new (jx_set (jx_new (jx_set (jx_inner (jx_set (jx_new (jx_set (jx_new (jx_set (jx_inner (jx_set (jx_new (jx_set (jx_inner (jx_set (jx_new (jx_set (jx_new (jx_set (jx_new (jx_set (jx_inner (jx_set (jx_new (jx_set (jx_new (jx_set (jx_new (jx_set (jx_new (jx_set (jx_inner (jx_set (jx_new (jx_set (jx_new h ((8 : Int32)).toNatClampNeg (jx_arr 0 ((8 : Int32)).toNatClampNeg)) a0 e1) ((25 : Int32)).toNatClampNeg (jx_arr 0 ((25 : Int32)).toNatClampNeg)) a0 e2) ((41 : Int32)).toNatClampNeg ((25 : Int32)).toNatClampNeg) a0 e3) ((240 : Int32)).toNatClampNeg (jx_arr 0 ((240 : Int32)).toNatClampNeg)) a0 e4) ((4096 : Int32)).toNatClampNeg (jx_arr 1 ((4096 : Int32)).toNatClampNeg)) a0 e5) ((4096 : Int32)).toNatClampNeg (jx_arr 1 ((4096 : Int32)).toNatClampNeg)) a0 e6) ((13 : Int32)).toNatClampNeg (jx_arr 1 ((13 : Int32)).toNatClampNeg)) a0 e7) ((12 : Int32)).toNatClampNeg ((12 : Int32)).toNatClampNeg) a0 e8) ((120 : Int32)).toNatClampNeg (jx_arr 0 ((120 : Int32)).toNatClampNeg)) a0 e9) ((25 : Int32)).toNatClampNeg (jx_arr 0 ((25 : Int32)).toNatClampNeg)) a0 e10) ((12 : Int32)).toNatClampNeg (jx_arr 0 ((12 : Int32)).toNatClampNeg)) a0 e11) ((12 : Int32)).toNatClampNeg ((64 : Int32)).toNatClampNeg) a0 e12) ((12 : Int32)).toNatClampNeg (jx_arr 0 ((12 : Int32)).toNatClampNeg)) a0 e13) ((12 : Int32)).toNatClampNeg ((64 : Int32)).toNatClampNeg) a0 e14) ((12 : Int32)).toNatClampNeg (jx_arr 0 ((12 : Int32)).toNatClampNeg)) a0 e15) ((64 : Int32)).toNatClampNeg (jx_arr 0 ((64 : Int32)).toNatClampNeg)) a0 e16) ((4 : Int32)).toNatClampNeg ((25 : Int32)).toNatClampNeg) a0 e17) ((4 : Int32)).toNatClampNeg (jx_arr 3 ((4 : Int32)).toNatClampNeg)) a0 e18) ((64 : Int32)).toNatClampNeg (jx_arr 0 ((64 : Int32)).toNatClampNeg)) a0 e19) ((18 : Int32)).toNatClampNeg (jx_arr 0 ((18 : Int32)).toNatClampNeg)) a0 e20) ((6 : Int32)).toNatClampNeg ((25 : Int32)).toNatClampNeg) a0 e21) ((4 : Int32)).toNatClampNeg (jx_arr 0 ((4 : Int32)).toNatClampNeg)) a0 e22) ((4 : Int32)).toNatClampNeg (jx_arr 0 ((4 : Int32)).toNatClampNeg)) a0 e23) ((96 : Int32)).toNatClampNeg (jx_arr 0 ((96 : Int32)).toNatClampNeg)) a0 e24) ((24 : Int32)).toNatClampNeg (jx_arr 0 ((24 : Int32)).toNatClampNeg)) a0 e25) ((25 : Int32)).toNatClampNeg (jx_arr 0 ((25 : Int32)).toNatClampNeg)) a0 e26) ((18 : Int32)).toNatClampNeg (jx_arr 0 ((18 : Int32)).toNatClampNeg)) a0) 12 37 (.ref (jx_set (jx_new (jx_set (jx_new (jx_set (jx_new (jx_set (jx_new (jx_set (jx_new (jx_set (jx_inner (jx_set (jx_new (jx_set (jx_new (jx_set (jx_new (jx_set (jx_inner (jx_set (jx_new (jx_set (jx_new (jx_set (jx_inner (jx_set (jx_new (jx_set (jx_inner (jx_set (jx_new (jx_set (jx_new (jx_set (jx_new (jx_set (jx_inner (jx_set (jx_new (jx_set (jx_new (jx_set (jx_new (jx_set (jx_new (jx_set (jx_inner (jx_set (jx_new (jx_set (jx_new h ((8 : Int32)).toNatClampNeg (jx_arr 0 ((8 : Int32)).toNatClampNeg)) a0 e1) ((25 : Int32)).toNatClampNeg (jx_arr 0 ((25 : Int32)).toNatClampNeg)) a0 e2) ((41 : Int32)).toNatClampNeg ((25 : Int32)).toNatClampNeg) a0 e3) ((240 : Int32)).toNatClampNeg (jx_arr 0 ((240 : Int32)).toNatClampNeg)) a0 e4) ((4096 : Int32)).toNatClampNeg (jx_arr 1 ((4096 : Int32)).toNatClampNeg)) a0 e5) ((4096 : Int32)).toNatClampNeg (jx_arr 1 ((4096 : Int32)).toNatClampNeg)) a0 e6) ((13 : Int32)).toNatClampNeg (jx_arr 1 ((13 : Int32)).toNatClampNeg)) a0 e7) ((12 : Int32)).toNatClampNeg ((12 : Int32)).toNatClampNeg) a0 e8) ((120 : Int32)).toNatClampNeg (jx_arr 0 ((120 : Int32)).toNatClampNeg)) a0 e9) ((25 : Int32)).toNatClampNeg (jx_arr 0 ((25 : Int32)).toNatClampNeg)) a0 e10) ((12 : Int32)).toNatClampNeg (jx_arr 0 ((12 : Int32)).toNatClampNeg)) a0 e11) ((12 : Int32)).toNatClampNeg ((64 : Int32)).toNatClampNeg) a0 e12) ((12 : Int32)).toNatClampNeg (jx_arr 0 ((12 : Int32)).toNatClampNeg)) a0 e13) ((12 : Int32)).toNatClampNeg ((64 : Int32)).toNatClampNeg) a0 e14) ((12 : Int32)).toNatClampNeg (jx_arr 0 ((12 : Int32)).toNatClampNeg)) a0 e15) ((64 : Int32)).toNatClampNeg (jx_arr 0 ((64 : Int32)).toNatClampNeg)) a0 e16) ((4 : Int32)).toNatClampNeg ((25 : Int32)).toNatClampNeg) a0 e17) ((4 : Int32)).toNatClampNeg (jx_arr 3 ((4 : Int32)).toNatClampNeg)) a0 e18) ((64 : Int32)).toNatClampNeg (jx_arr 0 ((64 : Int32)).toNatClampNeg)) a0 e19) ((18 : Int32)).toNatClampNeg (jx_arr 0 ((18 : Int32)).toNatClampNeg)) a0 e20) ((6 : Int32)).toNatClampNeg ((25 : Int32)).toNatClampNeg) a0 e21) ((4 : Int32)).toNatClampNeg (jx_arr 0 ((4 : Int32)).toNatClampNeg)) a0 e22) ((4 : Int32)).toNatClampNeg (jx_arr 0 ((4 : Int32)).toNatClampNeg)) a0 e23) ((96 : Int32)).toNatClampNeg (jx_arr 0 ((96 : Int32)).toNatClampNeg)) a0 e24) ((24 : Int32)).toNatClampNeg (jx_arr 0 ((24 : Int32)).toNatClampNeg)) a0 e25) ((25 : Int32)).toNatClampNeg (jx_arr 0 ((25 : Int32)).toNatClampNeg)) a0 e26).1)).bind fun e27 =>
  some (none, (jx_set (jx_new (jx_set (jx_new (jx_set (jx_new (jx_set (jx_new (jx_set (jx_new (jx_set (jx_new (jx_set (jx_inner (jx_set (jx_new (jx_set (jx_new (jx_set (jx_new (jx_set (jx_inner (jx_set (jx_new (jx_set (jx_new (jx_set (jx_inner (jx_set (jx_new (jx_set (jx_inner (jx_set (jx_new (jx_set (jx_new (jx_set (jx_new (jx_set (jx_inner (jx_set (jx_new (jx_set (jx_new (jx_set (jx_new (jx_set (jx_new (jx_set (jx_inner (jx_set (jx_new (jx_set (jx_new h ((8 : Int32)).toNatClampNeg (jx_arr 0 ((8 : Int32)).toNatClampNeg)) a0 e1) ((25 : Int32)).toNatClampNeg (jx_arr 0 ((25 : Int32)).toNatClampNeg)) a0 e2) ((41 : Int32)).toNatClampNeg ((25 : Int32)).toNatClampNeg) a0 e3) ((240 : Int32)).toNatClampNeg (jx_arr 0 ((240 : Int32)).toNatClampNeg)) a0 e4) ((4096 : Int32)).toNatClampNeg (jx_arr 1 ((4096 : Int32)).toNatClampNeg)) a0 e5) ((4096 : Int32)).toNatClampNeg (jx_arr 1 ((4096 : Int32)).toNatClampNeg)) a0 e6) ((13 : Int32)).toNatClampNeg (jx_arr 1 ((13 : Int32)).toNatClampNeg)) a0 e7) ((12 : Int32)).toNatClampNeg ((12 : Int32)).toNatClampNeg) a0 e8) ((120 : Int32)).toNatClampNeg (jx_arr 0 ((120 : Int32)).toNatClampNeg)) a0 e9) ((25 : Int32)).toNatClampNeg (jx_arr 0 ((25 : Int32)).toNatClampNeg)) a0 e10) ((12 : Int32)).toNatClampNeg (jx_arr 0 ((12 : Int32)).toNatClampNeg)) a0 e11) ((12 : Int32)).toNatClampNeg ((64 : Int32)).toNatClampNeg) a0 e12) ((12 : Int32)).toNatClampNeg (jx_arr 0 ((12 : Int32)).toNatClampNeg)) a0 e13) ((12 : Int32)).toNatClampNeg ((64 : Int32)).toNatClampNeg) a0 e14) ((12 : Int32)).toNatClampNeg (jx_arr 0 ((12 : Int32)).toNatClampNeg)) a0 e15) ((64 : Int32)).toNatClampNeg (jx_arr 0 ((64 : Int32)).toNatClampNeg)) a0 e16) ((4 : Int32)).toNatClampNeg ((25 : Int32)).toNatClampNeg) a0 e17) ((4 : Int32)).toNatClampNeg (jx_arr 3 ((4 : Int32)).toNatClampNeg)) a0 e18) ((64 : Int32)).toNatClampNeg (jx_arr 0 ((64 : Int32)).toNatClampNeg)) a0 e19) ((18 : Int32)).toNatClampNeg (jx_arr 0 ((18 : Int32)).toNatClampNeg)) a0 e20) ((6 : Int32)).toNatClampNeg ((25 : Int32)).toNatClampNeg) a0 e21) ((4 : Int32)).toNatClampNeg (jx_arr 0 ((4 : Int32)).toNatClampNeg)) a0 e22) ((4 : Int32)).toNatClampNeg (jx_arr 0 ((4 : Int32)).toNatClampNeg)) a0 e23) ((96 : Int32)).toNatClampNeg (jx_arr 0 ((96 : Int32)).toNatClampNeg)) a0 e24) ((24 : Int32)).toNatClampNeg (jx_arr 0 ((24 : Int32)).toNatClampNeg)) a0 e25) ((25 : Int32)).toNatClampNeg (jx_arr 0 ((25 : Int32)).toNatClampNeg)) a0 e26) ((18 : Int32)).toNatClampNeg (jx_arr 0 ((18 : Int32)).toNatClampNeg)) a0 e27))
  else none :=
  jx_enter ((jx_G_run (jx_X_grows rc jx_dflt jx_mt d) 119 (0, [(0, .ref a0)], [], h)).trans rfl)
-- RoomTreesModel.in(JJJ)Z
set_option maxRecDepth 100000 in
theorem je_72 (rc : Nat → Nat × (Nat → Int32)) (d : Nat) (x0 : Int64) (x2 : Int64) (x4 : Int64) (h : jxH) : jx_C rc (d + 1) 72 [.long x0, .long x2, .long x4] h =
  if (lg_cmp x0 x2) < 0 then
    if jx_bool (0 : Int32) = true then some (some (.int (0 : Int32)), h) else none
  else
    if 0 < (lg_cmp x0 x4) then
      if jx_bool (0 : Int32) = true then some (some (.int (0 : Int32)), h) else none
    else
      if jx_bool (1 : Int32) = true then some (some (.int (1 : Int32)), h) else none :=
  (jx_G_run (jx_X_grows rc jx_dflt jx_mt d) 14 (0, [(0, .long x0), (2, .long x2), (4, .long x4)], [], h)).trans rfl
-- RoomTreesModel.error(I)I
set_option maxRecDepth 100000 in
theorem je_73 (rc : Nat → Nat × (Nat → Int32)) (d : Nat) (a0 : Nat) (x1 : Int32) (h : jxH) : jx_C rc (d + 1) 73 [.ref a0, .int x1] h =
  if jx_is (jx_at h a0) 12 = true then
  (jx_gR (jx_at h a0) 12 0).bind fun b1 =>
  (jx_aI (jx_at h b1) 0 x1).bind fun v2 =>
  (jx_sI (jx_at h b1) 0 x1 (v2 + (1 : Int32))).bind fun e3 =>
  some (some (.int ((-1100000000 : Int32) - x1)), (jx_set h b1 e3))
  else none :=
  jx_enter ((jx_G_run (jx_X_grows rc jx_dflt jx_mt d) 14 (0, [(0, .ref a0), (1, .int x1)], [], h)).trans rfl)
-- RoomTreesModel.copies([I[I)V
noncomputable def jb_74 (rc : Nat → Nat × (Nat → Int32)) (d : Nat) (i : Nat) (ls : List (Nat × Value)) (st : List Value) (h : jxH) : jxR := jx_G rc jx_dflt (jx_X rc jx_dflt jx_mt d) jc_74 (i, ls, st, h)
set_option maxRecDepth 100000 in
theorem je_74 (rc : Nat → Nat × (Nat → Int32)) (d : Nat) (a0 : Nat) (a1 : Nat) (h : jxH) : jx_C rc (d + 1) 74 [.ref a0, .ref a1] h =
  jb_74 rc d 2 [(0, .ref a0), (1, .ref a1), (2, .int (0 : Int32))] [] h :=
  (jx_G_run (jx_X_grows rc jx_dflt jx_mt d) 16 (0, [(0, .ref a0), (1, .ref a1)], [], h)).trans rfl
set_option maxRecDepth 100000 in
theorem je_74_2 (rc : Nat → Nat × (Nat → Int32)) (d : Nat) (a0 : Nat) (a1 : Nat) (x2 : Int32) (h : jxH) : jb_74 rc d 2 [(0, .ref a0), (1, .ref a1), (2, .int x2)] [] h =
  if (25 : Int32) ≤ x2 then
    some (none, h)
  else
    (jx_aI (jx_at h a0) 0 x2).bind fun v1 =>
    (jx_sI (jx_at h a1) 0 x2 v1).bind fun e2 =>
    jb_74 rc d 2 [(0, .ref a0), (1, .ref a1), (2, .int (x2 + (1 : Int32)))] [] (jx_set h a1 e2) :=
  (jx_G_run (jx_X_grows rc jx_dflt jx_mt d) 16 _).trans rfl
-- RoomTreesModel.has(II)Z
set_option maxRecDepth 100000 in
theorem je_75 (rc : Nat → Nat × (Nat → Int32)) (d : Nat) (x0 : Int32) (x1 : Int32) (h : jxH) : jx_C rc (d + 1) 75 [.int x0, .int x1] h =
  if ((x0 >>> (x1 &&& 31)) &&& (1 : Int32)) = (1 : Int32) then
    if jx_bool (1 : Int32) = true then some (some (.int (1 : Int32)), h) else none
  else
    if jx_bool (0 : Int32) = true then some (some (.int (0 : Int32)), h) else none :=
  (jx_G_run (jx_X_grows rc jx_dflt jx_mt d) 13 (0, [(0, .int x0), (1, .int x1)], [], h)).trans rfl
-- RoomTreesModel.many(I)I
noncomputable def jb_76 (rc : Nat → Nat × (Nat → Int32)) (d : Nat) (i : Nat) (ls : List (Nat × Value)) (st : List Value) (h : jxH) : jxR := jx_G rc jx_dflt (jx_X rc jx_dflt jx_mt d) jc_76 (i, ls, st, h)
set_option maxRecDepth 100000 in
theorem je_76 (rc : Nat → Nat × (Nat → Int32)) (d : Nat) (x0 : Int32) (h : jxH) : jx_C rc (d + 1) 76 [.int x0] h =
  jb_76 rc d 4 [(0, .int x0), (1, .int (0 : Int32)), (2, .int (0 : Int32))] [] h :=
  (jx_G_run (jx_X_grows rc jx_dflt jx_mt d) 21 (0, [(0, .int x0)], [], h)).trans rfl
set_option maxRecDepth 100000 in
theorem je_76_4 (rc : Nat → Nat × (Nat → Int32)) (d : Nat) (x0 : Int32) (x1 : Int32) (x2 : Int32) (h : jxH) : jb_76 rc d 4 [(0, .int x0), (1, .int x1), (2, .int x2)] [] h =
  if (12 : Int32) ≤ x2 then
    some (some (.int x1), h)
  else
    jb_76 rc d 4 [(0, .int x0), (1, .int (x1 + ((x0 >>> (x2 &&& 31)) &&& (1 : Int32)))), (2, .int (x2 + (1 : Int32)))] [] h :=
  (jx_G_run (jx_X_grows rc jx_dflt jx_mt d) 21 _).trans rfl
-- RoomTreesModel.lowest(I)I
noncomputable def jb_77 (rc : Nat → Nat × (Nat → Int32)) (d : Nat) (i : Nat) (ls : List (Nat × Value)) (st : List Value) (h : jxH) : jxR := jx_G rc jx_dflt (jx_X rc jx_dflt jx_mt d) jc_77 (i, ls, st, h)
set_option maxRecDepth 100000 in
theorem je_77 (rc : Nat → Nat × (Nat → Int32)) (d : Nat) (x0 : Int32) (h : jxH) : jx_C rc (d + 1) 77 [.int x0] h =
  jb_77 rc d 2 [(0, .int x0), (1, .int (0 : Int32))] [] h :=
  (jx_G_run (jx_X_grows rc jx_dflt jx_mt d) 12 (0, [(0, .int x0)], [], h)).trans rfl
set_option maxRecDepth 100000 in
theorem je_77_2 (rc : Nat → Nat × (Nat → Int32)) (d : Nat) (x0 : Int32) (x1 : Int32) (h : jxH) : jb_77 rc d 2 [(0, .int x0), (1, .int x1)] [] h =
  jx_cI (jx_C rc d 75 [.int x0, .int x1] h) fun v2 h1 =>
  if v2 = 0 then
    jb_77 rc d 2 [(0, .int x0), (1, .int (x1 + (1 : Int32)))] [] h1
  else
    some (some (.int x1), h1) :=
  (jx_G_run (jx_X_grows rc jx_dflt jx_mt d) 12 _).trans rfl
-- RoomTreesModel.isThere([II)Z
set_option maxRecDepth 100000 in
theorem je_78 (rc : Nat → Nat × (Nat → Int32)) (d : Nat) (a0 : Nat) (x1 : Int32) (h : jxH) : jx_C rc (d + 1) 78 [.ref a0, .int x1] h =
  jx_cI (jx_C rc d 72 [.long (x1).toInt64, .long (0 : Int64), .long (11 : Int64)] h) fun v2 h1 =>
  if v2 = 0 then
    if jx_bool (0 : Int32) = true then some (some (.int (0 : Int32)), h1) else none
  else
    (jx_aI (jx_at h1 a0) 0 (0 : Int32)).bind fun v3 =>
    jx_cI (jx_C rc d 75 [.int v3, .int x1] h1) fun v5 h4 =>
    if v5 = 0 then
      if jx_bool (0 : Int32) = true then some (some (.int (0 : Int32)), h4) else none
    else
      if jx_bool (1 : Int32) = true then some (some (.int (1 : Int32)), h4) else none :=
  (jx_G_run (jx_X_grows rc jx_dflt jx_mt d) 18 (0, [(0, .ref a0), (1, .int x1)], [], h)).trans rfl
-- RoomTreesModel.isVertex(I)Z
set_option maxRecDepth 100000 in
theorem je_79 (rc : Nat → Nat × (Nat → Int32)) (d : Nat) (a0 : Nat) (x1 : Int32) (h : jxH) : jx_C rc (d + 1) 79 [.ref a0, .int x1] h =
  if jx_is (jx_at h a0) 12 = true then
  (jx_gR (jx_at h a0) 12 1).bind fun b1 =>
  jx_cI (jx_C rc d 78 [.ref b1, .int x1] h) fun v3 h2 =>
  if jx_bool v3 = true then some (some (.int v3), h2) else none
  else none :=
  jx_enter ((jx_G_run (jx_X_grows rc jx_dflt jx_mt d) 7 (0, [(0, .ref a0), (1, .int x1)], [], h)).trans rfl)
-- RoomTreesModel.isWeight(I)Z
set_option maxRecDepth 100000 in
theorem je_80 (rc : Nat → Nat × (Nat → Int32)) (d : Nat) (x0 : Int32) (h : jxH) : jx_C rc (d + 1) 80 [.int x0] h =
  jx_cI (jx_C rc d 72 [.long (x0).toInt64, .long (-30 : Int64), .long (30 : Int64)] h) fun v2 h1 =>
  if jx_bool v2 = true then some (some (.int v2), h1) else none :=
  (jx_G_run (jx_X_grows rc jx_dflt jx_mt d) 8 (0, [(0, .int x0)], [], h)).trans rfl
-- RoomTreesModel.comes([II)I
set_option maxRecDepth 100000 in
theorem je_81 (rc : Nat → Nat × (Nat → Int32)) (d : Nat) (a0 : Nat) (x1 : Int32) (h : jxH) : jx_C rc (d + 1) 81 [.ref a0, .int x1] h =
  (jx_aI (jx_at h a0) 0 (0 : Int32)).bind fun v1 =>
  jx_cI (jx_C rc d 77 [.int (v1 ^^^ (-1 : Int32))] h) fun v3 h2 =>
  (jx_aI (jx_at h2 a0) 0 (0 : Int32)).bind fun v4 =>
  (jx_sI (jx_at h2 a0) 0 (0 : Int32) (v4 ||| ((1 : Int32) <<< (v3 &&& 31)))).bind fun e5 =>
  (jx_sI (jx_at (jx_set h2 a0 e5) a0) 0 ((1 : Int32) + v3) x1).bind fun e6 =>
  (jx_sI (jx_at (jx_set (jx_set h2 a0 e5) a0 e6) a0) 0 ((13 : Int32) + v3) (0 : Int32)).bind fun e7 =>
  some (some (.int v3), (jx_set (jx_set (jx_set h2 a0 e5) a0 e6) a0 e7)) :=
  (jx_G_run (jx_X_grows rc jx_dflt jx_mt d) 32 (0, [(0, .ref a0), (1, .int x1)], [], h)).trans rfl
-- RoomTreesModel.ties([III)V
set_option maxRecDepth 100000 in
theorem je_82 (rc : Nat → Nat × (Nat → Int32)) (d : Nat) (a0 : Nat) (x1 : Int32) (x2 : Int32) (h : jxH) : jx_C rc (d + 1) 82 [.ref a0, .int x1, .int x2] h =
  (jx_aI (jx_at h a0) 0 ((13 : Int32) + x1)).bind fun v1 =>
  (jx_sI (jx_at h a0) 0 ((13 : Int32) + x1) (v1 ||| ((1 : Int32) <<< (x2 &&& 31)))).bind fun e2 =>
  (jx_aI (jx_at (jx_set h a0 e2) a0) 0 ((13 : Int32) + x2)).bind fun v3 =>
  (jx_sI (jx_at (jx_set h a0 e2) a0) 0 ((13 : Int32) + x2) (v3 ||| ((1 : Int32) <<< (x1 &&& 31)))).bind fun e4 =>
  some (none, (jx_set (jx_set h a0 e2) a0 e4)) :=
  (jx_G_run (jx_X_grows rc jx_dflt jx_mt d) 25 (0, [(0, .ref a0), (1, .int x1), (2, .int x2)], [], h)).trans rfl
-- RoomTreesModel.cuts([III)V
set_option maxRecDepth 100000 in
theorem je_83 (rc : Nat → Nat × (Nat → Int32)) (d : Nat) (a0 : Nat) (x1 : Int32) (x2 : Int32) (h : jxH) : jx_C rc (d + 1) 83 [.ref a0, .int x1, .int x2] h =
  (jx_aI (jx_at h a0) 0 ((13 : Int32) + x1)).bind fun v1 =>
  (jx_sI (jx_at h a0) 0 ((13 : Int32) + x1) (v1 &&& (((1 : Int32) <<< (x2 &&& 31)) ^^^ (-1 : Int32)))).bind fun e2 =>
  (jx_aI (jx_at (jx_set h a0 e2) a0) 0 ((13 : Int32) + x2)).bind fun v3 =>
  (jx_sI (jx_at (jx_set h a0 e2) a0) 0 ((13 : Int32) + x2) (v3 &&& (((1 : Int32) <<< (x1 &&& 31)) ^^^ (-1 : Int32)))).bind fun e4 =>
  some (none, (jx_set (jx_set h a0 e2) a0 e4)) :=
  (jx_G_run (jx_X_grows rc jx_dflt jx_mt d) 29 (0, [(0, .ref a0), (1, .int x1), (2, .int x2)], [], h)).trans rfl
-- RoomTreesModel.leaves([II)V
noncomputable def jb_84 (rc : Nat → Nat × (Nat → Int32)) (d : Nat) (i : Nat) (ls : List (Nat × Value)) (st : List Value) (h : jxH) : jxR := jx_G rc jx_dflt (jx_X rc jx_dflt jx_mt d) jc_84 (i, ls, st, h)
set_option maxRecDepth 100000 in
theorem je_84 (rc : Nat → Nat × (Nat → Int32)) (d : Nat) (a0 : Nat) (x1 : Int32) (h : jxH) : jx_C rc (d + 1) 84 [.ref a0, .int x1] h =
  jb_84 rc d 2 [(0, .ref a0), (1, .int x1), (2, .int (0 : Int32))] [] h :=
  (jx_G_run (jx_X_grows rc jx_dflt jx_mt d) 46 (0, [(0, .ref a0), (1, .int x1)], [], h)).trans rfl
set_option maxRecDepth 100000 in
theorem je_84_2 (rc : Nat → Nat × (Nat → Int32)) (d : Nat) (a0 : Nat) (x1 : Int32) (x2 : Int32) (h : jxH) : jb_84 rc d 2 [(0, .ref a0), (1, .int x1), (2, .int x2)] [] h =
  if (12 : Int32) ≤ x2 then
    (jx_sI (jx_at h a0) 0 ((13 : Int32) + x1) (0 : Int32)).bind fun e1 =>
    (jx_sI (jx_at (jx_set h a0 e1) a0) 0 ((1 : Int32) + x1) (0 : Int32)).bind fun e2 =>
    (jx_aI (jx_at (jx_set (jx_set h a0 e1) a0 e2) a0) 0 (0 : Int32)).bind fun v3 =>
    (jx_sI (jx_at (jx_set (jx_set h a0 e1) a0 e2) a0) 0 (0 : Int32) (v3 &&& (((1 : Int32) <<< (x1 &&& 31)) ^^^ (-1 : Int32)))).bind fun e4 =>
    some (none, (jx_set (jx_set (jx_set h a0 e1) a0 e2) a0 e4))
  else
    (jx_aI (jx_at h a0) 0 ((13 : Int32) + x2)).bind fun v5 =>
    (jx_sI (jx_at h a0) 0 ((13 : Int32) + x2) (v5 &&& (((1 : Int32) <<< (x1 &&& 31)) ^^^ (-1 : Int32)))).bind fun e6 =>
    jb_84 rc d 2 [(0, .ref a0), (1, .int x1), (2, .int (x2 + (1 : Int32)))] [] (jx_set h a0 e6) :=
  (jx_G_run (jx_X_grows rc jx_dflt jx_mt d) 46 _).trans rfl
-- RoomTreesModel.treeOf([II)I
noncomputable def jb_85 (rc : Nat → Nat × (Nat → Int32)) (d : Nat) (i : Nat) (ls : List (Nat × Value)) (st : List Value) (h : jxH) : jxR := jx_G rc jx_dflt (jx_X rc jx_dflt jx_mt d) jc_85 (i, ls, st, h)
set_option maxRecDepth 100000 in
theorem je_85 (rc : Nat → Nat × (Nat → Int32)) (d : Nat) (a0 : Nat) (x1 : Int32) (h : jxH) : jx_C rc (d + 1) 85 [.ref a0, .int x1] h =
  jb_85 rc d 6 [(0, .ref a0), (2, .int ((1 : Int32) <<< (x1 &&& 31))), (3, .int (0 : Int32))] [] h :=
  (jx_G_run (jx_X_grows rc jx_dflt jx_mt d) 37 (0, [(0, .ref a0), (1, .int x1)], [], h)).trans rfl
set_option maxRecDepth 100000 in
theorem je_85_6 (rc : Nat → Nat × (Nat → Int32)) (d : Nat) (a0 : Nat) (x2 : Int32) (x3 : Int32) (h : jxH) : jb_85 rc d 6 [(0, .ref a0), (2, .int x2), (3, .int x3)] [] h =
  if x3 = x2 then
    some (some (.int x2), h)
  else
    jb_85 rc d 13 [(0, .ref a0), (2, .int x2), (3, .int x2), (4, .int (0 : Int32))] [] h :=
  (jx_G_run (jx_X_grows rc jx_dflt jx_mt d) 37 _).trans rfl
set_option maxRecDepth 100000 in
theorem je_85_13 (rc : Nat → Nat × (Nat → Int32)) (d : Nat) (a0 : Nat) (x2 : Int32) (x3 : Int32) (x4 : Int32) (h : jxH) : jb_85 rc d 13 [(0, .ref a0), (2, .int x2), (3, .int x3), (4, .int x4)] [] h =
  if (12 : Int32) ≤ x4 then
    jb_85 rc d 6 [(0, .ref a0), (2, .int x2), (3, .int x3)] [] h
  else
    jx_cI (jx_C rc d 75 [.int x2, .int x4] h) fun v2 h1 =>
    if v2 = 0 then
      jb_85 rc d 13 [(0, .ref a0), (2, .int (x2 ||| (0 : Int32))), (3, .int x3), (4, .int (x4 + (1 : Int32)))] [] h1
    else
      (jx_aI (jx_at h1 a0) 0 ((13 : Int32) + x4)).bind fun v3 =>
      jb_85 rc d 13 [(0, .ref a0), (2, .int (x2 ||| v3)), (3, .int x3), (4, .int (x4 + (1 : Int32)))] [] h1 :=
  (jx_G_run (jx_X_grows rc jx_dflt jx_mt d) 37 _).trans rfl
-- RoomTreesModel.trees([I)I
noncomputable def jb_86 (rc : Nat → Nat × (Nat → Int32)) (d : Nat) (i : Nat) (ls : List (Nat × Value)) (st : List Value) (h : jxH) : jxR := jx_G rc jx_dflt (jx_X rc jx_dflt jx_mt d) jc_86 (i, ls, st, h)
set_option maxRecDepth 100000 in
theorem je_86 (rc : Nat → Nat × (Nat → Int32)) (d : Nat) (a0 : Nat) (h : jxH) : jx_C rc (d + 1) 86 [.ref a0] h =
  jb_86 rc d 4 [(0, .ref a0), (1, .int (0 : Int32)), (2, .int (0 : Int32))] [] h :=
  (jx_G_run (jx_X_grows rc jx_dflt jx_mt d) 31 (0, [(0, .ref a0)], [], h)).trans rfl
set_option maxRecDepth 100000 in
theorem je_86_4 (rc : Nat → Nat × (Nat → Int32)) (d : Nat) (a0 : Nat) (x1 : Int32) (x2 : Int32) (h : jxH) : jb_86 rc d 4 [(0, .ref a0), (1, .int x1), (2, .int x2)] [] h =
  if (12 : Int32) ≤ x2 then
    some (some (.int x1), h)
  else
    (jx_aI (jx_at h a0) 0 (0 : Int32)).bind fun v1 =>
    jx_cI (jx_C rc d 75 [.int v1, .int x2] h) fun v3 h2 =>
    if v3 = 0 then
      jb_86 rc d 4 [(0, .ref a0), (1, .int (x1 + (0 : Int32))), (2, .int (x2 + (1 : Int32)))] [] h2
    else
      jx_cI (jx_C rc d 85 [.ref a0, .int x2] h2) fun v5 h4 =>
      jx_cI (jx_C rc d 77 [.int v5] h4) fun v7 h6 =>
      if v7 = x2 then
        jb_86 rc d 4 [(0, .ref a0), (1, .int (x1 + (1 : Int32))), (2, .int (x2 + (1 : Int32)))] [] h6
      else
        jb_86 rc d 4 [(0, .ref a0), (1, .int (x1 + (0 : Int32))), (2, .int (x2 + (1 : Int32)))] [] h6 :=
  (jx_G_run (jx_X_grows rc jx_dflt jx_mt d) 31 _).trans rfl
-- RoomTreesModel.lightest([II)I
set_option maxRecDepth 100000 in
theorem je_87 (rc : Nat → Nat × (Nat → Int32)) (d : Nat) (a0 : Nat) (x1 : Int32) (h : jxH) : jx_C rc (d + 1) 87 [.ref a0, .int x1] h =
  (jx_aI (jx_at h a0) 0 ((13 : Int32) + x1)).bind fun v1 =>
  jx_cI (jx_C rc d 77 [.int v1] h) fun v3 h2 =>
  some (some (.int v3), h2) :=
  (jx_G_run (jx_X_grows rc jx_dflt jx_mt d) 9 (0, [(0, .ref a0), (1, .int x1)], [], h)).trans rfl
-- RoomTreesModel.other([II)I
set_option maxRecDepth 100000 in
theorem je_88 (rc : Nat → Nat × (Nat → Int32)) (d : Nat) (a0 : Nat) (x1 : Int32) (h : jxH) : jx_C rc (d + 1) 88 [.ref a0, .int x1] h =
  (jx_aI (jx_at h a0) 0 ((13 : Int32) + x1)).bind fun v1 =>
  (jx_aI (jx_at h a0) 0 ((13 : Int32) + x1)).bind fun v2 =>
  jx_cI (jx_C rc d 77 [.int (v1 &&& (v2 - (1 : Int32)))] h) fun v4 h3 =>
  some (some (.int v4), h3) :=
  (jx_G_run (jx_X_grows rc jx_dflt jx_mt d) 17 (0, [(0, .ref a0), (1, .int x1)], [], h)).trans rfl
-- RoomTreesModel.isAsTold([IIIIII)Z
noncomputable def jb_89 (rc : Nat → Nat × (Nat → Int32)) (d : Nat) (i : Nat) (ls : List (Nat × Value)) (st : List Value) (h : jxH) : jxR := jx_G rc jx_dflt (jx_X rc jx_dflt jx_mt d) jc_89 (i, ls, st, h)
set_option maxRecDepth 100000 in
theorem je_89 (rc : Nat → Nat × (Nat → Int32)) (d : Nat) (a0 : Nat) (x1 : Int32) (x2 : Int32) (x3 : Int32) (x4 : Int32) (x5 : Int32) (h : jxH) : jx_C rc (d + 1) 89 [.ref a0, .int x1, .int x2, .int x3, .int x4, .int x5] h =
  jx_cI (jx_C rc d 72 [.long (x1).toInt64, .long (0 : Int64), .long (7 : Int64)] h) fun v2 h1 =>
  if v2 = 0 then
    if jx_bool (0 : Int32) = true then some (some (.int (0 : Int32)), h1) else none
  else
    if x1 = (3 : Int32) then
      if x1 = (1 : Int32) then
        jx_cI (jx_C rc d 78 [.ref a0, .int x3] h1) fun v4 h3 =>
        if v4 = 0 then
          if jx_bool (0 : Int32) = true then some (some (.int (0 : Int32)), h3) else none
        else
          jb_89 rc d 27 [(0, .ref a0), (1, .int x1), (2, .int x2), (4, .int x4), (5, .int x5)] [] h3
      else
        jb_89 rc d 27 [(0, .ref a0), (1, .int x1), (2, .int x2), (4, .int x4), (5, .int x5)] [] h1
    else
      if x1 = (6 : Int32) then
        if x1 = (1 : Int32) then
          jx_cI (jx_C rc d 78 [.ref a0, .int x3] h1) fun v6 h5 =>
          if v6 = 0 then
            if jx_bool (0 : Int32) = true then some (some (.int (0 : Int32)), h5) else none
          else
            jb_89 rc d 27 [(0, .ref a0), (1, .int x1), (2, .int x2), (4, .int x4), (5, .int x5)] [] h5
        else
          jb_89 rc d 27 [(0, .ref a0), (1, .int x1), (2, .int x2), (4, .int x4), (5, .int x5)] [] h1
      else
        jx_cI (jx_C rc d 78 [.ref a0, .int x2] h1) fun v8 h7 =>
        if v8 = 0 then
          if jx_bool (0 : Int32) = true then some (some (.int (0 : Int32)), h7) else none
        else
          if x1 = (1 : Int32) then
            jx_cI (jx_C rc d 78 [.ref a0, .int x3] h7) fun v10 h9 =>
            if v10 = 0 then
              if jx_bool (0 : Int32) = true then some (some (.int (0 : Int32)), h9) else none
            else
              jb_89 rc d 27 [(0, .ref a0), (1, .int x1), (2, .int x2), (4, .int x4), (5, .int x5)] [] h9
          else
            jb_89 rc d 27 [(0, .ref a0), (1, .int x1), (2, .int x2), (4, .int x4), (5, .int x5)] [] h7 :=
  (jx_G_run (jx_X_grows rc jx_dflt jx_mt d) 63 (0, [(0, .ref a0), (1, .int x1), (2, .int x2), (3, .int x3), (4, .int x4), (5, .int x5)], [], h)).trans rfl
set_option maxRecDepth 100000 in
theorem je_89_27 (rc : Nat → Nat × (Nat → Int32)) (d : Nat) (a0 : Nat) (x1 : Int32) (x2 : Int32) (x4 : Int32) (x5 : Int32) (h : jxH) : jb_89 rc d 27 [(0, .ref a0), (1, .int x1), (2, .int x2), (4, .int x4), (5, .int x5)] [] h =
  jx_cI (jx_C rc d 72 [.long (x1).toInt64, .long (1 : Int64), .long (3 : Int64)] h) fun v2 h1 =>
  if v2 = 0 then
    if x1 = (7 : Int32) then
      jx_cI (jx_C rc d 80 [.int x4] h1) fun v4 h3 =>
      if v4 = 0 then
        if jx_bool (0 : Int32) = true then some (some (.int (0 : Int32)), h3) else none
      else
        (jx_aI (jx_at h3 a0) 0 ((13 : Int32) + x2)).bind fun v5 =>
        if (x5 &&& (v5 ^^^ (-1 : Int32))) = 0 then
          if jx_bool (1 : Int32) = true then some (some (.int (1 : Int32)), h3) else none
        else
          if jx_bool (0 : Int32) = true then some (some (.int (0 : Int32)), h3) else none
    else
      if jx_bool (1 : Int32) = true then some (some (.int (1 : Int32)), h1) else none
  else
    if x4 = (1 : Int32) then
      if x1 = (7 : Int32) then
        jx_cI (jx_C rc d 80 [.int x4] h1) fun v7 h6 =>
        if v7 = 0 then
          if jx_bool (0 : Int32) = true then some (some (.int (0 : Int32)), h6) else none
        else
          (jx_aI (jx_at h6 a0) 0 ((13 : Int32) + x2)).bind fun v8 =>
          if (x5 &&& (v8 ^^^ (-1 : Int32))) = 0 then
            if jx_bool (1 : Int32) = true then some (some (.int (1 : Int32)), h6) else none
          else
            if jx_bool (0 : Int32) = true then some (some (.int (0 : Int32)), h6) else none
      else
        if jx_bool (1 : Int32) = true then some (some (.int (1 : Int32)), h1) else none
    else
      if x4 = (-1 : Int32) then
        if x1 = (7 : Int32) then
          jx_cI (jx_C rc d 80 [.int x4] h1) fun v10 h9 =>
          if v10 = 0 then
            if jx_bool (0 : Int32) = true then some (some (.int (0 : Int32)), h9) else none
          else
            (jx_aI (jx_at h9 a0) 0 ((13 : Int32) + x2)).bind fun v11 =>
            if (x5 &&& (v11 ^^^ (-1 : Int32))) = 0 then
              if jx_bool (1 : Int32) = true then some (some (.int (1 : Int32)), h9) else none
            else
              if jx_bool (0 : Int32) = true then some (some (.int (0 : Int32)), h9) else none
        else
          if jx_bool (1 : Int32) = true then some (some (.int (1 : Int32)), h1) else none
      else
        if jx_bool (0 : Int32) = true then some (some (.int (0 : Int32)), h1) else none :=
  (jx_G_run (jx_X_grows rc jx_dflt jx_mt d) 63 _).trans rfl
-- RoomTreesModel.canBe([IIII)Z
noncomputable def jb_90 (rc : Nat → Nat × (Nat → Int32)) (d : Nat) (i : Nat) (ls : List (Nat × Value)) (st : List Value) (h : jxH) : jxR := jx_G rc jx_dflt (jx_X rc jx_dflt jx_mt d) jc_90 (i, ls, st, h)
set_option maxRecDepth 100000 in
theorem je_90 (rc : Nat → Nat × (Nat → Int32)) (d : Nat) (a0 : Nat) (x1 : Int32) (x2 : Int32) (x3 : Int32) (h : jxH) : jx_C rc (d + 1) 90 [.ref a0, .int x1, .int x2, .int x3] h =
  if x1 = (3 : Int32) then
    if x1 = (3 : Int32) then
      jb_90 rc d 28 [(0, .ref a0), (1, .int x1), (2, .int x2), (3, .int x3), (4, .int (0 : Int32))] [.int (0 : Int32)] h
    else
      if x1 = (6 : Int32) then
        jb_90 rc d 28 [(0, .ref a0), (1, .int x1), (2, .int x2), (3, .int x3), (4, .int (0 : Int32))] [.int (0 : Int32)] h
      else
        (jx_aI (jx_at h a0) 0 ((13 : Int32) + x2)).bind fun v1 =>
        jx_cI (jx_C rc d 76 [.int v1] h) fun v3 h2 =>
        jb_90 rc d 28 [(0, .ref a0), (1, .int x1), (2, .int x2), (3, .int x3), (4, .int (0 : Int32))] [.int v3] h2
  else
    if x1 = (6 : Int32) then
      if x1 = (3 : Int32) then
        jb_90 rc d 28 [(0, .ref a0), (1, .int x1), (2, .int x2), (3, .int x3), (4, .int (0 : Int32))] [.int (0 : Int32)] h
      else
        if x1 = (6 : Int32) then
          jb_90 rc d 28 [(0, .ref a0), (1, .int x1), (2, .int x2), (3, .int x3), (4, .int (0 : Int32))] [.int (0 : Int32)] h
        else
          (jx_aI (jx_at h a0) 0 ((13 : Int32) + x2)).bind fun v4 =>
          jx_cI (jx_C rc d 76 [.int v4] h) fun v6 h5 =>
          jb_90 rc d 28 [(0, .ref a0), (1, .int x1), (2, .int x2), (3, .int x3), (4, .int (0 : Int32))] [.int v6] h5
    else
      (jx_aI (jx_at h a0) 0 ((1 : Int32) + x2)).bind fun v7 =>
      if x1 = (3 : Int32) then
        jb_90 rc d 28 [(0, .ref a0), (1, .int x1), (2, .int x2), (3, .int x3), (4, .int v7)] [.int (0 : Int32)] h
      else
        if x1 = (6 : Int32) then
          jb_90 rc d 28 [(0, .ref a0), (1, .int x1), (2, .int x2), (3, .int x3), (4, .int v7)] [.int (0 : Int32)] h
        else
          (jx_aI (jx_at h a0) 0 ((13 : Int32) + x2)).bind fun v8 =>
          jx_cI (jx_C rc d 76 [.int v8] h) fun v10 h9 =>
          jb_90 rc d 28 [(0, .ref a0), (1, .int x1), (2, .int x2), (3, .int x3), (4, .int v7)] [.int v10] h9 :=
  (jx_G_run (jx_X_grows rc jx_dflt jx_mt d) 74 (0, [(0, .ref a0), (1, .int x1), (2, .int x2), (3, .int x3)], [], h)).trans rfl
set_option maxRecDepth 100000 in
theorem je_90_28 (rc : Nat → Nat × (Nat → Int32)) (d : Nat) (a0 : Nat) (x1 : Int32) (x2 : Int32) (x3 : Int32) (x4 : Int32) (s0 : Int32) (h : jxH) : jb_90 rc d 28 [(0, .ref a0), (1, .int x1), (2, .int x2), (3, .int x3), (4, .int x4)] [.int s0] h =
  if x1 = (0 : Int32) then
    if x4 = (1 : Int32) then
      if (2 : Int32) < s0 then
        if jx_bool (0 : Int32) = true then some (some (.int (0 : Int32)), h) else none
      else
        if jx_bool (1 : Int32) = true then some (some (.int (1 : Int32)), h) else none
    else
      if x4 = (-1 : Int32) then
        if (2 : Int32) < s0 then
          if jx_bool (0 : Int32) = true then some (some (.int (0 : Int32)), h) else none
        else
          if jx_bool (1 : Int32) = true then some (some (.int (1 : Int32)), h) else none
      else
        if jx_bool (0 : Int32) = true then some (some (.int (0 : Int32)), h) else none
  else if x1 = ((0 : Int32) + 1) then
    (jx_aI (jx_at h a0) 0 ((13 : Int32) + x2)).bind fun v1 =>
    jx_cI (jx_C rc d 75 [.int v1, .int x3] h) fun v3 h2 =>
    if jx_bool v3 = true then some (some (.int v3), h2) else none
  else if x1 = (((0 : Int32) + 1) + 1) then
    if jx_bool (1 : Int32) = true then some (some (.int (1 : Int32)), h) else none
  else if x1 = ((((0 : Int32) + 1) + 1) + 1) then
    if jx_bool (1 : Int32) = true then some (some (.int (1 : Int32)), h) else none
  else if x1 = (((((0 : Int32) + 1) + 1) + 1) + 1) then
    if x4 = 0 then
      if s0 = (2 : Int32) then
        if jx_bool (1 : Int32) = true then some (some (.int (1 : Int32)), h) else none
      else
        if jx_bool (0 : Int32) = true then some (some (.int (0 : Int32)), h) else none
    else
      if jx_bool (0 : Int32) = true then some (some (.int (0 : Int32)), h) else none
  else if x1 = ((((((0 : Int32) + 1) + 1) + 1) + 1) + 1) then
    if x4 = 0 then
      if s0 = (1 : Int32) then
        if jx_bool (1 : Int32) = true then some (some (.int (1 : Int32)), h) else none
      else
        if jx_bool (0 : Int32) = true then some (some (.int (0 : Int32)), h) else none
    else
      if jx_bool (0 : Int32) = true then some (some (.int (0 : Int32)), h) else none
  else 
    if jx_bool (1 : Int32) = true then some (some (.int (1 : Int32)), h) else none :=
  (jx_G_run (jx_X_grows rc jx_dflt jx_mt d) 74 _).trans rfl
-- RoomTreesModel.room(I)I
set_option maxRecDepth 100000 in
theorem je_91 (rc : Nat → Nat × (Nat → Int32)) (d : Nat) (x0 : Int32) (h : jxH) : jx_C rc (d + 1) 91 [.int x0] h =
  if x0 = (7 : Int32) then
    some (some (.int (2 : Int32)), h)
  else
    jx_cI (jx_C rc d 72 [.long (x0).toInt64, .long (1 : Int64), .long (3 : Int64)] h) fun v2 h1 =>
    if v2 = 0 then
      some (some (.int (0 : Int32)), h1)
    else
      some (some (.int (1 : Int32)), h1) :=
  (jx_G_run (jx_X_grows rc jx_dflt jx_mt d) 17 (0, [(0, .int x0)], [], h)).trans rfl
-- RoomTreesModel.isLight([IIIII)Z
noncomputable def jb_92 (rc : Nat → Nat × (Nat → Int32)) (d : Nat) (i : Nat) (ls : List (Nat × Value)) (st : List Value) (h : jxH) : jxR := jx_G rc jx_dflt (jx_X rc jx_dflt jx_mt d) jc_92 (i, ls, st, h)
set_option maxRecDepth 100000 in
theorem je_92 (rc : Nat → Nat × (Nat → Int32)) (d : Nat) (a0 : Nat) (x1 : Int32) (x2 : Int32) (x3 : Int32) (x4 : Int32) (h : jxH) : jx_C rc (d + 1) 92 [.ref a0, .int x1, .int x2, .int x3, .int x4] h =
  if x1 = (0 : Int32) then
    jb_92 rc d 6 [(0, .ref a0), (2, .int x2), (5, .int (1 : Int32)), (6, .int (0 : Int32))] [] h
  else if x1 = ((0 : Int32) + 1) then
    (jx_aI (jx_at h a0) 0 ((1 : Int32) + x2)).bind fun v1 =>
    jx_cI (jx_C rc d 80 [.int (v1 + x4)] h) fun v3 h2 =>
    if v3 = 0 then
      if jx_bool (0 : Int32) = true then some (some (.int (0 : Int32)), h2) else none
    else
      (jx_aI (jx_at h2 a0) 0 ((1 : Int32) + x3)).bind fun v4 =>
      jx_cI (jx_C rc d 80 [.int (v4 + x4)] h2) fun v6 h5 =>
      if v6 = 0 then
        if jx_bool (0 : Int32) = true then some (some (.int (0 : Int32)), h5) else none
      else
        if jx_bool (1 : Int32) = true then some (some (.int (1 : Int32)), h5) else none
  else if x1 = (((0 : Int32) + 1) + 1) then
    (jx_aI (jx_at h a0) 0 ((1 : Int32) + x2)).bind fun v7 =>
    jx_cI (jx_C rc d 80 [.int (v7 + x4)] h) fun v9 h8 =>
    if jx_bool v9 = true then some (some (.int v9), h8) else none
  else if x1 = ((((0 : Int32) + 1) + 1) + 1) then
    if jx_bool (1 : Int32) = true then some (some (.int (1 : Int32)), h) else none
  else if x1 = (((((0 : Int32) + 1) + 1) + 1) + 1) then
    jx_cI (jx_C rc d 87 [.ref a0, .int x2] h) fun v11 h10 =>
    (jx_aI (jx_at h10 a0) 0 ((1 : Int32) + v11)).bind fun v12 =>
    jx_cI (jx_C rc d 88 [.ref a0, .int x2] h10) fun v14 h13 =>
    (jx_aI (jx_at h13 a0) 0 ((1 : Int32) + v14)).bind fun v15 =>
    jx_cI (jx_C rc d 80 [.int (v12 + v15)] h13) fun v17 h16 =>
    if jx_bool v17 = true then some (some (.int v17), h16) else none
  else if x1 = ((((((0 : Int32) + 1) + 1) + 1) + 1) + 1) then
    if jx_bool (1 : Int32) = true then some (some (.int (1 : Int32)), h) else none
  else if x1 = (((((((0 : Int32) + 1) + 1) + 1) + 1) + 1) + 1) then
    if jx_bool (1 : Int32) = true then some (some (.int (1 : Int32)), h) else none
  else if x1 = ((((((((0 : Int32) + 1) + 1) + 1) + 1) + 1) + 1) + 1) then
    (jx_aI (jx_at h a0) 0 ((1 : Int32) + x2)).bind fun v18 =>
    jx_cI (jx_C rc d 80 [.int (v18 - x4)] h) fun v20 h19 =>
    if jx_bool v20 = true then some (some (.int v20), h19) else none
  else 
    if jx_bool (1 : Int32) = true then some (some (.int (1 : Int32)), h) else none :=
  (jx_G_run (jx_X_grows rc jx_dflt jx_mt d) 101 (0, [(0, .ref a0), (1, .int x1), (2, .int x2), (3, .int x3), (4, .int x4)], [], h)).trans rfl
set_option maxRecDepth 100000 in
theorem je_92_6 (rc : Nat → Nat × (Nat → Int32)) (d : Nat) (a0 : Nat) (x2 : Int32) (x5 : Int32) (x6 : Int32) (h : jxH) : jb_92 rc d 6 [(0, .ref a0), (2, .int x2), (5, .int x5), (6, .int x6)] [] h =
  if (12 : Int32) ≤ x6 then
    if jx_bool x5 = true then some (some (.int x5), h) else none
  else
    (jx_aI (jx_at h a0) 0 ((13 : Int32) + x2)).bind fun v1 =>
    jx_cI (jx_C rc d 75 [.int v1, .int x6] h) fun v3 h2 =>
    if v3 = 0 then
      jb_92 rc d 6 [(0, .ref a0), (2, .int x2), (5, .int (x5 &&& (1 : Int32))), (6, .int (x6 + (1 : Int32)))] [] h2
    else
      (jx_aI (jx_at h2 a0) 0 ((1 : Int32) + x6)).bind fun v4 =>
      (jx_aI (jx_at h2 a0) 0 ((1 : Int32) + x2)).bind fun v5 =>
      jx_cI (jx_C rc d 80 [.int (v4 - v5)] h2) fun v7 h6 =>
      if v7 = 0 then
        jb_92 rc d 6 [(0, .ref a0), (2, .int x2), (5, .int (x5 &&& (0 : Int32))), (6, .int (x6 + (1 : Int32)))] [] h6
      else
        jb_92 rc d 6 [(0, .ref a0), (2, .int x2), (5, .int (x5 &&& (1 : Int32))), (6, .int (x6 + (1 : Int32)))] [] h6 :=
  (jx_G_run (jx_X_grows rc jx_dflt jx_mt d) 101 _).trans rfl
-- RoomTreesModel.refused([IIIIII)I
set_option maxRecDepth 100000 in
theorem je_93 (rc : Nat → Nat × (Nat → Int32)) (d : Nat) (a0 : Nat) (x1 : Int32) (x2 : Int32) (x3 : Int32) (x4 : Int32) (x5 : Int32) (h : jxH) : jx_C rc (d + 1) 93 [.ref a0, .int x1, .int x2, .int x3, .int x4, .int x5] h =
  jx_cI (jx_C rc d 89 [.ref a0, .int x1, .int x2, .int x3, .int x4, .int x5] h) fun v2 h1 =>
  if v2 = 0 then
    some (some (.int (1 : Int32)), h1)
  else
    jx_cI (jx_C rc d 90 [.ref a0, .int x1, .int x2, .int x3] h1) fun v4 h3 =>
    if v4 = 0 then
      some (some (.int (3 : Int32)), h3)
    else
      (jx_aI (jx_at h3 a0) 0 (0 : Int32)).bind fun v5 =>
      jx_cI (jx_C rc d 76 [.int v5] h3) fun v7 h6 =>
      jx_cI (jx_C rc d 91 [.int x1] h6) fun v9 h8 =>
      if (v7 + v9) ≤ (12 : Int32) then
        jx_cI (jx_C rc d 92 [.ref a0, .int x1, .int x2, .int x3, .int x4] h8) fun v11 h10 =>
        if v11 = 0 then
          some (some (.int (5 : Int32)), h10)
        else
          some (some (.int (0 : Int32)), h10)
      else
        some (some (.int (4 : Int32)), h8) :=
  (jx_G_run (jx_X_grows rc jx_dflt jx_mt d) 42 (0, [(0, .ref a0), (1, .int x1), (2, .int x2), (3, .int x3), (4, .int x4), (5, .int x5)], [], h)).trans rfl
-- RoomTreesModel.signOf([IIII)I
set_option maxRecDepth 100000 in
theorem je_94 (rc : Nat → Nat × (Nat → Int32)) (d : Nat) (a0 : Nat) (x1 : Int32) (x2 : Int32) (x3 : Int32) (h : jxH) : jx_C rc (d + 1) 94 [.ref a0, .int x1, .int x2, .int x3] h =
  if x1 = 0 then
    (jx_aI (jx_at h a0) 0 ((1 : Int32) + x2)).bind fun v1 =>
    some (some (.int v1), h)
  else
    jx_cI (jx_C rc d 72 [.long (x1).toInt64, .long (1 : Int64), .long (3 : Int64)] h) fun v3 h2 =>
    if v3 = 0 then
      if x1 = (6 : Int32) then
        (jx_aI (jx_at h2 a0) 0 (0 : Int32)).bind fun v4 =>
        jx_cI (jx_C rc d 76 [.int v4] h2) fun v6 h5 =>
        if (2 : Int32) = 0 then none else if (v6 - v6 / (2 : Int32) * (2 : Int32)) = 0 then
          some (some (.int (1 : Int32)), h5)
        else
          some (some (.int (-1 : Int32)), h5)
      else
        some (some (.int (-1 : Int32)), h2)
    else
      some (some (.int x3), h2) :=
  (jx_G_run (jx_X_grows rc jx_dflt jx_mt d) 32 (0, [(0, .ref a0), (1, .int x1), (2, .int x2), (3, .int x3)], [], h)).trans rfl
-- RoomTreesModel.goesDown([II)V
noncomputable def jb_95 (rc : Nat → Nat × (Nat → Int32)) (d : Nat) (i : Nat) (ls : List (Nat × Value)) (st : List Value) (h : jxH) : jxR := jx_G rc jx_dflt (jx_X rc jx_dflt jx_mt d) jc_95 (i, ls, st, h)
set_option maxRecDepth 100000 in
theorem je_95 (rc : Nat → Nat × (Nat → Int32)) (d : Nat) (a0 : Nat) (x1 : Int32) (h : jxH) : jx_C rc (d + 1) 95 [.ref a0, .int x1] h =
  (jx_aI (jx_at h a0) 0 ((1 : Int32) + x1)).bind fun v1 =>
  (jx_aI (jx_at h a0) 0 ((13 : Int32) + x1)).bind fun v2 =>
  jb_95 rc d 14 [(0, .ref a0), (1, .int x1), (2, .int v1), (3, .int v2), (4, .int (0 : Int32))] [] h :=
  (jx_G_run (jx_X_grows rc jx_dflt jx_mt d) 54 (0, [(0, .ref a0), (1, .int x1)], [], h)).trans rfl
set_option maxRecDepth 100000 in
theorem je_95_14 (rc : Nat → Nat × (Nat → Int32)) (d : Nat) (a0 : Nat) (x1 : Int32) (x2 : Int32) (x3 : Int32) (x4 : Int32) (h : jxH) : jb_95 rc d 14 [(0, .ref a0), (1, .int x1), (2, .int x2), (3, .int x3), (4, .int x4)] [] h =
  if (12 : Int32) ≤ x4 then
    jx_cV (jx_C rc d 84 [.ref a0, .int x1] h) fun h1 =>
    jx_cI (jx_C rc d 76 [.int x3] h1) fun v3 h2 =>
    if v3 = (2 : Int32) then
      jx_cI (jx_C rc d 77 [.int x3] h2) fun v5 h4 =>
      jx_cI (jx_C rc d 77 [.int (x3 &&& (x3 - (1 : Int32)))] h4) fun v7 h6 =>
      jx_cV (jx_C rc d 82 [.ref a0, .int v5, .int v7] h6) fun h8 =>
      some (none, h8)
    else
      some (none, h2)
  else
    (jx_aI (jx_at h a0) 0 ((1 : Int32) + x4)).bind fun v9 =>
    jx_cI (jx_C rc d 75 [.int x3, .int x4] h) fun v11 h10 =>
    if v11 = 0 then
      (jx_sI (jx_at h10 a0) 0 ((1 : Int32) + x4) (v9 - (0 : Int32))).bind fun e12 =>
      jb_95 rc d 14 [(0, .ref a0), (1, .int x1), (2, .int x2), (3, .int x3), (4, .int (x4 + (1 : Int32)))] [] (jx_set h10 a0 e12)
    else
      (jx_sI (jx_at h10 a0) 0 ((1 : Int32) + x4) (v9 - x2)).bind fun e13 =>
      jb_95 rc d 14 [(0, .ref a0), (1, .int x1), (2, .int x2), (3, .int x3), (4, .int (x4 + (1 : Int32)))] [] (jx_set h10 a0 e13) :=
  (jx_G_run (jx_X_grows rc jx_dflt jx_mt d) 54 _).trans rfl
-- RoomTreesModel.goesUp([IIII)V
set_option maxRecDepth 100000 in
theorem je_96 (rc : Nat → Nat × (Nat → Int32)) (d : Nat) (a0 : Nat) (x1 : Int32) (x2 : Int32) (x3 : Int32) (h : jxH) : jx_C rc (d + 1) 96 [.ref a0, .int x1, .int x2, .int x3] h =
  (jx_aI (jx_at h a0) 0 ((1 : Int32) + x1)).bind fun v1 =>
  (jx_sI (jx_at h a0) 0 ((1 : Int32) + x1) (v1 + x3)).bind fun e2 =>
  (jx_aI (jx_at (jx_set h a0 e2) a0) 0 ((1 : Int32) + x2)).bind fun v3 =>
  (jx_sI (jx_at (jx_set h a0 e2) a0) 0 ((1 : Int32) + x2) (v3 + x3)).bind fun e4 =>
  jx_cV (jx_C rc d 83 [.ref a0, .int x1, .int x2] (jx_set (jx_set h a0 e2) a0 e4)) fun h5 =>
  jx_cI (jx_C rc d 81 [.ref a0, .int x3] h5) fun v7 h6 =>
  jx_cV (jx_C rc d 82 [.ref a0, .int v7, .int x1] h6) fun h8 =>
  jx_cV (jx_C rc d 82 [.ref a0, .int v7, .int x2] h8) fun h9 =>
  some (none, h9) :=
  (jx_G_run (jx_X_grows rc jx_dflt jx_mt d) 37 (0, [(0, .ref a0), (1, .int x1), (2, .int x2), (3, .int x3)], [], h)).trans rfl
-- RoomTreesModel.absorbs([II)V
noncomputable def jb_97 (rc : Nat → Nat × (Nat → Int32)) (d : Nat) (i : Nat) (ls : List (Nat × Value)) (st : List Value) (h : jxH) : jxR := jx_G rc jx_dflt (jx_X rc jx_dflt jx_mt d) jc_97 (i, ls, st, h)
set_option maxRecDepth 100000 in
theorem je_97 (rc : Nat → Nat × (Nat → Int32)) (d : Nat) (a0 : Nat) (x1 : Int32) (h : jxH) : jx_C rc (d + 1) 97 [.ref a0, .int x1] h =
  jx_cI (jx_C rc d 87 [.ref a0, .int x1] h) fun v2 h1 =>
  jx_cI (jx_C rc d 88 [.ref a0, .int x1] h1) fun v4 h3 =>
  (jx_aI (jx_at h3 a0) 0 ((1 : Int32) + v2)).bind fun v5 =>
  (jx_aI (jx_at h3 a0) 0 ((1 : Int32) + v4)).bind fun v6 =>
  (jx_sI (jx_at h3 a0) 0 ((1 : Int32) + v2) (v5 + v6)).bind fun e7 =>
  (jx_aI (jx_at (jx_set h3 a0 e7) a0) 0 ((13 : Int32) + v4)).bind fun v8 =>
  jb_97 rc d 29 [(0, .ref a0), (1, .int x1), (2, .int v2), (3, .int v4), (4, .int v8), (5, .int (0 : Int32))] [] (jx_set h3 a0 e7) :=
  (jx_G_run (jx_X_grows rc jx_dflt jx_mt d) 54 (0, [(0, .ref a0), (1, .int x1)], [], h)).trans rfl
set_option maxRecDepth 100000 in
theorem je_97_29 (rc : Nat → Nat × (Nat → Int32)) (d : Nat) (a0 : Nat) (x1 : Int32) (x2 : Int32) (x3 : Int32) (x4 : Int32) (x5 : Int32) (h : jxH) : jb_97 rc d 29 [(0, .ref a0), (1, .int x1), (2, .int x2), (3, .int x3), (4, .int x4), (5, .int x5)] [] h =
  if (12 : Int32) ≤ x5 then
    jx_cV (jx_C rc d 84 [.ref a0, .int x1] h) fun h1 =>
    jx_cV (jx_C rc d 84 [.ref a0, .int x3] h1) fun h2 =>
    some (none, h2)
  else
    jx_cI (jx_C rc d 75 [.int x4, .int x5] h) fun v4 h3 =>
    if v4 = 0 then
      jb_97 rc d 29 [(0, .ref a0), (1, .int x1), (2, .int x2), (3, .int x3), (4, .int x4), (5, .int (x5 + (1 : Int32)))] [] h3
    else
      if x5 = x1 then
        jb_97 rc d 29 [(0, .ref a0), (1, .int x1), (2, .int x2), (3, .int x3), (4, .int x4), (5, .int (x5 + (1 : Int32)))] [] h3
      else
        jx_cV (jx_C rc d 82 [.ref a0, .int x2, .int x5] h3) fun h5 =>
        jb_97 rc d 29 [(0, .ref a0), (1, .int x1), (2, .int x2), (3, .int x3), (4, .int x4), (5, .int (x5 + (1 : Int32)))] [] h5 :=
  (jx_G_run (jx_X_grows rc jx_dflt jx_mt d) 54 _).trans rfl
-- RoomTreesModel.draws([IIII)V
noncomputable def jb_98 (rc : Nat → Nat × (Nat → Int32)) (d : Nat) (i : Nat) (ls : List (Nat × Value)) (st : List Value) (h : jxH) : jxR := jx_G rc jx_dflt (jx_X rc jx_dflt jx_mt d) jc_98 (i, ls, st, h)
set_option maxRecDepth 100000 in
theorem je_98 (rc : Nat → Nat × (Nat → Int32)) (d : Nat) (a0 : Nat) (x1 : Int32) (x2 : Int32) (x3 : Int32) (h : jxH) : jx_C rc (d + 1) 98 [.ref a0, .int x1, .int x2, .int x3] h =
  (jx_aI (jx_at h a0) 0 ((1 : Int32) + x1)).bind fun v1 =>
  (jx_sI (jx_at h a0) 0 ((1 : Int32) + x1) (v1 - x2)).bind fun e2 =>
  jx_cI (jx_C rc d 81 [.ref a0, .int (0 : Int32)] (jx_set h a0 e2)) fun v4 h3 =>
  jx_cI (jx_C rc d 81 [.ref a0, .int x2] h3) fun v6 h5 =>
  jb_98 rc d 19 [(0, .ref a0), (1, .int x1), (3, .int x3), (4, .int v4), (5, .int v6), (6, .int (0 : Int32))] [] h5 :=
  (jx_G_run (jx_X_grows rc jx_dflt jx_mt d) 47 (0, [(0, .ref a0), (1, .int x1), (2, .int x2), (3, .int x3)], [], h)).trans rfl
set_option maxRecDepth 100000 in
theorem je_98_19 (rc : Nat → Nat × (Nat → Int32)) (d : Nat) (a0 : Nat) (x1 : Int32) (x3 : Int32) (x4 : Int32) (x5 : Int32) (x6 : Int32) (h : jxH) : jb_98 rc d 19 [(0, .ref a0), (1, .int x1), (3, .int x3), (4, .int x4), (5, .int x5), (6, .int x6)] [] h =
  if (12 : Int32) ≤ x6 then
    jx_cV (jx_C rc d 82 [.ref a0, .int x4, .int x1] h) fun h1 =>
    jx_cV (jx_C rc d 82 [.ref a0, .int x5, .int x4] h1) fun h2 =>
    some (none, h2)
  else
    jx_cI (jx_C rc d 75 [.int x3, .int x6] h) fun v4 h3 =>
    if v4 = 0 then
      jb_98 rc d 19 [(0, .ref a0), (1, .int x1), (3, .int x3), (4, .int x4), (5, .int x5), (6, .int (x6 + (1 : Int32)))] [] h3
    else
      jx_cV (jx_C rc d 83 [.ref a0, .int x1, .int x6] h3) fun h5 =>
      jx_cV (jx_C rc d 82 [.ref a0, .int x5, .int x6] h5) fun h6 =>
      jb_98 rc d 19 [(0, .ref a0), (1, .int x1), (3, .int x3), (4, .int x4), (5, .int x5), (6, .int (x6 + (1 : Int32)))] [] h6 :=
  (jx_G_run (jx_X_grows rc jx_dflt jx_mt d) 47 _).trans rfl
-- RoomTreesModel.does([IIIIII)V
noncomputable def jb_99 (rc : Nat → Nat × (Nat → Int32)) (d : Nat) (i : Nat) (ls : List (Nat × Value)) (st : List Value) (h : jxH) : jxR := jx_G rc jx_dflt (jx_X rc jx_dflt jx_mt d) jc_99 (i, ls, st, h)
set_option maxRecDepth 100000 in
theorem je_99 (rc : Nat → Nat × (Nat → Int32)) (d : Nat) (a0 : Nat) (x1 : Int32) (x2 : Int32) (x3 : Int32) (x4 : Int32) (x5 : Int32) (h : jxH) : jx_C rc (d + 1) 99 [.ref a0, .int x1, .int x2, .int x3, .int x4, .int x5] h =
  if x1 = (0 : Int32) then
    jx_cV (jx_C rc d 95 [.ref a0, .int x2] h) fun h1 =>
    some (none, h1)
  else if x1 = ((0 : Int32) + 1) then
    jx_cV (jx_C rc d 96 [.ref a0, .int x2, .int x3, .int x4] h) fun h2 =>
    some (none, h2)
  else if x1 = (((0 : Int32) + 1) + 1) then
    (jx_aI (jx_at h a0) 0 ((1 : Int32) + x2)).bind fun v3 =>
    (jx_sI (jx_at h a0) 0 ((1 : Int32) + x2) (v3 + x4)).bind fun e4 =>
    jx_cI (jx_C rc d 81 [.ref a0, .int x4] (jx_set h a0 e4)) fun v6 h5 =>
    jx_cV (jx_C rc d 82 [.ref a0, .int v6, .int x2] h5) fun h7 =>
    some (none, h7)
  else if x1 = ((((0 : Int32) + 1) + 1) + 1) then
    jx_cI (jx_C rc d 81 [.ref a0, .int x4] h) fun v9 h8 =>
    some (none, h8)
  else if x1 = (((((0 : Int32) + 1) + 1) + 1) + 1) then
    jx_cV (jx_C rc d 97 [.ref a0, .int x2] h) fun h10 =>
    some (none, h10)
  else if x1 = ((((((0 : Int32) + 1) + 1) + 1) + 1) + 1) then
    jx_cI (jx_C rc d 87 [.ref a0, .int x2] h) fun v12 h11 =>
    jx_cV (jx_C rc d 84 [.ref a0, .int x2] h11) fun h13 =>
    jx_cV (jx_C rc d 84 [.ref a0, .int v12] h13) fun h14 =>
    some (none, h14)
  else if x1 = (((((((0 : Int32) + 1) + 1) + 1) + 1) + 1) + 1) then
    jb_99 rc d 50 [(0, .ref a0), (6, .int (0 : Int32))] [] h
  else 
    jx_cV (jx_C rc d 98 [.ref a0, .int x2, .int x4, .int x5] h) fun h15 =>
    some (none, h15) :=
  (jx_G_run (jx_X_grows rc jx_dflt jx_mt d) 75 (0, [(0, .ref a0), (1, .int x1), (2, .int x2), (3, .int x3), (4, .int x4), (5, .int x5)], [], h)).trans rfl
set_option maxRecDepth 100000 in
theorem je_99_50 (rc : Nat → Nat × (Nat → Int32)) (d : Nat) (a0 : Nat) (x6 : Int32) (h : jxH) : jb_99 rc d 50 [(0, .ref a0), (6, .int x6)] [] h =
  if (12 : Int32) ≤ x6 then
    some (none, h)
  else
    (jx_aI (jx_at h a0) 0 ((1 : Int32) + x6)).bind fun v1 =>
    (jx_sI (jx_at h a0) 0 ((1 : Int32) + x6) (-v1)).bind fun e2 =>
    jb_99 rc d 50 [(0, .ref a0), (6, .int (x6 + (1 : Int32)))] [] (jx_set h a0 e2) :=
  (jx_G_run (jx_X_grows rc jx_dflt jx_mt d) 75 _).trans rfl
-- RoomTreesModel.byHand()V
set_option maxRecDepth 100000 in
theorem je_100 (rc : Nat → Nat × (Nat → Int32)) (d : Nat) (a0 : Nat) (h : jxH) : jx_C rc (d + 1) 100 [.ref a0] h =
  if jx_is (jx_at h a0) 12 = true then
  (jx_pF (jx_at h a0) 12 4 (.int (0 : Int32))).bind fun e1 =>
  (jx_pF (jx_at (jx_set h a0 e1) a0) 12 5 (.int (0 : Int32))).bind fun e2 =>
  some (none, (jx_set (jx_set h a0 e1) a0 e2))
  else none :=
  jx_enter ((jx_G_run (jx_X_grows rc jx_dflt jx_mt d) 9 (0, [(0, .ref a0)], [], h)).trans rfl)
-- RoomTreesModel.goes(IIIII)V
noncomputable def jb_101 (rc : Nat → Nat × (Nat → Int32)) (d : Nat) (i : Nat) (ls : List (Nat × Value)) (st : List Value) (h : jxH) : jxR := jx_G rc jx_dflt (jx_X rc jx_dflt jx_mt d) jc_101 (i, ls, st, h)
set_option maxRecDepth 100000 in
theorem je_101 (rc : Nat → Nat × (Nat → Int32)) (d : Nat) (a0 : Nat) (x1 : Int32) (x2 : Int32) (x3 : Int32) (x4 : Int32) (x5 : Int32) (h : jxH) : jx_C rc (d + 1) 101 [.ref a0, .int x1, .int x2, .int x3, .int x4, .int x5] h =
  if jx_is (jx_at h a0) 12 = true then
  (jx_gR (jx_at h a0) 12 1).bind fun b1 =>
  (jx_gR (jx_at h a0) 12 2).bind fun b2 =>
  (jx_gI (jx_at h a0) 12 4).bind fun v3 =>
  (jx_aQ (jx_at h b2) 8 v3).bind fun o4 =>
  jx_mo o4 (fun b5 => jx_cV (jx_C rc d 74 [.ref b1, .ref b5] h) fun h6 =>
    (jx_gI (jx_at h6 a0) 12 4).bind fun v7 =>
    (jx_gR (jx_at h6 a0) 12 3).bind fun b8 =>
    (jx_sI (jx_at h6 b8) 0 ((6 : Int32) * v7) x1).bind fun e9 =>
    (jx_gR (jx_at (jx_set h6 b8 e9) a0) 12 3).bind fun b10 =>
    if x1 = (3 : Int32) then
      (jx_sI (jx_at (jx_set h6 b8 e9) b10) 0 (((6 : Int32) * v7) + (1 : Int32)) (0 : Int32)).bind fun e11 =>
      (jx_gR (jx_at (jx_set (jx_set h6 b8 e9) b10 e11) a0) 12 3).bind fun b12 =>
      if x1 = (1 : Int32) then
        jb_101 rc d 44 [(0, .ref a0), (1, .int x1), (2, .int x2), (3, .int x3), (4, .int x4), (5, .int x5), (6, .int ((6 : Int32) * v7))] [.int x3, .int (((6 : Int32) * v7) + (2 : Int32)), .ref b12] (jx_set (jx_set h6 b8 e9) b10 e11)
      else
        jb_101 rc d 44 [(0, .ref a0), (1, .int x1), (2, .int x2), (3, .int x3), (4, .int x4), (5, .int x5), (6, .int ((6 : Int32) * v7))] [.int (0 : Int32), .int (((6 : Int32) * v7) + (2 : Int32)), .ref b12] (jx_set (jx_set h6 b8 e9) b10 e11)
    else
      if x1 = (6 : Int32) then
        (jx_sI (jx_at (jx_set h6 b8 e9) b10) 0 (((6 : Int32) * v7) + (1 : Int32)) (0 : Int32)).bind fun e13 =>
        (jx_gR (jx_at (jx_set (jx_set h6 b8 e9) b10 e13) a0) 12 3).bind fun b14 =>
        if x1 = (1 : Int32) then
          jb_101 rc d 44 [(0, .ref a0), (1, .int x1), (2, .int x2), (3, .int x3), (4, .int x4), (5, .int x5), (6, .int ((6 : Int32) * v7))] [.int x3, .int (((6 : Int32) * v7) + (2 : Int32)), .ref b14] (jx_set (jx_set h6 b8 e9) b10 e13)
        else
          jb_101 rc d 44 [(0, .ref a0), (1, .int x1), (2, .int x2), (3, .int x3), (4, .int x4), (5, .int x5), (6, .int ((6 : Int32) * v7))] [.int (0 : Int32), .int (((6 : Int32) * v7) + (2 : Int32)), .ref b14] (jx_set (jx_set h6 b8 e9) b10 e13)
      else
        (jx_sI (jx_at (jx_set h6 b8 e9) b10) 0 (((6 : Int32) * v7) + (1 : Int32)) x2).bind fun e15 =>
        (jx_gR (jx_at (jx_set (jx_set h6 b8 e9) b10 e15) a0) 12 3).bind fun b16 =>
        if x1 = (1 : Int32) then
          jb_101 rc d 44 [(0, .ref a0), (1, .int x1), (2, .int x2), (3, .int x3), (4, .int x4), (5, .int x5), (6, .int ((6 : Int32) * v7))] [.int x3, .int (((6 : Int32) * v7) + (2 : Int32)), .ref b16] (jx_set (jx_set h6 b8 e9) b10 e15)
        else
          jb_101 rc d 44 [(0, .ref a0), (1, .int x1), (2, .int x2), (3, .int x3), (4, .int x4), (5, .int x5), (6, .int ((6 : Int32) * v7))] [.int (0 : Int32), .int (((6 : Int32) * v7) + (2 : Int32)), .ref b16] (jx_set (jx_set h6 b8 e9) b10 e15))
  (jx_cV (jx_C rc d 74 [.ref b1, .null] h) fun h17 =>
    (jx_gI (jx_at h17 a0) 12 4).bind fun v18 =>
    (jx_gR (jx_at h17 a0) 12 3).bind fun b19 =>
    (jx_sI (jx_at h17 b19) 0 ((6 : Int32) * v18) x1).bind fun e20 =>
    (jx_gR (jx_at (jx_set h17 b19 e20) a0) 12 3).bind fun b21 =>
    if x1 = (3 : Int32) then
      (jx_sI (jx_at (jx_set h17 b19 e20) b21) 0 (((6 : Int32) * v18) + (1 : Int32)) (0 : Int32)).bind fun e22 =>
      (jx_gR (jx_at (jx_set (jx_set h17 b19 e20) b21 e22) a0) 12 3).bind fun b23 =>
      if x1 = (1 : Int32) then
        jb_101 rc d 44 [(0, .ref a0), (1, .int x1), (2, .int x2), (3, .int x3), (4, .int x4), (5, .int x5), (6, .int ((6 : Int32) * v18))] [.int x3, .int (((6 : Int32) * v18) + (2 : Int32)), .ref b23] (jx_set (jx_set h17 b19 e20) b21 e22)
      else
        jb_101 rc d 44 [(0, .ref a0), (1, .int x1), (2, .int x2), (3, .int x3), (4, .int x4), (5, .int x5), (6, .int ((6 : Int32) * v18))] [.int (0 : Int32), .int (((6 : Int32) * v18) + (2 : Int32)), .ref b23] (jx_set (jx_set h17 b19 e20) b21 e22)
    else
      if x1 = (6 : Int32) then
        (jx_sI (jx_at (jx_set h17 b19 e20) b21) 0 (((6 : Int32) * v18) + (1 : Int32)) (0 : Int32)).bind fun e24 =>
        (jx_gR (jx_at (jx_set (jx_set h17 b19 e20) b21 e24) a0) 12 3).bind fun b25 =>
        if x1 = (1 : Int32) then
          jb_101 rc d 44 [(0, .ref a0), (1, .int x1), (2, .int x2), (3, .int x3), (4, .int x4), (5, .int x5), (6, .int ((6 : Int32) * v18))] [.int x3, .int (((6 : Int32) * v18) + (2 : Int32)), .ref b25] (jx_set (jx_set h17 b19 e20) b21 e24)
        else
          jb_101 rc d 44 [(0, .ref a0), (1, .int x1), (2, .int x2), (3, .int x3), (4, .int x4), (5, .int x5), (6, .int ((6 : Int32) * v18))] [.int (0 : Int32), .int (((6 : Int32) * v18) + (2 : Int32)), .ref b25] (jx_set (jx_set h17 b19 e20) b21 e24)
      else
        (jx_sI (jx_at (jx_set h17 b19 e20) b21) 0 (((6 : Int32) * v18) + (1 : Int32)) x2).bind fun e26 =>
        (jx_gR (jx_at (jx_set (jx_set h17 b19 e20) b21 e26) a0) 12 3).bind fun b27 =>
        if x1 = (1 : Int32) then
          jb_101 rc d 44 [(0, .ref a0), (1, .int x1), (2, .int x2), (3, .int x3), (4, .int x4), (5, .int x5), (6, .int ((6 : Int32) * v18))] [.int x3, .int (((6 : Int32) * v18) + (2 : Int32)), .ref b27] (jx_set (jx_set h17 b19 e20) b21 e26)
        else
          jb_101 rc d 44 [(0, .ref a0), (1, .int x1), (2, .int x2), (3, .int x3), (4, .int x4), (5, .int x5), (6, .int ((6 : Int32) * v18))] [.int (0 : Int32), .int (((6 : Int32) * v18) + (2 : Int32)), .ref b27] (jx_set (jx_set h17 b19 e20) b21 e26))
  else none :=
  jx_enter ((jx_G_run (jx_X_grows rc jx_dflt jx_mt d) 116 (0, [(0, .ref a0), (1, .int x1), (2, .int x2), (3, .int x3), (4, .int x4), (5, .int x5)], [], h)).trans rfl)
set_option maxRecDepth 100000 in
theorem je_101_44 (rc : Nat → Nat × (Nat → Int32)) (d : Nat) (a0 : Nat) (x1 : Int32) (x2 : Int32) (x3 : Int32) (x4 : Int32) (x5 : Int32) (x6 : Int32) (s0 : Nat) (s1 : Int32) (s2 : Int32) (h : jxH) : jb_101 rc d 44 [(0, .ref a0), (1, .int x1), (2, .int x2), (3, .int x3), (4, .int x4), (5, .int x5), (6, .int x6)] [.int s2, .int s1, .ref s0] h =
  (jx_sI (jx_at h s0) 0 s1 s2).bind fun e1 =>
  (jx_gR (jx_at (jx_set h s0 e1) a0) 12 3).bind fun b2 =>
  jx_cI (jx_C rc d 72 [.long (x1).toInt64, .long (1 : Int64), .long (3 : Int64)] (jx_set h s0 e1)) fun v4 h3 =>
  if v4 = 0 then
    if x1 = (7 : Int32) then
      (jx_sI (jx_at h3 b2) 0 (x6 + (3 : Int32)) x4).bind fun e5 =>
      (jx_gR (jx_at (jx_set h3 b2 e5) a0) 12 3).bind fun b6 =>
      if x1 = (7 : Int32) then
        jb_101 rc d 74 [(0, .ref a0), (1, .int x1), (2, .int x2), (3, .int x3), (4, .int x4), (5, .int x5), (6, .int x6)] [.int x5, .int (x6 + (4 : Int32)), .ref b6] (jx_set h3 b2 e5)
      else
        jb_101 rc d 74 [(0, .ref a0), (1, .int x1), (2, .int x2), (3, .int x3), (4, .int x4), (5, .int x5), (6, .int x6)] [.int (0 : Int32), .int (x6 + (4 : Int32)), .ref b6] (jx_set h3 b2 e5)
    else
      (jx_sI (jx_at h3 b2) 0 (x6 + (3 : Int32)) (0 : Int32)).bind fun e7 =>
      (jx_gR (jx_at (jx_set h3 b2 e7) a0) 12 3).bind fun b8 =>
      if x1 = (7 : Int32) then
        jb_101 rc d 74 [(0, .ref a0), (1, .int x1), (2, .int x2), (3, .int x3), (4, .int x4), (5, .int x5), (6, .int x6)] [.int x5, .int (x6 + (4 : Int32)), .ref b8] (jx_set h3 b2 e7)
      else
        jb_101 rc d 74 [(0, .ref a0), (1, .int x1), (2, .int x2), (3, .int x3), (4, .int x4), (5, .int x5), (6, .int x6)] [.int (0 : Int32), .int (x6 + (4 : Int32)), .ref b8] (jx_set h3 b2 e7)
  else
    (jx_sI (jx_at h3 b2) 0 (x6 + (3 : Int32)) x4).bind fun e9 =>
    (jx_gR (jx_at (jx_set h3 b2 e9) a0) 12 3).bind fun b10 =>
    if x1 = (7 : Int32) then
      jb_101 rc d 74 [(0, .ref a0), (1, .int x1), (2, .int x2), (3, .int x3), (4, .int x4), (5, .int x5), (6, .int x6)] [.int x5, .int (x6 + (4 : Int32)), .ref b10] (jx_set h3 b2 e9)
    else
      jb_101 rc d 74 [(0, .ref a0), (1, .int x1), (2, .int x2), (3, .int x3), (4, .int x4), (5, .int x5), (6, .int x6)] [.int (0 : Int32), .int (x6 + (4 : Int32)), .ref b10] (jx_set h3 b2 e9) :=
  (jx_G_run (jx_X_grows rc jx_dflt jx_mt d) 116 _).trans rfl
set_option maxRecDepth 100000 in
theorem je_101_74 (rc : Nat → Nat × (Nat → Int32)) (d : Nat) (a0 : Nat) (x1 : Int32) (x2 : Int32) (x3 : Int32) (x4 : Int32) (x5 : Int32) (x6 : Int32) (s0 : Nat) (s1 : Int32) (s2 : Int32) (h : jxH) : jb_101 rc d 74 [(0, .ref a0), (1, .int x1), (2, .int x2), (3, .int x3), (4, .int x4), (5, .int x5), (6, .int x6)] [.int s2, .int s1, .ref s0] h =
  (jx_sI (jx_at h s0) 0 s1 s2).bind fun e1 =>
  (jx_gR (jx_at (jx_set h s0 e1) a0) 12 3).bind fun b2 =>
  (jx_gR (jx_at (jx_set h s0 e1) a0) 12 1).bind fun b3 =>
  jx_cI (jx_C rc d 94 [.ref b3, .int x1, .int x2, .int x4] (jx_set h s0 e1)) fun v5 h4 =>
  (jx_sI (jx_at h4 b2) 0 (x6 + (5 : Int32)) v5).bind fun e6 =>
  (jx_gR (jx_at (jx_set h4 b2 e6) a0) 12 1).bind fun b7 =>
  jx_cV (jx_C rc d 99 [.ref b7, .int x1, .int x2, .int x3, .int x4, .int x5] (jx_set h4 b2 e6)) fun h8 =>
  (jx_gI (jx_at h8 a0) 12 4).bind fun v9 =>
  (jx_pF (jx_at h8 a0) 12 4 (.int (v9 + (1 : Int32)))).bind fun e10 =>
  (jx_gI (jx_at (jx_set h8 a0 e10) a0) 12 4).bind fun v11 =>
  (jx_pF (jx_at (jx_set h8 a0 e10) a0) 12 5 (.int v11)).bind fun e12 =>
  (jx_gR (jx_at (jx_set (jx_set h8 a0 e10) a0 e12) a0) 12 1).bind fun b13 =>
  (jx_gR (jx_at (jx_set (jx_set h8 a0 e10) a0 e12) a0) 12 2).bind fun b14 =>
  (jx_gI (jx_at (jx_set (jx_set h8 a0 e10) a0 e12) a0) 12 4).bind fun v15 =>
  (jx_aQ (jx_at (jx_set (jx_set h8 a0 e10) a0 e12) b14) 8 v15).bind fun o16 =>
  jx_mo o16 (fun b17 => jx_cV (jx_C rc d 74 [.ref b13, .ref b17] (jx_set (jx_set h8 a0 e10) a0 e12)) fun h18 =>
    some (none, h18))
  (jx_cV (jx_C rc d 74 [.ref b13, .null] (jx_set (jx_set h8 a0 e10) a0 e12)) fun h19 =>
    some (none, h19)) :=
  (jx_G_run (jx_X_grows rc jx_dflt jx_mt d) 116 _).trans rfl
-- RoomTreesModel.move(IIIII)I
noncomputable def jb_102 (rc : Nat → Nat × (Nat → Int32)) (d : Nat) (i : Nat) (ls : List (Nat × Value)) (st : List Value) (h : jxH) : jxR := jx_G rc jx_dflt (jx_X rc jx_dflt jx_mt d) jc_102 (i, ls, st, h)
set_option maxRecDepth 100000 in
theorem je_102 (rc : Nat → Nat × (Nat → Int32)) (d : Nat) (a0 : Nat) (x1 : Int32) (x2 : Int32) (x3 : Int32) (x4 : Int32) (x5 : Int32) (h : jxH) : jx_C rc (d + 1) 102 [.ref a0, .int x1, .int x2, .int x3, .int x4, .int x5] h =
  if jx_is (jx_at h a0) 12 = true then
  (jx_gR (jx_at h a0) 12 1).bind fun b1 =>
  jx_cI (jx_C rc d 93 [.ref b1, .int x1, .int x2, .int x3, .int x4, .int x5] h) fun v3 h2 =>
  if v3 = 0 then
    jb_102 rc d 14 [(0, .ref a0), (1, .int x1), (2, .int x2), (3, .int x3), (4, .int x4), (5, .int x5), (6, .int v3)] [] h2
  else
    if v3 = (5 : Int32) then
      jb_102 rc d 14 [(0, .ref a0), (1, .int x1), (2, .int x2), (3, .int x3), (4, .int x4), (5, .int x5), (6, .int v3)] [] h2
    else
      if v3 = 0 then
        jx_cV (jx_C rc d 101 [.ref a0, .int x1, .int x2, .int x3, .int x4, .int x5] h2) fun h4 =>
        (jx_gR (jx_at h4 a0) 12 1).bind fun b5 =>
        (jx_aI (jx_at h4 b5) 0 (0 : Int32)).bind fun v6 =>
        jx_cI (jx_C rc d 76 [.int v6] h4) fun v8 h7 =>
        some (some (.int v8), h7)
      else
        jx_cI (jx_C rc d 73 [.ref a0, .int v3] h2) fun v10 h9 =>
        some (some (.int v10), h9)
  else none :=
  jx_enter ((jx_G_run (jx_X_grows rc jx_dflt jx_mt d) 41 (0, [(0, .ref a0), (1, .int x1), (2, .int x2), (3, .int x3), (4, .int x4), (5, .int x5)], [], h)).trans rfl)
set_option maxRecDepth 100000 in
theorem je_102_14 (rc : Nat → Nat × (Nat → Int32)) (d : Nat) (a0 : Nat) (x1 : Int32) (x2 : Int32) (x3 : Int32) (x4 : Int32) (x5 : Int32) (x6 : Int32) (h : jxH) : jb_102 rc d 14 [(0, .ref a0), (1, .int x1), (2, .int x2), (3, .int x3), (4, .int x4), (5, .int x5), (6, .int x6)] [] h =
  (jx_gI (jx_at h a0) 12 4).bind fun v1 =>
  if v1 = (40 : Int32) then
    if (4 : Int32) = 0 then
      jx_cV (jx_C rc d 101 [.ref a0, .int x1, .int x2, .int x3, .int x4, .int x5] h) fun h2 =>
      (jx_gR (jx_at h2 a0) 12 1).bind fun b3 =>
      (jx_aI (jx_at h2 b3) 0 (0 : Int32)).bind fun v4 =>
      jx_cI (jx_C rc d 76 [.int v4] h2) fun v6 h5 =>
      some (some (.int v6), h5)
    else
      jx_cI (jx_C rc d 73 [.ref a0, .int (4 : Int32)] h) fun v8 h7 =>
      some (some (.int v8), h7)
  else
    if x6 = 0 then
      jx_cV (jx_C rc d 101 [.ref a0, .int x1, .int x2, .int x3, .int x4, .int x5] h) fun h9 =>
      (jx_gR (jx_at h9 a0) 12 1).bind fun b10 =>
      (jx_aI (jx_at h9 b10) 0 (0 : Int32)).bind fun v11 =>
      jx_cI (jx_C rc d 76 [.int v11] h9) fun v13 h12 =>
      some (some (.int v13), h12)
    else
      jx_cI (jx_C rc d 73 [.ref a0, .int x6] h) fun v15 h14 =>
      some (some (.int v15), h14) :=
  (jx_G_run (jx_X_grows rc jx_dflt jx_mt d) 41 _).trans rfl
-- RoomTreesModel.undo()I
set_option maxRecDepth 100000 in
theorem je_103 (rc : Nat → Nat × (Nat → Int32)) (d : Nat) (a0 : Nat) (h : jxH) : jx_C rc (d + 1) 103 [.ref a0] h =
  if jx_is (jx_at h a0) 12 = true then
  (jx_gI (jx_at h a0) 12 4).bind fun v1 =>
  if v1 = 0 then
    jx_cI (jx_C rc d 73 [.ref a0, .int (2 : Int32)] h) fun v3 h2 =>
    some (some (.int v3), h2)
  else
    (jx_gI (jx_at h a0) 12 4).bind fun v4 =>
    (jx_pF (jx_at h a0) 12 4 (.int (v4 - (1 : Int32)))).bind fun e5 =>
    (jx_gR (jx_at (jx_set h a0 e5) a0) 12 2).bind fun b6 =>
    (jx_gI (jx_at (jx_set h a0 e5) a0) 12 4).bind fun v7 =>
    (jx_aQ (jx_at (jx_set h a0 e5) b6) 8 v7).bind fun o8 =>
    jx_mo o8 (fun b9 => (jx_gR (jx_at (jx_set h a0 e5) a0) 12 1).bind fun b10 =>
      jx_cV (jx_C rc d 74 [.ref b9, .ref b10] (jx_set h a0 e5)) fun h11 =>
      (jx_gI (jx_at h11 a0) 12 4).bind fun v12 =>
      some (some (.int v12), h11))
    ((jx_gR (jx_at (jx_set h a0 e5) a0) 12 1).bind fun b13 =>
      jx_cV (jx_C rc d 74 [.null, .ref b13] (jx_set h a0 e5)) fun h14 =>
      (jx_gI (jx_at h14 a0) 12 4).bind fun v15 =>
      some (some (.int v15), h14))
  else none :=
  jx_enter ((jx_G_run (jx_X_grows rc jx_dflt jx_mt d) 26 (0, [(0, .ref a0)], [], h)).trans rfl)
-- RoomTreesModel.redo()I
set_option maxRecDepth 100000 in
theorem je_104 (rc : Nat → Nat × (Nat → Int32)) (d : Nat) (a0 : Nat) (h : jxH) : jx_C rc (d + 1) 104 [.ref a0] h =
  if jx_is (jx_at h a0) 12 = true then
  (jx_gI (jx_at h a0) 12 4).bind fun v1 =>
  (jx_gI (jx_at h a0) 12 5).bind fun v2 =>
  if v1 = v2 then
    jx_cI (jx_C rc d 73 [.ref a0, .int (2 : Int32)] h) fun v4 h3 =>
    some (some (.int v4), h3)
  else
    (jx_gI (jx_at h a0) 12 4).bind fun v5 =>
    (jx_pF (jx_at h a0) 12 4 (.int (v5 + (1 : Int32)))).bind fun e6 =>
    (jx_gR (jx_at (jx_set h a0 e6) a0) 12 2).bind fun b7 =>
    (jx_gI (jx_at (jx_set h a0 e6) a0) 12 4).bind fun v8 =>
    (jx_aQ (jx_at (jx_set h a0 e6) b7) 8 v8).bind fun o9 =>
    jx_mo o9 (fun b10 => (jx_gR (jx_at (jx_set h a0 e6) a0) 12 1).bind fun b11 =>
      jx_cV (jx_C rc d 74 [.ref b10, .ref b11] (jx_set h a0 e6)) fun h12 =>
      (jx_gI (jx_at h12 a0) 12 4).bind fun v13 =>
      some (some (.int v13), h12))
    ((jx_gR (jx_at (jx_set h a0 e6) a0) 12 1).bind fun b14 =>
      jx_cV (jx_C rc d 74 [.null, .ref b14] (jx_set h a0 e6)) fun h15 =>
      (jx_gI (jx_at h15 a0) 12 4).bind fun v16 =>
      some (some (.int v16), h15))
  else none :=
  jx_enter ((jx_G_run (jx_X_grows rc jx_dflt jx_mt d) 28 (0, [(0, .ref a0)], [], h)).trans rfl)
-- RoomTreesModel.trail(II)I
set_option maxRecDepth 100000 in
theorem je_105 (rc : Nat → Nat × (Nat → Int32)) (d : Nat) (a0 : Nat) (x1 : Int32) (x2 : Int32) (h : jxH) : jx_C rc (d + 1) 105 [.ref a0, .int x1, .int x2] h =
  if jx_is (jx_at h a0) 12 = true then
  jx_cI (jx_C rc d 72 [.long (x2).toInt64, .long (0 : Int64), .long (4 : Int64)] h) fun v2 h1 =>
  if v2 = 0 then
    jx_cI (jx_C rc d 73 [.ref a0, .int (1 : Int32)] h1) fun v4 h3 =>
    some (some (.int v4), h3)
  else
    (jx_gI (jx_at h1 a0) 12 4).bind fun v5 =>
    jx_cI (jx_C rc d 72 [.long (x1).toInt64, .long (0 : Int64), .long ((v5 - (1 : Int32))).toInt64] h1) fun v7 h6 =>
    if v7 = 0 then
      jx_cI (jx_C rc d 73 [.ref a0, .int (2 : Int32)] h6) fun v9 h8 =>
      some (some (.int v9), h8)
    else
      (jx_gR (jx_at h6 a0) 12 3).bind fun b10 =>
      (jx_aI (jx_at h6 b10) 0 (((6 : Int32) * x1) + x2)).bind fun v11 =>
      some (some (.int v11), h6)
  else none :=
  jx_enter ((jx_G_run (jx_X_grows rc jx_dflt jx_mt d) 35 (0, [(0, .ref a0), (1, .int x1), (2, .int x2)], [], h)).trans rfl)
-- RoomTreesModel.factor()I
noncomputable def jb_106 (rc : Nat → Nat × (Nat → Int32)) (d : Nat) (i : Nat) (ls : List (Nat × Value)) (st : List Value) (h : jxH) : jxR := jx_G rc jx_dflt (jx_X rc jx_dflt jx_mt d) jc_106 (i, ls, st, h)
set_option maxRecDepth 100000 in
theorem je_106 (rc : Nat → Nat × (Nat → Int32)) (d : Nat) (a0 : Nat) (h : jxH) : jx_C rc (d + 1) 106 [.ref a0] h =
  if jx_is (jx_at h a0) 12 = true then
  jb_106 rc d 4 [(0, .ref a0), (1, .int (1 : Int32)), (2, .int (0 : Int32))] [] h
  else none :=
  jx_enter ((jx_G_run (jx_X_grows rc jx_dflt jx_mt d) 25 (0, [(0, .ref a0)], [], h)).trans rfl)
set_option maxRecDepth 100000 in
theorem je_106_4 (rc : Nat → Nat × (Nat → Int32)) (d : Nat) (a0 : Nat) (x1 : Int32) (x2 : Int32) (h : jxH) : jb_106 rc d 4 [(0, .ref a0), (1, .int x1), (2, .int x2)] [] h =
  (jx_gI (jx_at h a0) 12 4).bind fun v1 =>
  if v1 ≤ x2 then
    some (some (.int x1), h)
  else
    (jx_gR (jx_at h a0) 12 3).bind fun b2 =>
    (jx_aI (jx_at h b2) 0 (((6 : Int32) * x2) + (5 : Int32))).bind fun v3 =>
    jb_106 rc d 4 [(0, .ref a0), (1, .int (x1 * v3)), (2, .int (x2 + (1 : Int32)))] [] h :=
  (jx_G_run (jx_X_grows rc jx_dflt jx_mt d) 25 _).trans rfl
-- RoomTreesModel.vertex(I)I
set_option maxRecDepth 100000 in
theorem je_107 (rc : Nat → Nat × (Nat → Int32)) (d : Nat) (a0 : Nat) (x1 : Int32) (h : jxH) : jx_C rc (d + 1) 107 [.ref a0, .int x1] h =
  if jx_is (jx_at h a0) 12 = true then
  jx_cI (jx_C rc d 80 [.int x1] h) fun v2 h1 =>
  if v2 = 0 then
    jx_cI (jx_C rc d 73 [.ref a0, .int (1 : Int32)] h1) fun v4 h3 =>
    some (some (.int v4), h3)
  else
    (jx_gR (jx_at h1 a0) 12 1).bind fun b5 =>
    (jx_aI (jx_at h1 b5) 0 (0 : Int32)).bind fun v6 =>
    jx_cI (jx_C rc d 76 [.int v6] h1) fun v8 h7 =>
    if v8 = (12 : Int32) then
      jx_cI (jx_C rc d 73 [.ref a0, .int (4 : Int32)] h7) fun v10 h9 =>
      some (some (.int v10), h9)
    else
      jx_cV (jx_C rc d 100 [.ref a0] h7) fun h11 =>
      (jx_gR (jx_at h11 a0) 12 1).bind fun b12 =>
      jx_cI (jx_C rc d 81 [.ref b12, .int x1] h11) fun v14 h13 =>
      some (some (.int v14), h13)
  else none :=
  jx_enter ((jx_G_run (jx_X_grows rc jx_dflt jx_mt d) 27 (0, [(0, .ref a0), (1, .int x1)], [], h)).trans rfl)
-- RoomTreesModel.weigh(II)I
set_option maxRecDepth 100000 in
theorem je_108 (rc : Nat → Nat × (Nat → Int32)) (d : Nat) (a0 : Nat) (x1 : Int32) (x2 : Int32) (h : jxH) : jx_C rc (d + 1) 108 [.ref a0, .int x1, .int x2] h =
  if jx_is (jx_at h a0) 12 = true then
  jx_cI (jx_C rc d 79 [.ref a0, .int x1] h) fun v2 h1 =>
  if v2 = 0 then
    jx_cI (jx_C rc d 73 [.ref a0, .int (1 : Int32)] h1) fun v4 h3 =>
    some (some (.int v4), h3)
  else
    jx_cI (jx_C rc d 80 [.int x2] h1) fun v6 h5 =>
    if v6 = 0 then
      jx_cI (jx_C rc d 73 [.ref a0, .int (1 : Int32)] h5) fun v8 h7 =>
      some (some (.int v8), h7)
    else
      jx_cV (jx_C rc d 100 [.ref a0] h5) fun h9 =>
      (jx_gR (jx_at h9 a0) 12 1).bind fun b10 =>
      (jx_aI (jx_at h9 b10) 0 ((1 : Int32) + x1)).bind fun v11 =>
      (jx_gR (jx_at h9 a0) 12 1).bind fun b12 =>
      (jx_sI (jx_at h9 b12) 0 ((1 : Int32) + x1) x2).bind fun e13 =>
      some (some (.int v11), (jx_set h9 b12 e13))
  else none :=
  jx_enter ((jx_G_run (jx_X_grows rc jx_dflt jx_mt d) 31 (0, [(0, .ref a0), (1, .int x1), (2, .int x2)], [], h)).trans rfl)
-- RoomTreesModel.tie(II)I
set_option maxRecDepth 100000 in
theorem je_109 (rc : Nat → Nat × (Nat → Int32)) (d : Nat) (a0 : Nat) (x1 : Int32) (x2 : Int32) (h : jxH) : jx_C rc (d + 1) 109 [.ref a0, .int x1, .int x2] h =
  if jx_is (jx_at h a0) 12 = true then
  jx_cI (jx_C rc d 79 [.ref a0, .int x1] h) fun v2 h1 =>
  if v2 = 0 then
    jx_cI (jx_C rc d 73 [.ref a0, .int (1 : Int32)] h1) fun v4 h3 =>
    some (some (.int v4), h3)
  else
    jx_cI (jx_C rc d 79 [.ref a0, .int x2] h1) fun v6 h5 =>
    if v6 = 0 then
      jx_cI (jx_C rc d 73 [.ref a0, .int (1 : Int32)] h5) fun v8 h7 =>
      some (some (.int v8), h7)
    else
      (jx_gR (jx_at h5 a0) 12 1).bind fun b9 =>
      jx_cI (jx_C rc d 85 [.ref b9, .int x1] h5) fun v11 h10 =>
      jx_cI (jx_C rc d 75 [.int v11, .int x2] h10) fun v13 h12 =>
      if v13 = 0 then
        jx_cV (jx_C rc d 100 [.ref a0] h12) fun h14 =>
        (jx_gR (jx_at h14 a0) 12 1).bind fun b15 =>
        jx_cV (jx_C rc d 82 [.ref b15, .int x1, .int x2] h14) fun h16 =>
        (jx_gR (jx_at h16 a0) 12 1).bind fun b17 =>
        jx_cI (jx_C rc d 86 [.ref b17] h16) fun v19 h18 =>
        some (some (.int v19), h18)
      else
        jx_cI (jx_C rc d 73 [.ref a0, .int (3 : Int32)] h12) fun v21 h20 =>
        some (some (.int v21), h20)
  else none :=
  jx_enter ((jx_G_run (jx_X_grows rc jx_dflt jx_mt d) 36 (0, [(0, .ref a0), (1, .int x1), (2, .int x2)], [], h)).trans rfl)
-- RoomTreesModel.cut(II)I
set_option maxRecDepth 100000 in
theorem je_110 (rc : Nat → Nat × (Nat → Int32)) (d : Nat) (a0 : Nat) (x1 : Int32) (x2 : Int32) (h : jxH) : jx_C rc (d + 1) 110 [.ref a0, .int x1, .int x2] h =
  if jx_is (jx_at h a0) 12 = true then
  jx_cI (jx_C rc d 79 [.ref a0, .int x1] h) fun v2 h1 =>
  if v2 = 0 then
    jx_cI (jx_C rc d 73 [.ref a0, .int (1 : Int32)] h1) fun v4 h3 =>
    some (some (.int v4), h3)
  else
    jx_cI (jx_C rc d 79 [.ref a0, .int x2] h1) fun v6 h5 =>
    if v6 = 0 then
      jx_cI (jx_C rc d 73 [.ref a0, .int (1 : Int32)] h5) fun v8 h7 =>
      some (some (.int v8), h7)
    else
      (jx_gR (jx_at h5 a0) 12 1).bind fun b9 =>
      (jx_aI (jx_at h5 b9) 0 ((13 : Int32) + x1)).bind fun v10 =>
      jx_cI (jx_C rc d 75 [.int v10, .int x2] h5) fun v12 h11 =>
      if v12 = 0 then
        jx_cI (jx_C rc d 73 [.ref a0, .int (2 : Int32)] h11) fun v14 h13 =>
        some (some (.int v14), h13)
      else
        jx_cV (jx_C rc d 100 [.ref a0] h11) fun h15 =>
        (jx_gR (jx_at h15 a0) 12 1).bind fun b16 =>
        jx_cV (jx_C rc d 83 [.ref b16, .int x1, .int x2] h15) fun h17 =>
        (jx_gR (jx_at h17 a0) 12 1).bind fun b18 =>
        jx_cI (jx_C rc d 86 [.ref b18] h17) fun v20 h19 =>
        some (some (.int v20), h19)
  else none :=
  jx_enter ((jx_G_run (jx_X_grows rc jx_dflt jx_mt d) 38 (0, [(0, .ref a0), (1, .int x1), (2, .int x2)], [], h)).trans rfl)
-- RoomTreesModel.take(I)I
set_option maxRecDepth 100000 in
theorem je_111 (rc : Nat → Nat × (Nat → Int32)) (d : Nat) (a0 : Nat) (x1 : Int32) (h : jxH) : jx_C rc (d + 1) 111 [.ref a0, .int x1] h =
  if jx_is (jx_at h a0) 12 = true then
  jx_cI (jx_C rc d 79 [.ref a0, .int x1] h) fun v2 h1 =>
  if v2 = 0 then
    jx_cI (jx_C rc d 73 [.ref a0, .int (1 : Int32)] h1) fun v4 h3 =>
    some (some (.int v4), h3)
  else
    jx_cV (jx_C rc d 100 [.ref a0] h1) fun h5 =>
    (jx_gR (jx_at h5 a0) 12 1).bind fun b6 =>
    (jx_aI (jx_at h5 b6) 0 ((1 : Int32) + x1)).bind fun v7 =>
    (jx_gR (jx_at h5 a0) 12 1).bind fun b8 =>
    jx_cV (jx_C rc d 84 [.ref b8, .int x1] h5) fun h9 =>
    some (some (.int v7), h9)
  else none :=
  jx_enter ((jx_G_run (jx_X_grows rc jx_dflt jx_mt d) 25 (0, [(0, .ref a0), (1, .int x1)], [], h)).trans rfl)
-- RoomTreesModel.possible(I)I
set_option maxRecDepth 100000 in
theorem je_112 (rc : Nat → Nat × (Nat → Int32)) (d : Nat) (a0 : Nat) (x1 : Int32) (h : jxH) : jx_C rc (d + 1) 112 [.ref a0, .int x1] h =
  if jx_is (jx_at h a0) 12 = true then
  (jx_gR (jx_at h a0) 12 1).bind fun b1 =>
  jx_cI (jx_C rc d 93 [.ref b1, .int (0 : Int32), .int x1, .int (0 : Int32), .int (0 : Int32), .int (0 : Int32)] h) fun v3 h2 =>
  if v3 = 0 then
    some (some (.int (0 : Int32)), h2)
  else
    (jx_gR (jx_at h2 a0) 12 1).bind fun b4 =>
    jx_cI (jx_C rc d 93 [.ref b4, .int (4 : Int32), .int x1, .int (0 : Int32), .int (0 : Int32), .int (0 : Int32)] h2) fun v6 h5 =>
    if v6 = 0 then
      some (some (.int (4 : Int32)), h5)
    else
      (jx_gR (jx_at h5 a0) 12 1).bind fun b7 =>
      jx_cI (jx_C rc d 93 [.ref b7, .int (5 : Int32), .int x1, .int (0 : Int32), .int (0 : Int32), .int (0 : Int32)] h5) fun v9 h8 =>
      if v9 = 0 then
        some (some (.int (5 : Int32)), h8)
      else
        some (some (.int (-1 : Int32)), h8)
  else none :=
  jx_enter ((jx_G_run (jx_X_grows rc jx_dflt jx_mt d) 37 (0, [(0, .ref a0), (1, .int x1)], [], h)).trans rfl)
-- RoomTreesModel.farthest(I)I
noncomputable def jb_113 (rc : Nat → Nat × (Nat → Int32)) (d : Nat) (i : Nat) (ls : List (Nat × Value)) (st : List Value) (h : jxH) : jxR := jx_G rc jx_dflt (jx_X rc jx_dflt jx_mt d) jc_113 (i, ls, st, h)
set_option maxRecDepth 100000 in
theorem je_113 (rc : Nat → Nat × (Nat → Int32)) (d : Nat) (a0 : Nat) (x1 : Int32) (h : jxH) : jx_C rc (d + 1) 113 [.ref a0, .int x1] h =
  if jx_is (jx_at h a0) 12 = true then
  jb_113 rc d 8 [(0, .ref a0), (2, .int ((1 : Int32) <<< (x1 &&& 31))), (3, .int (-1 : Int32)), (4, .int (0 : Int32))] [] h
  else none :=
  jx_enter ((jx_G_run (jx_X_grows rc jx_dflt jx_mt d) 45 (0, [(0, .ref a0), (1, .int x1)], [], h)).trans rfl)
set_option maxRecDepth 100000 in
theorem je_113_8 (rc : Nat → Nat × (Nat → Int32)) (d : Nat) (a0 : Nat) (x2 : Int32) (x3 : Int32) (x4 : Int32) (h : jxH) : jb_113 rc d 8 [(0, .ref a0), (2, .int x2), (3, .int x3), (4, .int x4)] [] h =
  if x4 = x2 then
    some (some (.int x3), h)
  else
    jb_113 rc d 18 [(0, .ref a0), (2, .int x2), (3, .int (x3 + (1 : Int32))), (4, .int x2), (5, .int x2), (6, .int (0 : Int32))] [] h :=
  (jx_G_run (jx_X_grows rc jx_dflt jx_mt d) 45 _).trans rfl
set_option maxRecDepth 100000 in
theorem je_113_18 (rc : Nat → Nat × (Nat → Int32)) (d : Nat) (a0 : Nat) (x2 : Int32) (x3 : Int32) (x4 : Int32) (x5 : Int32) (x6 : Int32) (h : jxH) : jb_113 rc d 18 [(0, .ref a0), (2, .int x2), (3, .int x3), (4, .int x4), (5, .int x5), (6, .int x6)] [] h =
  if (12 : Int32) ≤ x6 then
    jb_113 rc d 8 [(0, .ref a0), (2, .int x5), (3, .int x3), (4, .int x4)] [] h
  else
    jx_cI (jx_C rc d 75 [.int x2, .int x6] h) fun v2 h1 =>
    if v2 = 0 then
      jb_113 rc d 18 [(0, .ref a0), (2, .int x2), (3, .int x3), (4, .int x4), (5, .int (x5 ||| (0 : Int32))), (6, .int (x6 + (1 : Int32)))] [] h1
    else
      (jx_gR (jx_at h1 a0) 12 1).bind fun b3 =>
      (jx_aI (jx_at h1 b3) 0 ((13 : Int32) + x6)).bind fun v4 =>
      jb_113 rc d 18 [(0, .ref a0), (2, .int x2), (3, .int x3), (4, .int x4), (5, .int (x5 ||| v4)), (6, .int (x6 + (1 : Int32)))] [] h1 :=
  (jx_G_run (jx_X_grows rc jx_dflt jx_mt d) 45 _).trans rfl
-- RoomTreesModel.at(II)I
set_option maxRecDepth 100000 in
theorem je_114 (rc : Nat → Nat × (Nat → Int32)) (d : Nat) (a0 : Nat) (x1 : Int32) (x2 : Int32) (h : jxH) : jx_C rc (d + 1) 114 [.ref a0, .int x1, .int x2] h =
  if jx_is (jx_at h a0) 12 = true then
  jx_cI (jx_C rc d 79 [.ref a0, .int x1] h) fun v2 h1 =>
  if v2 = 0 then
    jx_cI (jx_C rc d 73 [.ref a0, .int (1 : Int32)] h1) fun v4 h3 =>
    some (some (.int v4), h3)
  else
    jx_cI (jx_C rc d 72 [.long (x2).toInt64, .long (0 : Int64), .long (5 : Int64)] h1) fun v6 h5 =>
    if v6 = 0 then
      jx_cI (jx_C rc d 73 [.ref a0, .int (1 : Int32)] h5) fun v8 h7 =>
      some (some (.int v8), h7)
    else
      if x2 = (0 : Int32) then
        (jx_gR (jx_at h5 a0) 12 1).bind fun b9 =>
        (jx_aI (jx_at h5 b9) 0 ((1 : Int32) + x1)).bind fun v10 =>
        some (some (.int v10), h5)
      else if x2 = ((0 : Int32) + 1) then
        (jx_gR (jx_at h5 a0) 12 1).bind fun b11 =>
        (jx_aI (jx_at h5 b11) 0 ((13 : Int32) + x1)).bind fun v12 =>
        jx_cI (jx_C rc d 76 [.int v12] h5) fun v14 h13 =>
        some (some (.int v14), h13)
      else if x2 = (((0 : Int32) + 1) + 1) then
        (jx_gR (jx_at h5 a0) 12 1).bind fun b15 =>
        (jx_aI (jx_at h5 b15) 0 ((13 : Int32) + x1)).bind fun v16 =>
        some (some (.int v16), h5)
      else if x2 = ((((0 : Int32) + 1) + 1) + 1) then
        (jx_gR (jx_at h5 a0) 12 1).bind fun b17 =>
        jx_cI (jx_C rc d 85 [.ref b17, .int x1] h5) fun v19 h18 =>
        some (some (.int v19), h18)
      else if x2 = (((((0 : Int32) + 1) + 1) + 1) + 1) then
        jx_cI (jx_C rc d 112 [.ref a0, .int x1] h5) fun v21 h20 =>
        some (some (.int v21), h20)
      else 
        jx_cI (jx_C rc d 113 [.ref a0, .int x1] h5) fun v23 h22 =>
        some (some (.int v23), h22)
  else none :=
  jx_enter ((jx_G_run (jx_X_grows rc jx_dflt jx_mt d) 53 (0, [(0, .ref a0), (1, .int x1), (2, .int x2)], [], h)).trans rfl)
-- RoomTreesModel.pair(II)I
set_option maxRecDepth 100000 in
theorem je_115 (rc : Nat → Nat × (Nat → Int32)) (d : Nat) (a0 : Nat) (x1 : Int32) (x2 : Int32) (h : jxH) : jx_C rc (d + 1) 115 [.ref a0, .int x1, .int x2] h =
  if jx_is (jx_at h a0) 12 = true then
  if x1 = x2 then
    (jx_gR (jx_at h a0) 12 1).bind fun b1 =>
    (jx_aI (jx_at h b1) 0 ((1 : Int32) + x1)).bind fun v2 =>
    some (some (.int v2), h)
  else
    (jx_gR (jx_at h a0) 12 1).bind fun b3 =>
    (jx_aI (jx_at h b3) 0 ((13 : Int32) + x1)).bind fun v4 =>
    some (some (.int ((v4 >>> (x2 &&& 31)) &&& (1 : Int32))), h)
  else none :=
  jx_enter ((jx_G_run (jx_X_grows rc jx_dflt jx_mt d) 23 (0, [(0, .ref a0), (1, .int x1), (2, .int x2)], [], h)).trans rfl)
-- RoomTreesModel.table(II)I
set_option maxRecDepth 100000 in
theorem je_116 (rc : Nat → Nat × (Nat → Int32)) (d : Nat) (a0 : Nat) (x1 : Int32) (x2 : Int32) (h : jxH) : jx_C rc (d + 1) 116 [.ref a0, .int x1, .int x2] h =
  if jx_is (jx_at h a0) 12 = true then
  jx_cI (jx_C rc d 79 [.ref a0, .int x1] h) fun v2 h1 =>
  if v2 = 0 then
    jx_cI (jx_C rc d 73 [.ref a0, .int (1 : Int32)] h1) fun v4 h3 =>
    some (some (.int v4), h3)
  else
    jx_cI (jx_C rc d 79 [.ref a0, .int x2] h1) fun v6 h5 =>
    if v6 = 0 then
      jx_cI (jx_C rc d 73 [.ref a0, .int (1 : Int32)] h5) fun v8 h7 =>
      some (some (.int v8), h7)
    else
      jx_cI (jx_C rc d 115 [.ref a0, .int x1, .int x2] h5) fun v10 h9 =>
      some (some (.int v10), h9)
  else none :=
  jx_enter ((jx_G_run (jx_X_grows rc jx_dflt jx_mt d) 19 (0, [(0, .ref a0), (1, .int x1), (2, .int x2)], [], h)).trans rfl)
-- RoomTreesModel.layMinors()V
noncomputable def jb_117 (rc : Nat → Nat × (Nat → Int32)) (d : Nat) (i : Nat) (ls : List (Nat × Value)) (st : List Value) (h : jxH) : jxR := jx_G rc jx_dflt (jx_X rc jx_dflt jx_mt d) jc_117 (i, ls, st, h)
set_option maxRecDepth 100000 in
theorem je_117 (rc : Nat → Nat × (Nat → Int32)) (d : Nat) (a0 : Nat) (h : jxH) : jx_C rc (d + 1) 117 [.ref a0] h =
  if jx_is (jx_at h a0) 12 = true then
  (jx_gR (jx_at h a0) 12 6).bind fun b1 =>
  (jx_sL (jx_at h b1) (0 : Int32) (1 : Int64)).bind fun e2 =>
  jb_117 rc d 7 [(0, .ref a0), (1, .int (1 : Int32))] [] (jx_set h b1 e2)
  else none :=
  jx_enter ((jx_G_run (jx_X_grows rc jx_dflt jx_mt d) 89 (0, [(0, .ref a0)], [], h)).trans rfl)
set_option maxRecDepth 100000 in
theorem je_117_7 (rc : Nat → Nat × (Nat → Int32)) (d : Nat) (a0 : Nat) (x1 : Int32) (h : jxH) : jb_117 rc d 7 [(0, .ref a0), (1, .int x1)] [] h =
  if (4096 : Int32) ≤ x1 then
    some (none, h)
  else
    (jx_gR (jx_at h a0) 12 1).bind fun b1 =>
    (jx_aI (jx_at h b1) 0 (0 : Int32)).bind fun v2 =>
    if (x1 &&& (v2 ^^^ (-1 : Int32))) = 0 then
      jx_cI (jx_C rc d 77 [.int x1] h) fun v4 h3 =>
      (jx_gR (jx_at h3 a0) 12 1).bind fun b5 =>
      (jx_aI (jx_at h3 b5) 0 ((1 : Int32) + v4)).bind fun v6 =>
      (jx_gR (jx_at h3 a0) 12 6).bind fun b7 =>
      (jx_aL (jx_at h3 b7) (x1 &&& (((1 : Int32) <<< (v4 &&& 31)) ^^^ (-1 : Int32)))).bind fun v8 =>
      jb_117 rc d 48 [(0, .ref a0), (1, .int x1), (2, .int v4), (3, .int (x1 &&& (((1 : Int32) <<< (v4 &&& 31)) ^^^ (-1 : Int32)))), (4, .long ((v6).toInt64 * v8)), (6, .int (v4 + (1 : Int32)))] [] h3
    else
      jb_117 rc d 7 [(0, .ref a0), (1, .int (x1 + (1 : Int32)))] [] h :=
  (jx_G_run (jx_X_grows rc jx_dflt jx_mt d) 89 _).trans rfl
set_option maxRecDepth 100000 in
theorem je_117_48 (rc : Nat → Nat × (Nat → Int32)) (d : Nat) (a0 : Nat) (x1 : Int32) (x2 : Int32) (x3 : Int32) (x4 : Int64) (x6 : Int32) (h : jxH) : jb_117 rc d 48 [(0, .ref a0), (1, .int x1), (2, .int x2), (3, .int x3), (4, .long x4), (6, .int x6)] [] h =
  if (12 : Int32) ≤ x6 then
    (jx_gR (jx_at h a0) 12 6).bind fun b1 =>
    (jx_sL (jx_at h b1) x1 x4).bind fun e2 =>
    jb_117 rc d 7 [(0, .ref a0), (1, .int (x1 + (1 : Int32)))] [] (jx_set h b1 e2)
  else
    (jx_gR (jx_at h a0) 12 1).bind fun b3 =>
    (jx_aI (jx_at h b3) 0 ((13 : Int32) + x2)).bind fun v4 =>
    jx_cI (jx_C rc d 75 [.int (x3 &&& v4), .int x6] h) fun v6 h5 =>
    if v6 = 0 then
      jb_117 rc d 48 [(0, .ref a0), (1, .int x1), (2, .int x2), (3, .int x3), (4, .long (x4 - (0 : Int64))), (6, .int (x6 + (1 : Int32)))] [] h5
    else
      (jx_gR (jx_at h5 a0) 12 6).bind fun b7 =>
      (jx_aL (jx_at h5 b7) (x3 &&& (((1 : Int32) <<< (x6 &&& 31)) ^^^ (-1 : Int32)))).bind fun v8 =>
      jb_117 rc d 48 [(0, .ref a0), (1, .int x1), (2, .int x2), (3, .int x3), (4, .long (x4 - v8)), (6, .int (x6 + (1 : Int32)))] [] h5 :=
  (jx_G_run (jx_X_grows rc jx_dflt jx_mt d) 89 _).trans rfl
-- RoomTreesModel.minorOf(I)J
set_option maxRecDepth 100000 in
theorem je_118 (rc : Nat → Nat × (Nat → Int32)) (d : Nat) (a0 : Nat) (x1 : Int32) (h : jxH) : jx_C rc (d + 1) 118 [.ref a0, .int x1] h =
  if jx_is (jx_at h a0) 12 = true then
  jx_cV (jx_C rc d 117 [.ref a0] h) fun h1 =>
  (jx_gR (jx_at h1 a0) 12 6).bind fun b2 =>
  (jx_aL (jx_at h1 b2) x1).bind fun v3 =>
  some (some (.long v3), h1)
  else none :=
  jx_enter ((jx_G_run (jx_X_grows rc jx_dflt jx_mt d) 9 (0, [(0, .ref a0), (1, .int x1)], [], h)).trans rfl)
-- RoomTreesModel.orOver(J)I
set_option maxRecDepth 100000 in
theorem je_119 (rc : Nat → Nat × (Nat → Int32)) (d : Nat) (a0 : Nat) (x1 : Int64) (h : jxH) : jx_C rc (d + 1) 119 [.ref a0, .long x1] h =
  if jx_is (jx_at h a0) 12 = true then
  jx_cI (jx_C rc d 72 [.long x1, .long (-1073741824 : Int64), .long (1073741823 : Int64)] h) fun v2 h1 =>
  if v2 = 0 then
    jx_cI (jx_C rc d 73 [.ref a0, .int (5 : Int32)] h1) fun v4 h3 =>
    some (some (.int v4), h3)
  else
    some (some (.int ((x1).toInt32)), h1)
  else none :=
  jx_enter ((jx_G_run (jx_X_grows rc jx_dflt jx_mt d) 14 (0, [(0, .ref a0), (1, .long x1)], [], h)).trans rfl)
-- RoomTreesModel.minor(I)I
set_option maxRecDepth 100000 in
theorem je_120 (rc : Nat → Nat × (Nat → Int32)) (d : Nat) (a0 : Nat) (x1 : Int32) (h : jxH) : jx_C rc (d + 1) 120 [.ref a0, .int x1] h =
  if jx_is (jx_at h a0) 12 = true then
  jx_cI (jx_C rc d 72 [.long (x1).toInt64, .long (0 : Int64), .long (4095 : Int64)] h) fun v2 h1 =>
  if v2 = 0 then
    jx_cI (jx_C rc d 73 [.ref a0, .int (1 : Int32)] h1) fun v4 h3 =>
    some (some (.int v4), h3)
  else
    (jx_gR (jx_at h1 a0) 12 1).bind fun b5 =>
    (jx_aI (jx_at h1 b5) 0 (0 : Int32)).bind fun v6 =>
    if (x1 &&& (v6 ^^^ (-1 : Int32))) = 0 then
      jx_cL (jx_C rc d 118 [.ref a0, .int x1] h1) fun v8 h7 =>
      jx_cI (jx_C rc d 119 [.ref a0, .long v8] h7) fun v10 h9 =>
      some (some (.int v10), h9)
    else
      jx_cI (jx_C rc d 73 [.ref a0, .int (1 : Int32)] h1) fun v12 h11 =>
      some (some (.int v12), h11)
  else none :=
  jx_enter ((jx_G_run (jx_X_grows rc jx_dflt jx_mt d) 27 (0, [(0, .ref a0), (1, .int x1)], [], h)).trans rfl)
-- RoomTreesModel.det()I
set_option maxRecDepth 100000 in
theorem je_121 (rc : Nat → Nat × (Nat → Int32)) (d : Nat) (a0 : Nat) (h : jxH) : jx_C rc (d + 1) 121 [.ref a0] h =
  if jx_is (jx_at h a0) 12 = true then
  (jx_gR (jx_at h a0) 12 1).bind fun b1 =>
  (jx_aI (jx_at h b1) 0 (0 : Int32)).bind fun v2 =>
  jx_cL (jx_C rc d 118 [.ref a0, .int v2] h) fun v4 h3 =>
  jx_cI (jx_C rc d 119 [.ref a0, .long v4] h3) fun v6 h5 =>
  some (some (.int v6), h5)
  else none :=
  jx_enter ((jx_G_run (jx_X_grows rc jx_dflt jx_mt d) 11 (0, [(0, .ref a0)], [], h)).trans rfl)
