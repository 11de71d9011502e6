/-! THE CONSTRUCTORS: the reference -/
theorem nw_inn {h : jxH} {a c k n m : Nat} {L : List Value} (ha : jx_at h a = jxO c L) (lt : a < h.1) (hk : k < L.length) : ∃ g, g = jx_set (jx_inner h n m) a (jxO c (L.set k (.ref h.1))) ∧ jx_pF (jx_at (jx_inner h n m) a) c k (.ref h.1) = some (jxO c (L.set k (.ref h.1))) ∧ jx_at g a = jxO c (L.set k (.ref h.1)) ∧ (∃ Q, jx_at g h.1 = jxQ 8 n Q ∧ ∀ i, i < n → Q i = some (h.1 + 1 + i)) ∧ (∀ i, i < n → jx_at g (h.1 + 1 + i) = jxI 0 m fun _ => 0) ∧ Nx h g (1 + n) (n + n * m) a := by
  have at0 : ∀ x, x < h.1 → jx_at (jx_inner h n m) x = jx_at h x := fun x hx => by
    unfold jx_inner jx_at
    dsimp only
    rw [if_neg (by omega), if_neg (by omega)]
  refine ⟨_, rfl, ?_, jk_at_self .., ⟨fun i => if i < n then some (h.1 + 1 + i) else none, ?_, fun i hi => if_pos hi⟩, fun i hi => ?_, ?_, ?_, fun x hx ne => ?_⟩
  · rw [at0 a lt, ha]
    unfold jx_pF
    dsimp only
    rw [if_pos ⟨rfl, hk⟩]
  · rw [jk_at_ne _ _ (by omega)]
    unfold jx_inner jx_at
    dsimp only
    rw [if_pos rfl]
  · rw [jk_at_ne _ _ (by omega)]
    unfold jx_inner jx_at
    dsimp only
    rw [if_neg (by omega), if_pos (by omega)]
    try rfl
  · show h.1 + 1 + n = h.1 + (1 + n); omega
  · show h.2.1 + n + n * m = h.2.1 + (n + n * m); omega
  · rw [jk_at_ne _ _ ne, at0 x hx]
section
variable {rc : Nat → Nat × (Nat → Int32)}
theorem mod_new (h : jxH) (hz : h.1 = 336) : ∃ h', (∀ d, jx_C rc (d + 1) 71 [.ref 336] (jx_new h 40 (.inl (12, jx_dflt 12))) = some (none, h')) ∧ (jx_at h' 336 = m_obj 0 0 0 0 0 0 0 0 0 0 0 0 0 ∧ jx_at h' 337 = (jxI 0 8 fun _ => 0) ∧ jx_at h' 338 = (jxI 0 25 fun _ => 0) ∧ m_rows h' 339 41 340 ∧ (∀ i, i < 41 → jx_at h' (340 + i) = jxI 0 25 fun _ => 0) ∧ jx_at h' 381 = (jxI 0 240 fun _ => 0) ∧ jx_at h' 382 = (jxL 4096 fun _ => 0) ∧ jx_at h' 383 = (jxL 4096 fun _ => 0) ∧ jx_at h' 384 = (jxL 13 fun _ => 0) ∧ m_rows h' 385 12 386 ∧ (∀ i, i < 12 → jx_at h' (386 + i) = jxI 0 12 fun _ => 0) ∧ jx_at h' 398 = (jxI 0 120 fun _ => 0) ∧ jx_at h' 399 = (jxI 0 25 fun _ => 0) ∧ jx_at h' 400 = (jxI 0 12 fun _ => 0) ∧ m_rows h' 401 12 402 ∧ (∀ i, i < 12 → jx_at h' (402 + i) = jxI 0 64 fun _ => 0) ∧ jx_at h' 414 = (jxI 0 12 fun _ => 0) ∧ m_rows h' 415 12 416 ∧ (∀ i, i < 12 → jx_at h' (416 + i) = jxI 0 64 fun _ => 0) ∧ jx_at h' 428 = (jxI 0 12 fun _ => 0) ∧ jx_at h' 429 = (jxI 0 64 fun _ => 0) ∧ m_rows h' 430 4 431 ∧ (∀ i, i < 4 → jx_at h' (431 + i) = jxI 0 25 fun _ => 0) ∧ jx_at h' 435 = (jxI 3 4 fun _ => 0) ∧ jx_at h' 436 = (jxI 0 64 fun _ => 0) ∧ jx_at h' 437 = (jxI 0 18 fun _ => 0) ∧ m_rows h' 438 6 439 ∧ (∀ i, i < 6 → jx_at h' (439 + i) = jxI 0 25 fun _ => 0) ∧ jx_at h' 445 = (jxI 0 4 fun _ => 0) ∧ jx_at h' 446 = (jxI 0 4 fun _ => 0) ∧ jx_at h' 447 = (jxI 0 96 fun _ => 0) ∧ jx_at h' 448 = (jxI 0 24 fun _ => 0) ∧ jx_at h' 449 = (jxI 0 25 fun _ => 0) ∧ jx_at h' 450 = (jxI 0 18 fun _ => 0)) ∧ h'.1 = 451 ∧ h'.2.1 = h.2.1 + 12062 ∧ ∀ x, x < 336 → jx_at h' x = jx_at h x := by
  obtain ⟨o1, o2, o3, o4⟩ := nw_obj h 40 12 (jx_dflt 12)
  rw [hz] at o1
  generalize jx_new h 40 (.inl (12, jx_dflt 12)) = k0 at *
  obtain ⟨k1, ek1, p1, ka1, kb1, M1⟩ := nw_arr (n := 8) (k := 0) (jx_arr 0 8) o1 (by omega) (by decide)
  have f1 := M1.1
  have z1 := M1.2.1
  have a1 : k0.1 = 337 := by omega
  obtain ⟨k2, ek2, p2, ka2, kb2, M2⟩ := nw_arr (n := 25) (k := 1) (jx_arr 0 25) ka1 (by omega) (by simp only [List.length_set]; decide)
  have f2 := M2.1
  have z2 := M2.2.1
  have a2 : k1.1 = 338 := by omega
  obtain ⟨k3, ek3, p3, ka3, kb3, kc3, M3⟩ := nw_inn (n := 41) (m := 25) (k := 2) ka2 (by omega) (by simp only [List.length_set]; decide)
  have f3 := M3.1
  have z3 := M3.2.1
  have a3 : k2.1 = 339 := by omega
  obtain ⟨k4, ek4, p4, ka4, kb4, M4⟩ := nw_arr (n := 240) (k := 3) (jx_arr 0 240) ka3 (by omega) (by simp only [List.length_set]; decide)
  have f4 := M4.1
  have z4 := M4.2.1
  have a4 : k3.1 = 381 := by omega
  obtain ⟨k5, ek5, p5, ka5, kb5, M5⟩ := nw_arr (n := 4096) (k := 6) (jx_arr 1 4096) ka4 (by omega) (by simp only [List.length_set]; decide)
  have f5 := M5.1
  have z5 := M5.2.1
  have a5 : k4.1 = 382 := by omega
  obtain ⟨k6, ek6, p6, ka6, kb6, M6⟩ := nw_arr (n := 4096) (k := 7) (jx_arr 1 4096) ka5 (by omega) (by simp only [List.length_set]; decide)
  have f6 := M6.1
  have z6 := M6.2.1
  have a6 : k5.1 = 383 := by omega
  obtain ⟨k7, ek7, p7, ka7, kb7, M7⟩ := nw_arr (n := 13) (k := 8) (jx_arr 1 13) ka6 (by omega) (by simp only [List.length_set]; decide)
  have f7 := M7.1
  have z7 := M7.2.1
  have a7 : k6.1 = 384 := by omega
  obtain ⟨k8, ek8, p8, ka8, kb8, kc8, M8⟩ := nw_inn (n := 12) (m := 12) (k := 9) ka7 (by omega) (by simp only [List.length_set]; decide)
  have f8 := M8.1
  have z8 := M8.2.1
  have a8 : k7.1 = 385 := by omega
  obtain ⟨k9, ek9, p9, ka9, kb9, M9⟩ := nw_arr (n := 120) (k := 10) (jx_arr 0 120) ka8 (by omega) (by simp only [List.length_set]; decide)
  have f9 := M9.1
  have z9 := M9.2.1
  have a9 : k8.1 = 398 := by omega
  obtain ⟨k10, ek10, p10, ka10, kb10, M10⟩ := nw_arr (n := 25) (k := 14) (jx_arr 0 25) ka9 (by omega) (by simp only [List.length_set]; decide)
  have f10 := M10.1
  have z10 := M10.2.1
  have a10 : k9.1 = 399 := by omega
  obtain ⟨k11, ek11, p11, ka11, kb11, M11⟩ := nw_arr (n := 12) (k := 15) (jx_arr 0 12) ka10 (by omega) (by simp only [List.length_set]; decide)
  have f11 := M11.1
  have z11 := M11.2.1
  have a11 : k10.1 = 400 := by omega
  obtain ⟨k12, ek12, p12, ka12, kb12, kc12, M12⟩ := nw_inn (n := 12) (m := 64) (k := 16) ka11 (by omega) (by simp only [List.length_set]; decide)
  have f12 := M12.1
  have z12 := M12.2.1
  have a12 : k11.1 = 401 := by omega
  obtain ⟨k13, ek13, p13, ka13, kb13, M13⟩ := nw_arr (n := 12) (k := 17) (jx_arr 0 12) ka12 (by omega) (by simp only [List.length_set]; decide)
  have f13 := M13.1
  have z13 := M13.2.1
  have a13 : k12.1 = 414 := by omega
  obtain ⟨k14, ek14, p14, ka14, kb14, kc14, M14⟩ := nw_inn (n := 12) (m := 64) (k := 18) ka13 (by omega) (by simp only [List.length_set]; decide)
  have f14 := M14.1
  have z14 := M14.2.1
  have a14 : k13.1 = 415 := by omega
  obtain ⟨k15, ek15, p15, ka15, kb15, M15⟩ := nw_arr (n := 12) (k := 19) (jx_arr 0 12) ka14 (by omega) (by simp only [List.length_set]; decide)
  have f15 := M15.1
  have z15 := M15.2.1
  have a15 : k14.1 = 428 := by omega
  obtain ⟨k16, ek16, p16, ka16, kb16, M16⟩ := nw_arr (n := 64) (k := 20) (jx_arr 0 64) ka15 (by omega) (by simp only [List.length_set]; decide)
  have f16 := M16.1
  have z16 := M16.2.1
  have a16 : k15.1 = 429 := by omega
  obtain ⟨k17, ek17, p17, ka17, kb17, kc17, M17⟩ := nw_inn (n := 4) (m := 25) (k := 22) ka16 (by omega) (by simp only [List.length_set]; decide)
  have f17 := M17.1
  have z17 := M17.2.1
  have a17 : k16.1 = 430 := by omega
  obtain ⟨k18, ek18, p18, ka18, kb18, M18⟩ := nw_arr (n := 4) (k := 23) (jx_arr 3 4) ka17 (by omega) (by simp only [List.length_set]; decide)
  have f18 := M18.1
  have z18 := M18.2.1
  have a18 : k17.1 = 435 := by omega
  obtain ⟨k19, ek19, p19, ka19, kb19, M19⟩ := nw_arr (n := 64) (k := 24) (jx_arr 0 64) ka18 (by omega) (by simp only [List.length_set]; decide)
  have f19 := M19.1
  have z19 := M19.2.1
  have a19 : k18.1 = 436 := by omega
  obtain ⟨k20, ek20, p20, ka20, kb20, M20⟩ := nw_arr (n := 18) (k := 26) (jx_arr 0 18) ka19 (by omega) (by simp only [List.length_set]; decide)
  have f20 := M20.1
  have z20 := M20.2.1
  have a20 : k19.1 = 437 := by omega
  obtain ⟨k21, ek21, p21, ka21, kb21, kc21, M21⟩ := nw_inn (n := 6) (m := 25) (k := 28) ka20 (by omega) (by simp only [List.length_set]; decide)
  have f21 := M21.1
  have z21 := M21.2.1
  have a21 : k20.1 = 438 := by omega
  obtain ⟨k22, ek22, p22, ka22, kb22, M22⟩ := nw_arr (n := 4) (k := 32) (jx_arr 0 4) ka21 (by omega) (by simp only [List.length_set]; decide)
  have f22 := M22.1
  have z22 := M22.2.1
  have a22 : k21.1 = 445 := by omega
  obtain ⟨k23, ek23, p23, ka23, kb23, M23⟩ := nw_arr (n := 4) (k := 33) (jx_arr 0 4) ka22 (by omega) (by simp only [List.length_set]; decide)
  have f23 := M23.1
  have z23 := M23.2.1
  have a23 : k22.1 = 446 := by omega
  obtain ⟨k24, ek24, p24, ka24, kb24, M24⟩ := nw_arr (n := 96) (k := 34) (jx_arr 0 96) ka23 (by omega) (by simp only [List.length_set]; decide)
  have f24 := M24.1
  have z24 := M24.2.1
  have a24 : k23.1 = 447 := by omega
  obtain ⟨k25, ek25, p25, ka25, kb25, M25⟩ := nw_arr (n := 24) (k := 35) (jx_arr 0 24) ka24 (by omega) (by simp only [List.length_set]; decide)
  have f25 := M25.1
  have z25 := M25.2.1
  have a25 : k24.1 = 448 := by omega
  obtain ⟨k26, ek26, p26, ka26, kb26, M26⟩ := nw_arr (n := 25) (k := 36) (jx_arr 0 25) ka25 (by omega) (by simp only [List.length_set]; decide)
  have f26 := M26.1
  have z26 := M26.2.1
  have a26 : k25.1 = 449 := by omega
  obtain ⟨k27, ek27, p27, ka27, kb27, M27⟩ := nw_arr (n := 18) (k := 37) (jx_arr 0 18) ka26 (by omega) (by simp only [List.length_set]; decide)
  have f27 := M27.1
  have z27 := M27.2.1
  have a27 : k26.1 = 450 := by omega
  have c27 : ∀ x, x < k27.1 → x ≠ 336 → jx_at k27 x = jx_at k27 x := fun x _ _ => rfl
  have c26 : ∀ x, x < k26.1 → x ≠ 336 → jx_at k27 x = jx_at k26 x := fun x hx ne => (c27 x (by omega) ne).trans (M27.at (by omega) ne)
  have c25 : ∀ x, x < k25.1 → x ≠ 336 → jx_at k27 x = jx_at k25 x := fun x hx ne => (c26 x (by omega) ne).trans (M26.at (by omega) ne)
  have c24 : ∀ x, x < k24.1 → x ≠ 336 → jx_at k27 x = jx_at k24 x := fun x hx ne => (c25 x (by omega) ne).trans (M25.at (by omega) ne)
  have c23 : ∀ x, x < k23.1 → x ≠ 336 → jx_at k27 x = jx_at k23 x := fun x hx ne => (c24 x (by omega) ne).trans (M24.at (by omega) ne)
  have c22 : ∀ x, x < k22.1 → x ≠ 336 → jx_at k27 x = jx_at k22 x := fun x hx ne => (c23 x (by omega) ne).trans (M23.at (by omega) ne)
  have c21 : ∀ x, x < k21.1 → x ≠ 336 → jx_at k27 x = jx_at k21 x := fun x hx ne => (c22 x (by omega) ne).trans (M22.at (by omega) ne)
  have c20 : ∀ x, x < k20.1 → x ≠ 336 → jx_at k27 x = jx_at k20 x := fun x hx ne => (c21 x (by omega) ne).trans (M21.at (by omega) ne)
  have c19 : ∀ x, x < k19.1 → x ≠ 336 → jx_at k27 x = jx_at k19 x := fun x hx ne => (c20 x (by omega) ne).trans (M20.at (by omega) ne)
  have c18 : ∀ x, x < k18.1 → x ≠ 336 → jx_at k27 x = jx_at k18 x := fun x hx ne => (c19 x (by omega) ne).trans (M19.at (by omega) ne)
  have c17 : ∀ x, x < k17.1 → x ≠ 336 → jx_at k27 x = jx_at k17 x := fun x hx ne => (c18 x (by omega) ne).trans (M18.at (by omega) ne)
  have c16 : ∀ x, x < k16.1 → x ≠ 336 → jx_at k27 x = jx_at k16 x := fun x hx ne => (c17 x (by omega) ne).trans (M17.at (by omega) ne)
  have c15 : ∀ x, x < k15.1 → x ≠ 336 → jx_at k27 x = jx_at k15 x := fun x hx ne => (c16 x (by omega) ne).trans (M16.at (by omega) ne)
  have c14 : ∀ x, x < k14.1 → x ≠ 336 → jx_at k27 x = jx_at k14 x := fun x hx ne => (c15 x (by omega) ne).trans (M15.at (by omega) ne)
  have c13 : ∀ x, x < k13.1 → x ≠ 336 → jx_at k27 x = jx_at k13 x := fun x hx ne => (c14 x (by omega) ne).trans (M14.at (by omega) ne)
  have c12 : ∀ x, x < k12.1 → x ≠ 336 → jx_at k27 x = jx_at k12 x := fun x hx ne => (c13 x (by omega) ne).trans (M13.at (by omega) ne)
  have c11 : ∀ x, x < k11.1 → x ≠ 336 → jx_at k27 x = jx_at k11 x := fun x hx ne => (c12 x (by omega) ne).trans (M12.at (by omega) ne)
  have c10 : ∀ x, x < k10.1 → x ≠ 336 → jx_at k27 x = jx_at k10 x := fun x hx ne => (c11 x (by omega) ne).trans (M11.at (by omega) ne)
  have c9 : ∀ x, x < k9.1 → x ≠ 336 → jx_at k27 x = jx_at k9 x := fun x hx ne => (c10 x (by omega) ne).trans (M10.at (by omega) ne)
  have c8 : ∀ x, x < k8.1 → x ≠ 336 → jx_at k27 x = jx_at k8 x := fun x hx ne => (c9 x (by omega) ne).trans (M9.at (by omega) ne)
  have c7 : ∀ x, x < k7.1 → x ≠ 336 → jx_at k27 x = jx_at k7 x := fun x hx ne => (c8 x (by omega) ne).trans (M8.at (by omega) ne)
  have c6 : ∀ x, x < k6.1 → x ≠ 336 → jx_at k27 x = jx_at k6 x := fun x hx ne => (c7 x (by omega) ne).trans (M7.at (by omega) ne)
  have c5 : ∀ x, x < k5.1 → x ≠ 336 → jx_at k27 x = jx_at k5 x := fun x hx ne => (c6 x (by omega) ne).trans (M6.at (by omega) ne)
  have c4 : ∀ x, x < k4.1 → x ≠ 336 → jx_at k27 x = jx_at k4 x := fun x hx ne => (c5 x (by omega) ne).trans (M5.at (by omega) ne)
  have c3 : ∀ x, x < k3.1 → x ≠ 336 → jx_at k27 x = jx_at k3 x := fun x hx ne => (c4 x (by omega) ne).trans (M4.at (by omega) ne)
  have c2 : ∀ x, x < k2.1 → x ≠ 336 → jx_at k27 x = jx_at k2 x := fun x hx ne => (c3 x (by omega) ne).trans (M3.at (by omega) ne)
  have c1 : ∀ x, x < k1.1 → x ≠ 336 → jx_at k27 x = jx_at k1 x := fun x hx ne => (c2 x (by omega) ne).trans (M2.at (by omega) ne)
  have c0 : ∀ x, x < k0.1 → x ≠ 336 → jx_at k27 x = jx_at k0 x := fun x hx ne => (c1 x (by omega) ne).trans (M1.at (by omega) ne)
  have oa : jx_at k27 336 = m_obj 0 0 0 0 0 0 0 0 0 0 0 0 0 := by
    rw [ka27, a1, a2, a3, a4, a5, a6, a7, a8, a9, a10, a11, a12, a13, a14, a15, a16, a17, a18, a19, a20, a21, a22, a23, a24, a25, a26, a27]; rfl
  have v4 : ((4 : Int32)).toNatClampNeg = 4 := by decide
  have w4 : ¬ ((4 : Int32) < 0 ∨ 5000 < (4 : Int32)) := by decide
  have v6 : ((6 : Int32)).toNatClampNeg = 6 := by decide
  have w6 : ¬ ((6 : Int32) < 0 ∨ 5000 < (6 : Int32)) := by decide
  have v8 : ((8 : Int32)).toNatClampNeg = 8 := by decide
  have w8 : ¬ ((8 : Int32) < 0 ∨ 5000 < (8 : Int32)) := by decide
  have v12 : ((12 : Int32)).toNatClampNeg = 12 := by decide
  have w12 : ¬ ((12 : Int32) < 0 ∨ 5000 < (12 : Int32)) := by decide
  have v13 : ((13 : Int32)).toNatClampNeg = 13 := by decide
  have w13 : ¬ ((13 : Int32) < 0 ∨ 5000 < (13 : Int32)) := by decide
  have v18 : ((18 : Int32)).toNatClampNeg = 18 := by decide
  have w18 : ¬ ((18 : Int32) < 0 ∨ 5000 < (18 : Int32)) := by decide
  have v24 : ((24 : Int32)).toNatClampNeg = 24 := by decide
  have w24 : ¬ ((24 : Int32) < 0 ∨ 5000 < (24 : Int32)) := by decide
  have v25 : ((25 : Int32)).toNatClampNeg = 25 := by decide
  have w25 : ¬ ((25 : Int32) < 0 ∨ 5000 < (25 : Int32)) := by decide
  have v41 : ((41 : Int32)).toNatClampNeg = 41 := by decide
  have w41 : ¬ ((41 : Int32) < 0 ∨ 5000 < (41 : Int32)) := by decide
  have v64 : ((64 : Int32)).toNatClampNeg = 64 := by decide
  have w64 : ¬ ((64 : Int32) < 0 ∨ 5000 < (64 : Int32)) := by decide
  have v96 : ((96 : Int32)).toNatClampNeg = 96 := by decide
  have w96 : ¬ ((96 : Int32) < 0 ∨ 5000 < (96 : Int32)) := by decide
  have v120 : ((120 : Int32)).toNatClampNeg = 120 := by decide
  have w120 : ¬ ((120 : Int32) < 0 ∨ 5000 < (120 : Int32)) := by decide
  have v240 : ((240 : Int32)).toNatClampNeg = 240 := by decide
  have w240 : ¬ ((240 : Int32) < 0 ∨ 5000 < (240 : Int32)) := by decide
  have v4096 : ((4096 : Int32)).toNatClampNeg = 4096 := by decide
  have w4096 : ¬ ((4096 : Int32) < 0 ∨ 5000 < (4096 : Int32)) := by decide
  have y12_64 : ¬ ((12 : Int32) < 0 ∨ 5000 < (12 : Int32) ∨ (64 : Int32) < 0 ∨ 5000 < (64 : Int32)) := by decide
  have y4_25 : ¬ ((4 : Int32) < 0 ∨ 5000 < (4 : Int32) ∨ (25 : Int32) < 0 ∨ 5000 < (25 : Int32)) := by decide
  have y12_12 : ¬ ((12 : Int32) < 0 ∨ 5000 < (12 : Int32) ∨ (12 : Int32) < 0 ∨ 5000 < (12 : Int32)) := by decide
  have y41_25 : ¬ ((41 : Int32) < 0 ∨ 5000 < (41 : Int32) ∨ (25 : Int32) < 0 ∨ 5000 < (25 : Int32)) := by decide
  have y6_25 : ¬ ((6 : Int32) < 0 ∨ 5000 < (6 : Int32) ∨ (25 : Int32) < 0 ∨ 5000 < (25 : Int32)) := by decide
  refine ⟨k27, fun d => ?_, ⟨oa, (by rw [c1 337 (by omega) (by omega), ← a1]; exact kb1), (by rw [c2 338 (by omega) (by omega), ← a2]; exact kb2), (by obtain ⟨Q, q1, q2⟩ := kb3; rw [a3] at q1 q2; exact ⟨Q, (c3 339 (by omega) (by omega)).trans q1, q2⟩), (fun i hi => by have q := kc3 i hi; rw [a3] at q; exact (c3 (340 + i) (by omega) (by omega)).trans q), (by rw [c4 381 (by omega) (by omega), ← a4]; exact kb4), (by rw [c5 382 (by omega) (by omega), ← a5]; exact kb5), (by rw [c6 383 (by omega) (by omega), ← a6]; exact kb6), (by rw [c7 384 (by omega) (by omega), ← a7]; exact kb7), (by obtain ⟨Q, q1, q2⟩ := kb8; rw [a8] at q1 q2; exact ⟨Q, (c8 385 (by omega) (by omega)).trans q1, q2⟩), (fun i hi => by have q := kc8 i hi; rw [a8] at q; exact (c8 (386 + i) (by omega) (by omega)).trans q), (by rw [c9 398 (by omega) (by omega), ← a9]; exact kb9), (by rw [c10 399 (by omega) (by omega), ← a10]; exact kb10), (by rw [c11 400 (by omega) (by omega), ← a11]; exact kb11), (by obtain ⟨Q, q1, q2⟩ := kb12; rw [a12] at q1 q2; exact ⟨Q, (c12 401 (by omega) (by omega)).trans q1, q2⟩), (fun i hi => by have q := kc12 i hi; rw [a12] at q; exact (c12 (402 + i) (by omega) (by omega)).trans q), (by rw [c13 414 (by omega) (by omega), ← a13]; exact kb13), (by obtain ⟨Q, q1, q2⟩ := kb14; rw [a14] at q1 q2; exact ⟨Q, (c14 415 (by omega) (by omega)).trans q1, q2⟩), (fun i hi => by have q := kc14 i hi; rw [a14] at q; exact (c14 (416 + i) (by omega) (by omega)).trans q), (by rw [c15 428 (by omega) (by omega), ← a15]; exact kb15), (by rw [c16 429 (by omega) (by omega), ← a16]; exact kb16), (by obtain ⟨Q, q1, q2⟩ := kb17; rw [a17] at q1 q2; exact ⟨Q, (c17 430 (by omega) (by omega)).trans q1, q2⟩), (fun i hi => by have q := kc17 i hi; rw [a17] at q; exact (c17 (431 + i) (by omega) (by omega)).trans q), (by rw [c18 435 (by omega) (by omega), ← a18]; exact kb18), (by rw [c19 436 (by omega) (by omega), ← a19]; exact kb19), (by rw [c20 437 (by omega) (by omega), ← a20]; exact kb20), (by obtain ⟨Q, q1, q2⟩ := kb21; rw [a21] at q1 q2; exact ⟨Q, (c21 438 (by omega) (by omega)).trans q1, q2⟩), (fun i hi => by have q := kc21 i hi; rw [a21] at q; exact (c21 (439 + i) (by omega) (by omega)).trans q), (by rw [c22 445 (by omega) (by omega), ← a22]; exact kb22), (by rw [c23 446 (by omega) (by omega), ← a23]; exact kb23), (by rw [c24 447 (by omega) (by omega), ← a24]; exact kb24), (by rw [c25 448 (by omega) (by omega), ← a25]; exact kb25), (by rw [c26 449 (by omega) (by omega), ← a26]; exact kb26), (by rw [c27 450 (by omega) (by omega), ← a27]; exact kb27)⟩, by omega, by omega, fun x hx => (c0 x (by omega) (by omega)).trans (o4 x (by omega))⟩
  rw [je_71, if_pos (by rw [o1]; rfl)]
  rw [if_neg w8, v8, p1, jk_bs, ← ek1]
  rw [if_neg w25, v25, p2, jk_bs, ← ek2]
  rw [je_71_10]
  rw [if_neg y41_25, v41, v25, p3, jk_bs, ← ek3]
  rw [if_neg w240, v240, p4, jk_bs, ← ek4]
  rw [je_71_19]
  rw [if_neg w4096, v4096, p5, jk_bs, ← ek5]
  rw [if_neg w4096, p6, jk_bs, ← ek6]
  rw [je_71_27]
  rw [if_neg w13, v13, p7, jk_bs, ← ek7]
  rw [if_neg y12_12, v12, p8, jk_bs, ← ek8]
  rw [je_71_36]
  rw [if_neg w120, v120, p9, jk_bs, ← ek9]
  rw [if_neg w25, v25, p10, jk_bs, ← ek10]
  rw [je_71_44]
  rw [if_neg w12, v12, p11, jk_bs, ← ek11]
  rw [if_neg y12_64, v64, p12, jk_bs, ← ek12]
  rw [je_71_53]
  rw [if_neg w12, v12, p13, jk_bs, ← ek13]
  rw [if_neg y12_64, v64, p14, jk_bs, ← ek14]
  rw [je_71_62]
  rw [if_neg w12, v12, p15, jk_bs, ← ek15]
  rw [if_neg w64, v64, p16, jk_bs, ← ek16]
  rw [je_71_70]
  rw [if_neg y4_25, v4, v25, p17, jk_bs, ← ek17]
  rw [if_neg w4, p18, jk_bs, ← ek18]
  rw [je_71_79]
  rw [if_neg w64, v64, p19, jk_bs, ← ek19]
  rw [if_neg w18, v18, p20, jk_bs, ← ek20]
  rw [je_71_87]
  rw [if_neg y6_25, v6, v25, p21, jk_bs, ← ek21]
  rw [if_neg w4, v4, p22, jk_bs, ← ek22]
  rw [je_71_96]
  rw [if_neg w4, v4, p23, jk_bs, ← ek23]
  rw [if_neg w96, v96, p24, jk_bs, ← ek24]
  rw [je_71_104]
  rw [if_neg w24, v24, p25, jk_bs, ← ek25]
  rw [if_neg w25, v25, p26, jk_bs, ← ek26]
  rw [je_71_112]
  rw [if_neg w18, v18, p27, jk_bs, ← ek27]
end
