/-! THE CONSTRUCTORS: trail and search -/
section
variable {rc : Nat → Nat × (Nat → Int32)}
theorem va_upS {Q : Nat → Option Nat} {a i s : Nat} (q : ∀ j, j < i → Q j = some (a + s * j)) : ∀ j, j < i + 1 → va_up Q i (some (a + s * i)) j = some (a + s * j) := fun j hj => by
  unfold va_up
  by_cases z : j = i
  · rw [if_pos z, z]
  · rw [if_neg z]; exact q j (by omega)
theorem tr_new_l (a : Nat) : ∀ (m i : Nat) (h : jxH), i + m = 40 → (∃ x y : Int32, jx_at h a = jxO 9 [.ref (a + 1), .int x, .int y]) → (∃ Q, jx_at h (a + 1) = jxQ 6 40 Q ∧ ∀ j, j < i → Q j = some (a + 2 + 4 * j)) → (∀ j, j < i → st_ok h (a + 2 + 4 * j)) → h.1 = a + 2 + 4 * i → ∃ h', (∀ d, jb_311 rc (d + 2) 8 [(0, .ref a), (1, .int (Int32.ofNat i))] [] h = some (none, h')) ∧ jx_at h' a = jx_at h a ∧ (∃ Q, jx_at h' (a + 1) = jxQ 6 40 Q ∧ ∀ j, j < 40 → Q j = some (a + 2 + 4 * j)) ∧ (∀ j, j < 40 → st_ok h' (a + 2 + 4 * j)) ∧ h'.1 = h.1 + 4 * m ∧ h'.2.1 = h.2.1 + 34 * m ∧ ∀ x, x < a → jx_at h' x = jx_at h x
  | 0, i, h, e, o, q, t, n => by
    obtain rfl : i = 40 := by omega
    refine ⟨h, fun d => ?_, rfl, q, t, rfl, rfl, fun x hx => rfl⟩
    rw [je_311_8, if_pos (by decide)]
  | m + 1, i, h, e, o, q, t, n => by
    have hi : i < 40 := by omega
    obtain ⟨Q, q1, q2⟩ := q
    obtain ⟨x0, y0, o1⟩ := id o
    obtain ⟨h1, a1, a2, a3, a4, a5⟩ := st_new (rc := rc) h
    have F2 : ∀ x, x ≠ a + 1 → jx_at (jx_set h1 (a + 1) (jxQ 6 40 (va_up Q i (some h.1)))) x = jx_at h1 x := fun x hx => jk_at_ne _ _ hx
    have s2 := jk_at_self h1 (a + 1) (jxQ 6 40 (va_up Q i (some h.1)))
    have n2 : (jx_set h1 (a + 1) (jxQ 6 40 (va_up Q i (some h.1)))).1 = h.1 + 4 := a3
    have m2 : (jx_set h1 (a + 1) (jxQ 6 40 (va_up Q i (some h.1)))).2.1 = h.2.1 + 34 := a4
    generalize eg2 : jx_set h1 (a + 1) (jxQ 6 40 (va_up Q i (some h.1))) = h2 at *
    have old : ∀ x, x < h.1 → x ≠ a + 1 → jx_at h2 x = jx_at h x := fun x hx n5 => (F2 x n5).trans (a5 x hx)
    obtain ⟨h5, c1, c2, c3, c4, c5, c6, c7⟩ := tr_new_l a m (i + 1) h2 (by omega) ⟨x0, y0, (old _ (by omega) (by omega)).trans o1⟩ ⟨va_up Q i (some h.1), s2, by rw [n]; exact va_upS q2⟩ (fun j hj => by
      by_cases z : j = i
      · subst z
        rw [← n]; exact st_mv (fun x x1 x2 => F2 x (by omega)) a2
      · exact st_mv (fun x x1 x2 => old x (by omega) (by omega)) (t j (by omega))) (by omega)
    refine ⟨h5, fun d => ?_, c2.trans (old _ (by omega) (by omega)), c3, c4, by omega, by omega, fun x hx => (c7 x hx).trans (old x (by omega) (by omega))⟩
    have g1 : jx_gR (jx_at h a) 9 0 = some (a + 1) := by rw [o1]; rfl
    have is1 : jx_is (jx_at h1 h.1) 6 = true := by obtain ⟨⟨m0, sg, z⟩, -⟩ := a2; rw [z]; rfl
    have w1 : jx_sQ (jx_at h1 (a + 1)) 6 (Int32.ofNat i) (some h.1) = some (jxQ 6 40 (va_up Q i (some h.1))) := by rw [a5 _ (by omega), q1, jk_sQ hi (by decide)]
    rw [je_311_8, if_neg (by rw [show (40 : Int32) = Int32.ofNat 40 from rfl, jk_le (by decide) (by omega)]; omega), g1, jk_bs, a1, jk_cV, if_pos is1, w1, jk_bs, eg2, jk_succ]
    exact c1 d
theorem tr_new (h : jxH) : ∃ h', (∀ d, jx_C rc (d + 3) 311 [.ref h.1] (jx_new h 3 (.inl (9, jx_dflt 9))) = some (none, h')) ∧ jx_at h' h.1 = jxO 9 [.ref (h.1 + 1), .int 0, .int 0] ∧ (∃ Q, jx_at h' (h.1 + 1) = jxQ 6 40 Q ∧ ∀ j, j < 40 → Q j = some (h.1 + 2 + 4 * j)) ∧ (∀ j, j < 40 → st_ok h' (h.1 + 2 + 4 * j)) ∧ Nb h h' 162 1403 := by
  obtain ⟨o1, o2, o3, o4⟩ := nw_obj h 3 9 (jx_dflt 9)
  generalize jx_new h 3 (.inl (9, jx_dflt 9)) = h1 at *
  obtain ⟨g, eg, p, ga, gb, N⟩ := nw_arr (n := 40) (k := 0) (jxQ 6 40 fun _ => none) o1 (by omega) (by decide)
  have e1 := N.1
  have ga' : jx_at g h.1 = jxO 9 [.ref (h.1 + 1), .int 0, .int 0] := by rw [ga, o2]; rfl
  obtain ⟨h5, c1, c2, c3, c4, c5, c6, c7⟩ := tr_new_l (rc := rc) h.1 40 0 g rfl ⟨0, 0, ga'⟩ ⟨fun _ => none, by rw [← o2, gb], fun j hj => by omega⟩ (fun j hj => by omega) (by omega)
  refine ⟨h5, fun d => ?_, c2.trans ga', c3, c4, by omega, by have := N.2.1; omega, fun x hx => (c7 x hx).trans ((N.at (by omega) (by omega)).trans (o4 x hx))⟩
  have c40 : ((40 : Int32)).toNatClampNeg = 40 := by decide
  have c1' : ∀ d, jb_311 rc (d + 2) 8 [(0, .ref h.1), (1, .int (0 : Int32))] [] g = some (none, h5) := c1
  rw [je_311, if_pos (by rw [o1]; rfl), if_neg (by decide), c40, p, jk_bs, ← eg, c1']
theorem se_new_l (a : Nat) (hO : jxE) (gO : jx_gR hO 3 0 = some (a + 1)) : ∀ (m i : Nat) (h : jxH), i + m = 4 → jx_at h a = hO → (∃ Q, jx_at h (a + 1) = jxQ 4 4 Q ∧ ∀ j, j < i → Q j = some (a + 65 + 3 * j)) → (∀ j, j < i → ∃ f, fo_at h (a + 65 + 3 * j) f) → h.1 = a + 65 + 3 * i → ∃ h', (∀ d, jb_262 rc (d + 1) 28 [(0, .ref a), (1, .int (Int32.ofNat i))] [] h = some (none, h')) ∧ (∃ Q, jx_at h' (a + 1) = jxQ 4 4 Q ∧ ∀ j, j < 4 → Q j = some (a + 65 + 3 * j)) ∧ (∀ j, j < 4 → ∃ f, fo_at h' (a + 65 + 3 * j) f) ∧ h'.1 = h.1 + 3 * m ∧ h'.2.1 = h.2.1 + 27 * m ∧ ∀ x, x < a + 65 → x ≠ a + 1 → jx_at h' x = jx_at h x
  | 0, i, h, e, o, q, t, n => by
    obtain rfl : i = 4 := by omega
    obtain ⟨Q, q1, q2⟩ := id q
    refine ⟨h, fun d => ?_, q, t, rfl, rfl, fun x hx _ => rfl⟩
    rw [je_262_28, o, gO, jk_bs, q1, show jx_len (jxQ 4 4 Q) = some 4 from rfl, jk_bs, if_pos (by decide)]
  | m + 1, i, h, e, o, q, t, n => by
    have hi : i < 4 := by omega
    obtain ⟨Q, q1, q2⟩ := q
    obtain ⟨h1, a1, a2, a3, a4, a5⟩ := fo_new (rc := rc) h
    have F2 : ∀ x, x ≠ a + 1 → jx_at (jx_set h1 (a + 1) (jxQ 4 4 (va_up Q i (some h.1)))) x = jx_at h1 x := fun x hx => jk_at_ne _ _ hx
    have s2 := jk_at_self h1 (a + 1) (jxQ 4 4 (va_up Q i (some h.1)))
    have n2 : (jx_set h1 (a + 1) (jxQ 4 4 (va_up Q i (some h.1)))).1 = h.1 + 3 := a3
    have m2 : (jx_set h1 (a + 1) (jxQ 4 4 (va_up Q i (some h.1)))).2.1 = h.2.1 + 27 := a4
    generalize eg2 : jx_set h1 (a + 1) (jxQ 4 4 (va_up Q i (some h.1))) = h2 at *
    have old : ∀ x, x < h.1 → x ≠ a + 1 → jx_at h2 x = jx_at h x := fun x hx n5 => (F2 x n5).trans (a5 x hx)
    obtain ⟨h5, c1, c3, c4, c5, c6, c7⟩ := se_new_l a hO gO m (i + 1) h2 (by omega) ((old _ (by omega) (by omega)).trans o) ⟨va_up Q i (some h.1), s2, by rw [n]; exact va_upS q2⟩ (fun j hj => by
      by_cases z : j = i
      · subst z
        exact ⟨_, by rw [← n]; exact fo_mv (fun x x1 x2 => F2 x (by omega)) a2⟩
      · obtain ⟨f, tf⟩ := t j (by omega)
        exact ⟨f, fo_mv (fun x x1 x2 => old x (by omega) (by omega)) tf⟩) (by omega)
    refine ⟨h5, fun d => ?_, c3, c4, by omega, by omega, fun x hx ne => (c7 x hx ne).trans (old x (by omega) ne)⟩
    have is1 : jx_is (jx_at h1 h.1) 1 = true := fo_is a2
    have w1 : jx_sQ (jx_at h1 (a + 1)) 4 (Int32.ofNat i) (some h.1) = some (jxQ 4 4 (va_up Q i (some h.1))) := by rw [a5 _ (by omega), q1, jk_sQ hi (by decide)]
    rw [je_262_28, o, gO, jk_bs, q1, show jx_len (jxQ 4 4 Q) = some 4 from rfl, jk_bs, if_neg (by rw [jk_le (by decide) (by omega)]; omega), jk_bs, a1, jk_cV, if_pos is1, w1, jk_bs, eg2, jk_succ]
    exact c1 d
theorem se_new (h : jxH) : ∃ h', (∀ d, jx_C rc (d + 3) 262 [.ref h.1] (jx_new h 10 (.inl (3, jx_dflt 3))) = some (none, h')) ∧ se_ok h' h.1 ∧ Nb h h' 77 1836 := by
  obtain ⟨o1, o2, o3, o4⟩ := nw_obj h 10 3 (jx_dflt 3)
  generalize jx_new h 10 (.inl (3, jx_dflt 3)) = h1 at *
  obtain ⟨g, eg, p, ga, gb, N⟩ := nw_arr (n := 4) (k := 0) (jxQ 4 4 fun _ => none) o1 (by omega) (by decide)
  have e1 := N.1
  obtain ⟨h2, s1, s2, s3, s4, s5⟩ := st_new (rc := rc) g
  have b1 := (s5 h.1 (by omega)).trans ga
  obtain ⟨k1, ek1, p1, ka1, N1⟩ := nw_ref (k := 1) (b := g.1) b1 (by simp only [List.length_set]; decide)
  have f1 := N1.1
  obtain ⟨h3, t1, t2, t3, t4, t5⟩ := sp_new (rc := rc) k1
  have b2 := (t5 h.1 (by omega)).trans ka1
  obtain ⟨k2, ek2, p2, ka2, N2⟩ := nw_ref (k := 2) (b := k1.1) b2 (by simp only [List.length_set]; decide)
  have f2 := N2.1
  obtain ⟨h4, u1, u2, u3, u4, u5⟩ := tx_new (rc := rc) k2
  have b3 := (u5 h.1 (by omega)).trans ka2
  obtain ⟨k3, ek3, p3, ka3, N3⟩ := nw_ref (k := 3) (b := k2.1) b3 (by simp only [List.length_set]; decide)
  have f3 := N3.1
  obtain ⟨h5, v1, v2, v3, v4, v5⟩ := tx_new (rc := rc) k3
  have b4 := (v5 h.1 (by omega)).trans ka3
  obtain ⟨k4, ek4, p4, ka4, N4⟩ := nw_ref (k := 4) (b := k3.1) b4 (by simp only [List.length_set]; decide)
  have f4 := N4.1
  have oa : jx_at k4 h.1 = jxO 3 [.ref (h.1 + 1), .ref (h.1 + 2), .ref (h.1 + 6), .ref (h.1 + 61), .ref (h.1 + 63), .int 0, .int 0, .int 0, .int 0, .int 0] := by
    rw [ka4, show h1.1 = h.1 + 1 from o2, show g.1 = h.1 + 2 by omega, show k1.1 = h.1 + 6 by omega, show k2.1 = h.1 + 61 by omega, show k3.1 = h.1 + 63 by omega]; rfl
  have c1 : ∀ x, x < k3.1 → x ≠ h.1 → jx_at k4 x = jx_at k3 x := fun x hx ne => (N4.at (by omega) ne).trans (v5 x hx)
  have c2 : ∀ x, x < k2.1 → x ≠ h.1 → jx_at k4 x = jx_at k2 x := fun x hx ne => (c1 x (by omega) ne).trans ((N3.at (by omega) ne).trans (u5 x hx))
  have c3 : ∀ x, x < k1.1 → x ≠ h.1 → jx_at k4 x = jx_at k1 x := fun x hx ne => (c2 x (by omega) ne).trans ((N2.at (by omega) ne).trans (t5 x hx))
  have c4 : ∀ x, x < g.1 → x ≠ h.1 → jx_at k4 x = jx_at g x := fun x hx ne => (c3 x (by omega) ne).trans ((N1.at (by omega) ne).trans (s5 x hx))
  have ku : k4.1 = h.1 + 65 := by omega
  have km : k4.2.1 = h.2.1 + 1728 := by
    have := N.2.1; have := N1.2.1; have := N2.2.1; have := N3.2.1; have := N4.2.1; omega
  obtain ⟨h6, w1, w2, w3, w4, w5, w6⟩ := se_new_l (rc := rc) h.1 _ (show jx_gR (jxO 3 [.ref (h.1 + 1), .ref (h.1 + 2), .ref (h.1 + 6), .ref (h.1 + 61), .ref (h.1 + 63), .int 0, .int 0, .int 0, .int 0, .int 0]) 3 0 = some (h.1 + 1) from rfl) 4 0 k4 rfl oa ⟨fun _ => none, by rw [c4 _ (by omega) (by omega), ← o2, gb], fun j hj => by omega⟩ (fun j hj => by omega) (by omega)
  have d1 : ∀ x, x < h.1 + 65 → x ≠ h.1 + 1 → jx_at h6 x = jx_at k4 x := w6
  refine ⟨h6, fun d => ?_, ⟨⟨0, 0, 0, 0, 0, (d1 _ (by omega) (by omega)).trans oa⟩, w2, ?_, ?_, ?_, ?_, w3⟩, by omega, by omega, fun x hx => (d1 x (by omega) (by omega)).trans ((c4 x (by omega) (by omega)).trans ((N.at (by omega) (by omega)).trans (o4 x hx)))⟩
  · have c4' : ((4 : Int32)).toNatClampNeg = 4 := by decide
    have w1' : ∀ d, jb_262 rc (d + 1) 28 [(0, .ref h.1), (1, .int (0 : Int32))] [] k4 = some (none, h6) := w1
    rw [je_262, if_pos (by rw [o1]; rfl), if_neg (by decide), c4', p, jk_bs, ← eg, s1, jk_cV, p1, jk_bs, ← ek1, t1, jk_cV, p2, jk_bs, ← ek2, u1, jk_cV, p3, jk_bs, ← ek3, v1, jk_cV, p4, jk_bs, ← ek4, w1']
  · rw [show h.1 + 2 = g.1 by omega]
    exact st_mv (fun x x1 x2 => (d1 x (by omega) (by omega)).trans ((c3 x (by omega) (by omega)).trans (N1.at (by omega) (by omega)))) s2
  · rw [show h.1 + 6 = k1.1 by omega]
    exact sp_mv (fun x x1 x2 => (d1 x (by omega) (by omega)).trans ((c2 x (by omega) (by omega)).trans (N2.at (by omega) (by omega)))) t2
  · rw [show h.1 + 61 = k2.1 by omega]
    exact tx_mv (fun x x1 x2 => (d1 x (by omega) (by omega)).trans ((c1 x (by omega) (by omega)).trans (N3.at (by omega) (by omega)))) u2
  · rw [show h.1 + 63 = k3.1 by omega]
    exact tx_mv (fun x x1 x2 => (d1 x (by omega) (by omega)).trans (N4.at (by omega) (by omega))) v2
end
