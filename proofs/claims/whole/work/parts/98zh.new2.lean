/-! THE CONSTRUCTORS: reckoner, speller, search, trail -/
section
variable {rc : Nat → Nat × (Nat → Int32)}
/-- what is new stands behind all -/
def Nb (h g : jxH) (n s : Nat) : Prop := g.1 = h.1 + n ∧ g.2.1 = h.2.1 + s ∧ ∀ x, x < h.1 → jx_at g x = jx_at h x
theorem Nb.fr {h g : jxH} {n s : Nat} (N : Nb h g n s) {P : Nat → Prop} (hP : ∀ x, h.1 ≤ x → P x) : Fr P (g.1, g.2.1, h.2.2) g := ⟨rfl, rfl, fun x hx => by
  rcases Nat.lt_or_ge x h.1 with z | z
  · exact N.2.2 x z
  · exact absurd (hP x z) hx⟩
theorem wk_mv {h g : jxH} {a : Nat} (e : ∀ x, a ≤ x → x < a + 4 → jx_at g x = jx_at h x) (K : wk_ok h a) : wk_ok g a := by
  obtain ⟨⟨sz, sn, o⟩, ⟨g1, e1⟩, ⟨g2, e2⟩, g3, e3⟩ := K
  exact ⟨⟨sz, sn, (e _ (by omega) (by omega)).trans o⟩, ⟨g1, (e _ (by omega) (by omega)).trans e1⟩, ⟨g2, (e _ (by omega) (by omega)).trans e2⟩, g3, (e _ (by omega) (by omega)).trans e3⟩
theorem tx_mv {h g : jxH} {a : Nat} (e : ∀ x, a ≤ x → x < a + 2 → jx_at g x = jx_at h x) (K : tx_ok h a) : tx_ok g a := by
  obtain ⟨⟨n, o⟩, g1, e1⟩ := K
  exact ⟨⟨n, (e _ (by omega) (by omega)).trans o⟩, g1, (e _ (by omega) (by omega)).trans e1⟩
theorem fo_mv {h g : jxH} {a : Nat} {f : jF} (e : ∀ x, a ≤ x → x < a + 3 → jx_at g x = jx_at h x) (K : fo_at h a f) : fo_at g a f := by
  obtain ⟨o, ⟨W, w1, w2⟩, N, n1, n2⟩ := K
  exact ⟨(e a (by omega) (by omega)).trans o, ⟨W, (e _ (by omega) (by omega)).trans w1, w2⟩, N, (e _ (by omega) (by omega)).trans n1, n2⟩
theorem st_mv {h g : jxH} {a : Nat} (e : ∀ x, a ≤ x → x < a + 4 → jx_at g x = jx_at h x) (K : st_ok h a) : st_ok g a := by
  obtain ⟨⟨m, sg, s⟩, f, q⟩ := K
  exact ⟨⟨m, sg, (e a (by omega) (by omega)).trans s⟩, f, fo_mv (fun x x1 x2 => e x (by omega) (by omega)) q⟩
theorem sp_mv {h g : jxH} {a : Nat} (e : ∀ x, a ≤ x → x < a + 55 → jx_at g x = jx_at h x) (K : sp_ok h a) : sp_ok g a := by
  obtain ⟨o, w, ⟨Q, q1, q2⟩, ⟨Q', q1', q2'⟩, t⟩ := K
  exact ⟨(e _ (by omega) (by omega)).trans o, wk_mv (fun x x1 x2 => e x (by omega) (by omega)) w, ⟨Q, (e _ (by omega) (by omega)).trans q1, q2⟩, ⟨Q', (e _ (by omega) (by omega)).trans q1', q2'⟩, fun i hi => ⟨tx_mv (fun x x1 x2 => e x (by omega) (by omega)) (t i hi).1, tx_mv (fun x x1 x2 => e x (by omega) (by omega)) (t i hi).2⟩⟩
theorem rk_new (h : jxH) : ∃ h', (∀ d, jx_C rc (d + 2) 248 [.ref h.1] (jx_new h 12 (.inl (2, jx_dflt 2))) = some (none, h')) ∧ rk_ok h' h.1 ∧ Nb h h' 8 89 := by
  obtain ⟨o1, o2, o3, o4⟩ := nw_obj h 12 2 (jx_dflt 2)
  generalize jx_new h 12 (.inl (2, jx_dflt 2)) = h1 at *
  obtain ⟨h2, r1, r2, r3, r4, r5⟩ := wk_new (rc := rc) h1
  have q1 := r5 h.1 (by omega)
  rw [o1] at q1
  obtain ⟨g0, eg0, p0, ga0, N0⟩ := nw_ref (k := 0) (b := h1.1) q1 (by decide)
  have e0 := N0.1
  obtain ⟨g, eg, p, ga, gb, N⟩ := nw_arr (n := 12) (k := 1) (jx_arr 1 12) ga0 (by omega) (by simp only [List.length_set]; decide)
  have e1 := N.1
  obtain ⟨g2, eg2, p2, ga2, gb2, N2⟩ := nw_arr (n := 12) (k := 2) (jx_arr 1 12) ga (by omega) (by simp only [List.length_set]; decide)
  have e2 := N2.1
  obtain ⟨g3, eg3, p3, ga3, gb3, N3⟩ := nw_arr (n := 12) (k := 3) (jx_arr 0 12) ga2 (by omega) (by simp only [List.length_set]; decide)
  have e3 := N3.1
  have old : ∀ x, x < h2.1 → x ≠ h.1 → jx_at g3 x = jx_at h2 x := fun x hx ne => (N3.at (by omega) ne).trans ((N2.at (by omega) ne).trans ((N.at (by omega) ne).trans (N0.at hx ne)))
  refine ⟨g3, fun d => ?_, ⟨⟨0, 0, 0, 0, 0, 0, 0, 0, ?_⟩, ?_, ⟨fun _ => 0, ?_⟩, ⟨fun _ => 0, ?_⟩, fun _ => 0, ?_⟩, by omega, by have := N0.2.1; have := N.2.1; have := N2.2.1; have := N3.2.1; omega, fun x hx => (old x (by omega) (by omega)).trans ((r5 x (by omega)).trans (o4 x hx))⟩
  · rw [je_248, if_pos (by rw [o1]; rfl), r1, jk_cV, p0, jk_bs, if_neg n12', c12, ← eg0, p, jk_bs, if_neg n12', ← eg, p2, jk_bs, if_neg n12', ← eg2, p3, jk_bs, ← eg3]
  · rw [ga3, show h1.1 = h.1 + 1 from o2, show g0.1 = h.1 + 5 by omega, show g.1 = h.1 + 6 by omega, show g2.1 = h.1 + 7 by omega]; rfl
  · rw [← o2]
    exact wk_mv (fun x x1 x2 => old x (by omega) (by omega)) r2
  · rw [N3.at (by omega) (by omega), N2.at (by omega) (by omega), show h.1 + 5 = g0.1 by omega, gb]; rfl
  · rw [N3.at (by omega) (by omega), show h.1 + 6 = g.1 by omega, gb2]; rfl
  · rw [show h.1 + 7 = g2.1 by omega, gb3]; rfl
/-- a speller with its first texts -/
def spN (h : jxH) (a i : Nat) : Prop := jx_at h a = jxO 5 [.ref (a + 1), .ref (a + 5), .ref (a + 6)] ∧ wk_ok h (a + 1) ∧ (∃ Q, jx_at h (a + 5) = jxQ 7 12 Q ∧ ∀ j, j < i → Q j = some (a + 7 + 4 * j)) ∧ (∃ Q, jx_at h (a + 6) = jxQ 7 12 Q ∧ ∀ j, j < i → Q j = some (a + 9 + 4 * j)) ∧ (∀ j, j < i → tx_ok h (a + 7 + 4 * j) ∧ tx_ok h (a + 9 + 4 * j)) ∧ h.1 = a + 7 + 4 * i
theorem va_upQ {Q : Nat → Option Nat} {a i : Nat} (q : ∀ j, j < i → Q j = some (a + 4 * j)) : ∀ j, j < i + 1 → va_up Q i (some (a + 4 * i)) j = some (a + 4 * j) := fun j hj => by
  unfold va_up
  by_cases z : j = i
  · rw [if_pos z, z]
  · rw [if_neg z]; exact q j (by omega)
theorem sp_new_l (a : Nat) : ∀ (m i : Nat) (h : jxH), i + m = 12 → spN h a i → ∃ h', (∀ d, jb_276 rc (d + 1) 17 [(0, .ref a), (1, .int (Int32.ofNat i))] [] h = some (none, h')) ∧ sp_ok h' a ∧ h'.1 = h.1 + 4 * m ∧ h'.2.1 = h.2.1 + 124 * m ∧ ∀ x, x < a → jx_at h' x = jx_at h x
  | 0, i, h, e, S => by
    obtain rfl : i = 12 := by omega
    refine ⟨h, fun d => ?_, ⟨S.1, S.2.1, S.2.2.1, S.2.2.2.1, S.2.2.2.2.1⟩, rfl, rfl, fun x hx => rfl⟩
    rw [je_276_17, if_pos (by decide)]
  | m + 1, i, h, e, S => by
    have hi : i < 12 := by omega
    obtain ⟨o, w, ⟨Q, q1, q2⟩, ⟨R, r1, r2⟩, t, n⟩ := id S
    obtain ⟨h1, a1, a2, a3, a4, a5⟩ := tx_new (rc := rc) h
    have F2 : ∀ x, x ≠ a + 5 → jx_at (jx_set h1 (a + 5) (jxQ 7 12 (va_up Q i (some h.1)))) x = jx_at h1 x := fun x hx => jk_at_ne _ _ hx
    have s2 := jk_at_self h1 (a + 5) (jxQ 7 12 (va_up Q i (some h.1)))
    have n2 : (jx_set h1 (a + 5) (jxQ 7 12 (va_up Q i (some h.1)))).1 = h.1 + 2 := a3
    have m2 : (jx_set h1 (a + 5) (jxQ 7 12 (va_up Q i (some h.1)))).2.1 = h.2.1 + 62 := a4
    generalize eg2 : jx_set h1 (a + 5) (jxQ 7 12 (va_up Q i (some h.1))) = h2 at *
    obtain ⟨h3, b1, b2, b3, b4, b5⟩ := tx_new (rc := rc) h2
    have F4 : ∀ x, x ≠ a + 6 → jx_at (jx_set h3 (a + 6) (jxQ 7 12 (va_up R i (some h2.1)))) x = jx_at h3 x := fun x hx => jk_at_ne _ _ hx
    have s4 := jk_at_self h3 (a + 6) (jxQ 7 12 (va_up R i (some h2.1)))
    have n4 : (jx_set h3 (a + 6) (jxQ 7 12 (va_up R i (some h2.1)))).1 = h2.1 + 2 := b3
    have m4 : (jx_set h3 (a + 6) (jxQ 7 12 (va_up R i (some h2.1)))).2.1 = h2.2.1 + 62 := b4
    generalize eg4 : jx_set h3 (a + 6) (jxQ 7 12 (va_up R i (some h2.1))) = h4 at *
    have old : ∀ x, x < h.1 → x ≠ a + 5 → x ≠ a + 6 → jx_at h4 x = jx_at h x := fun x hx n5 n6 => (F4 x n6).trans ((b5 x (by omega)).trans ((F2 x n5).trans (a5 x hx)))
    have new1 : ∀ x, h.1 ≤ x → x < h.1 + 2 → jx_at h4 x = jx_at h1 x := fun x x1 x2 => (F4 x (by omega)).trans ((b5 x (by omega)).trans (F2 x (by omega)))
    obtain ⟨h5, c1, c2, c3, c4, c5⟩ := sp_new_l a m (i + 1) h4 (by omega) ⟨(old _ (by omega) (by omega) (by omega)).trans o, wk_mv (fun x x1 x2 => old x (by omega) (by omega) (by omega)) w, ⟨va_up Q i (some h.1), by rw [F4 _ (by omega), b5 _ (by omega), s2], by rw [n]; exact va_upQ q2⟩, ⟨va_up R i (some h2.1), s4, by rw [n2, n, show a + 7 + 4 * i + 2 = a + 9 + 4 * i by omega]; exact va_upQ r2⟩, fun j hj => by
      by_cases z : j = i
      · subst z
        exact ⟨by rw [← n]; exact tx_mv new1 a2, by rw [show a + 9 + 4 * j = h2.1 by omega]; exact tx_mv (fun x x1 x2 => F4 x (by omega)) b2⟩
      · obtain ⟨t1, t2⟩ := t j (by omega)
        exact ⟨tx_mv (fun x x1 x2 => old x (by omega) (by omega) (by omega)) t1, tx_mv (fun x x1 x2 => old x (by omega) (by omega) (by omega)) t2⟩, by omega⟩
    refine ⟨h5, fun d => ?_, c2, by omega, by omega, fun x hx => (c5 x hx).trans (old x (by omega) (by omega) (by omega))⟩
    have g1 : jx_gR (jx_at h a) 5 1 = some (a + 5) := by rw [o]; rfl
    have g2 : jx_gR (jx_at h2 a) 5 2 = some (a + 6) := by rw [F2 _ (by omega), a5 _ (by omega), o]; rfl
    have is1 : jx_is (jx_at h1 h.1) 8 = true := by obtain ⟨⟨k, z⟩, -⟩ := a2; rw [z]; rfl
    have is2 : jx_is (jx_at h3 h2.1) 8 = true := by obtain ⟨⟨k, z⟩, -⟩ := b2; rw [z]; rfl
    have w1 : jx_sQ (jx_at h1 (a + 5)) 7 (Int32.ofNat i) (some h.1) = some (jxQ 7 12 (va_up Q i (some h.1))) := by rw [a5 _ (by omega), q1, jk_sQ hi (by decide)]
    have w2 : jx_sQ (jx_at h3 (a + 6)) 7 (Int32.ofNat i) (some h2.1) = some (jxQ 7 12 (va_up R i (some h2.1))) := by rw [b5 _ (by omega), F2 _ (by omega), a5 _ (by omega), r1, jk_sQ hi (by decide)]
    rw [je_276_17, if_neg (jk_n12 hi), g1, jk_bs, a1, jk_cV, if_pos is1, w1, jk_bs, eg2, g2, jk_bs, b1, jk_cV, if_pos is2, w2, jk_bs, eg4, jk_succ]
    exact c1 d
theorem sp_new (h : jxH) : ∃ h', (∀ d, jx_C rc (d + 2) 276 [.ref h.1] (jx_new h 3 (.inl (5, jx_dflt 5))) = some (none, h')) ∧ sp_ok h' h.1 ∧ Nb h h' 55 1556 := by
  obtain ⟨o1, o2, o3, o4⟩ := nw_obj h 3 5 (jx_dflt 5)
  generalize jx_new h 3 (.inl (5, jx_dflt 5)) = h1 at *
  obtain ⟨h2, r1, r2, r3, r4, r5⟩ := wk_new (rc := rc) h1
  have q1 := r5 h.1 (by omega)
  rw [o1] at q1
  obtain ⟨g0, eg0, p0, ga0, N0⟩ := nw_ref (k := 0) (b := h1.1) q1 (by decide)
  have e0 := N0.1
  obtain ⟨g, eg, p, ga, gb, N⟩ := nw_arr (n := 12) (k := 1) (jxQ 7 12 fun _ => none) ga0 (by omega) (by simp only [List.length_set]; decide)
  have e1 := N.1
  obtain ⟨g2, eg2, p2, ga2, gb2, N2⟩ := nw_arr (n := 12) (k := 2) (jxQ 7 12 fun _ => none) ga (by omega) (by simp only [List.length_set]; decide)
  have e2 := N2.1
  have old : ∀ x, x < h2.1 → x ≠ h.1 → jx_at g2 x = jx_at h2 x := fun x hx ne => (N2.at (by omega) ne).trans ((N.at (by omega) ne).trans (N0.at hx ne))
  obtain ⟨h5, c1, c2, c3, c4, c5⟩ := sp_new_l (rc := rc) h.1 12 0 g2 rfl ⟨by rw [ga2, show h1.1 = h.1 + 1 from o2, show g0.1 = h.1 + 5 by omega, show g.1 = h.1 + 6 by omega]; rfl, by rw [← o2]; exact wk_mv (fun x x1 x2 => old x (by omega) (by omega)) r2, ⟨fun _ => none, by rw [N2.at (by omega) (by omega), show h.1 + 5 = g0.1 by omega, gb], fun j hj => by omega⟩, ⟨fun _ => none, by rw [show h.1 + 6 = g.1 by omega, gb2], fun j hj => by omega⟩, fun j hj => by omega, by omega⟩
  refine ⟨h5, fun d => ?_, c2, by omega, by have := N0.2.1; have := N.2.1; have := N2.2.1; omega, fun x hx => (c5 x hx).trans ((old x (by omega) (by omega)).trans ((r5 x (by omega)).trans (o4 x hx)))⟩
  have c1' : ∀ d, jb_276 rc (d + 1) 17 [(0, .ref h.1), (1, .int (0 : Int32))] [] g2 = some (none, h5) := c1
  rw [je_276, if_pos (by rw [o1]; rfl), r1, jk_cV, p0, jk_bs, if_neg n12', c12, ← eg0, p, jk_bs, if_neg n12', ← eg, p2, jk_bs, ← eg2, c1']
end
