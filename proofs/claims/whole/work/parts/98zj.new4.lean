/-! THE CONSTRUCTORS: the class itself -/
def C0 (h : jxH) : Prop := (∃ G, jx_at h 1 = jxI 0 8 G ∧ ∀ k, k < 8 → G k = 0) ∧ fo_at h 2 jf_0 ∧ (jx_at h 12 = jxO 9 [.ref 13, .int 0, .int 0] ∧ (∃ Q, jx_at h 13 = jxQ 6 40 Q ∧ ∀ i, i < 40 → Q i = some (14 + 4 * i)) ∧ (∀ i, i < 40 → st_ok h (14 + 4 * i))) ∧ (jx_at h 323 = jxQ 4 4 (fun _ => none) ∧ jx_at h 324 = jxQ 5 4 (fun _ => none)) ∧ (∀ c : jC, c.1 = 0 → cr_at h 325 c) ∧ c_im h none ∧ (jx_at h 320 = jxO 7 [.ref 321, .ref 322, .int 0] ∧ (∃ g, jx_at h 321 = jxI 0 120 g) ∧ ∃ g, jx_at h 322 = jxI 0 12 g) ∧ c_scr h
section
variable {rc : Nat → Nat × (Nat → Int32)}
theorem cr_mv {h g : jxH} {a : Nat} {c : jC} (e : ∀ x, a ≤ x → x < a + 4 → jx_at g x = jx_at h x) (K : cr_at h a c) : cr_at g a c := by
  obtain ⟨o, ⟨g1, e1, q1⟩, ⟨g2, e2, q2⟩, g3, e3, q3⟩ := K
  exact ⟨(e _ (by omega) (by omega)).trans o, ⟨g1, (e _ (by omega) (by omega)).trans e1, q1⟩, ⟨g2, (e _ (by omega) (by omega)).trans e2, q2⟩, g3, (e _ (by omega) (by omega)).trans e3, q3⟩
theorem rk_mv {h g : jxH} {a : Nat} (e : ∀ x, a ≤ x → x < a + 8 → jx_at g x = jx_at h x) (K : rk_ok h a) : rk_ok g a := by
  obtain ⟨⟨u, l, i1, i2, i3, i4, i5, i6, o⟩, w, ⟨g3, k3⟩, ⟨g4, k4⟩, g5, k5⟩ := K
  exact ⟨⟨u, l, i1, i2, i3, i4, i5, i6, (e _ (by omega) (by omega)).trans o⟩, wk_mv (fun x x1 x2 => e x (by omega) (by omega)) w, ⟨g3, (e _ (by omega) (by omega)).trans k3⟩, ⟨g4, (e _ (by omega) (by omega)).trans k4⟩, g5, (e _ (by omega) (by omega)).trans k5⟩
theorem se_mv {h g : jxH} {a : Nat} (e : ∀ x, a ≤ x → x < a + 77 → jx_at g x = jx_at h x) (K : se_ok h a) : se_ok g a := by
  obtain ⟨⟨i1, i2, i3, i4, i5, o⟩, ⟨Q, q1, q2⟩, s, p, t1, t2, f⟩ := K
  exact ⟨⟨i1, i2, i3, i4, i5, (e _ (by omega) (by omega)).trans o⟩, ⟨Q, (e _ (by omega) (by omega)).trans q1, q2⟩, st_mv (fun x x1 x2 => e x (by omega) (by omega)) s, sp_mv (fun x x1 x2 => e x (by omega) (by omega)) p, tx_mv (fun x x1 x2 => e x (by omega) (by omega)) t1, tx_mv (fun x x1 x2 => e x (by omega) (by omega)) t2, fun i hi => by
    obtain ⟨q, z⟩ := f i hi; exact ⟨q, fo_mv (fun x x1 x2 => e x (by omega) (by omega)) z⟩⟩
theorem cls_new (h : jxH) (hz : h.1 = 0) : ∃ h', (∀ d, jx_C rc (d + 4) 0 [.ref 0] (jx_new h 17 (.inl (11, jx_dflt 11))) = some (none, h')) ∧ C0 h' ∧ h'.1 = 336 ∧ h'.2.1 = h.2.1 + 5314 := by
  obtain ⟨o1, o2, o3, -⟩ := nw_obj h 17 11 (jx_dflt 11)
  rw [hz] at o1
  generalize jx_new h 17 (.inl (11, jx_dflt 11)) = h1 at *
  obtain ⟨k0, ek0, p0, ka0, kb0, M0⟩ := nw_arr (n := 8) (k := 0) (jx_arr 0 8) o1 (by omega) (by decide)
  have f0 := M0.1
  have z0 := M0.2.1
  obtain ⟨h2, s1, t1, n1, m1, r1⟩ := fo_new (rc := rc) k0
  obtain ⟨k1, ek1, p1, ka1, M1⟩ := nw_ref (k := 1) (b := k0.1) ((r1 0 (by omega)).trans ka0) (by simp only [List.length_set]; decide)
  have f1 := M1.1
  have z1 := M1.2.1
  have a1 : k0.1 = 2 := by omega
  obtain ⟨h3, s2, t2, n2, m2, r2⟩ := fo_new (rc := rc) k1
  obtain ⟨k2, ek2, p2, ka2, M2⟩ := nw_ref (k := 2) (b := k1.1) ((r2 0 (by omega)).trans ka1) (by simp only [List.length_set]; decide)
  have f2 := M2.1
  have z2 := M2.2.1
  have a2 : k1.1 = 5 := by omega
  obtain ⟨h4, s3, t3, n3, m3, r3⟩ := st_new (rc := rc) k2
  obtain ⟨k3, ek3, p3, ka3, M3⟩ := nw_ref (k := 3) (b := k2.1) ((r3 0 (by omega)).trans ka2) (by simp only [List.length_set]; decide)
  have f3 := M3.1
  have z3 := M3.2.1
  have a3 : k2.1 = 8 := by omega
  obtain ⟨h5, s4, t4, u4, v4, n4, m4, r4⟩ := tr_new (rc := rc) k3
  obtain ⟨k4, ek4, p4, ka4, M4⟩ := nw_ref (k := 4) (b := k3.1) ((r4 0 (by omega)).trans ka3) (by simp only [List.length_set]; decide)
  have f4 := M4.1
  have z4 := M4.2.1
  have a4 : k3.1 = 12 := by omega
  obtain ⟨h6, s5, t5, n5, m5, r5⟩ := wk_new (rc := rc) k4
  obtain ⟨k5, ek5, p5, ka5, M5⟩ := nw_ref (k := 5) (b := k4.1) ((r5 0 (by omega)).trans ka4) (by simp only [List.length_set]; decide)
  have f5 := M5.1
  have z5 := M5.2.1
  have a5 : k4.1 = 174 := by omega
  obtain ⟨h7, s6, t6, n6, m6, r6⟩ := rk_new (rc := rc) k5
  obtain ⟨k6, ek6, p6, ka6, M6⟩ := nw_ref (k := 6) (b := k5.1) ((r6 0 (by omega)).trans ka5) (by simp only [List.length_set]; decide)
  have f6 := M6.1
  have z6 := M6.2.1
  have a6 : k5.1 = 178 := by omega
  obtain ⟨h8, s7, t7, n7, m7, r7⟩ := sp_new (rc := rc) k6
  obtain ⟨k7, ek7, p7, ka7, M7⟩ := nw_ref (k := 7) (b := k6.1) ((r7 0 (by omega)).trans ka6) (by simp only [List.length_set]; decide)
  have f7 := M7.1
  have z7 := M7.2.1
  have a7 : k6.1 = 186 := by omega
  obtain ⟨h9, s8, t8, n8, m8, r8⟩ := tx_new (rc := rc) k7
  obtain ⟨k8, ek8, p8, ka8, M8⟩ := nw_ref (k := 8) (b := k7.1) ((r8 0 (by omega)).trans ka7) (by simp only [List.length_set]; decide)
  have f8 := M8.1
  have z8 := M8.2.1
  have a8 : k7.1 = 241 := by omega
  obtain ⟨h10, s9, t9, n9, m9, r9⟩ := se_new (rc := rc) k8
  obtain ⟨k9, ek9, p9, ka9, M9⟩ := nw_ref (k := 9) (b := k8.1) ((r9 0 (by omega)).trans ka8) (by simp only [List.length_set]; decide)
  have f9 := M9.1
  have z9 := M9.2.1
  have a9 : k8.1 = 243 := by omega
  obtain ⟨h11, s10, t10, u10, v10, n10, m10, r10⟩ := tp_new (rc := rc) k9
  obtain ⟨k10, ek10, p10, ka10, M10⟩ := nw_ref (k := 10) (b := k9.1) ((r10 0 (by omega)).trans ka9) (by simp only [List.length_set]; decide)
  have f10 := M10.1
  have z10 := M10.2.1
  have a10 : k9.1 = 320 := by omega
  obtain ⟨k11, ek11, p11, ka11, kb11, M11⟩ := nw_arr (n := 4) (k := 11) (jxQ 4 4 fun _ => none) ka10 (by omega) (by simp only [List.length_set]; decide)
  have f11 := M11.1
  have z11 := M11.2.1
  have a11 : k10.1 = 323 := by omega
  obtain ⟨k12, ek12, p12, ka12, kb12, M12⟩ := nw_arr (n := 4) (k := 12) (jxQ 5 4 fun _ => none) ka11 (by omega) (by simp only [List.length_set]; decide)
  have f12 := M12.1
  have z12 := M12.2.1
  have a12 : k11.1 = 324 := by omega
  obtain ⟨h14, s13, t13, n13, m13, r13⟩ := cr_new (rc := rc) k12
  obtain ⟨k13, ek13, p13, ka13, M13⟩ := nw_ref (k := 13) (b := k12.1) ((r13 0 (by omega)).trans ka12) (by simp only [List.length_set]; decide)
  have f13 := M13.1
  have z13 := M13.2.1
  have a13 : k12.1 = 325 := by omega
  obtain ⟨h15, s14, t14, n14, m14, r14⟩ := fo_new (rc := rc) k13
  obtain ⟨k14, ek14, p14, ka14, M14⟩ := nw_ref (k := 14) (b := k13.1) ((r14 0 (by omega)).trans ka13) (by simp only [List.length_set]; decide)
  have f14 := M14.1
  have z14 := M14.2.1
  have a14 : k13.1 = 329 := by omega
  obtain ⟨h16, s15, t15, n15, m15, r15⟩ := cr_new (rc := rc) k14
  obtain ⟨k15, ek15, p15, ka15, M15⟩ := nw_ref (k := 15) (b := k14.1) ((r15 0 (by omega)).trans ka14) (by simp only [List.length_set]; decide)
  have f15 := M15.1
  have z15 := M15.2.1
  have a15 : k14.1 = 332 := by omega
  have c15 : ∀ x, x < k15.1 → x ≠ 0 → jx_at k15 x = jx_at k15 x := fun x _ _ => rfl
  have e15 : ∀ x, x < h16.1 → x ≠ 0 → jx_at k15 x = jx_at h16 x := fun x hx ne => (c15 x (by omega) ne).trans (M15.at (by omega) ne)
  have c14 : ∀ x, x < k14.1 → x ≠ 0 → jx_at k15 x = jx_at k14 x := fun x hx ne => (e15 x (by omega) ne).trans (r15 x hx)
  have e14 : ∀ x, x < h15.1 → x ≠ 0 → jx_at k15 x = jx_at h15 x := fun x hx ne => (c14 x (by omega) ne).trans (M14.at (by omega) ne)
  have c13 : ∀ x, x < k13.1 → x ≠ 0 → jx_at k15 x = jx_at k13 x := fun x hx ne => (e14 x (by omega) ne).trans (r14 x hx)
  have e13 : ∀ x, x < h14.1 → x ≠ 0 → jx_at k15 x = jx_at h14 x := fun x hx ne => (c13 x (by omega) ne).trans (M13.at (by omega) ne)
  have cc12 : ∀ x, x < k12.1 → x ≠ 0 → jx_at k15 x = jx_at k12 x := fun x hx ne => (e13 x (by omega) ne).trans (r13 x hx)
  have c11 : ∀ x, x < k11.1 → x ≠ 0 → jx_at k15 x = jx_at k11 x := fun x hx ne => (cc12 x (by omega) ne).trans (M12.at (by omega) ne)
  have c10 : ∀ x, x < k10.1 → x ≠ 0 → jx_at k15 x = jx_at k10 x := fun x hx ne => (c11 x (by omega) ne).trans (M11.at (by omega) ne)
  have e10 : ∀ x, x < h11.1 → x ≠ 0 → jx_at k15 x = jx_at h11 x := fun x hx ne => (c10 x (by omega) ne).trans (M10.at (by omega) ne)
  have c9 : ∀ x, x < k9.1 → x ≠ 0 → jx_at k15 x = jx_at k9 x := fun x hx ne => (e10 x (by omega) ne).trans (r10 x hx)
  have e9 : ∀ x, x < h10.1 → x ≠ 0 → jx_at k15 x = jx_at h10 x := fun x hx ne => (c9 x (by omega) ne).trans (M9.at (by omega) ne)
  have c8 : ∀ x, x < k8.1 → x ≠ 0 → jx_at k15 x = jx_at k8 x := fun x hx ne => (e9 x (by omega) ne).trans (r9 x hx)
  have e8 : ∀ x, x < h9.1 → x ≠ 0 → jx_at k15 x = jx_at h9 x := fun x hx ne => (c8 x (by omega) ne).trans (M8.at (by omega) ne)
  have c7 : ∀ x, x < k7.1 → x ≠ 0 → jx_at k15 x = jx_at k7 x := fun x hx ne => (e8 x (by omega) ne).trans (r8 x hx)
  have e7 : ∀ x, x < h8.1 → x ≠ 0 → jx_at k15 x = jx_at h8 x := fun x hx ne => (c7 x (by omega) ne).trans (M7.at (by omega) ne)
  have c6 : ∀ x, x < k6.1 → x ≠ 0 → jx_at k15 x = jx_at k6 x := fun x hx ne => (e7 x (by omega) ne).trans (r7 x hx)
  have e6 : ∀ x, x < h7.1 → x ≠ 0 → jx_at k15 x = jx_at h7 x := fun x hx ne => (c6 x (by omega) ne).trans (M6.at (by omega) ne)
  have c5 : ∀ x, x < k5.1 → x ≠ 0 → jx_at k15 x = jx_at k5 x := fun x hx ne => (e6 x (by omega) ne).trans (r6 x hx)
  have e5 : ∀ x, x < h6.1 → x ≠ 0 → jx_at k15 x = jx_at h6 x := fun x hx ne => (c5 x (by omega) ne).trans (M5.at (by omega) ne)
  have c4 : ∀ x, x < k4.1 → x ≠ 0 → jx_at k15 x = jx_at k4 x := fun x hx ne => (e5 x (by omega) ne).trans (r5 x hx)
  have e4 : ∀ x, x < h5.1 → x ≠ 0 → jx_at k15 x = jx_at h5 x := fun x hx ne => (c4 x (by omega) ne).trans (M4.at (by omega) ne)
  have c3 : ∀ x, x < k3.1 → x ≠ 0 → jx_at k15 x = jx_at k3 x := fun x hx ne => (e4 x (by omega) ne).trans (r4 x hx)
  have e3 : ∀ x, x < h4.1 → x ≠ 0 → jx_at k15 x = jx_at h4 x := fun x hx ne => (c3 x (by omega) ne).trans (M3.at (by omega) ne)
  have c2 : ∀ x, x < k2.1 → x ≠ 0 → jx_at k15 x = jx_at k2 x := fun x hx ne => (e3 x (by omega) ne).trans (r3 x hx)
  have e2 : ∀ x, x < h3.1 → x ≠ 0 → jx_at k15 x = jx_at h3 x := fun x hx ne => (c2 x (by omega) ne).trans (M2.at (by omega) ne)
  have c1 : ∀ x, x < k1.1 → x ≠ 0 → jx_at k15 x = jx_at k1 x := fun x hx ne => (e2 x (by omega) ne).trans (r2 x hx)
  have e1 : ∀ x, x < h2.1 → x ≠ 0 → jx_at k15 x = jx_at h2 x := fun x hx ne => (c1 x (by omega) ne).trans (M1.at (by omega) ne)
  have c0 : ∀ x, x < k0.1 → x ≠ 0 → jx_at k15 x = jx_at k0 x := fun x hx ne => (e1 x (by omega) ne).trans (r1 x hx)
  have oa : jx_at k15 0 = jxO 11 [.ref 1, .ref 2, .ref 5, .ref 8, .ref 12, .ref 174, .ref 178, .ref 186, .ref 241, .ref 243, .ref 320, .ref 323, .ref 324, .ref 325, .ref 329, .ref 332, .int 0] := by
    rw [ka15, show h1.1 = 1 by omega, a1, a2, a3, a4, a5, a6, a7, a8, a9, a10, a11, a12, a13, a14, a15]; rfl
  have c4 : ((4 : Int32)).toNatClampNeg = 4 := by decide
  have n4 : ¬ ((4 : Int32) < 0 ∨ 5000 < (4 : Int32)) := by decide
  have c8 : ((8 : Int32)).toNatClampNeg = 8 := by decide
  have W1 : fo_at k15 2 jf_0 := by rw [← a1]; exact fo_mv (fun x x1 x2 => e1 x (by omega) (by omega)) t1
  have W2 : fo_at k15 5 jf_0 := by rw [← a2]; exact fo_mv (fun x x1 x2 => e2 x (by omega) (by omega)) t2
  have W3 : st_ok k15 8 := by rw [← a3]; exact st_mv (fun x x1 x2 => e3 x (by omega) (by omega)) t3
  have W5 : wk_ok k15 174 := by rw [← a5]; exact wk_mv (fun x x1 x2 => e5 x (by omega) (by omega)) t5
  have W6 : rk_ok k15 178 := by rw [← a6]; exact rk_mv (fun x x1 x2 => e6 x (by omega) (by omega)) t6
  have W7 : sp_ok k15 186 := by rw [← a7]; exact sp_mv (fun x x1 x2 => e7 x (by omega) (by omega)) t7
  have W8 : tx_ok k15 241 := by rw [← a8]; exact tx_mv (fun x x1 x2 => e8 x (by omega) (by omega)) t8
  have W9 : se_ok k15 243 := by rw [← a9]; exact se_mv (fun x x1 x2 => e9 x (by omega) (by omega)) t9
  have W13 : ∀ c : jC, c.1 = 0 → cr_at k15 325 c := fun c c0 => by rw [← a13]; exact cr_mv (fun x x1 x2 => e13 x (by omega) (by omega)) (t13 c c0)
  have W14 : fo_at k15 329 jf_0 := by rw [← a14]; exact fo_mv (fun x x1 x2 => e14 x (by omega) (by omega)) t14
  have W15 : ∀ c : jC, c.1 = 0 → cr_at k15 332 c := fun c c0 => by rw [← a15]; exact cr_mv (fun x x1 x2 => e15 x (by omega) (by omega)) (t15 c c0)
  rw [a4] at t4 u4 v4
  rw [a10] at t10 u10 v10
  refine ⟨k15, fun d => ?_, ⟨⟨fun _ => 0, (c0 1 (by omega) (by omega)).trans (by rw [show (1 : Nat) = h1.1 by omega]; exact kb0), fun _ _ => rfl⟩, W1, ⟨(e4 12 (by omega) (by omega)).trans t4, ?_, fun i hi => ?_⟩, ⟨?_, ?_⟩, W13, ⟨oa, ⟨_, W14⟩, ⟨(0, fun _ => 0, fun _ => 0, fun _ => 0), W15 _ rfl⟩, fun f c hc => by cases hc⟩, ⟨(e10 320 (by omega) (by omega)).trans t10, ⟨_, (e10 321 (by omega) (by omega)).trans u10⟩, _, (e10 322 (by omega) (by omega)).trans v10⟩, ⟨⟨_, W2⟩, W3, W5, W6, W7, W8, W9⟩⟩, by omega, by omega⟩
  · rw [je_0, if_pos (by rw [o1]; rfl), if_neg (by decide), c8, p0, jk_bs, ← ek0, s1, jk_cV, p1, jk_bs, ← ek1, s2, jk_cV, p2, jk_bs, ← ek2, s3, jk_cV, p3, jk_bs, ← ek3, s4, jk_cV, p4, jk_bs, ← ek4, s5, jk_cV, p5, jk_bs, ← ek5, s6, jk_cV, p6, jk_bs, ← ek6, s7, jk_cV, p7, jk_bs, ← ek7, s8, jk_cV, p8, jk_bs, ← ek8, s9, jk_cV, p9, jk_bs, ← ek9, s10, jk_cV, p10, jk_bs, ← ek10, if_neg n4, c4, p11, jk_bs, ← ek11, if_neg n4, p12, jk_bs, ← ek12, s13, jk_cV, p13, jk_bs, ← ek13, s14, jk_cV, p14, jk_bs, ← ek14, s15, jk_cV, p15, jk_bs, ← ek15]
  · obtain ⟨Q, q1, q2⟩ := u4
    exact ⟨Q, (e4 13 (by omega) (by omega)).trans q1, q2⟩
  · have := v4 i hi
    exact st_mv (fun x x1 x2 => e4 x (by omega) (by omega)) this
  · rw [c11 323 (by omega) (by omega), ← a11]; exact kb11
  · rw [cc12 324 (by omega) (by omega), ← a12]; exact kb12
end
