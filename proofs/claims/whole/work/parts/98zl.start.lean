/-! THE START: both are made, nothing is done yet -/
def s0 : jSt := (fun _ => 0, (0, 0, fun _ => (0, 0, 0, 0, 0), fun _ => 0, fun _ => jf_0), fun _ => none, fun _ => none, (0, fun _ => 0, fun _ => 0, fun _ => 0), none, (0, fun _ => 0))
theorem s0_W : AWt s0 :=
  ⟨⟨Nat.le_refl _, Nat.zero_le _, jf_W_0, fun i hi => absurd hi (Nat.not_lt_zero i)⟩, (fun i f hi e => by cases e), (fun i e hi q => by cases q), ⟨Nat.zero_le _, fun i hi => absurd hi (Nat.not_lt_zero i)⟩, (fun f c e => by cases e), ⟨Nat.zero_le _, fun i hi => absurd hi (Nat.not_lt_zero i)⟩⟩
theorem ro_00 {h : jxH} {a : Nat} (e : jx_at h a = jxI 0 25 fun _ => 0) : ro_at h a jf_0 := ⟨fun _ => 0, e, rfl, fun _ _ => rfl, fun _ _ => rfl⟩
section
variable {rc : Nat → Nat × (Nat → Int32)}
theorem law_start (h : jxH) (hz : h.1 = 0) : ∃ h', (∀ d, jb_333 rc (d + 4) 0 [(0, .retAddr 0)] [] h = jb_333 rc (d + 4) 10 [(0, .retAddr 0), (1, .ref 0), (2, .ref 336), (3, .int (0 : Int32))] [] h') ∧ CSt h' s0 ∧ RSt h' s0 ∧ h'.1 = 451 ∧ h'.2.1 = h.2.1 + 17376 := by
  obtain ⟨h1, a1, a2, a3, a4⟩ := cls_new (rc := rc) h hz
  obtain ⟨h2, b1, b2, b3, b4, b5⟩ := mod_new (rc := rc) h1 a3
  refine ⟨h2, fun d => ?_, ?_, ?_, b3, by omega⟩
  · rw [je_333, hz, a1, jk_cV, a3, b1, jk_cV]
  · obtain ⟨⟨G, g1, g2⟩, f2, ⟨t1, t2, t3⟩, ⟨q1, q2⟩, cr, im, ⟨p1, ⟨gp, p2⟩, gq, p3⟩, sc⟩ := a2
    have F : Fr (fun x => 336 ≤ x) h1 (h1.1, h1.2.1, h2.2.2) := ⟨rfl, rfl, fun x hx => b5 x (by omega)⟩
    have e := fun x (hx : x < 336) => b5 x hx
    refine ⟨⟨G, (e _ (by omega)).trans g1, g2⟩, fo_mv (fun x x1 x2 => e x (by omega)) f2, ⟨(e _ (by omega)).trans t1, ?_, fun i hi => st_mv (fun x x1 x2 => e x (by omega)) (t3 i hi), fun i hi => absurd hi (Nat.not_lt_zero i)⟩, ?_, cr_mv (fun x x1 x2 => e x (by omega)) (cr _ rfl), ?_, ?_, ?_⟩
    · obtain ⟨Q, z1, z2⟩ := t2
      exact ⟨Q, (e _ (by omega)).trans z1, z2⟩
    · refine ⟨_, _, (e _ (by omega)).trans q1, (e _ (by omega)).trans q2, by omega, fun i hi => Or.inl ⟨rfl, rfl⟩, fun i hi => Or.inl ⟨rfl, rfl⟩, (fun i j b b' _ _ _ q => by cases q), (fun i j b b' _ _ q => by cases q)⟩
    · obtain ⟨z1, ⟨f, z2⟩, ⟨c, z3⟩, -⟩ := im
      exact ⟨(e _ (by omega)).trans z1, ⟨f, fo_mv (fun x x1 x2 => e x (by omega)) z2⟩, ⟨c, cr_mv (fun x x1 x2 => e x (by omega)) z3⟩, fun f c q => by cases q⟩
    · exact ⟨(e _ (by omega)).trans p1, ⟨gp, (e _ (by omega)).trans p2, fun i hi => absurd hi (Nat.not_lt_zero i)⟩, gq, (e _ (by omega)).trans p3⟩
    · obtain ⟨⟨f, s1⟩, s2, s3, s4, s5, s6, s7⟩ := sc
      exact ⟨⟨f, fo_mv (fun x x1 x2 => e x (by omega)) s1⟩, st_mv (fun x x1 x2 => e x (by omega)) s2, wk_mv (fun x x1 x2 => e x (by omega)) s3, rk_mv (fun x x1 x2 => e x (by omega)) s4, sp_mv (fun x x1 x2 => e x (by omega)) s5, tx_mv (fun x x1 x2 => e x (by omega)) s6, se_mv (fun x x1 x2 => e x (by omega)) s7⟩
  · obtain ⟨o, x337, x338, r339, i339, x381, x382, x383, x384, r385, i385, x398, x399, x400, r401, i401, x414, r415, i415, x428, x429, r430, i430, x435, x436, x437, r438, i438, x445, x446, x447, x448, x449, x450⟩ := b2
    refine ⟨⟨0, 0, 0, 0, 0, 0, 0, 0, o, fun q => by cases q⟩, ⟨_, x337, fun _ _ => rfl⟩, ro_00 x338, ⟨r339, fun i hi => ⟨_, ro_00 (i339 i hi)⟩, fun i hi => Or.inl rfl, _, x381, fun i hi => absurd hi (Nat.not_lt_zero i)⟩, ⟨r430, ⟨_, x435, fun i hi => rfl⟩, fun i hi => ⟨⟨_, ro_00 (i430 i hi)⟩, fun f q => by cases q⟩⟩, ⟨⟨_, x445, fun i hi => rfl⟩, ⟨_, x446, fun i hi => rfl⟩, ⟨_, x447, fun i e k hi q => by cases q⟩, _, x448⟩, ⟨_, x437, fun i hi => absurd hi (Nat.not_lt_zero i)⟩, ⟨⟨_, ro_00 x449⟩, ⟨_, x450⟩, fun f c q => by cases q⟩, ⟨_, x398, fun i hi => absurd hi (Nat.not_lt_zero i)⟩, ⟨⟨_, x382⟩, ⟨_, x383⟩, ⟨_, x384⟩, r385, fun i hi => ⟨_, i385 i hi⟩, ⟨_, ro_00 x399⟩, ⟨_, x400⟩, r401, fun i hi => ⟨_, i401 i hi⟩, ⟨_, x414⟩, r415, fun i hi => ⟨_, i415 i hi⟩, ⟨_, x428⟩, ⟨_, x429⟩, ⟨_, x436⟩, r438, fun i hi => ⟨_, ro_00 (i438 i hi)⟩⟩⟩
end
