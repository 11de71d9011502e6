/-! THE CONSTRUCTORS of the class's parts -/
/-- n cells and s slots more; what stood ahead stands, but for a -/
def Nx (h g : jxH) (n s a : Nat) : Prop := g.1 = h.1 + n ∧ g.2.1 = h.2.1 + s ∧ ∀ x, x < h.1 → x ≠ a → jx_at g x = jx_at h x
/-- an array that an object's field takes -/
theorem nw_arr {h : jxH} {a c k n : Nat} {L : List Value} (arr : jxE) (ha : jx_at h a = jxO c L) (lt : a < h.1) (hk : k < L.length) : ∃ g, g = jx_set (jx_new h n arr) a (jxO c (L.set k (.ref h.1))) ∧ jx_pF (jx_at (jx_new h n arr) a) c k (.ref h.1) = some (jxO c (L.set k (.ref h.1))) ∧ jx_at g a = jxO c (L.set k (.ref h.1)) ∧ jx_at g h.1 = arr ∧ Nx h g 1 n a := by
  refine ⟨_, rfl, ?_, jk_at_self .., ?_, rfl, rfl, fun x hx ne => ?_⟩
  · rw [jk_new_ne _ _ (by omega), ha]
    unfold jx_pF
    dsimp only
    rw [if_pos ⟨rfl, hk⟩]
  · rw [jk_at_ne _ _ (by omega), jk_new_self _ _ rfl]
  · rw [jk_at_ne _ _ ne, jk_new_ne _ _ (by omega)]
/-- a field takes an object that stands -/
theorem nw_ref {h : jxH} {a c k b : Nat} {L : List Value} (ha : jx_at h a = jxO c L) (hk : k < L.length) : ∃ g, g = jx_set h a (jxO c (L.set k (.ref b))) ∧ jx_pF (jx_at h a) c k (.ref b) = some (jxO c (L.set k (.ref b))) ∧ jx_at g a = jxO c (L.set k (.ref b)) ∧ Nx h g 0 0 a := by
  refine ⟨_, rfl, ?_, jk_at_self .., rfl, rfl, fun x hx ne => jk_at_ne _ _ ne⟩
  rw [ha]
  unfold jx_pF
  dsimp only
  rw [if_pos ⟨rfl, hk⟩]
theorem Nx.at {h g : jxH} {n s a x : Nat} (N : Nx h g n s a) (hx : x < h.1) (ne : x ≠ a) : jx_at g x = jx_at h x := N.2.2 x hx ne
theorem Nx.trans {h g g' : jxH} {n s m t a : Nat} (N : Nx h g n s a) (M : Nx g g' m t a) : Nx h g' (n + m) (s + t) a := by
  obtain ⟨a1, a2, a3⟩ := N
  obtain ⟨b1, b2, b3⟩ := M
  exact ⟨by omega, by omega, fun x hx ne => (b3 x (by omega) ne).trans (a3 x hx ne)⟩
/-- what is made behind all doesn't touch what stands -/
theorem Nx.all {h g : jxH} {n s a : Nat} (b : Nat) (e : g.1 = h.1 + n ∧ g.2.1 = h.2.1 + s ∧ ∀ x, x < h.1 → jx_at g x = jx_at h x) : Nx h g n s b := ⟨e.1, e.2.1, fun x hx _ => e.2.2 x hx⟩
section
variable {rc : Nat → Nat × (Nat → Int32)}
theorem c12 : ((12 : Int32)).toNatClampNeg = 12 := by decide
theorem n12' : ¬ ((12 : Int32) < 0 ∨ 5000 < (12 : Int32)) := by decide
/-- a new object as it is ahead of its constructor -/
theorem nw_obj (h : jxH) (n c : Nat) (L : List Value) : jx_at (jx_new h n (.inl (c, L))) h.1 = jxO c L ∧ (jx_new h n (.inl (c, L))).1 = h.1 + 1 ∧ (jx_new h n (.inl (c, L))).2.1 = h.2.1 + n ∧ ∀ x, x < h.1 → jx_at (jx_new h n (.inl (c, L))) x = jx_at h x :=
  ⟨jk_new_self _ _ rfl, rfl, rfl, fun x hx => jk_new_ne _ _ (by omega)⟩
theorem tx_new (h : jxH) : ∃ h', (∀ d, jx_C rc (d + 1) 304 [.ref h.1] (jx_new h 2 (.inl (8, jx_dflt 8))) = some (none, h')) ∧ tx_ok h' h.1 ∧ h'.1 = h.1 + 2 ∧ h'.2.1 = h.2.1 + 62 ∧ ∀ x, x < h.1 → jx_at h' x = jx_at h x := by
  obtain ⟨o1, o2, o3, o4⟩ := nw_obj h 2 8 (jx_dflt 8)
  generalize jx_new h 2 (.inl (8, jx_dflt 8)) = h1 at *
  obtain ⟨g, eg, p, ga, gb, N⟩ := nw_arr (n := 60) (k := 0) (jx_arr 2 60) o1 (by omega) (by decide)
  refine ⟨g, fun d => ?_, ⟨⟨0, by rw [ga, o2]; rfl⟩, fun _ => 0, by rw [← o2, gb]; rfl⟩, by have := N.1; omega, by have := N.2.1; omega, fun x hx => (N.at (by omega) (by omega)).trans (o4 x hx)⟩
  rw [je_304, if_pos (by rw [o1]; rfl), if_neg (by decide), show ((60 : Int32)).toNatClampNeg = 60 by decide, p, jk_bs, ← eg]
theorem wk_new (h : jxH) : ∃ h', (∀ d, jx_C rc (d + 1) 318 [.ref h.1] (jx_new h 5 (.inl (10, jx_dflt 10))) = some (none, h')) ∧ wk_ok h' h.1 ∧ h'.1 = h.1 + 4 ∧ h'.2.1 = h.2.1 + 41 ∧ ∀ x, x < h.1 → jx_at h' x = jx_at h x := by
  obtain ⟨o1, o2, o3, o4⟩ := nw_obj h 5 10 (jx_dflt 10)
  generalize jx_new h 5 (.inl (10, jx_dflt 10)) = h1 at *
  obtain ⟨g, eg, p, ga, gb, N⟩ := nw_arr (n := 12) (k := 0) (jx_arr 0 12) o1 (by omega) (by decide)
  obtain ⟨g2, eg2, p2, ga2, gb2, N2⟩ := nw_arr (n := 12) (k := 1) (jx_arr 0 12) ga (by have := N.1; omega) (by simp only [List.length_set]; decide)
  obtain ⟨g3, eg3, p3, ga3, gb3, N3⟩ := nw_arr (n := 12) (k := 2) (jx_arr 0 12) ga2 (by have := N.1; have := N2.1; omega) (by simp only [List.length_set]; decide)
  have e1 := N.1
  have e2 := N2.1
  have e3 := N3.1
  refine ⟨g3, fun d => ?_, ⟨⟨0, 0, ?_⟩, ⟨fun _ => 0, ?_⟩, ⟨fun _ => 0, ?_⟩, fun _ => 0, ?_⟩, by omega, by have := N.2.1; have := N2.2.1; have := N3.2.1; omega, fun x hx => (N3.at (by omega) (by omega)).trans ((N2.at (by omega) (by omega)).trans ((N.at (by omega) (by omega)).trans (o4 x hx)))⟩
  · rw [je_318, if_pos (by rw [o1]; rfl), if_neg n12', c12, p, jk_bs, if_neg n12', ← eg, p2, jk_bs, if_neg n12', ← eg2, p3, jk_bs, ← eg3]
  · rw [ga3, e2, e1, o2]; rfl
  · rw [N3.at (by omega) (by omega), N2.at (by omega) (by omega), ← o2, gb]; rfl
  · rw [N3.at (by omega) (by omega), show h.1 + 2 = g.1 by omega, gb2]; rfl
  · rw [show h.1 + 3 = g2.1 by omega, gb3]; rfl
theorem cr_new (h : jxH) : ∃ h', (∀ d, jx_C rc (d + 1) 210 [.ref h.1] (jx_new h 4 (.inl (0, jx_dflt 0))) = some (none, h')) ∧ (∀ c : jC, c.1 = 0 → cr_at h' h.1 c) ∧ h'.1 = h.1 + 4 ∧ h'.2.1 = h.2.1 + 22 ∧ ∀ x, x < h.1 → jx_at h' x = jx_at h x := by
  obtain ⟨o1, o2, o3, o4⟩ := nw_obj h 4 0 (jx_dflt 0)
  generalize jx_new h 4 (.inl (0, jx_dflt 0)) = h1 at *
  obtain ⟨g, eg, p, ga, gb, N⟩ := nw_arr (n := 6) (k := 0) (jx_arr 0 6) o1 (by omega) (by decide)
  obtain ⟨g2, eg2, p2, ga2, gb2, N2⟩ := nw_arr (n := 6) (k := 1) (jx_arr 0 6) ga (by have := N.1; omega) (by simp only [List.length_set]; decide)
  obtain ⟨g3, eg3, p3, ga3, gb3, N3⟩ := nw_arr (n := 6) (k := 2) (jx_arr 0 6) ga2 (by have := N.1; have := N2.1; omega) (by simp only [List.length_set]; decide)
  have e1 := N.1
  have e2 := N2.1
  have e3 := N3.1
  have c6 : ((6 : Int32)).toNatClampNeg = 6 := by decide
  have n6 : ¬ ((6 : Int32) < 0 ∨ 5000 < (6 : Int32)) := by decide
  refine ⟨g3, fun d => ?_, fun c c0 => ⟨?_, ⟨fun _ => 0, ?_, fun i hi => by omega⟩, ⟨fun _ => 0, ?_, fun i hi => by omega⟩, fun _ => 0, ?_, fun i hi => by omega⟩, by omega, by have := N.2.1; have := N2.2.1; have := N3.2.1; omega, fun x hx => (N3.at (by omega) (by omega)).trans ((N2.at (by omega) (by omega)).trans ((N.at (by omega) (by omega)).trans (o4 x hx)))⟩
  · rw [je_210, if_pos (by rw [o1]; rfl), if_neg n6, c6, p, jk_bs, if_neg n6, ← eg, p2, jk_bs, if_neg n6, ← eg2, p3, jk_bs, ← eg3]
  · rw [ga3, e2, e1, o2, c0]; rfl
  · rw [N3.at (by omega) (by omega), N2.at (by omega) (by omega), ← o2, gb]; rfl
  · rw [N3.at (by omega) (by omega), show h.1 + 2 = g.1 by omega, gb2]; rfl
  · rw [show h.1 + 3 = g2.1 by omega, gb3]; rfl
/-- a new step: its forest stands behind it -/
theorem st_new (h : jxH) : ∃ h', (∀ d, jx_C rc (d + 2) 280 [.ref h.1] (jx_new h 7 (.inl (6, jx_dflt 6))) = some (none, h')) ∧ st_ok h' h.1 ∧ h'.1 = h.1 + 4 ∧ h'.2.1 = h.2.1 + 34 ∧ ∀ x, x < h.1 → jx_at h' x = jx_at h x := by
  obtain ⟨o1, o2, o3, o4⟩ := nw_obj h 7 6 (jx_dflt 6)
  generalize jx_new h 7 (.inl (6, jx_dflt 6)) = h1 at *
  obtain ⟨h2, r1, r2, r3, r4, r5⟩ := fo_new (rc := rc) h1
  have o2' := r5 h.1 (by omega)
  rw [o1] at o2'
  obtain ⟨g, eg, p, ga, N⟩ := nw_ref (k := 6) (b := h1.1) o2' (by decide)
  refine ⟨g, fun d => ?_, ⟨⟨(0, 0, 0, 0, 0), 0, by show jx_at g h.1 = _; rw [ga, o2]; rfl⟩, jf_0, ?_⟩, by have := N.1; omega, by have := N.2.1; omega, fun x hx => (N.at (by omega) (by omega)).trans ((r5 x (by omega)).trans (o4 x hx))⟩
  · rw [je_280, if_pos (by rw [o1]; rfl), r1, jk_cV, p, jk_bs, ← eg]
  · have F : Fr (fun x => x = h.1) h2 g := by rw [eg]; exact Fr.one
    rw [← o2]
    exact fo_fr F (by omega) r2
theorem tp_new (h : jxH) : ∃ h', (∀ d, jx_C rc (d + 1) 295 [.ref h.1] (jx_new h 3 (.inl (7, jx_dflt 7))) = some (none, h')) ∧ jx_at h' h.1 = jxO 7 [.ref (h.1 + 1), .ref (h.1 + 2), .int 0] ∧ jx_at h' (h.1 + 1) = jxI 0 120 (fun _ => 0) ∧ jx_at h' (h.1 + 2) = jxI 0 12 (fun _ => 0) ∧ h'.1 = h.1 + 3 ∧ h'.2.1 = h.2.1 + 135 ∧ ∀ x, x < h.1 → jx_at h' x = jx_at h x := by
  obtain ⟨o1, o2, o3, o4⟩ := nw_obj h 3 7 (jx_dflt 7)
  generalize jx_new h 3 (.inl (7, jx_dflt 7)) = h1 at *
  obtain ⟨g, eg, p, ga, gb, N⟩ := nw_arr (n := 120) (k := 0) (jx_arr 0 120) o1 (by omega) (by decide)
  obtain ⟨g2, eg2, p2, ga2, gb2, N2⟩ := nw_arr (n := 12) (k := 1) (jx_arr 0 12) ga (by have := N.1; omega) (by simp only [List.length_set]; decide)
  have e1 := N.1
  have e2 := N2.1
  have c120 : ((120 : Int32)).toNatClampNeg = 120 := by decide
  refine ⟨g2, fun d => ?_, ?_, ?_, ?_, by omega, by have := N.2.1; have := N2.2.1; omega, fun x hx => (N2.at (by omega) (by omega)).trans ((N.at (by omega) (by omega)).trans (o4 x hx))⟩
  · rw [je_295, if_pos (by rw [o1]; rfl), if_neg (by decide), c120, p, jk_bs, if_neg n12', c12, ← eg, p2, jk_bs, ← eg2]
  · rw [ga2, e1, o2]; rfl
  · rw [N2.at (by omega) (by omega), ← o2, gb]; rfl
  · rw [show h.1 + 2 = g.1 by omega, gb2]; rfl
end
