/-! The class's tape: bytes, blanks, weights -/
def ty_c (p : jP) (i : Nat) : Int32 := if i < p.1 then p.2 i else 0
section
variable {rc : Nat → Nat × (Nat → Int32)} {h h' : jxH} {σ : jSt} {p : jP} {P : Nat → Prop}
theorem tp_byte (H : tp_at h p) (hp : p.1 ≤ 120) {i : Nat} (hi : i < 2 ^ 31) (d : Nat) : jx_C rc (d + 1) 299 [.ref 320, .int (Int32.ofNat i)] h = some (some (.int (ty_c p i)), h) := by
  obtain ⟨o, ⟨g, e, q⟩, -⟩ := id H
  unfold ty_c
  rw [je_299, if_pos (tp_is H), if_neg (jk_nn hi), tp_len H, jk_bs]
  by_cases c : i < p.1
  · rw [if_pos c, if_neg (by rw [jk_le (by omega) hi]; omega), if_neg (by rw [show (120 : Int32) = Int32.ofNat 120 from rfl, jk_le (by decide) hi]; omega), tp_g0 H, jk_bs, e, jk_aI (by omega) (by decide), jk_bs, q i c]
  · rw [if_neg c, if_pos (by rw [jk_le (by omega) hi]; omega)]
theorem tp_dig (H : tp_at h p) (hp : p.1 ≤ 120) {i : Nat} (hi : i < 2 ^ 31) (d : Nat) : jx_C rc (d + 2) 300 [.ref 320, .int (Int32.ofNat i)] h = some (some (.int (jk_b (ty_d p i))), h) := by
  unfold ty_d
  rw [je_300, if_pos (tp_is H), tp_byte H hp hi, jk_cI]
  unfold ty_c
  by_cases c : i < p.1
  · rw [if_pos c, decide_eq_true c]
    by_cases c1 : p.2 i < 48
    · rw [if_pos c1, decide_eq_true c1, if_pos jk_r0']; rfl
    · rw [if_neg c1, decide_eq_false c1, tp_byte H hp hi, jk_cI]
      unfold ty_c
      rw [if_pos c]
      by_cases c2 : 57 < p.2 i
      · rw [if_pos c2, decide_eq_true c2, if_pos jk_r0']; rfl
      · rw [if_neg c2, decide_eq_false c2, if_pos jk_b1]; rfl
  · rw [if_neg c, decide_eq_false c, if_pos (by decide), if_pos jk_r0']; rfl
theorem tp_skip_l (H : tp_at h p) (hp : p.1 ≤ 120) (d : Nat) : ∀ (m i : Nat), p.1 - i ≤ m → i < 1000 → jb_301 rc (d + 1) 2 [(0, .ref 320), (2, .int (Int32.ofNat i))] [] h = some (some (.int (Int32.ofNat (ty_s p i))), h)
  | m, i, l, hi => by
    rw [je_301_2, tp_len H, jk_bs]
    by_cases c : i < p.1
    · rw [if_neg (by rw [jk_le (by omega) (by omega)]; omega), tp_byte H hp (by omega), jk_cI]
      unfold ty_c
      rw [if_pos c]
      by_cases c2 : p.2 i = 32
      · cases m with
        | zero => omega
        | succ m =>
          rw [if_pos c2, jk_succ, tp_skip_l H hp d m (i + 1) (by omega) (by omega), ty_s_step ⟨c, c2⟩]
      · rw [if_neg c2, ty_s_fix (fun z => c2 z.2)]
    · rw [if_pos (by rw [jk_le (by omega) (by omega)]; omega), ty_s_fix (fun z => c z.1)]
theorem tp_skip (H : tp_at h p) (hp : p.1 ≤ 120) {i : Nat} (hi : i < 1000) (d : Nat) : jx_C rc (d + 2) 301 [.ref 320, .int (Int32.ofNat i)] h = some (some (.int (Int32.ofNat (ty_s p i))), h) := by
  rw [je_301, if_pos (tp_is H)]
  exact tp_skip_l H hp d (p.1 - i) i (Nat.le_refl _) hi
theorem ty_c45 (p : jP) (i : Nat) : (ty_c p i = 45) ↔ ty_m p i = true := by
  unfold ty_c ty_m
  by_cases c : i < p.1
  · rw [if_pos c, decide_eq_true c]; simp
  · rw [if_neg c, decide_eq_false c]; simp
theorem tp_wt_l (H : tp_at h p) (hp : p.1 ≤ 120) {i z : Nat} (hi : i < 1000) (hz : z < 1000) (d : Nat) : ∀ (r j : Nat) (x : Int32), i + z = j + r → (∀ t, t < r → ty_d p (j + t) = true) → jb_303 rc (d + 2) 4 [(0, .ref 320), (1, .int (Int32.ofNat i)), (2, .int (Int32.ofNat z)), (3, .int x), (4, .int (Int32.ofNat j))] [] h = some (some (.int (if ty_m p i = true then -ty_v p r j x else ty_v p r j x)), h)
  | 0, j, x, e, _ => by
    rw [je_303_4, jk_add2, if_pos (by rw [jk_le (by omega) (by omega)]; omega), tp_byte H hp (by omega), jk_cI]
    by_cases c : ty_m p i = true
    · rw [if_pos c, if_pos ((ty_c45 p i).mpr c)]; rfl
    · rw [if_neg c, if_neg (fun w => c ((ty_c45 p i).mp w))]; rfl
  | r + 1, j, x, e, hd => by
    have d0 := hd 0 (by omega)
    rw [Nat.add_zero] at d0
    have jn : j < p.1 := by
      unfold ty_d at d0
      simp only [Bool.and_eq_true, decide_eq_true_eq] at d0
      exact d0.1.1
    rw [je_303_4, jk_add2, if_neg (by rw [jk_le (by omega) (by omega)]; omega), tp_dig H hp (by omega), jk_cI, jk_if0, if_pos d0, tp_byte H hp (by omega), jk_cI, jk_succ]
    unfold ty_c
    rw [if_pos jn]
    exact tp_wt_l H hp hi hz d r (j + 1) _ (by omega) (fun t ht => by have := hd (t + 1) (by omega); rwa [show j + (t + 1) = j + 1 + t by omega] at this)
theorem ty_m_d {i : Nat} (h : ty_m p i = true) : ty_d p i = false := by
  unfold ty_m at h
  simp only [Bool.and_eq_true, decide_eq_true_eq] at h
  unfold ty_d
  rw [h.2, show decide ((45 : Int32) < 48) = true from by decide]
  simp
theorem tp_wt (H : tp_at h p) (hp : p.1 ≤ 120) {i r : Nat} (hi : i < 900) (hr : r ≤ 3) (hd : ∀ t, t < r → ty_d p (ty_0 p i + t) = true) (d : Nat) : jx_C rc (d + 3) 303 [.ref 320, .int (Int32.ofNat i), .int (Int32.ofNat (ty_0 p i - i + r))] h = some (some (.int (if ty_m p i = true then -ty_v p r (ty_0 p i) 0 else ty_v p r (ty_0 p i) 0)), h) := by
  rw [je_303, if_pos (tp_is H)]
  by_cases c : ty_m p i = true
  · have e0 : ty_0 p i = i + 1 := by unfold ty_0; rw [if_pos c]
    rw [e0] at hd ⊢
    rw [je_303_4, jk_add2, if_neg (by rw [jk_le (by omega) (by omega)]; omega), tp_dig H hp (by omega), jk_cI, jk_if0, if_neg (by rw [ty_m_d c]; decide), jk_succ]
    exact tp_wt_l H hp (by omega) (by omega) d r (i + 1) 0 (by omega) hd
  · have e0 : ty_0 p i = i := by unfold ty_0; rw [if_neg c]
    rw [e0] at hd ⊢
    exact tp_wt_l H hp (by omega) (by omega) d r i 0 (by omega) hd
def ty_z (p : jP) (i : Nat) : Nat := match ty_w p i with
  | some q => q.1
  | none => 0
theorem tp_size_l (H : tp_at h p) (hp : p.1 ≤ 120) {i s : Nat} (hs : s < 1000) (d : Nat) : ∀ (m c : Nat), c + m = 3 → jb_302 rc (d + 2) 13 [(0, .ref 320), (1, .int (Int32.ofNat i)), (2, .int (Int32.ofNat s)), (3, .int (Int32.ofNat c))] [] h = jb_302 rc (d + 2) 24 [(0, .ref 320), (1, .int (Int32.ofNat i)), (2, .int (Int32.ofNat s)), (3, .int (Int32.ofNat (c + ty_dc p m (s + c))))] [] h
  | 0, c, e => by
    obtain rfl : c = 3 := by omega
    rw [je_302_13, if_pos (by decide)]; rfl
  | m + 1, c, e => by
    rw [je_302_13, if_neg (by rw [show (3 : Int32) = Int32.ofNat 3 from rfl, jk_le (by decide) (by omega)]; omega), jk_add2, tp_dig H hp (by omega), jk_cI, jk_if0]
    unfold ty_dc
    by_cases q : ty_d p (s + c) = true
    · rw [if_pos q, if_pos q, jk_succ, tp_size_l H hp hs d m (c + 1) (by omega)]
      rw [show s + (c + 1) = s + c + 1 by omega, show c + 1 + ty_dc p m (s + c + 1) = c + (ty_dc p m (s + c + 1) + 1) by omega]
    · rw [if_neg q, if_neg q]; rfl
theorem ty_v_sm (W : p_W p) {r j : Nat} (hr : r = 1 ∨ r = 2) (hd : ∀ t, t < r → ty_d p (j + t) = true) : ∃ v : Nat, v ≤ 99 ∧ ty_v p r j 0 = Int32.ofNat v := by
  have d0 := hd 0 (by omega)
  rw [Nat.add_zero] at d0
  obtain ⟨-, b0, b1, b2, b3⟩ := (ty_d_iff W).mp d0
  have e0 : (0 : Int32) * 10 + p.2 j - 48 = Int32.ofNat (b0 - 48) := by
    rw [b3, show (0 : Int32) * 10 = 0 from by decide, Int32.zero_add, show (48 : Int32) = Int32.ofNat 48 from rfl, jk_subN b1]
  rcases hr with rfl | rfl
  · exact ⟨b0 - 48, by omega, e0⟩
  · obtain ⟨-, b4, b5, b6, b7⟩ := (ty_d_iff W).mp (hd 1 (by omega))
    refine ⟨(b0 - 48) * 10 + (b4 - 48), by omega, ?_⟩
    show ((0 : Int32) * 10 + p.2 j - 48) * 10 + p.2 (j + 1) - 48 = _
    rw [e0, b7, show (10 : Int32) = Int32.ofNat 10 from rfl, ← Int32.ofNat_mul, jk_add2, show (48 : Int32) = Int32.ofNat 48 from rfl, jk_subN (by omega)]
    congr 1; omega
theorem jp_wt_p {v : Nat} (h : v < 2000) : jp_wt (Int32.ofNat v) = decide (v ≤ 30) := by
  by_cases q : v ≤ 30
  · rw [decide_eq_true q]
    exact jp_wt_iff.mpr ⟨by rw [jk_int (by omega)]; omega, by rw [jk_int (by omega)]; omega⟩
  · rw [decide_eq_false q]
    cases w : jp_wt (Int32.ofNat v)
    · rfl
    · have := jp_wt_iff.mp w; rw [jk_int (by omega)] at this; omega
theorem tp_size (H : tp_at h p) (W : p_W p) {i : Nat} (hi : i < 900) (d : Nat) : jx_C rc (d + 4) 302 [.ref 320, .int (Int32.ofNat i)] h = some (some (.int (Int32.ofNat (ty_z p i))), h) := by
  have hp := W.1
  have i0 : i ≤ ty_0 p i ∧ ty_0 p i ≤ i + 1 := by unfold ty_0; split <;> omega
  have st : jx_C rc (d + 4) 302 [.ref 320, .int (Int32.ofNat i)] h = jb_302 rc (d + 3) 24 [(0, .ref 320), (1, .int (Int32.ofNat i)), (2, .int (Int32.ofNat (ty_0 p i))), (3, .int (Int32.ofNat (ty_dc p 3 (ty_0 p i))))] [] h := by
    rw [je_302, if_pos (tp_is H), tp_byte H hp (by omega), jk_cI]
    have L := tp_size_l (rc := rc) H hp (i := i) (s := ty_0 p i) (by omega) (d + 1) 3 0 (by omega)
    simp only [Nat.zero_add, Nat.add_zero] at L
    rw [← L]
    unfold ty_0
    by_cases c : ty_m p i = true
    · rw [if_pos ((ty_c45 p i).mpr c), if_pos c, jk_succ]; rfl
    · rw [if_neg (fun w => c ((ty_c45 p i).mp w)), if_neg c]; rfl
  rw [st, je_302_24]
  have l3 := ty_dc_le (p := p) 3 (ty_0 p i)
  have dd : ∀ t, t < ty_dc p 3 (ty_0 p i) → ty_d p (ty_0 p i + t) = true := fun t ht => ty_dc_d t ht
  unfold ty_z ty_w
  generalize hr : ty_dc p 3 (ty_0 p i) = r at *
  by_cases c0 : r = 0
  · rw [if_pos (by rw [c0]; rfl), if_pos c0]; rfl
  rw [if_neg (by rw [jk_0 (by omega)]; exact c0), if_neg c0]
  by_cases c2 : 2 < r
  · rw [if_pos (by rw [show (2 : Int32) = Int32.ofNat 2 from rfl, jk_lt (by decide) (by omega)]; exact c2), if_pos c2]; rfl
  rw [if_neg (by rw [show (2 : Int32) = Int32.ofNat 2 from rfl, jk_lt (by decide) (by omega)]; exact c2), if_neg c2]
  obtain ⟨v, v1, v2⟩ := ty_v_sm W (r := r) (by omega) dd
  rw [jk_subN i0.1, jk_add2, tp_wt H hp hi l3 dd, jk_cI, cl_isWeight, jk_cI, jk_if0, v2]
  have w : jp_wt (if ty_m p i = true then -Int32.ofNat v else Int32.ofNat v) = decide (v ≤ 30) := by
    split
    · exact jp_wt_z (by omega)
    · exact jp_wt_p (by omega)
  have le : (Int32.ofNat v ≤ 30) ↔ v ≤ 30 := by rw [show (30 : Int32) = Int32.ofNat 30 from rfl, jk_le (by omega) (by decide)]
  rw [w]
  by_cases c : v ≤ 30
  · rw [if_pos (decide_eq_true c), if_pos (le.mpr c)]
  · rw [if_neg (fun z => c (of_decide_eq_true z)), if_neg (fun z => c (le.mp z))]; rfl
end
