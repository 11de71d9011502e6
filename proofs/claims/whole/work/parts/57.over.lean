/-! over(): an order of a set in which each has at most one neighbour ahead of it -/
def wk_O (f : jF) (set : Int32) (o : Nat → Nat) (par : Nat → Option Nat) (sz : Nat) : Prop :=
  sz = bc set ∧ (∀ i, i < sz → o i < 12 ∧ bt set (o i) = true) ∧ (∀ x, bt set x = true → ∃ i, i < sz ∧ o i = x) ∧ (∀ i j, i < sz → j < sz → o i = o j → i = j) ∧ (∀ i, i < sz → ∀ q, par (o i) = some q → ∃ j, j < i ∧ o j = q ∧ bt (f.2.1 q) (o i) = true) ∧ (∀ i j, j < i → i < sz → bt (f.2.1 (o j)) (o i) = true → par (o i) = some (o j))
section
variable {rc : Nat → Nat × (Nat → Int32)} {h : jxH} {a b : Nat} {f : jF} {set : Int32}
/-- one spread from a new root -/
theorem wk_spread (W : jf_W f) (hab : b + 3 ≤ a ∨ a + 4 ≤ b) (hset : ∀ x, bt set x = true → x < 12 ∧ bt f.2.2 x = true) {o : Nat → Nat} {par : Nat → Option Nat} {dep : Nat → Nat} {sz : Nat} {seen seen0 : Int32} {st : Nat} (H : wk_at h a o par dep sz seen) (G : fo_at h b f) (I : wk_I f set seen0 st o par dep sz seen sz) {r : Nat} (hr : r < 12) (sr : bt set r = true) (nr : bt seen r = false) : ∃ h' o' par' dep' sz' seen', (∀ d, jx_C rc (d + 2) 321 [.ref a, .ref b, .int set, .int (Int32.ofNat r)] h = some (none, h')) ∧ wk_at h' a o' par' dep' sz' seen' ∧ wk_I f set seen sz o' par' dep' sz' seen' sz' ∧ bt seen' r = true ∧ (∀ q, bt seen q = true → bt seen' q = true) ∧ Fr (jI a 4) h h' := by
  have B := W.1
  obtain ⟨n1, I0⟩ := wk_I_root I hr sr nr (B.irr hr) 0
  obtain ⟨h2, s1, s2, s3⟩ := wk_enter (rc := rc) H n1 hr none 0
  have G2 := fo_fr s3 (fun x q1 q2 z => by unfold jI at z; omega) G
  obtain ⟨h3, o', par', dep', sz', seen', k1, k2, kI, k4, k5⟩ := wk_spread_l (rc := rc) (J := fun o par dep sz' seen' pr => wk_I f set seen sz o par dep sz' seen' pr) (f := f) (set := set) (a := a) (b := b)
    (fun j => wk_I_base j)
    (fun {o par dep sz seen pr y} j hpr hy sy ny ey => wk_I_add W hset j hpr hy sy ny ey (dep (o pr) + 1))
    (fun j hpr hh => wk_I_adv j hpr hh)
    B.n hab (12 - sz) sz h2 _ _ _ _ _ (by omega) G2 s2 I0
  refine ⟨h3, o', par', dep', sz', seen', fun d => ?_, k2, kI, k4 r (by rw [bt_or, bt_bit (by omega) (by omega)]; simp), fun q hq => k4 q (by rw [bt_or, hq]; rfl), s3.trans k5⟩
  rw [je_321, if_pos (wk_is H), wk_g3 H, jk_bs]
  have := s1 d
  rw [show jk_on none = (-1 : Int32) from rfl, show Int32.ofNat 0 = (0 : Int32) from rfl] at this
  rw [this, jk_cV]
  exact k1 d
theorem wk_over_l (W : jf_W f) (hab : b + 3 ≤ a ∨ a + 4 ≤ b) (hset : ∀ x, bt set x = true → x < 12 ∧ bt f.2.2 x = true) : ∀ (m k : Nat) (h : jxH) (o : Nat → Nat) (par : Nat → Option Nat) (dep : Nat → Nat) (sz : Nat) (seen seen0 : Int32) (st : Nat), k + m = 12 → wk_at h a o par dep sz seen → fo_at h b f → wk_I f set seen0 st o par dep sz seen sz → (∀ x, x < k → bt set x = true → bt seen x = true) → ∃ h' o' par' dep' sz' seen' seen0' st', (∀ d, jb_319 rc (d + 2) 8 [(0, .ref a), (1, .ref b), (2, .int set), (3, .int (Int32.ofNat k))] [] h = some (none, h')) ∧ wk_at h' a o' par' dep' sz' seen' ∧ wk_I f set seen0' st' o' par' dep' sz' seen' sz' ∧ (∀ x, x < 12 → bt set x = true → bt seen' x = true) ∧ Fr (jI a 4) h h'
  | 0, k, h, o, par, dep, sz, seen, seen0, st, e, H, G, I, hk => by
    obtain rfl : k = 12 := by omega
    exact ⟨h, o, par, dep, sz, seen, seen0, st, fun d => by rw [je_319_8]; rfl, H, I, hk, Fr.rfl⟩
  | m + 1, k, h, o, par, dep, sz, seen, seen0, st, e, H, G, I, hk => by
    have k12 : k < 12 := by omega
    by_cases c1 : bt set k = true
    · by_cases c2 : bt seen k = true
      · obtain ⟨h', o', par', dep', sz', seen', seen0', st', i1, i2⟩ := wk_over_l W hab hset m (k + 1) h o par dep sz seen seen0 st (by omega) H G I (fun x hx hs => by
          by_cases q : x = k
          · rw [q]; exact c2
          · exact hk x (by omega) hs)
        refine ⟨h', o', par', dep', sz', seen', seen0', st', fun d => ?_, i2⟩
        rw [je_319_8, if_neg (jk_n12 k12), cl_isIn, jk_cI, jp_in_of k12, jk_if0, if_pos c1, wk_g4 H, jk_bs, cl_isIn, jk_cI, jp_in_of k12, jk_if0, if_pos c2, jk_succ]
        exact i1 d
      · obtain ⟨h1, o1, par1, dep1, sz1, seen1, s1, s2, s3, s4, s5, s6⟩ := wk_spread (rc := rc) W hab hset H G I k12 c1 (by simpa using c2)
        obtain ⟨h', o', par', dep', sz', seen', seen0', st', i1, i2, i3, i4, i5⟩ := wk_over_l W hab hset m (k + 1) h1 o1 par1 dep1 sz1 seen1 seen sz (by omega) s2 (fo_fr s6 (fun x q1 q2 z => by unfold jI at z; omega) G) s3 (fun x hx hs => by
          by_cases q : x = k
          · rw [q]; exact s4
          · exact s5 x (hk x (by omega) hs))
        refine ⟨h', o', par', dep', sz', seen', seen0', st', fun d => ?_, i2, i3, i4, s6.trans i5⟩
        rw [je_319_8, if_neg (jk_n12 k12), cl_isIn, jk_cI, jp_in_of k12, jk_if0, if_pos c1, wk_g4 H, jk_bs, cl_isIn, jk_cI, jp_in_of k12, jk_if0, if_neg c2, s1, jk_cV, jk_succ]
        exact i1 d
    · obtain ⟨h', o', par', dep', sz', seen', seen0', st', i1, i2⟩ := wk_over_l W hab hset m (k + 1) h o par dep sz seen seen0 st (by omega) H G I (fun x hx hs => by
        by_cases q : x = k
        · rw [q] at hs; exact absurd hs c1
        · exact hk x (by omega) hs)
      refine ⟨h', o', par', dep', sz', seen', seen0', st', fun d => ?_, i2⟩
      rw [je_319_8, if_neg (jk_n12 k12), cl_isIn, jk_cI, jp_in_of k12, jk_if0, if_neg c1, jk_succ]
      exact i1 d
/-- over() -/
theorem wk_over (H : wk_ok h a) (G : fo_at h b f) (W : jf_W f) (hab : b + 3 ≤ a ∨ a + 4 ≤ b) (hset : ∀ x, bt set x = true → x < 12 ∧ bt f.2.2 x = true) : ∃ h' o par dep sz, (∀ d, jx_C rc (d + 3) 319 [.ref a, .ref b, .int set] h = some (none, h')) ∧ wk_at h' a o par dep sz set ∧ wk_O f set o par sz ∧ Fr (jI a 4) h h' := by
  obtain ⟨h1, e1, r1, r2⟩ := wk_clear H
  have G1 := fo_fr r2 (fun x q1 q2 z => by unfold jI at z; omega) G
  obtain ⟨h', o, par, dep, sz, seen, seen0, st, i1, i2, i3, i4, i5⟩ := wk_over_l (rc := rc) W hab hset 12 0 h1 _ _ _ _ _ 0 0 (by omega) r1 G1 (wk_I_0 f set _ _ _) (fun x hx => by omega)
  have es : seen = set := bt_ext fun k hk => by
    cases a : bt set k
    · cases b : bt seen k
      · rfl
      · rw [i3.2.2.2.1 k b] at a; cases a
    · exact i4 k (hset k a).1 a
  subst es
  obtain ⟨⟨a1, a2, a3, a4⟩, a5, a6, a7, a8, a9, a10, a11, a12, a13, a14, a15⟩ := i3
  refine ⟨h', o, par, dep, sz, fun d => ?_, i2, ⟨a1, a5, a6, a14, a12, a13⟩, r2.trans i5⟩
  obtain ⟨⟨sz0, sn0, e0⟩, -⟩ := H
  have o1 : jx_at (jx_set h a (jxO 10 [.ref (a + 1), .ref (a + 2), .ref (a + 3), .int 0, .int sn0])) a = jxO 10 [.ref (a + 1), .ref (a + 2), .ref (a + 3), .int 0, .int sn0] := jk_at_self ..
  rw [je_319, e0]
  show (if true = true then _ else _) = _
  rw [if_pos rfl, show jx_pF (jxO 10 [Value.ref (a + 1), Value.ref (a + 2), Value.ref (a + 3), Value.int sz0, Value.int sn0]) 10 3 (.int 0) = some (jxO 10 [Value.ref (a + 1), Value.ref (a + 2), Value.ref (a + 3), Value.int 0, Value.int sn0]) from rfl, jk_bs, o1, show jx_pF (jxO 10 [Value.ref (a + 1), Value.ref (a + 2), Value.ref (a + 3), Value.int 0, Value.int sn0]) 10 4 (.int 0) = some (jxO 10 [Value.ref (a + 1), Value.ref (a + 2), Value.ref (a + 3), Value.int 0, Value.int 0]) from rfl, jk_bs, jk_set_set, ← e1]
  exact i1 d
end
