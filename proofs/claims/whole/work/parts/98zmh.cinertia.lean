/-! INERTIA: the class; longs hold what is reckoned -/
theorem js_ge {g : Nat → Int} {n i : Nat} (h : ∀ k, k < n → 0 ≤ g k) (hi : i < n) : g i ≤ js g n := by
  have := js_le (g := fun k => if k = i then g k else 0) (h := g) (n := n) (fun k hk => by
    try dsimp only
    split
    · exact Int.le_refl _
    · exact h k hk)
  rw [js_delta (v := i) g, if_pos hi] at this
  exact this
theorem js_bumpc {g h : Nat → Int} {j : Nat} {c : Int} : ∀ {n : Nat}, j < n → h j = g j + c → (∀ k, k < n → k ≠ j → h k = g k) → js h n = js g n + c
  | 0, hj, _, _ => by omega
  | n + 1, hj, h1, h2 => by
    show js h n + h n = js g n + g n + c
    by_cases z : j = n
    · subst z
      rw [js_congr (g := h) (h := g) (fun k hk => h2 k (by omega) (by omega)), h1]; omega
    · rw [js_bumpc (n := n) (by omega) h1 (fun k hk => h2 k (by omega)), h2 n (by omega) (by omega)]; omega
/-- how great a top and a rest are by the number of what is folded in -/
def iv_b (t : ivS) (y : Nat → Nat) (x : Nat) : Prop := t.2.1 x ≠ 0 ∧ (t.1 x).natAbs * 900 ^ y x ≤ 30 * 27030 ^ y x ∧ (t.2.1 x).natAbs * 900 ^ y x ≤ 27030 ^ y x
theorem iv_cap : ∀ y : Nat, y ≤ 11 → 30 * 27030 ^ y ≤ 2 ^ 62 * 900 ^ y := by decide
theorem iv_cap2 {t : ivS} {y : Nat → Nat} {x : Nat} (H : iv_b t y x) (hy : y x ≤ 11) : (t.1 x).natAbs ≤ 2 ^ 62 ∧ (t.2.1 x).natAbs ≤ 2 ^ 62 := by
  obtain ⟨-, h1, h2⟩ := H
  have c := iv_cap (y x) hy
  have p : 0 < 900 ^ y x := Nat.pow_pos (by decide)
  have q : 0 < 27030 ^ y x := Nat.pow_pos (by decide)
  exact ⟨Nat.le_of_mul_le_mul_right (Nat.le_trans h1 c) p, Nat.le_of_mul_le_mul_right (Nat.le_trans h2 (by omega)) p⟩
theorem iv_cap3 {x : Int} (h : x.natAbs ≤ 2 ^ 62) : -(2 ^ 62) ≤ x ∧ x ≤ 2 ^ 62 := by omega
theorem iv_fold_b {T R t r A B D d : Nat} {tq tp rq rp : Int} (e1 : tq.natAbs = T) (e2 : rq.natAbs = R) (e3 : tp.natAbs = t) (e4 : rp.natAbs = r) (h1 : T * D ≤ 30 * A) (h2 : R * D ≤ A) (h3 : t * d ≤ 30 * B) (h4 : r * d ≤ B) : (tq * tp - rq * rp).natAbs * (D * d * 900) ≤ 30 * (A * B * 27030) ∧ (rq * tp).natAbs * (D * d * 900) ≤ A * B * 27030 := by
  have m1 := Nat.mul_le_mul h1 h3
  have m2 := Nat.mul_le_mul h2 h4
  have m3 := Nat.mul_le_mul h2 h3
  have n1 : (tq * tp - rq * rp).natAbs ≤ T * t + R * r := by
    have h := Int.natAbs_sub_le (tq * tp) (rq * rp)
    rw [Int.natAbs_mul, Int.natAbs_mul, e1, e2, e3, e4] at h
    exact h
  have n2 : (rq * tp).natAbs = R * t := by rw [Int.natAbs_mul, e2, e3]
  have n3 := Nat.mul_le_mul_right (D * d * 900) n1
  rw [n2]
  have p1 : T * D * (t * d) = T * t * (D * d) := by simp only [Nat.mul_assoc, Nat.mul_comm, Nat.mul_left_comm]
  have p2 : R * D * (r * d) = R * r * (D * d) := by simp only [Nat.mul_assoc, Nat.mul_comm, Nat.mul_left_comm]
  have p3 : R * D * (t * d) = R * t * (D * d) := by simp only [Nat.mul_assoc, Nat.mul_comm, Nat.mul_left_comm]
  have p4 : 30 * A * (30 * B) = 900 * (A * B) := by
    rw [show 30 * A * (30 * B) = 30 * 30 * (A * B) by simp only [Nat.mul_assoc, Nat.mul_comm, Nat.mul_left_comm]]
  have p5 : A * (30 * B) = 30 * (A * B) := by simp only [Nat.mul_left_comm]
  rw [p1, p4] at m1
  rw [p2] at m2
  rw [p3, p5] at m3
  have q1 : (T * t + R * r) * (D * d * 900) = 900 * (T * t * (D * d)) + 900 * (R * r * (D * d)) := by
    rw [Nat.add_mul]
    congr 1 <;> simp only [Nat.mul_assoc, Nat.mul_comm, Nat.mul_left_comm]
  have q2 : R * t * (D * d * 900) = 900 * (R * t * (D * d)) := by simp only [Nat.mul_assoc, Nat.mul_comm, Nat.mul_left_comm]
  constructor
  · omega
  · omega
section
variable {e : Nat → Nat → Int} {o : Nat → Nat} {par : Nat → Option Nat} {sz : Nat}
/-- the run over longs is the run over ints -/
def iv_sim (s : sgS) (t : ivS) : Prop := s.1 = lI t.1 ∧ s.2.1 = lI t.2.1 ∧ (∀ x, x < 12 → bt s.2.2.1 x = t.2.2.1 x) ∧ s.2.2.2.1 = Int32.ofNat t.2.2.2.1 ∧ s.2.2.2.2.1 = Int32.ofNat t.2.2.2.2.1 ∧ s.2.2.2.2.2 = Int32.ofNat t.2.2.2.2.2
theorem iv_sim_n {s : sgS} {t : ivS} (h1 : s.1 = lI t.1) (h2 : s.2.1 = lI t.2.1) (p : Nat) : (sg_n (fun x => x) par s p).1 = lI (iv_n par (t.1, t.2.1) p).1 ∧ (sg_n (fun x => x) par s p).2 = lI (iv_n par (t.1, t.2.1) p).2 := by
  unfold sg_n iv_n
  cases c : par p with
  | none => exact ⟨h1, h2⟩
  | some q =>
    rw [h1, h2]
    constructor
    · funext x
      show vp_updL (lI t.1) q (lI t.1 q * lI t.1 p - lI t.2.1 q * lI t.2.1 p) x = lI (iv_T t.1 t.2.1 p q) x
      by_cases z : x = q
      · rw [z, updL_at]
        unfold lI iv_T
        rw [if_pos rfl, Int64.ofInt_sub, Int64.ofInt_mul, Int64.ofInt_mul]
      · rw [updL_ne _ _ z]
        unfold lI iv_T
        rw [if_neg z]
    · funext x
      show vp_updL (lI t.2.1) q (lI t.2.1 q * lI t.1 p) x = lI (iv_R t.1 t.2.1 p q) x
      by_cases z : x = q
      · rw [z, updL_at]
        unfold lI iv_R
        rw [if_pos rfl, Int64.ofInt_mul]
      · rw [updL_ne _ _ z]
        unfold lI iv_R
        rw [if_neg z]
theorem sgIs_iff {s : sgS} {t : ivS} {p : Nat} (h1 : s.1 = lI t.1) (h2 : s.2.1 = lI t.2.1) (b1 : (t.1 p).natAbs ≤ 2 ^ 62) (b2 : (t.2.1 p).natAbs ≤ 2 ^ 62) (n1 : t.1 p ≠ 0) (n2 : t.2.1 p ≠ 0) : (sgIs s p = true) ↔ 0 < t.1 p * t.2.1 p := by
  obtain ⟨x1, x2⟩ := iv_cap3 b1
  obtain ⟨y1, y2⟩ := iv_cap3 b2
  unfold sgIs
  rw [h1, h2, mx_pos n1 n2]
  unfold lI
  have ea : decide (lg_cmp (Int64.ofInt (t.1 p)) 0 ≤ 0) = decide (t.1 p ≤ 0) := decide_eq_decide.mpr (lI_le x1 x2)
  have eb : decide (lg_cmp (Int64.ofInt (t.2.1 p)) 0 ≤ 0) = decide (t.2.1 p ≤ 0) := decide_eq_decide.mpr (lI_le y1 y2)
  rw [ea, eb]
  by_cases a : t.1 p ≤ 0 <;> by_cases b : t.2.1 p ≤ 0 <;> simp [a, b] <;> omega
theorem iv_sim_r (O : iv_O e o par sz) (o12 : ∀ i, i < sz → o i < 12) : ∀ (n : Nat) (s : sgS) (t : ivS) (y : Nat → Nat), n ≤ sz → iv_sim s t → (∀ i, i < n → iv_b t y (o i)) → js (fun i => ((y (o i) + 1 : Nat) : Int)) n ≤ 12 → iv_sim (sg_r (fun x => x) o par n s) (iv_r o par n t)
  | 0, s, t, y, _, S, _, _ => S
  | n + 1, s, t, y, hn, S, H, hy => by
    obtain ⟨s1, s2, s3, s4, s5, s6⟩ := id S
    have nn : ∀ k, k < n + 1 → (0 : Int) ≤ ((y (o k) + 1 : Nat) : Int) := fun k _ => by omega
    have yn : y (o n) ≤ 11 := by have := js_ge nn (show n < n + 1 by omega); omega
    have hy' : js (fun i => ((y (o i) + 1 : Nat) : Int)) n + ((y (o n) + 1 : Nat) : Int) ≤ 12 := hy
    have Hn := H n (by omega)
    obtain ⟨c1, c2⟩ := iv_cap2 Hn yn
    obtain ⟨x1, x2⟩ := iv_cap3 c1
    have p12 := o12 n (by omega)
    have e0 : (lg_cmp (s.1 (o n)) 0 = 0) ↔ t.1 (o n) = 0 := by rw [s1]; exact lI_0 x1 x2
    -- the state after one step
    show iv_sim (sg_r (fun x => x) o par n (sg_s (fun x => x) par (o n) s)) (iv_r o par n (iv_s par (o n) t))
    cases pn : t.2.2.1 (o n)
    · have pn' : ¬ bt s.2.2.1 (o n) = true := by rw [s3 _ p12, pn]; simp
      by_cases t0 : t.1 (o n) = 0
      · -- nothing is folded
        have ex : ∃ (s' : sgS) (t' : ivS), sg_s (fun x => x) par (o n) s = s' ∧ iv_s par (o n) t = t' ∧ iv_sim s' t' ∧ t'.1 = t.1 ∧ t'.2.1 = t.2.1 := by
          unfold sg_s iv_s
          rw [if_neg pn', if_pos (e0.mpr t0), if_neg (by rw [pn]; simp), if_pos t0]
          have one : s.2.2.2.2.2 + 1 = Int32.ofNat (t.2.2.2.2.2 + 1) := by rw [s6, jk_succ]
          cases hp : par (o n) with
          | none => exact ⟨_, _, rfl, rfl, ⟨s1, s2, s3, s4, s5, one⟩, rfl, rfl⟩
          | some q =>
            obtain ⟨j, j1, rfl, -⟩ := O.2.2.1 n (by omega) q hp
            have q12 := o12 j (by omega)
            try dsimp only
            by_cases w : t.2.2.1 (o j) = true
            · rw [if_pos w, if_pos (by rw [s3 _ q12]; exact w)]
              exact ⟨_, _, rfl, rfl, ⟨s1, s2, s3, s4, s5, one⟩, rfl, rfl⟩
            · rw [if_neg w, if_neg (by rw [s3 _ q12]; exact w)]
              refine ⟨_, _, rfl, rfl, ⟨s1, s2, fun x hx => ?_, s4, s5, s6⟩, rfl, rfl⟩
              show bt (s.2.2.1 ||| jk_bit (o j)) x = if x = o j then true else t.2.2.1 x
              rw [bt_or, bt_bit (by omega) (by omega), s3 x hx]
              by_cases z : x = o j
              · rw [if_pos z, decide_eq_true z, Bool.or_true]
              · rw [if_neg z, decide_eq_false z, Bool.or_false]
        obtain ⟨s', t', es, et, S', u1, u2⟩ := ex
        rw [es, et]
        exact iv_sim_r O o12 n s' t' y (by omega) S' (fun i hi => by
          have := H i (by omega)
          unfold iv_b at this ⊢
          rw [u1, u2]; exact this) (by omega)
      · have is := sgIs_iff s1 s2 c1 c2 t0 Hn.1
        have es : sg_s (fun x => x) par (o n) s = ((sg_n (fun x => x) par s (o n)).1, (sg_n (fun x => x) par s (o n)).2, s.2.2.1, s.2.2.2.1 + (if sgIs s (o n) = true then 1 else 0), s.2.2.2.2.1 + (if sgIs s (o n) = true then 0 else 1), s.2.2.2.2.2) := by
          unfold sg_s; rw [if_neg pn', if_neg (fun z => t0 (e0.mp z))]
        have et : iv_s par (o n) t = ((iv_n par (t.1, t.2.1) (o n)).1, (iv_n par (t.1, t.2.1) (o n)).2, t.2.2.1, t.2.2.2.1 + (if 0 < t.1 (o n) * t.2.1 (o n) then 1 else 0), t.2.2.2.2.1 + (if 0 < t.1 (o n) * t.2.1 (o n) then 0 else 1), t.2.2.2.2.2) := by
          unfold iv_s; rw [if_neg (by rw [pn]; simp), if_neg t0]
        rw [es, et]
        obtain ⟨m1, m2⟩ := iv_sim_n (par := par) s1 s2 (o n)
        have S' : iv_sim ((sg_n (fun x => x) par s (o n)).1, (sg_n (fun x => x) par s (o n)).2, s.2.2.1, s.2.2.2.1 + (if sgIs s (o n) = true then 1 else 0), s.2.2.2.2.1 + (if sgIs s (o n) = true then 0 else 1), s.2.2.2.2.2) ((iv_n par (t.1, t.2.1) (o n)).1, (iv_n par (t.1, t.2.1) (o n)).2, t.2.2.1, t.2.2.2.1 + (if 0 < t.1 (o n) * t.2.1 (o n) then 1 else 0), t.2.2.2.2.1 + (if 0 < t.1 (o n) * t.2.1 (o n) then 0 else 1), t.2.2.2.2.2) := by
          refine ⟨m1, m2, s3, ?_, ?_, s6⟩
          · show s.2.2.2.1 + (if sgIs s (o n) = true then 1 else 0) = Int32.ofNat (t.2.2.2.1 + (if 0 < t.1 (o n) * t.2.1 (o n) then 1 else 0))
            by_cases w : 0 < t.1 (o n) * t.2.1 (o n)
            · rw [if_pos w, if_pos (is.mpr w), s4, jk_succ]
            · rw [if_neg w, if_neg (fun z => w (is.mp z)), s4, Int32.add_zero, Nat.add_zero]
          · show s.2.2.2.2.1 + (if sgIs s (o n) = true then 0 else 1) = Int32.ofNat (t.2.2.2.2.1 + (if 0 < t.1 (o n) * t.2.1 (o n) then 0 else 1))
            by_cases w : 0 < t.1 (o n) * t.2.1 (o n)
            · rw [if_pos w, if_pos (is.mpr w), s5, Int32.add_zero, Nat.add_zero]
            · rw [if_neg w, if_neg (fun z => w (is.mp z)), s5, jk_succ]
        cases hp : par (o n) with
        | none =>
          have en : iv_n par (t.1, t.2.1) (o n) = (t.1, t.2.1) := by unfold iv_n; rw [hp]
          refine iv_sim_r O o12 n _ _ y (by omega) S' (fun i hi => ?_) (by omega)
          have := H i (by omega)
          unfold iv_b at this ⊢
          rw [en]; exact this
        | some q =>
          obtain ⟨j, j1, rfl, -⟩ := O.2.2.1 n (by omega) q hp
          have en : iv_n par (t.1, t.2.1) (o n) = (iv_T t.1 t.2.1 (o n) (o j), iv_R t.1 t.2.1 (o n) (o j)) := by unfold iv_n; rw [hp]
          refine iv_sim_r O o12 n _ _ (fun x => if x = o j then y (o j) + y (o n) + 1 else y x) (by omega) S' (fun i hi => ?_) ?_
          · rw [en]
            unfold iv_b iv_T iv_R
            try dsimp only
            by_cases z : o i = o j
            · rw [if_pos z, if_pos z, if_pos z]
              obtain ⟨r0, b1, b2⟩ := H j (by omega)
              obtain ⟨r1, b3, b4⟩ := Hn
              refine ⟨Int.mul_ne_zero r0 t0, ?_⟩
              rw [Nat.pow_succ, Nat.pow_add, Nat.pow_succ, Nat.pow_add]
              exact iv_fold_b rfl rfl rfl rfl b1 b2 b3 b4
            · rw [if_neg z, if_neg z, if_neg z]
              exact H i (by omega)
          · rw [js_bumpc (g := fun i => ((y (o i) + 1 : Nat) : Int)) (c := ((y (o n) + 1 : Nat) : Int)) j1 (by (try dsimp only); rw [if_pos rfl]; omega) (fun k hk hne => by
              try dsimp only
              rw [if_neg (fun z => hne (O.2.1 k j (by omega) (by omega) z))])]
            omega
    · have es : sg_s (fun x => x) par (o n) s = (s.1, s.2.1, s.2.2.1, s.2.2.2.1 + 1, s.2.2.2.2.1 + 1, s.2.2.2.2.2) := by unfold sg_s; rw [if_pos (by rw [s3 _ p12]; exact pn)]
      have et : iv_s par (o n) t = (t.1, t.2.1, t.2.2.1, t.2.2.2.1 + 1, t.2.2.2.2.1 + 1, t.2.2.2.2.2) := by unfold iv_s; rw [if_pos pn]
      rw [es, et]
      exact iv_sim_r O o12 n _ _ y (by omega) ⟨s1, s2, s3, by show s.2.2.2.1 + 1 = _; rw [s4, jk_succ], by show s.2.2.2.2.1 + 1 = _; rw [s5, jk_succ], s6⟩ (fun i hi => H i (by omega)) (by omega)
end
section
variable {rc : Nat → Nat × (Nat → Int32)} {h h' : jxH} {f : jF} {σ : jSt}
theorem ivO_of (B : jf_B f) {set : Int32} {o : Nat → Nat} {par : Nat → Option Nat} {sz : Nat} (K : wk_O f set o par sz) : iv_O (ec f) o par sz := by
  obtain ⟨a1, a2, a3, a4, a5, a6⟩ := K
  refine ⟨ec_sym B, a4, fun i hi q hq => ?_, fun i j ji hi ne => ?_⟩
  · obtain ⟨j, j1, rfl, j3⟩ := a5 i hi q hq
    have h1 := (a2 i hi).1
    have h2 := (a2 j (by omega)).1
    refine ⟨j, j1, rfl, ?_⟩
    unfold ec
    rw [if_pos ⟨h1, h2⟩]
    unfold ee
    rw [B.sym h1 h2, j3]; rfl
  · unfold ec
    split
    · rename_i z
      unfold ee
      cases w : bt (f.2.1 (o i)) (o j)
      · rfl
      · exact absurd (a6 i j ji hi (by rw [B.sym z.2 z.1]; exact w)) ne
    · rfl
theorem sg_pl (o : Nat → Nat) (sz : Nat) : sg o 0 sz = pl o sz := by
  unfold sg pl
  rw [Nat.sub_zero]
  apply List.map_congr_left
  intro a _
  rw [Nat.zero_add]
theorem iE_sg (B : jf_B f) {o : Nat → Nat} {par : Nat → Option Nat} {sz : Nat} (K : wk_O f f.2.2 o par sz) (k : Nat) : mx_e (ew f) (ec f) (sg o 0 sz) k = iE f k := by
  rw [sg_pl, mx_e_perm (ew f) (ec f) (ec_sym B) _ _ _ (Nat.le_refl _) (pl_nodup K.2.2.2.1) (pl_sl K)]
  unfold iE
  refine mx_e_congr (fun _ _ => rfl) (fun a ha b hb => ?_) k
  unfold ec
  rw [if_pos ⟨(sl_mem.mp ha).1, (sl_mem.mp hb).1⟩]
/-- what the run over longs comes to -/
theorem iv_fin (W : jf_W f) {o : Nat → Nat} {par : Nat → Option Nat} {sz : Nat} (K : wk_O f f.2.2 o par sz) {s : sgS} (hs : s = sg_r (fun x => x) o par sz ((fun p => (f.1 p).toInt64), (fun _ => 1), 0, 0, 0, 0)) : s.2.2.2.1 = iIn f 0 ∧ s.2.2.2.2.1 = iIn f 1 ∧ s.2.2.2.2.2 = iIn f 2 := by
  have B := W.1
  have O := ivO_of B K
  have hsz : sz = bc f.2.2 := K.1
  have b12 := bc_le f.2.2
  obtain ⟨n1, n2, n3⟩ := iNo_spec f (bc f.2.2) 0 (by omega) (fun j j1 j2 => by omega)
  obtain ⟨m1, m2, m3⟩ := iv_main (w := ew f) O (fun a b => by
    unfold ec
    split
    · exact i01_nn _
    · decide) (L := bc f.2.2 - iNo f (bc f.2.2) 0) (by omega) (by rw [iE_sg B K]; exact n2) (fun j j1 j2 => by rw [iE_sg B K]; exact n3 j j1 (by omega))
  have S := iv_sim_r O (fun i hi => (K.2.1 i hi).1) sz ((fun p => (f.1 p).toInt64), (fun _ => 1), 0, 0, 0, 0) (iv_0 (ew f)) (fun _ => 0) (Nat.le_refl _) ⟨funext fun p => (Int64.ofInt_int32ToInt _).symm, rfl, fun x _ => bt_0 x, rfl, rfl, rfl⟩ (fun i hi => by
    obtain ⟨w1, w2⟩ := ew_bd B (K.2.1 i hi).1
    refine ⟨by show (1 : Int) ≠ 0; decide, ?_, by show (1 : Int).natAbs * 900 ^ 0 ≤ 27030 ^ 0; decide⟩
    show (ew f (o i)).natAbs * 900 ^ 0 ≤ 30 * 27030 ^ 0
    omega) (by
      have : ∀ n : Nat, js (fun _ => ((0 + 1 : Nat) : Int)) n = n := fun n => by
        induction n with
        | zero => rfl
        | succ n ih => show js _ n + ((0 + 1 : Nat) : Int) = _; rw [ih]; omega
      rw [this]; omega)
  rw [← hs] at S
  obtain ⟨-, -, -, s4, s5, s6⟩ := S
  have eA : (iv_r o par sz (iv_0 (ew f))).2.2.2.1 = iAb f := by
    rw [m1]
    unfold iAb
    rw [hsz]
    congr 2
    funext k
    unfold mx_al
    rw [← hsz, iE_sg B K]
  have eN : (iv_r o par sz (iv_0 (ew f))).2.2.2.2.2 = iNo f (bc f.2.2) 0 := by omega
  refine ⟨?_, ?_, ?_⟩
  · rw [s4, eA]; rfl
  · rw [s5]
    unfold iIn
    rw [if_neg (by decide), if_neg (by decide), jk_subN (by omega), jk_subN (by omega)]
    congr 1
    omega
  · rw [s6, eN]; rfl
theorem cc_inertia (C : CSt h σ) (A : AWt σ) (x : Int32) : ∃ h', (∀ d, jx_C rc (d + 20) 16 [.ref 0, .int x] h = some (some (.int (op_inertia σ x).1), h')) ∧ CSt h' (op_inertia σ x).2 ∧ cF h h' := by
  unfold op_inertia
  obtain ⟨e', e1, e2, e3⟩ := cc_refuse (rc := rc) C A (k := 1) (by decide) (by decide) (K := 1) rfl
  by_cases c : jp_hi x 2 = true
  · rw [if_pos c]
    obtain ⟨k, k2, rfl⟩ := (jp_hi_iff (n := 2) (by decide)).mp c
    obtain ⟨h1, o, par, sz, v, s, r1, r2, r3, r4, r5, r6⟩ := sg_sort (rc := rc) (pr := 0) (lf := fun x => x) (fun x d h => cl_left0 x (d + 1)) (a := 178) C.scr.2.2.2.1 C.F A.W (by omega)
    obtain ⟨f0, f1, f2⟩ := iv_fin A.W r2 r3
    obtain ⟨C1, F1⟩ := cc_rk C A r6 r5
    refine ⟨h1, fun d => ?_, C1, F1⟩
    rw [je_16, if_pos C.is, if_neg (jk_nn (by omega)), if_pos (by rw [show (2 : Int32) = Int32.ofNat 2 from rfl, jk_le (by omega) (by decide)]; omega), C.g6, jk_bs, C.g1, jk_bs, r1, jk_cV]
    by_cases z0 : Int32.ofNat k = 0
    · rw [if_pos z0, C1.g6, jk_bs, so_g7 r4, jk_bs, f0, z0]
    · rw [if_neg z0]
      by_cases z1 : Int32.ofNat k = 1
      · rw [if_pos z1, C1.g6, jk_bs, so_g8 r4, jk_bs, f1, z1]
      · rw [if_neg z1, C1.g6, jk_bs, so_g9 r4, jk_bs, f2]
        have : k = 2 := by
          have : k ≠ 0 := fun z => z0 (by rw [z]; rfl)
          have : k ≠ 1 := fun z => z1 (by rw [z]; rfl)
          omega
        subst this; rfl
  · rw [if_neg c]
    refine ⟨e', fun d => ?_, e2, e3⟩
    rw [je_16, if_pos C.is]
    unfold jp_hi at c
    by_cases z : x < 0
    · rw [if_pos z, e1, jk_cI]
    · rw [if_neg z] at c ⊢
      by_cases y : 2 < x
      · rw [if_neg (by rw [Int32.le_iff_toInt_le]; rw [Int32.lt_iff_toInt_lt] at y; omega), e1, jk_cI]
      · rw [if_neg y] at c; exact absurd rfl c
end
