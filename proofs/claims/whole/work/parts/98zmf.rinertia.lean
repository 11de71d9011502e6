/-! INERTIA: the reference -/
/-- the reference's answer -/
def iAb (f : jF) : Nat := (mx_t (mx_al (iE f)) (bc f.2.2)).1
/-- noughts at the end, from n on -/
def iNo (f : jF) : Nat → Nat → Nat
  | 0, n => n
  | m + 1, n => if iE f (bc f.2.2 - n) = 0 then iNo f m (n + 1) else n
/-- the trailing noughts: what stands ahead isn't 0 -/
theorem iNo_spec (f : jF) : ∀ (m n : Nat), n + m = bc f.2.2 → (∀ j, bc f.2.2 - n < j → j ≤ bc f.2.2 → iE f j = 0) → iNo f m n ≤ bc f.2.2 ∧ iE f (bc f.2.2 - iNo f m n) ≠ 0 ∧ ∀ j, bc f.2.2 - iNo f m n < j → j ≤ bc f.2.2 → iE f j = 0
  | 0, n, e, h => by
    refine ⟨by show n ≤ _; omega, ?_, h⟩
    show iE f (bc f.2.2 - n) ≠ 0
    rw [show bc f.2.2 - n = 0 by omega]
    unfold iE
    rw [mx_e_0]; decide
  | m + 1, n, e, h => by
    by_cases z : iE f (bc f.2.2 - n) = 0
    · have e1 : iNo f (m + 1) n = iNo f m (n + 1) := if_pos z
      rw [e1]
      refine iNo_spec f m (n + 1) (by omega) (fun j j1 j2 => ?_)
      by_cases y : j = bc f.2.2 - n
      · rw [y]; exact z
      · exact h j (by omega) j2
    · have e1 : iNo f (m + 1) n = n := if_neg z
      rw [e1]
      exact ⟨by omega, z, h⟩
section
variable {rc : Nat → Nat × (Nat → Int32)} {h h' : jxH} {f : jF} {σ : jSt}
theorem rr_scr4 (R : RSt h σ) (A : AWt σ) (F : Fr (fun x => x = 382 ∨ x = 383 ∨ x = 384 ∨ (386 ≤ x ∧ x < 398)) h h') (h1 : ∃ g, jx_at h' 382 = jxL 4096 g) (h2 : ∃ g, jx_at h' 383 = jxL 4096 g) (h3 : ∃ g, jx_at h' 384 = jxL 13 g) (h4 : ∀ i, i < 12 → ∃ g, jx_at h' (386 + i) = jxI 0 12 g) : RSt h' σ ∧ rF h h' := by
  refine ⟨RS_scr R A F (fun x q => by unfold m_scrP; omega) ?_, rF.scr F (fun x q => by unfold m_scrP; omega)⟩
  obtain ⟨-, -, -, a4, a5, ⟨f6, a6⟩, ⟨g7, a7⟩, a8, a9, ⟨g10, a10⟩, a11, a12, ⟨g13, a13⟩, ⟨g14, a14⟩, ⟨g15, a15⟩, a16, a17⟩ := R.scr
  have k : ∀ x, 398 ≤ x → jx_at h' x = jx_at h x := fun x hx => F.2.2 x (by omega)
  refine ⟨h1, h2, h3, rows_fr F (by omega) a4, h4, ⟨f6, ro_fr F (by omega) a6⟩, ⟨g7, (k _ (by omega)).trans a7⟩, rows_fr F (by omega) a8, fun i hi => ?_, ⟨g10, (k _ (by omega)).trans a10⟩, rows_fr F (by omega) a11, fun i hi => ?_, ⟨g13, (k _ (by omega)).trans a13⟩, ⟨g14, (k _ (by omega)).trans a14⟩, ⟨g15, (k _ (by omega)).trans a15⟩, rows_fr F (by omega) a16, fun i hi => ?_⟩
  · obtain ⟨g, e⟩ := a9 i hi; exact ⟨g, (k _ (by omega)).trans e⟩
  · obtain ⟨g, e⟩ := a12 i hi; exact ⟨g, (k _ (by omega)).trans e⟩
  · obtain ⟨f, g⟩ := a17 i hi; exact ⟨f, ro_fr F (by omega) g⟩
theorem RSt.g8 (R : RSt h σ) : jx_gR (jx_at h 336) 12 8 = some 384 := R.M.g 8 384 (by intros; rfl)
theorem MO.g8 (M : MO h) : jx_gR (jx_at h 336) 12 8 = some 384 := M.g 8 384 (by intros; rfl)
theorem rr_terms_0 : ∀ (m k : Nat) (h : jxH) (g : Nat → Int64), k + m = 13 → MO h → jx_at h 384 = jxL 13 g → (∀ j, j < k → g j = 0) → ∃ h' g', (∀ d, jb_127 rc d 4 [(0, .ref 336), (1, .int (Int32.ofNat k))] [] h = jb_127 rc d 16 [(0, .ref 336), (1, .int (0 : Int32))] [] h') ∧ jx_at h' 384 = jxL 13 g' ∧ (∀ j, j < 13 → g' j = 0) ∧ Fr (fun x => x = 384) h h'
  | 0, k, h, g, e, M, H, hz => by
    obtain rfl : k = 13 := by omega
    exact ⟨h, g, fun d => by rw [je_127_4, if_pos (by decide)], H, hz, Fr.rfl⟩
  | m + 1, k, h, g, e, M, H, hz => by
    obtain ⟨h', g', r1, r2, r3, r4⟩ := rr_terms_0 m (k + 1) (jx_set h 384 (jxL 13 (vp_updL g k 0))) (vp_updL g k 0) (by omega) (MO.fr Fr.one (by decide) M) (jk_at_self ..) (fun j hj => by
      by_cases z : j = k
      · rw [z, updL_at]
      · rw [updL_ne _ _ z]; exact hz j (by omega))
    refine ⟨h', g', fun d => ?_, r2, r3, Fr.one.trans r4⟩
    rw [je_127_4, if_neg (by rw [show (12 : Int32) = Int32.ofNat 12 from rfl, jk_lt (by decide) (by omega)]; omega), M.g8, jk_bs, H, jk_sL (by omega) (by decide), jk_bs, jk_succ]
    exact r1 d
/-- what the terms are after n sets -/
def iTm (f : jF) (n k : Nat) : Int := js (fun n => if Int32.ofNat n &&& (f.2.2 ^^^ (-1)) = 0 then (if bc (Int32.ofNat n) = k then MP f (Int32.ofNat n) else 0) else 0) n
theorem rr_terms_l (B : jf_B f) : ∀ (m n : Nat) (h : jxH) (g : Nat → Int64) (M : Nat → Int64), n + m = 4096 → MO h → ro_at h 338 f → jx_at h 382 = jxL 4096 M → (∀ j, j < 4096 → sub (Int32.ofNat j) f.2.2 → M j = Int64.ofInt (MP f (Int32.ofNat j))) → jx_at h 384 = jxL 13 g → (∀ k, k < 13 → g k = Int64.ofInt (iTm f n k)) → ∃ h' g', (∀ d, jb_127 rc (d + 1) 16 [(0, .ref 336), (1, .int (Int32.ofNat n))] [] h = some (none, h')) ∧ jx_at h' 384 = jxL 13 g' ∧ (∀ k, k < 13 → g' k = Int64.ofInt (iTm f 4096 k)) ∧ Fr (fun x => x = 384) h h'
  | 0, n, h, g, M, e, O, G, HM, hM, H, hg => by
    obtain rfl : n = 4096 := by omega
    exact ⟨h, g, fun d => by rw [je_127_16, if_pos (by decide)], H, hg, Fr.rfl⟩
  | m + 1, n, h, g, M, e, O, G, HM, hM, H, hg => by
    have ge : ¬ (4096 : Int32) ≤ Int32.ofNat n := by rw [show (4096 : Int32) = Int32.ofNat 4096 from rfl, jk_le (by decide) (by omega)]; omega
    by_cases c : Int32.ofNat n &&& (f.2.2 ^^^ (-1)) = 0
    · have b12 := bc_le (Int32.ofNat n)
      obtain ⟨h', g', r1, r2, r3, r4⟩ := rr_terms_l B m (n + 1) (jx_set h 384 (jxL 13 (vp_updL g (bc (Int32.ofNat n)) (g (bc (Int32.ofNat n)) + M n)))) (vp_updL g (bc (Int32.ofNat n)) (g (bc (Int32.ofNat n)) + M n)) M (by omega) (MO.fr Fr.one (by decide) O) (ro_fr Fr.one (by decide) G) ((jk_at_ne _ _ (by decide)).trans HM) hM (jk_at_self ..) (fun k hk => by
        show _ = Int64.ofInt (iTm f n k + (if Int32.ofNat n &&& (f.2.2 ^^^ (-1)) = 0 then (if bc (Int32.ofNat n) = k then MP f (Int32.ofNat n) else 0) else 0))
        rw [if_pos c]
        by_cases z : k = bc (Int32.ofNat n)
        · rw [z, updL_at, if_pos rfl, Int64.ofInt_add, hg _ (by omega), hM n (by omega) (sub_iff.mp c)]
        · rw [updL_ne _ _ z, if_neg (fun y => z y.symm), Int.add_zero]; exact hg k hk)
      refine ⟨h', g', fun d => ?_, r2, r3, Fr.one.trans r4⟩
      rw [je_127_16, if_neg ge, O.g1, jk_bs, ro_0 G, jk_bs, if_pos c, O.g8, jk_bs, rf_many, jk_cI, H, jk_aL (by omega) (by decide), jk_bs, O.g6, jk_bs, HM, jk_aL (by omega) (by decide), jk_bs, jk_sL (by omega) (by decide), jk_bs, jk_succ]
      exact r1 d
    · obtain ⟨h', g', r1, r2, r3, r4⟩ := rr_terms_l B m (n + 1) h g M (by omega) O G HM hM H (fun k hk => by
        show _ = Int64.ofInt (iTm f n k + (if Int32.ofNat n &&& (f.2.2 ^^^ (-1)) = 0 then (if bc (Int32.ofNat n) = k then MP f (Int32.ofNat n) else 0) else 0))
        rw [if_neg c, Int.add_zero]; exact hg k hk)
      refine ⟨h', g', fun d => ?_, r2, r3, r4⟩
      rw [je_127_16, if_neg ge, O.g1, jk_bs, ro_0 G, jk_bs, if_neg c, jk_succ]
      exact r1 d
/-- layTerms() -/
theorem rr_layTerms (R : RSt h σ) (A : AWt σ) : ∃ h' g, (∀ d, jx_C rc (d + 5) 127 [.ref 336] h = some (none, h')) ∧ jx_at h' 384 = jxL 13 g ∧ (∀ k, k < 13 → g k = Int64.ofInt (iE (sF σ) k)) ∧ RSt h' σ ∧ rF h h' := by
  obtain ⟨g0, hg0⟩ := R.scr.1
  obtain ⟨gs, hgs⟩ := R.scr.2.1
  obtain ⟨gt, hgt⟩ := R.scr.2.2.1
  have hrow := R.scr.2.2.2.2.1
  obtain ⟨h1, M, m1, m2, m3, m4⟩ := rf_layMinors (rc := rc) R.M R.F A.B hg0
  have M1 := MO.fr m4 (by decide) R.M
  have G1 := ro_fr m4 (by decide) R.F
  obtain ⟨h2, g2, z1, z2, z3, z4⟩ := rr_terms_0 (rc := rc) 13 0 h1 gt rfl M1 ((m4.2.2 384 (by decide)).trans hgt) (fun j hj => by omega)
  have M2 := MO.fr z4 (by decide) M1
  have G2 := ro_fr z4 (by decide) G1
  have H382 : jx_at h2 382 = jxL 4096 M := (z4.2.2 382 (by decide)).trans m2
  obtain ⟨h3, g3, t1, t2, t3, t4⟩ := rr_terms_l (rc := rc) A.B 4096 0 h2 g2 M rfl M2 G2 H382 m3 z2 (fun k hk => by rw [z3 k hk]; rfl)
  have F : Fr (fun x => x = 382 ∨ x = 383 ∨ x = 384 ∨ (386 ≤ x ∧ x < 398)) h h3 := ((m4.mono (fun x q => by omega)).trans (z4.mono (fun x q => by omega))).trans (t4.mono (fun x q => by omega))
  obtain ⟨R3, F3⟩ := rr_scr4 R A F ⟨M, (t4.2.2 382 (by decide)).trans H382⟩ ⟨gs, by rw [t4.2.2 383 (by decide), z4.2.2 383 (by decide), m4.2.2 383 (by decide)]; exact hgs⟩ ⟨g3, t2⟩ (fun i hi => by
    obtain ⟨g, e⟩ := hrow i hi
    exact ⟨g, by rw [t4.2.2 _ (by omega), z4.2.2 _ (by omega), m4.2.2 _ (by omega)]; exact e⟩)
  refine ⟨h3, g3, fun d => ?_, t2, fun k hk => ?_, R3, F3⟩
  · rw [je_127, if_pos R.is, m1, jk_cV]
    have a1 := z1 (d + 4)
    have a2 := t1 (d + 3)
    rw [show Int32.ofNat 0 = (0 : Int32) from rfl] at a1 a2
    rw [a1]
    exact a2
  · rw [t3 k hk]
    exact congrArg Int64.ofInt (iE_num (sF σ) A.B.s k)
theorem su_pow (c : Int) : ∀ l : List Nat, su l (fun S => c ^ S.length) = (c + 1) ^ l.length
  | [] => by
    show c ^ 0 = (c + 1) ^ 0
    rw [Int.pow_zero, Int.pow_zero]
  | a :: l => by
    show su l (fun S => c ^ S.length) + su l (fun S => c ^ (S.length + 1)) = (c + 1) ^ (l.length + 1)
    have e : (fun S : List Nat => c ^ (S.length + 1)) = fun S => c * c ^ S.length := funext fun S => by rw [Int.pow_succ, Int.mul_comm]
    rw [e, su_mul, su_pow c l, Int.pow_succ, Int.mul_add, Int.mul_comm c]
    omega
theorem js_abs {g b : Nat → Int} : ∀ {n : Nat}, (∀ k, k < n → -(b k) ≤ g k ∧ g k ≤ b k) → -(js b n) ≤ js g n ∧ js g n ≤ js b n
  | 0, _ => by show -(0 : Int) ≤ 0 ∧ (0 : Int) ≤ 0; decide
  | n + 1, h => by
    obtain ⟨a1, a2⟩ := js_abs (n := n) (fun k hk => h k (by omega))
    have := h n (by omega)
    show -(js b n + b n) ≤ js g n + g n ∧ js g n + g n ≤ js b n + b n
    omega
theorem S12_ofNat {n : Nat} (hn : n < 4096) : S12 (Int32.ofNat n) := fun k hk => by
  rw [bt_ofNat hn, Nat.testBit_lt_two_pow (Nat.lt_of_lt_of_le hn (Nat.le_trans (by decide : (4096 : Nat) ≤ 2 ^ 12) (Nat.pow_le_pow_right (by decide) hk)))]
/-- the sums fit into longs -/
theorem iE_bd (W : jf_W f) (k : Nat) : -(2 ^ 62) ≤ iE f k ∧ iE f k ≤ 2 ^ 62 := by
  have B := W.1
  obtain ⟨v, v1, v2⟩ := S12_nat B.s
  have num := su_num v 12 (fun S => (31 : Int) ^ S.length)
  rw [su_pow] at num
  have len : ((List.range 12).filter v.testBit).length ≤ 12 := by
    have := List.length_filter_le v.testBit (List.range 12)
    simpa using this
  have cap : ((31 : Int) + 1) ^ ((List.range 12).filter v.testBit).length ≤ 2 ^ 60 := by
    generalize ((List.range 12).filter v.testBit).length = n at *
    have : ∀ n : Nat, n ≤ 12 → ((31 : Int) + 1) ^ n ≤ 2 ^ 60 := by decide
    exact this n len
  rw [← iE_num f B.s k]
  have ab := js_abs (n := 4096) (g := fun n => if Int32.ofNat n &&& (f.2.2 ^^^ (-1)) = 0 then (if bc (Int32.ofNat n) = k then MP f (Int32.ofNat n) else 0) else 0) (b := fun n => if sbn v n 12 then (31 : Int) ^ ((List.range 12).filter n.testBit).length else 0) (fun n hn => by
    have hl : ((List.range 12).filter n.testBit).length = bc (Int32.ofNat n) := by
      rw [← sl_length]
      unfold sl
      exact congrArg List.length (List.filter_congr (fun x _ => (bt_ofNat hn x).symm))
    have p0 : (0 : Int) ≤ 31 ^ bc (Int32.ofNat n) := Int.pow_nonneg (by decide)
    try dsimp only
    by_cases c : Int32.ofNat n &&& (f.2.2 ^^^ (-1)) = 0
    · have sb : sbn v n 12 := fun j hj hb => by
        have := (sub_iff.mp c) j (by rw [bt_ofNat hn]; exact hb)
        rw [v2, bt_ofNat v1] at this; exact this
      rw [if_pos c, if_pos sb, hl]
      by_cases y : bc (Int32.ofNat n) = k
      · rw [if_pos y]
        exact MP_bd B _
      · rw [if_neg y]; omega
    · rw [if_neg c]
      split
      · rw [hl]; omega
      · decide)
  have num : js (fun n => if sbn v n 12 then (31 : Int) ^ ((List.range 12).filter n.testBit).length else 0) 4096 = _ := num
  rw [num] at ab
  omega
theorem jk_half (k : Nat) (hk : k < 64) : (Int32.ofNat k - Int32.ofNat k / (2 : Int32) * (2 : Int32) = 0) ↔ k % 2 = 0 := by
  have : ∀ k : Nat, k < 64 → ((Int32.ofNat k - Int32.ofNat k / (2 : Int32) * (2 : Int32) = 0) ↔ k % 2 = 0) := by decide
  exact this k hk
theorem mx_al_ev (E : Nat → Int) {k : Nat} (h : k % 2 = 0) : mx_al E k = E k := by
  unfold mx_al
  obtain ⟨m, rfl⟩ : ∃ m, k = 2 * m := ⟨k / 2, by omega⟩
  rw [Int.pow_mul, show ((-1 : Int) ^ 2) = 1 from rfl, Int.one_pow, Int.one_mul]
theorem mx_al_od (E : Nat → Int) {k : Nat} (h : ¬ k % 2 = 0) : mx_al E k = -(E k) := by
  unfold mx_al
  obtain ⟨m, rfl⟩ : ∃ m, k = 2 * m + 1 := ⟨k / 2, by omega⟩
  rw [Int.pow_succ, Int.pow_mul, show ((-1 : Int) ^ 2) = 1 from rfl, Int.one_pow]
  omega
/-- a sign as an int -/
def sgI (x : Int) : Int32 := if x < 0 then -1 else if x = 0 then 0 else 1
theorem mx_t_ne {f : Nat → Int} (h0 : f 0 ≠ 0) : ∀ n, (mx_t f n).2 ≠ 0
  | 0 => h0
  | n + 1 => by
    by_cases z : f (n + 1) = 0
    · rw [show mx_t f (n + 1) = mx_t f n from if_pos z]; exact mx_t_ne h0 n
    · rw [show mx_t f (n + 1) = _ from if_neg z]; exact z
theorem mx_t_le (f : Nat → Int) : ∀ n, (mx_t f n).1 ≤ n
  | 0 => Nat.le_refl 0
  | n + 1 => by
    have := mx_t_le f n
    by_cases z : f (n + 1) = 0
    · rw [show mx_t f (n + 1) = mx_t f n from if_pos z]; omega
    · rw [show mx_t f (n + 1) = _ from if_neg z]
      show (if (mx_t f n).2 * f (n + 1) < 0 then (mx_t f n).1 + 1 else (mx_t f n).1) ≤ n + 1
      split <;> omega
theorem sg_mul {x y : Int} (hx : x ≠ 0) (hy : y ≠ 0) : (x * y < 0) ↔ sgI y ≠ sgI x := by
  have key : (x * y < 0) ↔ ¬ ((0 < x) ↔ (0 < y)) := by
    rw [← mx_pos hx hy]
    have : x * y ≠ 0 := Int.mul_ne_zero hx hy
    omega
  rw [key]
  have s1 : ∀ {z : Int}, z < 0 → sgI z = -1 := fun {z} h => if_pos h
  have s2 : ∀ {z : Int}, ¬ z < 0 → z ≠ 0 → sgI z = 1 := fun {z} h h' => (if_neg h).trans (if_neg h')
  by_cases a : x < 0
  · by_cases b : y < 0
    · rw [s1 a, s1 b]
      exact ⟨fun h => absurd ⟨fun z => by omega, fun z => by omega⟩ h, fun h => absurd rfl h⟩
    · rw [s1 a, s2 b hy]
      exact ⟨fun _ => by decide, fun _ h => by have := h.mpr (by omega); omega⟩
  · by_cases b : y < 0
    · rw [s2 a hx, s1 b]
      exact ⟨fun _ => by decide, fun _ h => by have := h.mp (by omega); omega⟩
    · rw [s2 a hx, s2 b hy]
      exact ⟨fun h => absurd ⟨fun z => by omega, fun z => by omega⟩ h, fun h => absurd rfl h⟩
/-- one term's step of above() -/
theorem rr_above_43 (d : Nat) {g : Nat → Int} (h0 : g 0 ≠ 0) {k : Nat} {h : jxH} : jb_128 rc d 43 [(0, .ref 336), (1, .int (Int32.ofNat (mx_t g k).1)), (2, .int (sgI (mx_t g k).2)), (3, .int (Int32.ofNat (k + 1)))] [.int (sgI (g (k + 1)))] h = jb_128 rc d 8 [(0, .ref 336), (1, .int (Int32.ofNat (mx_t g (k + 1)).1)), (2, .int (sgI (mx_t g (k + 1)).2)), (3, .int (Int32.ofNat (k + 2)))] [] h := by
  have n0 := mx_t_ne h0 k
  have z0 : ∀ x : Int32, x + 0 = x := Int32.add_zero
  have s0 : ∀ {x : Int}, x ≠ 0 → sgI x ≠ 0 := fun {x} hx => by
    unfold sgI
    split
    · decide
    · decide
  rw [je_128_43]
  by_cases z : g (k + 1) = 0
  · rw [show mx_t g (k + 1) = mx_t g k from if_pos z, z, if_pos (show sgI 0 = 0 by decide), if_pos (show sgI 0 = 0 by decide), z0, jk_succ]
  · have e : mx_t g (k + 1) = (if (mx_t g k).2 * g (k + 1) < 0 then (mx_t g k).1 + 1 else (mx_t g k).1, g (k + 1)) := if_neg z
    rw [if_neg (s0 z), e]
    by_cases y : sgI (g (k + 1)) = sgI (mx_t g k).2
    · rw [if_pos y, if_neg (s0 z), z0, jk_succ]
      try dsimp only
      rw [if_neg (fun w => (sg_mul n0 z).mp w y)]
    · rw [if_neg y, if_neg (s0 z), jk_succ, jk_succ]
      try dsimp only
      rw [if_pos ((sg_mul n0 z).mpr y)]
theorem rr_sg (d : Nat) {x : Int} (h1 : -(2 ^ 62) ≤ x) (h2 : x ≤ 2 ^ 62) {l : List (Nat × Value)} {h : jxH} : (if (lg_cmp (Int64.ofInt x) (0 : Int64)) ≤ 0 then
        if 0 ≤ (lg_cmp (Int64.ofInt x) (0 : Int64)) then
          jb_128 rc d 43 l [.int (0 : Int32)] h
        else
          jb_128 rc d 43 l [.int (-1 : Int32)] h
      else
        jb_128 rc d 43 l [.int (1 : Int32)] h) = jb_128 rc d 43 l [.int (sgI x)] h := by
  unfold sgI
  by_cases a : x ≤ 0
  · rw [if_pos ((lI_le h1 h2).mpr a)]
    by_cases b : 0 ≤ x
    · rw [if_pos ((lI_ge h1 h2).mpr b), if_neg (by omega), if_pos (by omega)]
    · rw [if_neg (fun q => b ((lI_ge h1 h2).mp q)), if_pos (by omega)]
  · rw [if_neg (fun q => a ((lI_le h1 h2).mp q)), if_neg (by omega), if_neg (by omega)]
theorem rr_above_l (R : RSt h σ) (A : AWt σ) {g : Nat → Int64} (Hg : jx_at h 384 = jxL 13 g) (hg : ∀ k, k < 13 → g k = Int64.ofInt (iE (sF σ) k)) (d : Nat) : ∀ (m k : Nat), k + m = bc (sF σ).2.2 → jb_128 rc (d + 2) 8 [(0, .ref 336), (1, .int (Int32.ofNat (mx_t (mx_al (iE (sF σ))) k).1)), (2, .int (sgI (mx_t (mx_al (iE (sF σ))) k).2)), (3, .int (Int32.ofNat (k + 1)))] [] h = some (some (.int (Int32.ofNat (iAb (sF σ)))), h)
  | 0, k, e => by
    have b12 := bc_le (sF σ).2.2
    rw [je_128_8, R.g1, jk_bs, ro_0 R.F, jk_bs, rf_many, jk_cI, if_pos (by rw [jk_lt (by omega) (by omega)]; omega)]
    unfold iAb
    rw [← e]; rfl
  | m + 1, k, e => by
    have b12 := bc_le (sF σ).2.2
    have ih := rr_above_l R A Hg hg d m (k + 1) (by omega)
    have h0 : mx_al (iE (sF σ)) 0 ≠ 0 := by
      unfold mx_al iE
      rw [mx_e_0]; decide
    obtain ⟨x1, x2⟩ := iE_bd A.W (k + 1)
    rw [je_128_8, R.g1, jk_bs, ro_0 R.F, jk_bs, rf_many, jk_cI, if_neg (by rw [jk_lt (by omega) (by omega)]; omega), if_neg (by decide)]
    by_cases ev : (k + 1) % 2 = 0
    · rw [if_pos ((jk_half (k + 1) (by omega)).mpr ev), R.g8, jk_bs, Hg, jk_aL (by omega) (by decide), jk_bs, hg _ (by omega), rr_sg (d + 2) x1 x2]
      have := rr_above_43 (rc := rc) (d + 2) h0 (k := k) (h := h)
      rw [mx_al_ev _ ev] at this
      rw [this]
      exact ih
    · rw [if_neg (fun q => ev ((jk_half (k + 1) (by omega)).mp q)), R.g8, jk_bs, Hg, jk_aL (by omega) (by decide), jk_bs, hg _ (by omega), ← Int64.ofInt_neg, rr_sg (d + 2) (by omega) (by omega)]
      have := rr_above_43 (rc := rc) (d + 2) h0 (k := k) (h := h)
      rw [mx_al_od _ ev] at this
      rw [this]
      exact ih
theorem rr_above (R : RSt h σ) (A : AWt σ) : ∃ h', (∀ d, jx_C rc (d + 6) 128 [.ref 336] h = some (some (.int (Int32.ofNat (iAb (sF σ)))), h')) ∧ RSt h' σ ∧ rF h h' := by
  obtain ⟨h1, g, r1, r2, r3, r4, r5⟩ := rr_layTerms (rc := rc) R A
  refine ⟨h1, fun d => ?_, r4, r5⟩
  rw [je_128, if_pos R.is, r1, jk_cV]
  have h0 : mx_al (iE (sF σ)) 0 = 1 := by
    unfold mx_al iE
    rw [mx_e_0]; rfl
  have := rr_above_l (rc := rc) r4 A r2 r3 (d + 3) (bc (sF σ).2.2) 0 (by omega)
  rw [show (mx_t (mx_al (iE (sF σ))) 0) = (0, mx_al (iE (sF σ)) 0) from rfl, h0] at this
  exact this
theorem rr_noughts_l (R : RSt h σ) (A : AWt σ) {g : Nat → Int64} (Hg : jx_at h 384 = jxL 13 g) (hg : ∀ k, k < 13 → g k = Int64.ofInt (iE (sF σ) k)) (d : Nat) : ∀ (m n : Nat), n + m = bc (sF σ).2.2 → jb_129 rc (d + 2) 4 [(0, .ref 336), (1, .int (Int32.ofNat n))] [] h = some (some (.int (Int32.ofNat (iNo (sF σ) m n))), h)
  | 0, n, e => by
    have b12 := bc_le (sF σ).2.2
    rw [je_129_4, R.g1, jk_bs, ro_0 R.F, jk_bs, rf_many, jk_cI, if_pos (by rw [jk_le (by omega) (by omega)]; omega)]
    rfl
  | m + 1, n, e => by
    have b12 := bc_le (sF σ).2.2
    obtain ⟨x1, x2⟩ := iE_bd A.W (bc (sF σ).2.2 - n)
    rw [je_129_4, R.g1, jk_bs, ro_0 R.F, jk_bs, rf_many, jk_cI, if_neg (by rw [jk_le (by omega) (by omega)]; omega), R.g8, jk_bs, R.g1, jk_bs, ro_0 R.F, jk_bs, rf_many, jk_cI, jk_subN (by omega), Hg, jk_aL (by omega) (by decide), jk_bs, hg _ (by omega)]
    by_cases z : iE (sF σ) (bc (sF σ).2.2 - n) = 0
    · rw [if_pos ((lI_0 x1 x2).mpr z), jk_succ, rr_noughts_l R A Hg hg d m (n + 1) (by omega), show iNo (sF σ) (m + 1) n = iNo (sF σ) m (n + 1) from if_pos z]
    · rw [if_neg (fun q => z ((lI_0 x1 x2).mp q)), show iNo (sF σ) (m + 1) n = n from if_neg z]
theorem rr_noughts (R : RSt h σ) (A : AWt σ) : ∃ h', (∀ d, jx_C rc (d + 6) 129 [.ref 336] h = some (some (.int (Int32.ofNat (iNo (sF σ) (bc (sF σ).2.2) 0))), h')) ∧ RSt h' σ ∧ rF h h' := by
  obtain ⟨h1, g, r1, r2, r3, r4, r5⟩ := rr_layTerms (rc := rc) R A
  refine ⟨h1, fun d => ?_, r4, r5⟩
  rw [je_129, if_pos R.is, r1, jk_cV]
  exact rr_noughts_l (rc := rc) r4 A r2 r3 (d + 3) (bc (sF σ).2.2) 0 (by omega)
/-- what inertia answers: above, below, none -/
def iIn (f : jF) (x : Int32) : Int32 := if x = 0 then Int32.ofNat (iAb f) else if x = 2 then Int32.ofNat (iNo f (bc f.2.2) 0) else Int32.ofNat (bc f.2.2) - Int32.ofNat (iAb f) - Int32.ofNat (iNo f (bc f.2.2) 0)
theorem rr_inertiaOf (R : RSt h σ) (A : AWt σ) (x : Int32) : ∃ h', (∀ d, jx_C rc (d + 7) 130 [.ref 336, .int x] h = some (some (.int (iIn (sF σ) x)), h')) ∧ RSt h' σ ∧ rF h h' := by
  obtain ⟨h1, r1, r2, r3⟩ := rr_above (rc := rc) R A
  obtain ⟨h2, s1, s2, s3⟩ := rr_noughts (rc := rc) r2 A
  refine ⟨h2, fun d => ?_, s2, r3.trans s3⟩
  rw [je_130, if_pos R.is, r1, jk_cI, s1, jk_cI]
  unfold iIn
  by_cases a : x = 0
  · rw [if_pos a, if_pos a]
  · rw [if_neg a, if_neg a]
    by_cases b : x = 2
    · rw [if_pos b, if_pos b]
    · rw [if_neg b, if_neg b, s2.g1, jk_bs, ro_0 s2.F, jk_bs, rf_many, jk_cI]
def op_inertia (σ : jSt) (x : Int32) : Int32 × jSt := if jp_hi x 2 = true then (iIn (sF σ) x, σ) else er σ 1
theorem rr_inertia (R : RSt h σ) (A : AWt σ) (x : Int32) : ∃ h', (∀ d, jx_C rc (d + 20) 131 [.ref 336, .int x] h = some (some (.int (op_inertia σ x).1), h')) ∧ RSt h' (op_inertia σ x).2 ∧ rF h h' := by
  unfold op_inertia
  have ej : jp_bt x.toInt64 0 2 = jp_hi x 2 := jp_bt_hi x 2
  by_cases c : jp_hi x 2 = true
  · rw [if_pos c]
    obtain ⟨h1, r1, r2, r3⟩ := rr_inertiaOf (rc := rc) R A x
    refine ⟨h1, fun d => ?_, r2, r3⟩
    rw [je_131, if_pos R.is, rf_in, jk_cI, jk_if0, ej, if_pos c, r1, jk_cI]
  · rw [if_neg c]
    obtain ⟨e', e1, e2, e3⟩ := rr_error (rc := rc) R A (k := 1) (by decide) (K := 1) rfl
    refine ⟨e', fun d => ?_, e2, e3⟩
    rw [je_131, if_pos R.is, rf_in, jk_cI, jk_if0, ej, if_neg c, e1, jk_cI]
theorem aa_inertia (A : AWt σ) (x : Int32) : AWt (op_inertia σ x).2 := by
  unfold op_inertia
  split
  · exact A
  · exact aa_er A
end
