/-! INERTIA, KERNEL: the class's walk from the last place to the first -/
/-- the reckoner with its fields: upper, lower, the two of wu; the paired, above, below, none -/
abbrev soV := Int64 × Int64 × Int32 × Int32
def so_o (a : Nat) (v : soV) (pa ab be ze : Int32) : jxE := jxO 2 [.ref (a + 1), .ref (a + 5), .ref (a + 6), .ref (a + 7), .long v.1, .long v.2.1, .int pa, .int ab, .int be, .int ze, .int v.2.2.1, .int v.2.2.2]
/-- the run over longs: tops, rests, the paired, above, below, none -/
abbrev sgS := (Nat → Int64) × (Nat → Int64) × Int32 × Int32 × Int32 × Int32
def so_at (h : jxH) (a : Nat) (v : soV) (s : sgS) : Prop := jx_at h a = so_o a v s.2.2.1 s.2.2.2.1 s.2.2.2.2.1 s.2.2.2.2.2 ∧ rk_T h a s.1 s.2.1
def sgIs (s : sgS) (p : Nat) : Bool := decide (lg_cmp (s.1 p) 0 ≤ 0) == decide (lg_cmp (s.2.1 p) 0 ≤ 0)
def sg_n (lf : Int64 → Int64) (par : Nat → Option Nat) (s : sgS) (p : Nat) : (Nat → Int64) × (Nat → Int64) :=
  match par p with
  | none => (s.1, s.2.1)
  | some q => (vp_updL s.1 q (lf (s.1 q * s.1 p - s.2.1 q * s.2.1 p)), vp_updL s.2.1 q (lf (s.2.1 q * s.1 p)))
def sg_s (lf : Int64 → Int64) (par : Nat → Option Nat) (p : Nat) (s : sgS) : sgS :=
  if bt s.2.2.1 p = true then (s.1, s.2.1, s.2.2.1, s.2.2.2.1 + 1, s.2.2.2.2.1 + 1, s.2.2.2.2.2)
  else if lg_cmp (s.1 p) 0 = 0 then
    match par p with
    | none => (s.1, s.2.1, s.2.2.1, s.2.2.2.1, s.2.2.2.2.1, s.2.2.2.2.2 + 1)
    | some q => if bt s.2.2.1 q = true then (s.1, s.2.1, s.2.2.1, s.2.2.2.1, s.2.2.2.2.1, s.2.2.2.2.2 + 1) else (s.1, s.2.1, s.2.2.1 ||| jk_bit q, s.2.2.2.1, s.2.2.2.2.1, s.2.2.2.2.2)
  else ((sg_n lf par s p).1, (sg_n lf par s p).2, s.2.2.1, s.2.2.2.1 + (if sgIs s p = true then 1 else 0), s.2.2.2.2.1 + (if sgIs s p = true then 0 else 1), s.2.2.2.2.2)
def sg_r (lf : Int64 → Int64) (o : Nat → Nat) (par : Nat → Option Nat) : Nat → sgS → sgS
  | 0, s => s
  | n + 1, s => sg_r lf o par n (sg_s lf par (o n) s)
def jSo (a : Nat) : Nat → Prop := fun x => x = a ∨ x = a + 5 ∨ x = a + 6
section
variable {rc : Nat → Nat × (Nat → Int32)} {h h' : jxH} {a b : Nat} {f : jF} {v : soV} {s : sgS}
theorem so_O (H : so_at h a v s) : rk_O h a := ⟨_, _, _, _, _, _, _, _, H.1⟩
theorem so_is (H : so_at h a v s) : jx_is (jx_at h a) 2 = true := by rw [H.1]; rfl
theorem so_g6 (H : so_at h a v s) : jx_gI (jx_at h a) 2 6 = some s.2.2.1 := by rw [H.1]; rfl
theorem so_g7 (H : so_at h a v s) : jx_gI (jx_at h a) 2 7 = some s.2.2.2.1 := by rw [H.1]; rfl
theorem so_g8 (H : so_at h a v s) : jx_gI (jx_at h a) 2 8 = some s.2.2.2.2.1 := by rw [H.1]; rfl
theorem so_g9 (H : so_at h a v s) : jx_gI (jx_at h a) 2 9 = some s.2.2.2.2.2 := by rw [H.1]; rfl
theorem so_mv {T R : Nat → Int64} {e : jxE} (H : rk_T h a T R) : rk_T (jx_set h a e) a T R := by
  obtain ⟨⟨g, e1, k1⟩, g', e2, k2⟩ := H
  exact ⟨⟨g, (jk_at_ne _ _ (by omega)).trans e1, k1⟩, g', (jk_at_ne _ _ (by omega)).trans e2, k2⟩
theorem so_s6 (H : so_at h a v s) (x : Int32) : ∃ e, jx_pF (jx_at h a) 2 6 (.int x) = some e ∧ so_at (jx_set h a e) a v (s.1, s.2.1, x, s.2.2.2.1, s.2.2.2.2.1, s.2.2.2.2.2) :=
  ⟨_, by rw [H.1]; rfl, jk_at_self .., so_mv H.2⟩
theorem so_s7 (H : so_at h a v s) (x : Int32) : ∃ e, jx_pF (jx_at h a) 2 7 (.int x) = some e ∧ so_at (jx_set h a e) a v (s.1, s.2.1, s.2.2.1, x, s.2.2.2.2.1, s.2.2.2.2.2) :=
  ⟨_, by rw [H.1]; rfl, jk_at_self .., so_mv H.2⟩
theorem so_s8 (H : so_at h a v s) (x : Int32) : ∃ e, jx_pF (jx_at h a) 2 8 (.int x) = some e ∧ so_at (jx_set h a e) a v (s.1, s.2.1, s.2.2.1, s.2.2.2.1, x, s.2.2.2.2.2) :=
  ⟨_, by rw [H.1]; rfl, jk_at_self .., so_mv H.2⟩
theorem so_s9 (H : so_at h a v s) (x : Int32) : ∃ e, jx_pF (jx_at h a) 2 9 (.int x) = some e ∧ so_at (jx_set h a e) a v (s.1, s.2.1, s.2.2.1, s.2.2.2.1, s.2.2.2.2.1, x) :=
  ⟨_, by rw [H.1]; rfl, jk_at_self .., so_mv H.2⟩
theorem so_0 {e : jxE} : Fr (jSo a) h (jx_set h a e) := Fr.set (Or.inl rfl)
/-- a top that is 0 -/
theorem sg_79 {lf : Int64 → Int64} (H : so_at h a v s) {par : Nat → Option Nat} {p : Nat} (hq : ∀ q, par p = some q → q < 12) (hp : bt s.2.2.1 p = false) (h0 : lg_cmp (s.1 p) 0 = 0) : ∃ h', (∀ d, jb_257 rc (d + 1) 79 [(0, .ref a), (2, .int (jk_on (par p)))] [] h = some (none, h')) ∧ so_at h' a v (sg_s lf par p s) ∧ Fr (jSo a) h h' := by
  unfold sg_s
  rw [if_neg (by rw [hp]; simp), if_pos h0]
  cases c : par p with
  | none =>
    obtain ⟨_, u1, u2⟩ := so_s9 H (s.2.2.2.2.2 + 1)
    refine ⟨_, fun d => ?_, u2, so_0⟩
    rw [je_257_79, cl_isPlace, jk_cI, show jp_place (jk_on none) = false from by decide, jk_if0, if_neg (by decide), so_g9 H, jk_bs, u1, jk_bs]
  | some q =>
    have q12 := hq q c
    have eq : jk_on (some q) = Int32.ofNat q := rfl
    dsimp only
    by_cases w : bt s.2.2.1 q = true
    · obtain ⟨_, u1, u2⟩ := so_s9 H (s.2.2.2.2.2 + 1)
      rw [if_pos w]
      refine ⟨_, fun d => ?_, u2, so_0⟩
      rw [je_257_79, cl_isPlace, jk_cI, eq, jp_place_of q12, jk_if0, if_pos rfl, so_g6 H, jk_bs, cl_isIn, jk_cI, jp_in_of q12, jk_if0, if_pos w, so_g9 H, jk_bs, u1, jk_bs]
    · obtain ⟨_, u1, u2⟩ := so_s6 H (s.2.2.1 ||| jk_bit q)
      rw [if_neg w]
      refine ⟨_, fun d => ?_, u2, so_0⟩
      rw [je_257_79, cl_isPlace, jk_cI, eq, jp_place_of q12, jk_if0, if_pos rfl, so_g6 H, jk_bs, cl_isIn, jk_cI, jp_in_of q12, jk_if0, if_neg w, so_g6 H, jk_bs]
      show (jx_pF (jx_at h a) 2 6 (.int (s.2.2.1 ||| jk_bit q))).bind _ = _
      rw [u1, jk_bs]
/-- a vertex folded into its holder, or into none -/
theorem sg_fold {pr : Int32} {lf : Int64 → Int64} (hl : ∀ (x : Int64) (d : Nat) (h : jxH), jx_C rc (d + 2) 252 [.long x, .int pr] h = some (some (.long (lf x)), h)) (H : so_at h a v s) {par : Nat → Option Nat} {p : Nat} (p12 : p < 12) (hq : ∀ q, par p = some q → q < 12 ∧ q ≠ p) : ∃ h', (∀ d, jx_C rc (d + 3) 251 [.ref a, .int (Int32.ofNat p), .int (jk_on (par p)), .int pr] h = some (none, h')) ∧ so_at h' a v ((sg_n lf par s p).1, (sg_n lf par s p).2, s.2.2.1, s.2.2.2.1, s.2.2.2.2.1, s.2.2.2.2.2) ∧ Fr (jSo a) h h' := by
  unfold sg_n
  cases c : par p with
  | none =>
    refine ⟨h, fun d => ?_, H, Fr.rfl⟩
    rw [je_251, if_pos (so_is H), cl_isPlace, jk_cI, jp_place_of p12, jk_if0, if_pos rfl, cl_isPlace, jk_cI, show jp_place (jk_on none) = false from by decide, jk_if0, if_neg (by decide)]
  | some q =>
    obtain ⟨q12, ne⟩ := hq q c
    obtain ⟨h1, r1, r2, r3, r4⟩ := rk_fold (rc := rc) hl (so_O H) H.2 p12 q12 (fun z => ne z.symm)
    exact ⟨h1, r1, ⟨(r4.2.2 a (by omega)).trans H.1, r3⟩, r4.mono (fun x hx => by unfold jSo; omega)⟩
theorem sg_61 {pr : Int32} {lf : Int64 → Int64} (hl : ∀ (x : Int64) (d : Nat) (h : jxH), jx_C rc (d + 2) 252 [.long x, .int pr] h = some (some (.long (lf x)), h)) (H : so_at h a v s) {par : Nat → Option Nat} {p : Nat} (p12 : p < 12) (hq : ∀ q, par p = some q → q < 12 ∧ q ≠ p) (is : Bool) : ∃ h', (∀ d, jb_257 rc (d + 3) 61 [(0, .ref a), (1, .int (Int32.ofNat p)), (2, .int (jk_on (par p))), (3, .int pr), (4, .int (if is = true then 1 else 0))] [.int (if is = true then 1 else 0), .int s.2.2.2.1, .ref a] h = some (none, h')) ∧ so_at h' a v ((sg_n lf par s p).1, (sg_n lf par s p).2, s.2.2.1, s.2.2.2.1 + (if is = true then 1 else 0), s.2.2.2.2.1 + (if is = true then 0 else 1), s.2.2.2.2.2) ∧ Fr (jSo a) h h' := by
  obtain ⟨eu, u1, u2⟩ := so_s7 H (s.2.2.2.1 + (if is = true then 1 else 0))
  obtain ⟨ew, w1, w2⟩ := so_s8 u2 (s.2.2.2.2.1 + (if is = true then 0 else 1))
  obtain ⟨h', r1, r2, r3⟩ := sg_fold (rc := rc) hl w2 (par := par) p12 hq
  refine ⟨h', fun d => ?_, r2, (so_0.trans so_0).trans r3⟩
  rw [je_257_61, u1, jk_bs, so_g8 u2, jk_bs]
  cases is
  · rw [if_pos (by decide)]
    have w1 : jx_pF (jx_at (jx_set h a eu) a) 2 8 (.int (s.2.2.2.2.1 + 1)) = some ew := w1
    rw [w1, jk_bs]
    have := r1 d
    exact (congrArg (fun r => jx_cV r fun h4 => some (none, h4)) this)
  · rw [if_neg (by decide)]
    have w1 : jx_pF (jx_at (jx_set h a eu) a) 2 8 (.int (s.2.2.2.2.1 + 0)) = some ew := w1
    rw [w1, jk_bs]
    have := r1 d
    exact (congrArg (fun r => jx_cV r fun h4 => some (none, h4)) this)
/-- settle() -/
theorem sg_settle {pr : Int32} {lf : Int64 → Int64} (hl : ∀ (x : Int64) (d : Nat) (h : jxH), jx_C rc (d + 2) 252 [.long x, .int pr] h = some (some (.long (lf x)), h)) (H : so_at h a v s) {par : Nat → Option Nat} {p : Nat} (p12 : p < 12) (hq : ∀ q, par p = some q → q < 12 ∧ q ≠ p) : ∃ h', (∀ d, jx_C rc (d + 4) 257 [.ref a, .int (Int32.ofNat p), .int (jk_on (par p)), .int pr] h = some (none, h')) ∧ so_at h' a v (sg_s lf par p s) ∧ Fr (jSo a) h h' := by
  cases hp : bt s.2.2.1 p
  · by_cases h0 : lg_cmp (s.1 p) 0 = 0
    · obtain ⟨h', r1, r2, r3⟩ := sg_79 (rc := rc) (lf := lf) H (par := par) (fun q e => (hq q e).1) hp h0
      refine ⟨h', fun d => ?_, r2, r3⟩
      rw [je_257, if_pos (so_is H), so_g6 H, jk_bs, cl_isIn, jk_cI, jp_in_of p12, jk_if0, if_neg (by rw [hp]; simp), cl_isPlace, jk_cI, jp_place_of p12, jk_if0, if_pos rfl, rk_g1 (so_O H), jk_bs, rk_t H.2 p12, jk_bs, if_pos h0]
      exact r1 (d + 2)
    · obtain ⟨h', r1, r2, r3⟩ := sg_61 (rc := rc) hl H (par := par) p12 hq (sgIs s p)
      have es : sg_s lf par p s = ((sg_n lf par s p).1, (sg_n lf par s p).2, s.2.2.1, s.2.2.2.1 + (if sgIs s p = true then 1 else 0), s.2.2.2.2.1 + (if sgIs s p = true then 0 else 1), s.2.2.2.2.2) := by
        unfold sg_s
        rw [if_neg (by rw [hp]; simp), if_neg h0]
      rw [es]
      refine ⟨h', fun d => ?_, r2, r3⟩
      have r1 := r1 d
      rw [je_257, if_pos (so_is H), so_g6 H, jk_bs, cl_isIn, jk_cI, jp_in_of p12, jk_if0, if_neg (by rw [hp]; simp), cl_isPlace, jk_cI, jp_place_of p12, jk_if0, if_pos rfl, rk_g1 (so_O H), jk_bs, rk_t H.2 p12, jk_bs, if_neg h0, jk_bs, rk_t H.2 p12, jk_bs]
      unfold sgIs at r1
      by_cases c1 : lg_cmp (s.1 p) 0 ≤ 0 <;> by_cases c2 : lg_cmp (s.2.1 p) 0 ≤ 0
      · rw [if_pos c1, je_257_38, rk_g2 (so_O H), jk_bs, rk_r H.2 p12, jk_bs, if_pos c2, if_pos rfl, so_g7 H, jk_bs, if_neg (by decide)]
        rw [decide_eq_true c1, decide_eq_true c2] at r1
        exact r1
      · rw [if_pos c1, je_257_38, rk_g2 (so_O H), jk_bs, rk_r H.2 p12, jk_bs, if_neg c2, if_neg (by decide), so_g7 H, jk_bs, if_pos rfl]
        rw [decide_eq_true c1, decide_eq_false c2] at r1
        exact r1
      · rw [if_neg c1, je_257_38, rk_g2 (so_O H), jk_bs, rk_r H.2 p12, jk_bs, if_pos c2, if_neg (by decide), so_g7 H, jk_bs, if_pos rfl]
        rw [decide_eq_false c1, decide_eq_true c2] at r1
        exact r1
      · rw [if_neg c1, je_257_38, rk_g2 (so_O H), jk_bs, rk_r H.2 p12, jk_bs, if_neg c2, if_pos rfl, so_g7 H, jk_bs, if_neg (by decide)]
        rw [decide_eq_false c1, decide_eq_false c2] at r1
        exact r1
  · have es : sg_s lf par p s = (s.1, s.2.1, s.2.2.1, s.2.2.2.1 + 1, s.2.2.2.2.1 + 1, s.2.2.2.2.2) := by unfold sg_s; rw [if_pos hp]
    obtain ⟨_, u1, u2⟩ := so_s7 H (s.2.2.2.1 + 1)
    obtain ⟨_, w1, w2⟩ := so_s8 u2 (s.2.2.2.2.1 + 1)
    rw [es]
    refine ⟨_, fun d => ?_, w2, so_0.trans so_0⟩
    rw [je_257, if_pos (so_is H), so_g6 H, jk_bs, cl_isIn, jk_cI, jp_in_of p12, jk_if0, if_pos hp, so_g7 H, jk_bs, u1, jk_bs, so_g8 u2, jk_bs, w1, jk_bs]
theorem sg_l {pr : Int32} {lf : Int64 → Int64} (hl : ∀ (x : Int64) (d : Nat) (h : jxH), jx_C rc (d + 2) 252 [.long x, .int pr] h = some (some (.long (lf x)), h)) {set : Int32} {o : Nat → Nat} {par : Nat → Option Nat} {dep : Nat → Nat} {sz : Nat} (K : wk_O f set o par sz) : ∀ (n : Nat) (h : jxH) (s : sgS), n ≤ 12 → so_at h a v s → wk_at h (a + 1) o par dep sz set → ∃ h', (∀ d, jb_256 rc (d + 4) 24 [(0, .ref a), (2, .int pr), (3, .int (Int32.ofNat n + (-1)))] [] h = some (none, h')) ∧ so_at h' a v (sg_r lf o par (min n sz) s) ∧ wk_at h' (a + 1) o par dep sz set ∧ Fr (jSo a) h h'
  | 0, h, s, hn, H, W => by
    refine ⟨h, fun d => ?_, by rw [Nat.zero_min]; exact H, W, Fr.rfl⟩
    rw [je_256_24, if_pos (by decide)]
  | n + 1, h, s, hn, H, W => by
    obtain ⟨a1, a2, a3, a4, a5, a6⟩ := id K
    have s12 : sz ≤ 12 := by have := bc_le set; omega
    by_cases q : n < sz
    · obtain ⟨p12, ps⟩ := a2 n q
      obtain ⟨h1, r1, r2, r3⟩ := sg_settle (rc := rc) hl H (par := par) p12 (fun x e => by
        obtain ⟨j, j1, j2, -⟩ := a5 n q x e
        exact ⟨by rw [← j2]; exact (a2 j (by omega)).1, fun z => by have := a4 j n (by omega) q (j2.trans z); omega⟩)
      have W1 := wk_at_fr r3 (fun x x1 x2 => by unfold jSo; omega) W
      obtain ⟨h2, t1, t2, t3, t4⟩ := sg_l hl K n h1 _ (by omega) r2 W1
      refine ⟨h2, fun d => ?_, ?_, t3, r3.trans t4⟩
      · rw [je_256_24, jk_dec, if_neg (jk_nn (by omega)), rk_g0 (so_O H), jk_bs, wk_placeAt W s12 (by omega), jk_cI, if_pos q, cl_isPlace, jk_cI, jp_place_of p12, jk_if0, if_pos rfl, rk_g0 (so_O H), jk_bs, wk_holderOf W p12 ps, jk_cI, r1, jk_cV]
        exact t1 d
      · rw [show min (n + 1) sz = n + 1 by omega]
        rw [show min n sz = n by omega] at t2
        exact t2
    · obtain ⟨h2, t1, t2, t3, t4⟩ := sg_l hl K n h s (by omega) H W
      refine ⟨h2, fun d => ?_, ?_, t3, t4⟩
      · rw [je_256_24, jk_dec, if_neg (jk_nn (by omega)), rk_g0 (so_O H), jk_bs, wk_placeAt W s12 (by omega), jk_cI, if_neg q, cl_isPlace, jk_cI, show jp_place (-1) = false from by decide, jk_if0, if_neg (by decide)]
        exact t1 d
      · rw [show min (n + 1) sz = sz by omega]
        rw [show min n sz = sz by omega] at t2
        exact t2
/-- sortSigns() -/
theorem sg_sort {pr : Int32} {lf : Int64 → Int64} (hl : ∀ (x : Int64) (d : Nat) (h : jxH), jx_C rc (d + 2) 252 [.long x, .int pr] h = some (some (.long (lf x)), h)) (K : rk_ok h a) (G : fo_at h b f) (W : jf_W f) (hab : b + 3 ≤ a ∨ a + 8 ≤ b) : ∃ h' o par sz v s, (∀ d, jx_C rc (d + 5) 256 [.ref a, .ref b, .int pr] h = some (none, h')) ∧ wk_O f f.2.2 o par sz ∧ s = sg_r lf o par sz ((fun p => lf (f.1 p).toInt64), (fun _ => 1), 0, 0, 0, 0) ∧ so_at h' a v s ∧ rk_ok h' a ∧ Fr (jI a 8) h h' := by
  obtain ⟨O, w, ⟨t1, t2⟩, ⟨t3, t4⟩, t5, t6⟩ := K
  have hset : ∀ x, bt f.2.2 x = true → x < 12 ∧ bt f.2.2 x = true := fun x hx => by
    refine ⟨?_, hx⟩
    apply Classical.byContradiction; intro z
    rw [W.1.s x (by omega)] at hx; cases hx
  obtain ⟨h1, o, par, dep, sz, s1, s2, s3, s4⟩ := wk_over (rc := rc) w G W (by omega) hset
  have ea : jx_at h1 a = jx_at h a := s4.2.2 a (fun z => by unfold jI at z; omega)
  obtain ⟨u, l, i1, i2, i3, i4, i5, i6, eo⟩ := O
  have O1 : rk_O h1 a := ⟨u, l, i1, i2, i3, i4, i5, i6, ea.trans eo⟩
  have K1 : rk_T h1 a t1 t3 := ⟨⟨t1, (s4.2.2 _ (fun z => by unfold jI at z; omega)).trans t2, fun _ _ => rfl⟩, t3, (s4.2.2 _ (fun z => by unfold jI at z; omega)).trans t4, fun _ _ => rfl⟩
  have G1 := fo_fr s4 (fun x q1 q2 z => by unfold jI at z; omega) G
  obtain ⟨h2, u1, u2, u3, u4⟩ := rk_start (rc := rc) hab hl O1 G1 K1
  have H2 := wk_at_fr u4 (fun x q1 q2 => by omega) s2
  have S2 : so_at h2 a (u, l, i5, i6) ((fun p => lf (f.1 p).toInt64), (fun _ => 1), i1, i2, i3, i4) := ⟨(u4.2.2 a (by omega)).trans (ea.trans eo), u3⟩
  obtain ⟨e6, p1, p2⟩ := so_s6 S2 0
  have p2 : so_at (jx_set h2 a e6) a (u, l, i5, i6) ((fun p => lf (f.1 p).toInt64), (fun _ => 1), 0, i2, i3, i4) := p2
  obtain ⟨e7, q1, q2⟩ := so_s7 p2 0
  have q2 : so_at (jx_set (jx_set h2 a e6) a e7) a (u, l, i5, i6) ((fun p => lf (f.1 p).toInt64), (fun _ => 1), 0, 0, i3, i4) := q2
  obtain ⟨e8, r1, r2⟩ := so_s8 q2 0
  have r2 : so_at (jx_set (jx_set (jx_set h2 a e6) a e7) a e8) a (u, l, i5, i6) ((fun p => lf (f.1 p).toInt64), (fun _ => 1), 0, 0, 0, i4) := r2
  obtain ⟨e9, x1, x2⟩ := so_s9 r2 0
  have x2 : so_at (jx_set (jx_set (jx_set (jx_set h2 a e6) a e7) a e8) a e9) a (u, l, i5, i6) ((fun p => lf (f.1 p).toInt64), (fun _ => 1), 0, 0, 0, 0) := x2
  have F3 : Fr (jSo a) h2 (jx_set (jx_set (jx_set (jx_set h2 a e6) a e7) a e8) a e9) := so_0.trans (so_0.trans (so_0.trans so_0))
  obtain ⟨h4, y1, y2, y3, y4⟩ := sg_l (rc := rc) hl s3 12 _ _ (by omega) x2 (wk_at_fr F3 (fun x a b => by unfold jSo; omega) H2)
  have F : Fr (jI a 8) h h4 := (((s4.mono (fun x hx => by unfold jI at *; omega)).trans (u4.mono (fun x hx => by unfold jI; omega))).trans (F3.mono (fun x hx => by unfold jSo at hx; unfold jI; omega))).trans (y4.mono (fun x hx => by unfold jSo at hx; unfold jI; omega))
  have hsz : min 12 sz = sz := by have := bc_le f.2.2; have := s3.1; omega
  rw [hsz] at y2
  refine ⟨h4, o, par, sz, (u, l, i5, i6), _, fun d => ?_, s3, rfl, y2, ?_, F⟩
  · have y1 := y1 d
    rw [show Int32.ofNat 12 + (-1) = (11 : Int32) from by decide] at y1
    rw [je_256, if_pos (rk_is ⟨u, l, i1, i2, i3, i4, i5, i6, eo⟩), rk_g0 ⟨u, l, i1, i2, i3, i4, i5, i6, eo⟩, jk_bs, fo_g2 G, jk_bs, s1, jk_cV, u1, jk_cV, p1, jk_bs, q1, jk_bs, r1, jk_bs, x1, jk_bs]
    exact y1
  · obtain ⟨e0, ⟨g5, e5, -⟩, g6, e6, -⟩ := y2
    refine ⟨⟨_, _, _, _, _, _, _, _, e0⟩, wk_okof y3, ⟨g5, e5⟩, ⟨g6, e6⟩, t5, ?_⟩
    have f7 : jx_at h4 (a + 7) = jx_at h (a + 7) := by
      rw [y4.2.2 _ (by unfold jSo; omega), F3.2.2 _ (by unfold jSo; omega), u4.2.2 _ (by omega), s4.2.2 _ (fun z => by unfold jI at z; omega)]
    exact f7.trans t6
end
