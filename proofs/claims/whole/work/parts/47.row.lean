/-! The reference's rows of 25 ints: what its static methods answer and leave -/
section
variable {rc : Nat → Nat × (Nat → Int32)} {h : jxH} {b : Nat} {f g : jF}
theorem Fr.one {h : jxH} {a : Nat} {e : jxE} : Fr (fun x => x = a) h (jx_set h a e) := Fr.set (Eq.refl a)
theorem Fr.one' {h h1 : jxH} {a : Nat} {e : jxE} (F : Fr (fun x => x = a) h h1) : Fr (fun x => x = a) h (jx_set h1 a e) := F.cons (Eq.refl a)
def ro_at (h : jxH) (b : Nat) (f : jF) : Prop := ∃ R : Nat → Int32, jx_at h b = jxI 0 25 R ∧ R 0 = f.2.2 ∧ (∀ k, k < 12 → R (1 + k) = f.1 k) ∧ ∀ k, k < 12 → R (13 + k) = f.2.1 k
theorem ro_congr (H : ro_at h b f) (h1 : ∀ k, k < 12 → f.1 k = g.1 k) (h2 : ∀ k, k < 12 → f.2.1 k = g.2.1 k) (h3 : f.2.2 = g.2.2) : ro_at h b g := by
  obtain ⟨R, r1, r2, r3, r4⟩ := H
  exact ⟨R, r1, r2.trans h3, fun k hk => (r3 k hk).trans (h1 k hk), fun k hk => (r4 k hk).trans (h2 k hk)⟩
theorem ro_fr {P : Nat → Prop} {h' : jxH} (F : Fr P h h') (hP : ¬ P b) (H : ro_at h b f) : ro_at h' b f := by
  obtain ⟨R, r1, r⟩ := H
  exact ⟨R, (F.2.2 b hP).trans r1, r⟩
theorem jk_a1 (k : Nat) : (1 : Int32) + Int32.ofNat k = Int32.ofNat (1 + k) := by rw [Int32.ofNat_add]; rfl
theorem jk_a13 (k : Nat) : (13 : Int32) + Int32.ofNat k = Int32.ofNat (13 + k) := by rw [Int32.ofNat_add]; rfl
theorem ro_0 (H : ro_at h b f) : jx_aI (jx_at h b) 0 0 = some f.2.2 := by
  obtain ⟨R, r1, r2, r3, r4⟩ := H
  rw [r1, show (0 : Int32) = Int32.ofNat 0 from rfl, jk_aI (by decide) (by decide), r2]
theorem ro_w (H : ro_at h b f) {k : Nat} (hk : k < 12) : jx_aI (jx_at h b) 0 (1 + Int32.ofNat k) = some (f.1 k) := by
  obtain ⟨R, r1, r2, r3, r4⟩ := H
  rw [r1, jk_a1, jk_aI (by omega) (by decide), r3 k hk]
theorem ro_n (H : ro_at h b f) {k : Nat} (hk : k < 12) : jx_aI (jx_at h b) 0 (13 + Int32.ofNat k) = some (f.2.1 k) := by
  obtain ⟨R, r1, r2, r3, r4⟩ := H
  rw [r1, jk_a13, jk_aI (by omega) (by decide), r4 k hk]
theorem ro_s0 (H : ro_at h b f) (x : Int32) : ∃ e, jx_sI (jx_at h b) 0 0 x = some e ∧ ro_at (jx_set h b e) b (f.1, f.2.1, x) := by
  obtain ⟨R, r1, r2, r3, r4⟩ := H
  refine ⟨jxI 0 25 (upd R 0 x), by rw [r1, show (0 : Int32) = Int32.ofNat 0 from rfl, jk_sI (by decide) (by decide)], upd R 0 x, jk_at_self .., upd_at .., fun k hk => ?_, fun k hk => ?_⟩
  · rw [upd_ne _ _ (by omega)]; exact r3 k hk
  · rw [upd_ne _ _ (by omega)]; exact r4 k hk
theorem ro_sw (H : ro_at h b f) {k : Nat} (hk : k < 12) (x : Int32) : ∃ e, jx_sI (jx_at h b) 0 (1 + Int32.ofNat k) x = some e ∧ ro_at (jx_set h b e) b (upd f.1 k x, f.2) := by
  obtain ⟨R, r1, r2, r3, r4⟩ := H
  refine ⟨jxI 0 25 (upd R (1 + k) x), by rw [r1, jk_a1, jk_sI (by omega) (by decide)], upd R (1 + k) x, jk_at_self .., ?_, fun j hj => ?_, fun j hj => ?_⟩
  · rw [upd_ne _ _ (by omega)]; exact r2
  · show _ = upd f.1 k x j
    by_cases q : j = k
    · rw [q, upd_at, upd_at]
    · rw [upd_ne _ _ (by omega), upd_ne _ _ q]; exact r3 j hj
  · rw [upd_ne _ _ (by omega)]; exact r4 j hj
theorem ro_sn (H : ro_at h b f) {k : Nat} (hk : k < 12) (x : Int32) : ∃ e, jx_sI (jx_at h b) 0 (13 + Int32.ofNat k) x = some e ∧ ro_at (jx_set h b e) b (f.1, upd f.2.1 k x, f.2.2) := by
  obtain ⟨R, r1, r2, r3, r4⟩ := H
  refine ⟨jxI 0 25 (upd R (13 + k) x), by rw [r1, jk_a13, jk_sI (by omega) (by decide)], upd R (13 + k) x, jk_at_self .., ?_, fun j hj => ?_, fun j hj => ?_⟩
  · rw [upd_ne _ _ (by omega)]; exact r2
  · rw [upd_ne _ _ (by omega)]; exact r3 j hj
  · show _ = upd f.2.1 k x j
    by_cases q : j = k
    · rw [q, upd_at, upd_at]
    · rw [upd_ne _ _ (by omega), upd_ne _ _ q]; exact r4 j hj
-- copies()
theorem ro_copies_l {a : Nat} {R : Nat → Int32} (hab : a ≠ b) : ∀ (m k : Nat) (h : jxH) (T : Nat → Int32), k + m = 25 → jx_at h a = jxI 0 25 R → jx_at h b = jxI 0 25 T → (∀ j, j < k → T j = R j) → ∃ h', (∀ d, jb_74 rc d 2 [(0, .ref a), (1, .ref b), (2, .int (Int32.ofNat k))] [] h = some (none, h')) ∧ (∃ T', jx_at h' b = jxI 0 25 T' ∧ ∀ j, j < 25 → T' j = R j) ∧ Fr (fun x => x = b) h h'
  | 0, k, h, T, e, HR, HT, hT => by
    obtain rfl : k = 25 := by omega
    exact ⟨h, fun d => by rw [je_74_2]; rfl, ⟨T, HT, hT⟩, Fr.rfl⟩
  | m + 1, k, h, T, e, HR, HT, hT => by
    obtain ⟨h', i1, i2, i3⟩ := ro_copies_l hab m (k + 1) (jx_set h b (jxI 0 25 (upd T k (R k)))) (upd T k (R k)) (by omega) (by rw [jk_at_ne _ _ hab]; exact HR) (jk_at_self ..) (fun j hj => by
      by_cases q : j = k
      · rw [q, upd_at]
      · rw [upd_ne _ _ q]; exact hT j (by omega))
    refine ⟨h', fun d => ?_, i2, Fr.one.trans i3⟩
    rw [je_74_2, if_neg (by rw [show (25 : Int32) = Int32.ofNat 25 from rfl, jk_le (by decide) (by omega)]; omega), HR, jk_aI (by omega) (by decide), jk_bs, HT, jk_sI (by omega) (by decide), jk_bs, jk_succ]
    exact i1 d
theorem ro_copies {a : Nat} (hab : a ≠ b) (H : ro_at h a f) (G : ro_at h b g) : ∃ h', (∀ d, jx_C rc (d + 1) 74 [.ref a, .ref b] h = some (none, h')) ∧ ro_at h' b f ∧ Fr (fun x => x = b) h h' := by
  obtain ⟨R, r1, r2, r3, r4⟩ := H
  obtain ⟨T, t1, t2⟩ := G
  obtain ⟨h', i1, ⟨T', i2, i3⟩, i4⟩ := ro_copies_l (rc := rc) hab 25 0 h T (by omega) r1 t1 (fun j hj => by omega)
  refine ⟨h', fun d => ?_, ⟨T', i2, (i3 0 (by decide)).trans r2, fun k hk => (i3 _ (by omega)).trans (r3 k hk), fun k hk => (i3 _ (by omega)).trans (r4 k hk)⟩, i4⟩
  rw [je_74]; exact i1 d
theorem rf_isThere (H : ro_at h b f) (p : Int32) (d : Nat) : jx_C rc (d + 2) 78 [.ref b, .int p] h = some (some (.int (jk_b (jF_has f p))), h) := by
  rw [je_78, rf_in, jk_cI, jk_if0, jp_bt_place]
  unfold jp_place jF_has
  split
  · rfl
  · split
    · rfl
    · obtain ⟨k, hk, rfl⟩ := jk_place (by assumption) (by assumption)
      rw [if_pos rfl, ro_0 H, jk_bs, rf_has _ _ (by omega), jk_cI, jk_if0, jk_cl (by omega)]
      cases bt f.2.2 k <;> rfl
theorem rf_isWeight (w : Int32) (d : Nat) : jx_C rc (d + 2) 80 [.int w] h = some (some (.int (jk_b (jp_wt w))), h) := by
  rw [je_80, rf_in, jk_cI, jp_bt_wt, if_pos (jk_bb _)]
theorem rf_comes (H : ro_at h b f) {k : Nat} (hk : lo (f.2.2 ^^^ (-1)) = some k) (hz : f.2.1 k = 0) (x : Int32) : ∃ h', (∀ d, jx_C rc (d + 3) 81 [.ref b, .int x] h = some (some (.int (Int32.ofNat k)), h')) ∧ ro_at h' b (jf_grow f k x) ∧ Fr (fun x => x = b) h h' := by
  obtain ⟨h12, -, -⟩ := lo_not hk
  obtain ⟨e1, i1, j1⟩ := ro_s0 H (f.2.2 ||| jk_bit k)
  obtain ⟨e2, i2, j2⟩ := ro_sw j1 h12 x
  obtain ⟨e3, i3, j3⟩ := ro_sn j2 h12 0
  refine ⟨_, fun d => ?_, ro_congr j3 (fun _ _ => rfl) (fun j hj => ?_) rfl, Fr.one.one'.one'⟩
  · rw [je_81, ro_0 H, jk_bs, rf_lowest _ hk, jk_cI, ro_0 H, jk_bs]
    show (jx_sI (jx_at h b) 0 0 (f.2.2 ||| jk_bit k)).bind _ = _
    rw [i1, jk_bs, i2, jk_bs, i3]
    rfl
  · show upd f.2.1 k 0 j = f.2.1 j
    by_cases q : j = k
    · rw [q, upd_at, hz]
    · rw [upd_ne _ _ q]
theorem rf_ties (H : ro_at h b f) {p q : Nat} (hp : p < 12) (hq : q < 12) : ∃ h', (∀ d, jx_C rc (d + 1) 82 [.ref b, .int (Int32.ofNat p), .int (Int32.ofNat q)] h = some (none, h')) ∧ ro_at h' b (jf_join f p q) ∧ Fr (fun x => x = b) h h' := by
  obtain ⟨e1, i1, j1⟩ := ro_sn H hp (f.2.1 p ||| jk_bit q)
  obtain ⟨e2, i2, j2⟩ := ro_sn j1 hq (upd f.2.1 p (f.2.1 p ||| jk_bit q) q ||| jk_bit p)
  refine ⟨_, fun d => ?_, j2, Fr.one.one'⟩
  rw [je_82, ro_n H hp, jk_bs]
  show (jx_sI (jx_at h b) 0 _ (f.2.1 p ||| jk_bit q)).bind _ = _
  rw [i1, jk_bs, ro_n j1 hq, jk_bs]
  show (jx_sI _ 0 _ (upd f.2.1 p (f.2.1 p ||| jk_bit q) q ||| jk_bit p)).bind _ = _
  rw [i2]
  rfl
theorem rf_cuts (H : ro_at h b f) {p q : Nat} (hp : p < 12) (hq : q < 12) : ∃ h', (∀ d, jx_C rc (d + 1) 83 [.ref b, .int (Int32.ofNat p), .int (Int32.ofNat q)] h = some (none, h')) ∧ ro_at h' b (jf_part f p q) ∧ Fr (fun x => x = b) h h' := by
  obtain ⟨e1, i1, j1⟩ := ro_sn H hp (f.2.1 p &&& (jk_bit q ^^^ (-1)))
  obtain ⟨e2, i2, j2⟩ := ro_sn j1 hq (upd f.2.1 p (f.2.1 p &&& (jk_bit q ^^^ (-1))) q &&& (jk_bit p ^^^ (-1)))
  refine ⟨_, fun d => ?_, j2, Fr.one.one'⟩
  rw [je_83, ro_n H hp, jk_bs]
  show (jx_sI (jx_at h b) 0 _ (f.2.1 p &&& (jk_bit q ^^^ (-1)))).bind _ = _
  rw [i1, jk_bs, ro_n j1 hq, jk_bs]
  show (jx_sI _ 0 _ (upd f.2.1 p (f.2.1 p &&& (jk_bit q ^^^ (-1))) q &&& (jk_bit p ^^^ (-1)))).bind _ = _
  rw [i2]
  rfl
theorem rf_leaves_l {p : Nat} (hp : p < 12) : ∀ (m k : Nat) (h : jxH), k + m = 12 → ro_at h b (f.1, fun q => if q < k then f.2.1 q &&& (jk_bit p ^^^ (-1)) else f.2.1 q, f.2.2) → ∃ h', (∀ d, jb_84 rc d 2 [(0, .ref b), (1, .int (Int32.ofNat p)), (2, .int (Int32.ofNat k))] [] h = some (none, h')) ∧ ro_at h' b (jf_rem f p) ∧ Fr (fun x => x = b) h h'
  | 0, k, h, e, H => by
    obtain rfl : k = 12 := by omega
    obtain ⟨e1, i1, j1⟩ := ro_sn H hp 0
    obtain ⟨e2, i2, j2⟩ := ro_sw j1 hp 0
    obtain ⟨e3, i3, j3⟩ := ro_s0 j2 (f.2.2 &&& (jk_bit p ^^^ (-1)))
    refine ⟨_, fun d => ?_, ro_congr j3 (fun _ _ => rfl) (fun j hj => ?_) rfl, Fr.one.one'.one'⟩
    · rw [je_84_2, if_pos (by decide), i1, jk_bs, i2, jk_bs, ro_0 j2, jk_bs]
      show (jx_sI _ 0 0 (f.2.2 &&& (jk_bit p ^^^ (-1)))).bind _ = _
      rw [i3]
      rfl
    · show upd (fun q => if q < 12 then f.2.1 q &&& (jk_bit p ^^^ (-1)) else f.2.1 q) p 0 j = upd (fun q => f.2.1 q &&& (jk_bit p ^^^ (-1))) p 0 j
      by_cases hjp : j = p
      · rw [hjp, upd_at, upd_at]
      · rw [upd_ne _ _ hjp, upd_ne _ _ hjp, if_pos hj]
  | m + 1, k, h, e, H => by
    have hk : k < 12 := by omega
    have hn := ro_n H hk
    simp only [Nat.lt_irrefl, if_false] at hn
    obtain ⟨e1, i1, j1⟩ := ro_sn H hk (f.2.1 k &&& (jk_bit p ^^^ (-1)))
    obtain ⟨h', i2, i3, i4⟩ := rf_leaves_l hp m (k + 1) (jx_set h b e1) (by omega) (ro_congr j1 (fun _ _ => rfl) (fun j hj => by
      show upd _ _ _ _ = _
      by_cases hjk : j = k
      · rw [hjk, upd_at]; simp
      · rw [upd_ne _ _ hjk]
        by_cases hlt : j < k
        · simp [hlt, show j < k + 1 by omega]
        · simp [hlt, show ¬ j < k + 1 by omega]) rfl)
    refine ⟨h', fun d => ?_, i3, Fr.one.trans i4⟩
    rw [je_84_2, if_neg (jk_n12 hk), hn, jk_bs]
    show (jx_sI _ 0 _ (f.2.1 k &&& (jk_bit p ^^^ (-1)))).bind _ = _
    rw [i1, jk_bs, jk_succ]
    exact i2 d
theorem rf_leaves (H : ro_at h b f) {p : Nat} (hp : p < 12) : ∃ h', (∀ d, jx_C rc (d + 1) 84 [.ref b, .int (Int32.ofNat p)] h = some (none, h')) ∧ ro_at h' b (jf_rem f p) ∧ Fr (fun x => x = b) h h' := by
  obtain ⟨h', i1, i2, i3⟩ := rf_leaves_l (rc := rc) (f := f) hp 12 0 h (by omega) (ro_congr H (fun _ _ => rfl) (fun j hj => by simp) rfl)
  refine ⟨h', fun d => ?_, i2, i3⟩
  rw [je_84]; exact i1 d
theorem rf_lightest (H : ro_at h b f) {p k : Nat} (hp : p < 12) (hk : lo (f.2.1 p) = some k) (d : Nat) : jx_C rc (d + 3) 87 [.ref b, .int (Int32.ofNat p)] h = some (some (.int (Int32.ofNat k)), h) := by
  rw [je_87, ro_n H hp, jk_bs, rf_lowest _ hk, jk_cI]
theorem rf_other (H : ro_at h b f) {p k : Nat} (hp : p < 12) (hk : lo (f.2.1 p &&& (f.2.1 p - 1)) = some k) (d : Nat) : jx_C rc (d + 3) 88 [.ref b, .int (Int32.ofNat p)] h = some (some (.int (Int32.ofNat k)), h) := by
  rw [je_88, ro_n H hp, jk_bs, jk_bs, rf_lowest _ hk, jk_cI]
-- refused()
def jd_all (f : jF) (n w : Int32) : Nat → Nat → Bool
  | 0, _ => true
  | m + 1, k => (!(bt n k) || jp_wt (f.1 k - w)) && jd_all f n w m (k + 1)
theorem jd_all_iff {n w : Int32} : ∀ {m k : Nat}, jd_all f n w m k = true ↔ ∀ j, k ≤ j → j < k + m → bt n j = true → jp_wt (f.1 j - w) = true
  | 0, k => ⟨fun _ j h1 h2 => by omega, fun _ => rfl⟩
  | m + 1, k => by
    unfold jd_all
    rw [Bool.and_eq_true, jd_all_iff, Bool.or_eq_true, Bool.not_eq_true']
    constructor
    · rintro ⟨h1, h2⟩ j h3 h4 h5
      by_cases q : j = k
      · subst q
        rcases h1 with h1 | h1
        · rw [h1] at h5; cases h5
        · exact h1
      · exact h2 j (by omega) (by omega) h5
    · intro h1
      refine ⟨?_, fun j h3 h4 h5 => h1 j (by omega) (by omega) h5⟩
      cases q : bt n k
      · exact Or.inl rfl
      · exact Or.inr (h1 k (Nat.le_refl _) (by omega) q)
theorem rf_light_l (H : ro_at h b f) {p : Nat} (hp : p < 12) (d : Nat) : ∀ (m k : Nat) (c : Bool), k + m = 12 → jb_92 rc (d + 2) 6 [(0, .ref b), (2, .int (Int32.ofNat p)), (5, .int (jk_b c)), (6, .int (Int32.ofNat k))] [] h = some (some (.int (jk_b (c && jd_all f (f.2.1 p) (f.1 p) m k))), h)
  | 0, k, c, e => by
    obtain rfl : k = 12 := by omega
    rw [je_92_6, if_pos (by decide), if_pos (jk_bb _)]
    unfold jd_all
    rw [Bool.and_true]
  | m + 1, k, c, e => by
    have hk : k < 12 := by omega
    have a1 : ∀ c' : Bool, jk_b c' &&& 1 = jk_b (c' && true) := by decide
    have a0 : ∀ c' : Bool, jk_b c' &&& 0 = jk_b (c' && false) := by decide
    rw [je_92_6, if_neg (jk_n12 hk), ro_n H hp, jk_bs, rf_has _ _ (by omega), jk_cI, jk_if0, jk_succ]
    conv => rhs; unfold jd_all
    rw [← Bool.and_assoc]
    cases hb : bt (f.2.1 p) k
    · rw [if_neg (by decide), a1, rf_light_l H hp d m (k + 1) _ (by omega)]; rfl
    · rw [if_pos rfl, ro_w H hk, jk_bs, ro_w H hp, jk_bs, rf_isWeight, jk_cI, jk_if0]
      cases hw : jp_wt (f.1 k - f.1 p)
      · rw [if_neg (by decide), a0, rf_light_l H hp d m (k + 1) _ (by omega)]; rfl
      · rw [if_pos rfl, a1, rf_light_l H hp d m (k + 1) _ (by omega)]; rfl
theorem jd_light_all {n : Int32} (hn : S12 n) (h2 : bc n ≤ 2) (w : Int32) : jd_light f n w = jd_all f n w 12 0 := by
  unfold jd_light
  by_cases h0 : n = 0
  · subst h0
    rw [if_pos rfl]
    symm
    rw [jd_all_iff]
    intro j _ _ h
    rw [bt_0] at h; cases h
  · rw [if_neg h0]
    have hp : 0 < bc n := Nat.pos_of_ne_zero fun q => h0 (bc_0 hn q)
    obtain ⟨x, e1⟩ := bc_lo hp
    obtain ⟨y, e2⟩ := bc_hi hp
    obtain ⟨x1, x2, -⟩ := lo_some.mp e1
    obtain ⟨y1, y2, -⟩ := hi_some.mp e2
    rw [e1, e2]
    show (jp_wt (jF_w f (Int32.ofNat x) - w) && jp_wt (jF_w f (Int32.ofNat y) - w)) = _
    rw [jF_w_of x1, jF_w_of y1, Bool.eq_iff_iff, Bool.and_eq_true, jd_all_iff]
    constructor
    · rintro ⟨h3, h4⟩ j _ hj hb
      rcases jk_two hn h2 (by omega) hb with q | q
      · rw [e1] at q; cases q; exact h3
      · rw [e2] at q; cases q; exact h4
    · intro q
      exact ⟨q x (by omega) (by omega) x2, q y (by omega) (by omega) y2⟩
theorem rf_bt13 (x : Int32) : jp_bt x.toInt64 1 3 = (decide (x = 1) || decide (x = 2) || decide (x = 3)) := by
  unfold jp_bt
  rw [show (1 : Int64) = (1 : Int32).toInt64 from rfl, show (3 : Int64) = (3 : Int32).toInt64 from rfl]
  simp only [jk_l64]
  rw [Bool.eq_iff_iff]
  simp only [Bool.or_eq_true, decide_eq_true_eq, ← Int32.toInt_inj, Int32.lt_iff_toInt_lt, show (1 : Int32).toInt = 1 from rfl, show (2 : Int32).toInt = 2 from rfl, show (3 : Int32).toInt = 3 from rfl]
  split
  · simp; omega
  · split
    · simp; omega
    · simp; omega
theorem rf_bt07 (x : Int32) : jp_bt x.toInt64 0 7 = true ↔ (x = 0 ∨ x = 1 ∨ x = 2 ∨ x = 3 ∨ x = 4 ∨ x = 5 ∨ x = 6 ∨ x = 7) := by
  unfold jp_bt
  rw [show (0 : Int64) = (0 : Int32).toInt64 from rfl, show (7 : Int64) = (7 : Int32).toInt64 from rfl]
  simp only [jk_l64]
  simp only [← Int32.toInt_inj, Int32.lt_iff_toInt_lt, show (0 : Int32).toInt = 0 from rfl, show (1 : Int32).toInt = 1 from rfl, show (2 : Int32).toInt = 2 from rfl, show (3 : Int32).toInt = 3 from rfl, show (4 : Int32).toInt = 4 from rfl, show (5 : Int32).toInt = 5 from rfl, show (6 : Int32).toInt = 6 from rfl, show (7 : Int32).toInt = 7 from rfl]
  split
  · simp; omega
  · split
    · simp; omega
    · simp; omega
theorem jk_ev2 (x : Int32) : (Int32.ofNat (bc x) + 2 ≤ (12 : Int32)) ↔ ¬ 11 ≤ bc x := by
  have := bc_le x
  rw [show (2 : Int32) = Int32.ofNat 2 from rfl, ← Int32.ofNat_add, show (12 : Int32) = Int32.ofNat 12 from rfl, jk_le (by omega) (by decide)]; omega
theorem jk_ev1 (x : Int32) : (Int32.ofNat (bc x) + 1 ≤ (12 : Int32)) ↔ ¬ 12 ≤ bc x := by
  have := bc_le x
  rw [show (1 : Int32) = Int32.ofNat 1 from rfl, ← Int32.ofNat_add, show (12 : Int32) = Int32.ofNat 12 from rfl, jk_le (by omega) (by decide)]; omega
theorem jk_ev0 (x : Int32) : (Int32.ofNat (bc x) ≤ (12 : Int32)) ↔ True := by
  have := bc_le x
  rw [show (12 : Int32) = Int32.ofNat 12 from rfl, jk_le (by omega) (by decide)]; simp; exact this
theorem rf_room (k : Int32) (d : Nat) : jx_C rc (d + 2) 91 [.int k] h = some (some (.int (if k = 7 then 2 else if k = 1 ∨ k = 2 ∨ k = 3 then 1 else 0)), h) := by
  rw [je_91, rf_in, rf_bt13, jk_cI, jk_if0]
  by_cases h7 : k = 7
  · rw [if_pos h7, if_pos h7]
  · rw [if_neg h7, if_neg h7]
    simp only [Bool.or_eq_true, decide_eq_true_eq, or_assoc]
    split <;> rfl
theorem jk_r0' : jx_bool (0 : Int32) = true := by simp [jx_bool]
theorem jk_07_0 : jp_bt 0 0 7 = true := by decide
theorem jk_13_0 : jp_bt 0 1 3 = false := by decide
theorem jk_07_1 : jp_bt 1 0 7 = true := by decide
theorem jk_13_1 : jp_bt 1 1 3 = true := by decide
theorem jk_07_2 : jp_bt 2 0 7 = true := by decide
theorem jk_13_2 : jp_bt 2 1 3 = true := by decide
theorem jk_07_3 : jp_bt 3 0 7 = true := by decide
theorem jk_13_3 : jp_bt 3 1 3 = true := by decide
theorem jk_07_4 : jp_bt 4 0 7 = true := by decide
theorem jk_13_4 : jp_bt 4 1 3 = false := by decide
theorem jk_07_5 : jp_bt 5 0 7 = true := by decide
theorem jk_13_5 : jp_bt 5 1 3 = false := by decide
theorem jk_07_6 : jp_bt 6 0 7 = true := by decide
theorem jk_13_6 : jp_bt 6 1 3 = false := by decide
theorem jk_07_7 : jp_bt 7 0 7 = true := by decide
theorem jk_13_7 : jp_bt 7 1 3 = false := by decide
/-- with a place that is there for p (where the MOVE has one) -/
theorem rf_refused (H : ro_at h b f) (hn : ∀ k, k < 12 → S12 (f.2.1 k)) (m : jM) (d : Nat) : jx_C rc (d + 6) 93 [.ref b, .int m.1, .int m.2.1, .int m.2.2.1, .int m.2.2.2.1, .int m.2.2.2.2] h = some (some (.int (jf_ref f false m)), h) := by
  obtain ⟨k, p, q, v, s⟩ := m
  show jx_C rc (d + 6) 93 [.ref b, .int k, .int p, .int q, .int v, .int s] h = _
  by_cases hk : jp_bt k.toInt64 0 7 = true
  · rcases (rf_bt07 k).mp hk with rfl | rfl | rfl | rfl | rfl | rfl | rfl | rfl
    · by_cases hp : jF_has f p = true
      · obtain ⟨j, hj, rfl, e2⟩ := jF_has_iff.mp hp
        have hl := fun h2 => jd_light_all (f := f) (hn j hj) h2 (f.1 j)
        have e3 : jb_92 rc (d + 4) 6 [(0, .ref b), (2, .int (Int32.ofNat j)), (5, .int 1), (6, .int 0)] [] h = some (some (.int (jk_b (true && jd_all f (f.2.1 j) (f.1 j) 12 0))), h) := rf_light_l (rc := rc) H hj (d + 2) 12 0 true (by omega)
        simp [je_93, je_89, je_89_27, je_90, je_90_28, je_92, rf_in, rf_isThere H, rf_isWeight, jk_cI, jk_if0, ro_0 H, rf_many, rf_room, jk_ev0, jk_ev1, jk_ev2, jk_cI_ite, jk_r0, jk_r1, jk_bb, jf_ref, jk_le2, jk_eq1, jk_eq2, jk_07_0, jk_13_0, jk_07_1, jk_13_1, jk_07_2, jk_13_2, jk_07_3, jk_13_3, jk_07_4, jk_13_4, jk_07_5, jk_13_5, jk_07_6, jk_13_6, jk_07_7, jk_13_7, hp, ro_w H hj, ro_n H hj, jF_w_of hj, jF_n_of hj, e3]
        grind
      · simp [je_93, je_89, je_89_27, je_90, je_90_28, je_92, rf_in, rf_isThere H, rf_isWeight, jk_cI, jk_if0, ro_0 H, rf_many, rf_room, jk_ev0, jk_ev1, jk_ev2, jk_cI_ite, jk_r0, jk_r1, jk_bb, jf_ref, jk_le2, jk_eq1, jk_eq2, jk_07_0, jk_13_0, jk_07_1, jk_13_1, jk_07_2, jk_13_2, jk_07_3, jk_13_3, jk_07_4, jk_13_4, jk_07_5, jk_13_5, jk_07_6, jk_13_6, jk_07_7, jk_13_7, hp]
    · by_cases hp : jF_has f p = true
      · obtain ⟨j, hj, rfl, e2⟩ := jF_has_iff.mp hp
        by_cases hq : jF_has f q = true
        · obtain ⟨i, hi, rfl, e4⟩ := jF_has_iff.mp hq
          simp [je_93, je_89, je_89_27, je_90, je_90_28, je_92, rf_in, rf_isThere H, rf_isWeight, jk_cI, jk_if0, ro_0 H, rf_many, rf_room, jk_ev0, jk_ev1, jk_ev2, jk_cI_ite, jk_r0, jk_r1, jk_bb, jf_ref, jk_le2, jk_eq1, jk_eq2, jk_07_0, jk_13_0, jk_07_1, jk_13_1, jk_07_2, jk_13_2, jk_07_3, jk_13_3, jk_07_4, jk_13_4, jk_07_5, jk_13_5, jk_07_6, jk_13_6, jk_07_7, jk_13_7, hp, hq, ro_w H hj, ro_n H hj, ro_w H hi, jF_w_of hj, jF_n_of hj, jF_w_of hi, jF_near_of hj hi, rf_has _ _ (show i < 32 by omega)]
          grind
        · simp [je_93, je_89, je_89_27, je_90, je_90_28, je_92, rf_in, rf_isThere H, rf_isWeight, jk_cI, jk_if0, ro_0 H, rf_many, rf_room, jk_ev0, jk_ev1, jk_ev2, jk_cI_ite, jk_r0, jk_r1, jk_bb, jf_ref, jk_le2, jk_eq1, jk_eq2, jk_07_0, jk_13_0, jk_07_1, jk_13_1, jk_07_2, jk_13_2, jk_07_3, jk_13_3, jk_07_4, jk_13_4, jk_07_5, jk_13_5, jk_07_6, jk_13_6, jk_07_7, jk_13_7, hp, hq]
      · simp [je_93, je_89, je_89_27, je_90, je_90_28, je_92, rf_in, rf_isThere H, rf_isWeight, jk_cI, jk_if0, ro_0 H, rf_many, rf_room, jk_ev0, jk_ev1, jk_ev2, jk_cI_ite, jk_r0, jk_r1, jk_bb, jf_ref, jk_le2, jk_eq1, jk_eq2, jk_07_0, jk_13_0, jk_07_1, jk_13_1, jk_07_2, jk_13_2, jk_07_3, jk_13_3, jk_07_4, jk_13_4, jk_07_5, jk_13_5, jk_07_6, jk_13_6, jk_07_7, jk_13_7, hp]
    · by_cases hp : jF_has f p = true
      · obtain ⟨j, hj, rfl, e2⟩ := jF_has_iff.mp hp
        simp [je_93, je_89, je_89_27, je_90, je_90_28, je_92, rf_in, rf_isThere H, rf_isWeight, jk_cI, jk_if0, ro_0 H, rf_many, rf_room, jk_ev0, jk_ev1, jk_ev2, jk_cI_ite, jk_r0, jk_r1, jk_bb, jf_ref, jk_le2, jk_eq1, jk_eq2, jk_07_0, jk_13_0, jk_07_1, jk_13_1, jk_07_2, jk_13_2, jk_07_3, jk_13_3, jk_07_4, jk_13_4, jk_07_5, jk_13_5, jk_07_6, jk_13_6, jk_07_7, jk_13_7, hp, ro_w H hj, ro_n H hj, jF_w_of hj, jF_n_of hj]
        grind
      · simp [je_93, je_89, je_89_27, je_90, je_90_28, je_92, rf_in, rf_isThere H, rf_isWeight, jk_cI, jk_if0, ro_0 H, rf_many, rf_room, jk_ev0, jk_ev1, jk_ev2, jk_cI_ite, jk_r0, jk_r1, jk_bb, jf_ref, jk_le2, jk_eq1, jk_eq2, jk_07_0, jk_13_0, jk_07_1, jk_13_1, jk_07_2, jk_13_2, jk_07_3, jk_13_3, jk_07_4, jk_13_4, jk_07_5, jk_13_5, jk_07_6, jk_13_6, jk_07_7, jk_13_7, hp]
    · simp [je_93, je_89, je_89_27, je_90, je_90_28, je_92, rf_in, rf_isThere H, rf_isWeight, jk_cI, jk_if0, ro_0 H, rf_many, rf_room, jk_ev0, jk_ev1, jk_ev2, jk_cI_ite, jk_r0, jk_r1, jk_bb, jf_ref, jk_le2, jk_eq1, jk_eq2, jk_07_0, jk_13_0, jk_07_1, jk_13_1, jk_07_2, jk_13_2, jk_07_3, jk_13_3, jk_07_4, jk_13_4, jk_07_5, jk_13_5, jk_07_6, jk_13_6, jk_07_7, jk_13_7]
      grind
    · by_cases hp : jF_has f p = true
      · obtain ⟨j, hj, rfl, e2⟩ := jF_has_iff.mp hp
        by_cases h2 : bc (f.2.1 j) = 2
        · obtain ⟨x, e1⟩ := bc_lo (x := f.2.1 j) (by omega)
          obtain ⟨y, e3⟩ := bc_hi (x := f.2.1 j) (by omega)
          have hx := (lo_some.mp e1).1
          have hy := (hi_some.mp e3).1
          have e5 := (jk_other (hn j hj) h2).1.trans e3
          have w1 : jF_w f (jk_on (some x)) = f.1 x := jF_w_of hx
          have w2 : jF_w f (jk_on (some y)) = f.1 y := jF_w_of hy
          simp [je_93, je_89, je_89_27, je_90, je_90_28, je_92, rf_in, rf_isThere H, rf_isWeight, jk_cI, jk_if0, ro_0 H, rf_many, rf_room, jk_ev0, jk_ev1, jk_ev2, jk_cI_ite, jk_r0, jk_r1, jk_bb, jf_ref, jk_le2, jk_eq1, jk_eq2, jk_07_0, jk_13_0, jk_07_1, jk_13_1, jk_07_2, jk_13_2, jk_07_3, jk_13_3, jk_07_4, jk_13_4, jk_07_5, jk_13_5, jk_07_6, jk_13_6, jk_07_7, jk_13_7, hp, ro_w H hj, ro_n H hj, jF_w_of hj, jF_n_of hj, h2, rf_lightest H hj e1, rf_other H hj e5, ro_w H hx, ro_w H hy, e1, e3, w1, w2]
          try grind
        · simp [je_93, je_89, je_89_27, je_90, je_90_28, je_92, rf_in, rf_isThere H, rf_isWeight, jk_cI, jk_if0, ro_0 H, rf_many, rf_room, jk_ev0, jk_ev1, jk_ev2, jk_cI_ite, jk_r0, jk_r1, jk_bb, jf_ref, jk_le2, jk_eq1, jk_eq2, jk_07_0, jk_13_0, jk_07_1, jk_13_1, jk_07_2, jk_13_2, jk_07_3, jk_13_3, jk_07_4, jk_13_4, jk_07_5, jk_13_5, jk_07_6, jk_13_6, jk_07_7, jk_13_7, hp, ro_w H hj, ro_n H hj, jF_w_of hj, jF_n_of hj, h2]
          try grind
      · simp [je_93, je_89, je_89_27, je_90, je_90_28, je_92, rf_in, rf_isThere H, rf_isWeight, jk_cI, jk_if0, ro_0 H, rf_many, rf_room, jk_ev0, jk_ev1, jk_ev2, jk_cI_ite, jk_r0, jk_r1, jk_bb, jf_ref, jk_le2, jk_eq1, jk_eq2, jk_07_0, jk_13_0, jk_07_1, jk_13_1, jk_07_2, jk_13_2, jk_07_3, jk_13_3, jk_07_4, jk_13_4, jk_07_5, jk_13_5, jk_07_6, jk_13_6, jk_07_7, jk_13_7, hp]
    · by_cases hp : jF_has f p = true
      · obtain ⟨j, hj, rfl, e2⟩ := jF_has_iff.mp hp
        simp [je_93, je_89, je_89_27, je_90, je_90_28, je_92, rf_in, rf_isThere H, rf_isWeight, jk_cI, jk_if0, ro_0 H, rf_many, rf_room, jk_ev0, jk_ev1, jk_ev2, jk_cI_ite, jk_r0, jk_r1, jk_bb, jf_ref, jk_le2, jk_eq1, jk_eq2, jk_07_0, jk_13_0, jk_07_1, jk_13_1, jk_07_2, jk_13_2, jk_07_3, jk_13_3, jk_07_4, jk_13_4, jk_07_5, jk_13_5, jk_07_6, jk_13_6, jk_07_7, jk_13_7, hp, ro_w H hj, ro_n H hj, jF_w_of hj, jF_n_of hj]
        grind
      · simp [je_93, je_89, je_89_27, je_90, je_90_28, je_92, rf_in, rf_isThere H, rf_isWeight, jk_cI, jk_if0, ro_0 H, rf_many, rf_room, jk_ev0, jk_ev1, jk_ev2, jk_cI_ite, jk_r0, jk_r1, jk_bb, jf_ref, jk_le2, jk_eq1, jk_eq2, jk_07_0, jk_13_0, jk_07_1, jk_13_1, jk_07_2, jk_13_2, jk_07_3, jk_13_3, jk_07_4, jk_13_4, jk_07_5, jk_13_5, jk_07_6, jk_13_6, jk_07_7, jk_13_7, hp]
    · simp [je_93, je_89, je_89_27, je_90, je_90_28, je_92, rf_in, rf_isThere H, rf_isWeight, jk_cI, jk_if0, ro_0 H, rf_many, rf_room, jk_ev0, jk_ev1, jk_ev2, jk_cI_ite, jk_r0, jk_r1, jk_bb, jf_ref, jk_le2, jk_eq1, jk_eq2, jk_07_0, jk_13_0, jk_07_1, jk_13_1, jk_07_2, jk_13_2, jk_07_3, jk_13_3, jk_07_4, jk_13_4, jk_07_5, jk_13_5, jk_07_6, jk_13_6, jk_07_7, jk_13_7]
    · by_cases hp : jF_has f p = true
      · obtain ⟨j, hj, rfl, e2⟩ := jF_has_iff.mp hp
        simp [je_93, je_89, je_89_27, je_90, je_90_28, je_92, rf_in, rf_isThere H, rf_isWeight, jk_cI, jk_if0, ro_0 H, rf_many, rf_room, jk_ev0, jk_ev1, jk_ev2, jk_cI_ite, jk_r0, jk_r1, jk_bb, jf_ref, jk_le2, jk_eq1, jk_eq2, jk_07_0, jk_13_0, jk_07_1, jk_13_1, jk_07_2, jk_13_2, jk_07_3, jk_13_3, jk_07_4, jk_13_4, jk_07_5, jk_13_5, jk_07_6, jk_13_6, jk_07_7, jk_13_7, hp, ro_w H hj, ro_n H hj, jF_w_of hj, jF_n_of hj]
        grind
      · simp [je_93, je_89, je_89_27, je_90, je_90_28, je_92, rf_in, rf_isThere H, rf_isWeight, jk_cI, jk_if0, ro_0 H, rf_many, rf_room, jk_ev0, jk_ev1, jk_ev2, jk_cI_ite, jk_r0, jk_r1, jk_bb, jf_ref, jk_le2, jk_eq1, jk_eq2, jk_07_0, jk_13_0, jk_07_1, jk_13_1, jk_07_2, jk_13_2, jk_07_3, jk_13_3, jk_07_4, jk_13_4, jk_07_5, jk_13_5, jk_07_6, jk_13_6, jk_07_7, jk_13_7, hp]
  · have e : ∀ j : Int32, jp_bt j.toInt64 0 7 = true → ¬ k = j := fun j hj q => hk (q ▸ hj)
    have hk' : jp_bt k.toInt64 0 7 = false := by simpa using hk
    rw [je_93, je_89, rf_in, hk', jk_cI, jk_if0, if_neg Bool.false_ne_true, if_pos jk_r0', jk_cI, if_pos rfl]
    unfold jf_ref
    rw [if_neg (e 0 (by decide)), if_neg (e 1 (by decide)), if_neg (e 2 (by decide)), if_neg (e 3 (by decide)), if_neg (e 4 (by decide)), if_neg (e 5 (by decide)), if_neg (e 6 (by decide)), if_neg (e 7 (by decide))]
end
