/-! The reference: at, table, minor, det, factor, undo, redo, trail -/
def jp_hi (w : Int32) (n : Int32) : Bool := if w < 0 then false else if n < w then false else true
theorem jp_bt_hi (w n : Int32) : jp_bt w.toInt64 0 n.toInt64 = jp_hi w n := by
  unfold jp_bt jp_hi
  rw [show (0 : Int64) = (0 : Int32).toInt64 from rfl]
  simp only [jk_l64]
theorem jp_hi_iff {w : Int32} {n : Nat} (hn : n < 2 ^ 31) : jp_hi w (Int32.ofNat n) = true ↔ ∃ k, k ≤ n ∧ w = Int32.ofNat k := by
  unfold jp_hi
  constructor
  · intro h
    by_cases c1 : w < 0
    · rw [if_pos c1] at h; cases h
    · rw [if_neg c1] at h
      by_cases c2 : Int32.ofNat n < w
      · rw [if_pos c2] at h; cases h
      · have e := jk_of c1
        have l := jk_of_lt w
        refine ⟨w.toNatClampNeg, ?_, e⟩
        rw [e, jk_lt hn l] at c2
        omega
  · rintro ⟨k, hk, rfl⟩
    rw [if_neg (jk_nn (by omega)), if_neg (by rw [jk_lt hn (by omega)]; omega)]
section
variable {rc : Nat → Nat × (Nat → Int32)} {h h' : jxH} {P : Nat → Prop} {σ : jSt} {f : jF}
theorem RS_scr (R : RSt h σ) (A : AWt σ) (F : Fr P h h') (hP : ∀ x, P x → m_scrP x) (S : m_scr h') : RSt h' σ := by
  have n : ∀ x, ¬ m_scrP x → ¬ P x := fun x a b => a (hP x b)
  obtain ⟨⟨a, b, c, d, e, f, g, k, o, o'⟩, r1, r2, r3, r4, r5, r6, r7, r8, -⟩ := R
  refine ⟨⟨a, b, c, d, e, f, g, k, (F.2.2 _ (n _ (by unfold m_scrP; omega))).trans o, o'⟩, mtold_fr F (n _ (by unfold m_scrP; omega)) r1, ro_fr F (n _ (by unfold m_scrP; omega)) r2, mtr_fr F (fun x _ _ => n _ (by unfold m_scrP; omega)) A.tr.2.1 r3, msh_fr F (fun x _ _ => n _ (by unfold m_scrP; omega)) r4, mss_fr F (fun x _ _ => n _ (by unfold m_scrP; omega)) r5, mcrew_fr F (n _ (by unfold m_scrP; omega)) r6, mim_fr F (n _ (by unfold m_scrP; omega)) (n _ (by unfold m_scrP; omega)) r7, mtape_fr F (n _ (by unfold m_scrP; omega)) r8, S⟩
theorem rF.scr (F : Fr P h h') (hP : ∀ x, P x → m_scrP x) : rF h h' := F.mono fun x q => by have := hP x q; unfold m_scrP at this; omega
/-- possible() -/
theorem rr_possible (R : RSt h σ) (A : AWt σ) (p : Int32) (k : Nat) (e : p = Int32.ofNat k) (d : Nat) : jx_C rc (d + 7) 112 [.ref 336, .int p] h = some (some (.int (jn_pos (sF σ) k)), h) := by
  subst e
  have K := fun m => rf_refused (rc := rc) R.F A.B.n m d
  have k0 := K (0, Int32.ofNat k, 0, 0, 0)
  have k4 := K (4, Int32.ofNat k, 0, 0, 0)
  have k5 := K (5, Int32.ofNat k, 0, 0, 0)
  dsimp only at k0 k4 k5
  rw [je_112, if_pos R.is, R.g1, jk_bs, k0, jk_cI]
  unfold jn_pos
  by_cases c0 : jf_ref (sF σ) false (0, Int32.ofNat k, 0, 0, 0) = 0
  · rw [if_pos c0, if_pos c0]
  · rw [if_neg c0, if_neg c0, R.g1, jk_bs, k4, jk_cI]
    by_cases c4 : jf_ref (sF σ) false (4, Int32.ofNat k, 0, 0, 0) = 0
    · rw [if_pos c4, if_pos c4]
    · rw [if_neg c4, if_neg c4, R.g1, jk_bs, k5, jk_cI]
      split <;> rfl
/-- farthest() -/
theorem rr_far_i (R : RSt h σ) (S c o : Int32) (d : Nat) : ∀ (m k : Nat), k + m = 12 → jb_113 rc (d + 1) 18 [(0, .ref 336), (2, .int S), (3, .int c), (4, .int o), (5, .int (jt_acc (sF σ) S k)), (6, .int (Int32.ofNat k))] [] h = jb_113 rc (d + 1) 8 [(0, .ref 336), (2, .int (jt_acc (sF σ) S 12)), (3, .int c), (4, .int o)] [] h
  | 0, k, e => by
    obtain rfl : k = 12 := by omega
    rw [je_113_18, if_pos (by decide)]
  | m + 1, k, e => by
    have hk : k < 12 := by omega
    rw [je_113_18, if_neg (jk_n12 hk), rf_has _ _ (by omega), jk_cI, jk_if0, jk_succ, Int32.or_zero]
    have i := rr_far_i R S c o d m (k + 1) (by omega)
    rw [show jt_acc (sF σ) S (k + 1) = if bt S k = true then jt_acc (sF σ) S k ||| (sF σ).2.1 k else jt_acc (sF σ) S k from rfl] at i
    by_cases hb : bt S k = true
    · rw [if_pos hb, R.g1, jk_bs, ro_n R.F hk, jk_bs]
      rw [if_pos hb] at i
      exact i
    · rw [if_neg hb]
      rw [if_neg hb] at i
      exact i
theorem rr_far_o (R : RSt h σ) (p : Nat) (d : Nat) {e : Nat} (h1 : jt_L (sF σ) p (e + 1) = jt_L (sF σ) p e) (h2 : ∀ j, j < e → jt_L (sF σ) p (j + 1) ≠ jt_L (sF σ) p j) : ∀ (m k : Nat), k + m = e → jb_113 rc (d + 1) 8 [(0, .ref 336), (2, .int (jt_L (sF σ) p (k + 1))), (3, .int (Int32.ofNat k)), (4, .int (jt_L (sF σ) p k))] [] h = some (some (.int (Int32.ofNat e)), h)
  | 0, k, q => by
    obtain rfl : k = e := by omega
    rw [je_113_8, if_pos h1.symm]
  | m + 1, k, q => by
    rw [je_113_8, if_neg (fun z => h2 k (by omega) z.symm), jk_succ]
    exact (rr_far_i (rc := rc) R (jt_L (sF σ) p (k + 1)) _ _ d 12 0 (by omega)).trans (rr_far_o R p d h1 h2 m (k + 1) (by omega))
theorem rr_far (R : RSt h σ) (A : AWt σ) {p : Nat} (hp : p < 12) (d : Nat) : jx_C rc (d + 2) 113 [.ref 336, .int (Int32.ofNat p)] h = some (some (.int (Int32.ofNat (jt_ecc (sF σ) p))), h) := by
  obtain ⟨e, e1, e2, e3⟩ := jt_ecc_ex A.B.n hp
  rw [jt_ecc_is e1 e2 e3, je_113, if_pos R.is]
  have z : jk_bit p ≠ 0 := fun q => by
    have b0 : bt (jk_bit p) p = true := by rw [bt_bit (by omega) (by omega)]; simp
    rw [q, bt_0] at b0; cases b0
  refine Eq.trans (b := jb_113 rc (d + 1) 8 [(0, .ref 336), (2, .int (jk_bit p)), (3, .int (-1 : Int32)), (4, .int (0 : Int32))] [] h) rfl ?_
  rw [je_113_8, if_neg (fun q => z q.symm)]
  exact (rr_far_i (rc := rc) R (jk_bit p) _ _ d 12 0 (by omega)).trans (rr_far_o R p d e2 e3 e 0 (by omega))
theorem rr_at (R : RSt h σ) (A : AWt σ) (p w : Int32) : ∃ h', (∀ d, jx_C rc (d + 20) 114 [.ref 336, .int p, .int w] h = some (some (.int (op_at σ p w).1), h')) ∧ RSt h' (op_at σ p w).2 ∧ rF h h' := by
  unfold op_at
  obtain ⟨e', e1, e2, e3⟩ := rr_error (rc := rc) R A (k := 1) (by decide) (K := 1) rfl
  by_cases c0 : jF_has (sF σ) p = true
  · rw [if_pos c0]
    obtain ⟨k, hk, rfl, hb⟩ := jF_has_iff.mp c0
    rw [pn_of hk]
    have H5 : ∀ j : Nat, j ≤ 5 → jp_hi (Int32.ofNat j) 5 = true := fun j hj => (jp_hi_iff (n := 5) (by decide)).mpr ⟨j, hj, rfl⟩
    have st : ∀ d, jp_hi w 5 = true → jx_C rc (d + 20) 114 [.ref 336, .int (Int32.ofNat k), .int w] h = _ := fun d q => by
      rw [je_114, if_pos R.is, rr_isVertex R, jk_cI, jk_if0, if_pos c0, rf_in, jk_cI, jk_if0, show (5 : Int64) = (5 : Int32).toInt64 from rfl, jp_bt_hi, if_pos q]
    by_cases w0 : w = 0
    · rw [if_pos w0]
      refine ⟨h, fun d => ?_, R, Fr.rfl⟩
      rw [st d (by subst w0; decide), if_pos w0, R.g1, jk_bs, ro_w R.F hk, jk_bs]
    rw [if_neg w0]
    by_cases w1 : w = 1
    · rw [if_pos w1]
      refine ⟨h, fun d => ?_, R, Fr.rfl⟩
      rw [st d (by subst w1; decide), if_neg w0, if_pos (show w = 0 + 1 from w1), R.g1, jk_bs, ro_n R.F hk, jk_bs, rf_many, jk_cI]
    rw [if_neg w1]
    by_cases w2 : w = 2
    · rw [if_pos w2]
      refine ⟨h, fun d => ?_, R, Fr.rfl⟩
      rw [st d (by subst w2; decide), if_neg w0, if_neg (show ¬ w = 0 + 1 from w1), if_pos (show w = 0 + 1 + 1 from w2), R.g1, jk_bs, ro_n R.F hk, jk_bs]
    rw [if_neg w2]
    by_cases w3 : w = 3
    · rw [if_pos w3]
      refine ⟨h, fun d => ?_, R, Fr.rfl⟩
      rw [st d (by subst w3; decide), if_neg w0, if_neg (show ¬ w = 0 + 1 from w1), if_neg (show ¬ w = 0 + 1 + 1 from w2), if_pos (show w = 0 + 1 + 1 + 1 from w3), R.g1, jk_bs, rf_treeOf R.F A.B.n hk, jk_cI]
    rw [if_neg w3]
    by_cases w4 : w = 4
    · rw [if_pos w4]
      refine ⟨h, fun d => ?_, R, Fr.rfl⟩
      rw [st d (by subst w4; decide), if_neg w0, if_neg (show ¬ w = 0 + 1 from w1), if_neg (show ¬ w = 0 + 1 + 1 from w2), if_neg (show ¬ w = 0 + 1 + 1 + 1 from w3), if_pos (show w = 0 + 1 + 1 + 1 + 1 from w4), rr_possible R A _ k rfl, jk_cI]
    rw [if_neg w4]
    by_cases w5 : w = 5
    · rw [if_pos w5]
      refine ⟨h, fun d => ?_, R, Fr.rfl⟩
      rw [st d (by subst w5; decide), if_neg w0, if_neg (show ¬ w = 0 + 1 from w1), if_neg (show ¬ w = 0 + 1 + 1 from w2), if_neg (show ¬ w = 0 + 1 + 1 + 1 from w3), if_neg (show ¬ w = 0 + 1 + 1 + 1 + 1 from w4), rr_far R A hk, jk_cI]
    rw [if_neg w5]
    refine ⟨e', fun d => ?_, e2, e3⟩
    have nh : ¬ jp_hi w 5 = true := fun q => by
      obtain ⟨j, hj, rfl⟩ := (jp_hi_iff (n := 5) (by decide)).mp q
      have : ∀ j : Nat, j ≤ 5 → ¬ (Int32.ofNat j ≠ 0 ∧ Int32.ofNat j ≠ 1 ∧ Int32.ofNat j ≠ 2 ∧ Int32.ofNat j ≠ 3 ∧ Int32.ofNat j ≠ 4 ∧ Int32.ofNat j ≠ 5) := by decide
      exact this j hj ⟨w0, w1, w2, w3, w4, w5⟩
    rw [je_114, if_pos R.is, rr_isVertex R, jk_cI, jk_if0, if_pos c0, rf_in, jk_cI, jk_if0, show (5 : Int64) = (5 : Int32).toInt64 from rfl, jp_bt_hi, if_neg nh, e1, jk_cI]
  · rw [if_neg c0]
    refine ⟨e', fun d => ?_, e2, e3⟩
    rw [je_114, if_pos R.is, rr_isVertex R, jk_cI, jk_if0, if_neg c0, e1, jk_cI]
theorem rr_table (R : RSt h σ) (A : AWt σ) (p q : Int32) : ∃ h', (∀ d, jx_C rc (d + 20) 116 [.ref 336, .int p, .int q] h = some (some (.int (op_table σ p q).1), h')) ∧ RSt h' (op_table σ p q).2 ∧ rF h h' := by
  unfold op_table
  obtain ⟨e', e1, e2, e3⟩ := rr_error (rc := rc) R A (k := 1) (by decide) (K := 1) rfl
  by_cases c0 : jF_has (sF σ) p = true
  · rw [if_pos c0]
    by_cases c1 : jF_has (sF σ) q = true
    · rw [if_pos c1]
      obtain ⟨k, hk, rfl, hb⟩ := jF_has_iff.mp c0
      obtain ⟨j, hj, rfl, hb'⟩ := jF_has_iff.mp c1
      rw [pn_of hk, pn_of hj]
      by_cases c2 : Int32.ofNat k = Int32.ofNat j
      · rw [if_pos c2]
        refine ⟨h, fun d => ?_, R, Fr.rfl⟩
        rw [je_116, if_pos R.is, rr_isVertex R, jk_cI, jk_if0, if_pos c0, rr_isVertex R, jk_cI, jk_if0, if_pos c1, je_115, if_pos R.is, if_pos c2, R.g1, jk_bs, ro_w R.F hk, jk_bs, jk_cI]
      · rw [if_neg c2]
        refine ⟨h, fun d => ?_, R, Fr.rfl⟩
        rw [je_116, if_pos R.is, rr_isVertex R, jk_cI, jk_if0, if_pos c0, rr_isVertex R, jk_cI, jk_if0, if_pos c1, je_115, if_pos R.is, if_neg c2, R.g1, jk_bs, ro_n R.F hk, jk_bs, bt_sr _ (by omega), jk_cI]
    · rw [if_neg c1]
      refine ⟨e', fun d => ?_, e2, e3⟩
      rw [je_116, if_pos R.is, rr_isVertex R, jk_cI, jk_if0, if_pos c0, rr_isVertex R, jk_cI, jk_if0, if_neg c1, e1, jk_cI]
  · rw [if_neg c0]
    refine ⟨e', fun d => ?_, e2, e3⟩
    rw [je_116, if_pos R.is, rr_isVertex R, jk_cI, jk_if0, if_neg c0, e1, jk_cI]
/-- minorOf() -/
theorem rr_minorOf (R : RSt h σ) (A : AWt σ) {s : Int32} (hs : sub s (sF σ).2.2) : ∃ h', (∀ d, jx_C rc (d + 5) 118 [.ref 336, .int s] h = some (some (.long (Int64.ofInt (MP (sF σ) s))), h')) ∧ RSt h' σ ∧ rF h h' := by
  obtain ⟨g, hg⟩ := R.scr.1
  have hS : S12 s := fun k hk => by
    cases q : bt s k
    · rfl
    · have := hs k q; rw [A.B.s k hk] at this; cases this
  obtain ⟨h1, g', r1, r2, r3⟩ := rf_minorOf (rc := rc) R.M R.F A.B hg hS hs
  refine ⟨h1, r1, RS_scr R A r3 (fun x q => by unfold m_scrP; omega) ?_, rF.scr r3 (fun x q => by unfold m_scrP; omega)⟩
  obtain ⟨-, ⟨g2, a2⟩, ⟨g3, a3⟩, a4, a5, ⟨f6, a6⟩, ⟨g7, a7⟩, a8, a9, ⟨g10, a10⟩, a11, a12, ⟨g13, a13⟩, ⟨g14, a14⟩, ⟨g15, a15⟩, a16, a17⟩ := R.scr
  have k : ∀ x, x ≠ 382 → jx_at h1 x = jx_at h x := fun x hx => r3.2.2 x hx
  refine ⟨⟨_, r2⟩, ⟨g2, (k _ (by omega)).trans a2⟩, ⟨g3, (k _ (by omega)).trans a3⟩, rows_fr r3 (by omega) a4, fun i hi => ?_, ⟨f6, ro_fr r3 (by omega) a6⟩, ⟨g7, (k _ (by omega)).trans a7⟩, rows_fr r3 (by omega) a8, fun i hi => ?_, ⟨g10, (k _ (by omega)).trans a10⟩, rows_fr r3 (by omega) a11, fun i hi => ?_, ⟨g13, (k _ (by omega)).trans a13⟩, ⟨g14, (k _ (by omega)).trans a14⟩, ⟨g15, (k _ (by omega)).trans a15⟩, rows_fr r3 (by omega) a16, fun i hi => ?_⟩
  · obtain ⟨g, e⟩ := a5 i hi; exact ⟨g, (k _ (by omega)).trans e⟩
  · obtain ⟨g, e⟩ := a9 i hi; exact ⟨g, (k _ (by omega)).trans e⟩
  · obtain ⟨g, e⟩ := a12 i hi; exact ⟨g, (k _ (by omega)).trans e⟩
  · obtain ⟨f, g⟩ := a17 i hi; exact ⟨f, ro_fr r3 (by omega) g⟩
theorem rr_minor (R : RSt h σ) (A : AWt σ) (s : Int32) : ∃ h', (∀ d, jx_C rc (d + 20) 120 [.ref 336, .int s] h = some (some (.int (op_minor σ s).1), h')) ∧ RSt h' (op_minor σ s).2 ∧ rF h h' := by
  unfold op_minor
  obtain ⟨e', e1, e2, e3⟩ := rr_error (rc := rc) R A (k := 1) (by decide) (K := 1) rfl
  by_cases c0 : s &&& ((sF σ).2.2 ^^^ (-1)) = 0
  · rw [if_pos c0]
    have hi : jp_hi s (Int32.ofNat 4095) = true := by
      have hS : S12 s := fun k hk => by
        cases q : bt s k
        · rfl
        · have := (sub_iff.mp c0) k q; rw [A.B.s k hk] at this; cases this
      obtain ⟨n, hn, e⟩ := S12_nat hS
      exact (jp_hi_iff (by decide)).mpr ⟨n, by omega, e⟩
    obtain ⟨h1, r1, r2, r3⟩ := rr_minorOf (rc := rc) R A (sub_iff.mp c0)
    obtain ⟨h2, s1, s2, s3⟩ := rr_orOver (rc := rc) r2 A (Int64.ofInt (MP (sF σ) s))
    refine ⟨h2, fun d => ?_, s2, r3.trans s3⟩
    rw [je_120, if_pos R.is, rf_in, jk_cI, jk_if0, show (4095 : Int64) = (Int32.ofNat 4095).toInt64 from rfl, jp_bt_hi, if_pos hi, R.g1, jk_bs, ro_0 R.F, jk_bs, if_pos c0, r1, jk_cL, s1, jk_cI]
  · rw [if_neg c0]
    refine ⟨e', fun d => ?_, e2, e3⟩
    rw [je_120, if_pos R.is, rf_in, jk_cI, jk_if0, R.g1, jk_bs, ro_0 R.F, jk_bs, if_neg c0, e1, jk_cI]
    split <;> rfl
theorem rr_det (R : RSt h σ) (A : AWt σ) : ∃ h', (∀ d, jx_C rc (d + 20) 121 [.ref 336] h = some (some (.int (op_det σ).1), h')) ∧ RSt h' (op_det σ).2 ∧ rF h h' := by
  unfold op_det
  obtain ⟨h1, r1, r2, r3⟩ := rr_minorOf (rc := rc) R A (s := (sF σ).2.2) (fun _ q => q)
  obtain ⟨h2, s1, s2, s3⟩ := rr_orOver (rc := rc) r2 A (Int64.ofInt (MP (sF σ) (sF σ).2.2))
  refine ⟨h2, fun d => ?_, s2, r3.trans s3⟩
  rw [je_121, if_pos R.is, R.g1, jk_bs, ro_0 R.F, jk_bs, r1, jk_cL, s1, jk_cI]
end
