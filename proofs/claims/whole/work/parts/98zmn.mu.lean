/-! MU: both sides -/
/-- the table's sum over a set -/
def tSm (f : jF) (X : Int32) : Nat → Int32 := jk_sum fun p => if bt X p = true then f.1 p + Int32.ofNat (bc (f.2.1 p &&& X)) else 0
def tS (f : jF) (X : Int32) : Int32 := tSm f X 12
/-- the least set -/
noncomputable def wuX (f : jF) : Int32 := wu_L (wu_E f).1 (wu_E f).2
def muE (f : jF) : Prop := lg_cmp (Int64.ofInt (MP f f.2.2) &&& 1) 0 = 0
noncomputable def op_mu (σ : jSt) : Int32 × jSt := @ite _ (muE (sF σ)) (Classical.propDecidable _) (er σ 3) ((iIn (sF σ) 0 - iIn (sF σ) 1) - tS (sF σ) (wuX (sF σ)), σ)
theorem lg_and1 (v : Int64) : (lg_cmp (v &&& 1) 0 = 0) ↔ (lg_cmp (v - v / 2 * 2) 0 = 0) := by
  rw [lg_eq0, lg_eq0]
  have n2 : (2 : Int64).toInt = 2 := by decide
  have r := jl_rem (x := v) (n := 2) (by rw [n2]; decide)
  rw [n2] at r
  have e1 : (v - v / 2 * 2 = 0) ↔ v.toInt.tmod 2 = 0 := by
    rw [← r]
    constructor
    · intro h; rw [h]; rfl
    · intro h
      apply Int64.toInt_inj.1
      rw [h]; rfl
  rw [e1]
  have e2 : (v &&& 1 = 0) ↔ v.toBitVec.toNat % 2 = 0 := by
    rw [← Int64.toBitVec_inj, Int64.toBitVec_and, ← BitVec.toNat_inj, BitVec.toNat_and]
    show (v.toBitVec.toNat &&& 1 = 0) ↔ _
    rw [Nat.and_one_is_mod]
  rw [e2]
  have e3 : v.toInt = v.toBitVec.toInt := rfl
  rw [e3, BitVec.toInt_eq_toNat_cond]
  have lt := v.toBitVec.isLt
  generalize v.toBitVec.toNat = n at *
  have tm : ∀ z : Int, z.tmod 2 = 0 ↔ z % 2 = 0 := fun z => by
    constructor
    · intro h
      have := Int.mul_tdiv_add_tmod z 2
      omega
    · intro h
      have := Int.mul_tdiv_add_tmod z 2
      have a := Int.tmod_lt_of_pos z (show (0 : Int) < 2 by decide)
      have b : -2 < z.tmod 2 := by
        have := Int.tmod_lt_of_pos (-z) (show (0 : Int) < 2 by decide)
        rw [Int.neg_tmod] at this; omega
      omega
  rw [tm]
  split <;> omega
section
variable {rc : Nat → Nat × (Nat → Int32)} {h h' : jxH} {a b : Nat} {f : jF} {σ : jSt}
theorem fo_tsum_l (G : fo_at h a f) (B : jf_B f) (X : Int32) (d : Nat) : ∀ (m k : Nat), k + m = 12 → jb_236 rc (d + 1) 4 [(0, .ref a), (1, .int X), (2, .int (tSm f X k)), (3, .int (Int32.ofNat k))] [] h = some (some (.int (tS f X)), h)
  | 0, k, e => by
    obtain rfl : k = 12 := by omega
    rw [je_236_4, if_pos (by decide)]; rfl
  | m + 1, k, e => by
    have hk : k < 12 := by omega
    have ih := fo_tsum_l G B X d m (k + 1) (by omega)
    have es : tSm f X (k + 1) = tSm f X k + (if bt X k = true then f.1 k + Int32.ofNat (bc (f.2.1 k &&& X)) else 0) := rfl
    have s12 : S12 (f.2.1 k &&& X) := fun j hj => by rw [bt_and, B.n k hk j hj]; rfl
    rw [je_236_4, if_neg (jk_n12 hk), cl_isIn, jk_cI, jp_in_of hk, jk_if0]
    by_cases c : bt X k = true
    · rw [if_pos c] at es
      rw [if_pos c, fo_g0 G, jk_bs, fo_w G hk, jk_bs, fo_g1 G, jk_bs, fo_n G hk, jk_bs, jk_pop s12, jk_cI, jk_succ, ← es]
      exact ih
    · rw [if_neg c, Int32.add_zero] at es
      rw [if_neg c, jk_succ, ← es]
      exact ih
theorem fo_tsum (G : fo_at h a f) (B : jf_B f) (X : Int32) (d : Nat) : jx_C rc (d + 2) 236 [.ref a, .int X] h = some (some (.int (tS f X)), h) := by
  rw [je_236, if_pos (fo_is G)]
  exact fo_tsum_l G B X d 12 0 rfl
-- the reference's sum
def rSm (f : jF) (X : Int32) (p : Nat) : Nat → Int32 := jk_sum fun q => if bt X q = true then (if p = q then f.1 p else jk_b (bt (f.2.1 p) q)) else 0
theorem rSm_eq (B : jf_B f) {X : Int32} {p : Nat} (hp : p < 12) (hx : bt X p = true) : ∀ m, m ≤ 12 → rSm f X p m = (if p < m then f.1 p else 0) + Int32.ofNat ((List.range m).countP (bt (f.2.1 p &&& X)))
  | 0, _ => by
    rw [if_neg (Nat.not_lt_zero p)]
    show (0 : Int32) = 0 + Int32.ofNat 0
    decide
  | m + 1, hm => by
    have es : rSm f X p (m + 1) = rSm f X p m + (if bt X m = true then (if p = m then f.1 p else jk_b (bt (f.2.1 p) m)) else 0) := rfl
    have ih := rSm_eq B hp hx m (by omega)
    rw [es, ih, List.range_succ, List.countP_append, List.countP_singleton, bt_and]
    by_cases c : bt X m = true
    · rw [if_pos c, c, Bool.and_true]
      by_cases z : p = m
      · subst z
        rw [if_pos rfl, if_neg (Nat.lt_irrefl p), if_pos (Nat.lt_succ_self p), B.irr hp, Int32.zero_add, if_neg (by simp), Nat.add_zero, Int32.add_comm]
      · rw [if_neg z]
        have e1 : (if p < m then f.1 p else 0) = (if p < m + 1 then f.1 p else 0) := by
          by_cases y : p < m
          · rw [if_pos y, if_pos (by omega)]
          · rw [if_neg y, if_neg (by omega)]
        rw [e1, Int32.add_assoc]
        congr 1
        cases bt (f.2.1 p) m
        · rw [if_neg (by simp), Nat.add_zero]; exact Int32.add_zero _
        · rw [if_pos rfl]; exact jk_succ _
    · have c' : bt X m = false := by cases w : bt X m <;> simp_all
      have ff : ¬ (false = true) := by simp
      rw [if_neg c, c', Bool.and_false, if_neg ff, Nat.add_zero, Int32.add_zero]
      have ne : p ≠ m := fun z => by rw [z] at hx; exact c hx
      congr 1
      by_cases y : p < m
      · rw [if_pos y, if_pos (by omega)]
      · rw [if_neg y, if_neg (by omega)]
theorem rr_mu_q (R : RSt h σ) {X : Int32} {p : Nat} (hp : p < 12) (y : Int32) (d : Nat) : ∀ (m k : Nat), k + m = 12 → jb_141 rc (d + 1) 27 [(0, .ref 336), (1, .int X), (2, .int (y + (if bt X p = true then rSm (sF σ) X p k else 0))), (3, .int (Int32.ofNat p)), (4, .int (Int32.ofNat k))] [] h = jb_141 rc (d + 1) 22 [(0, .ref 336), (1, .int X), (2, .int (y + (if bt X p = true then rSm (sF σ) X p 12 else 0))), (3, .int (Int32.ofNat (p + 1)))] [] h
  | 0, k, e => by
    obtain rfl : k = 12 := by omega
    rw [je_141_27, if_pos (by decide), jk_succ]
  | m + 1, k, e => by
    have hk : k < 12 := by omega
    have ih := rr_mu_q R (X := X) hp y d m (k + 1) (by omega)
    have es : rSm (sF σ) X p (k + 1) = rSm (sF σ) X p k + (if bt X k = true then (if p = k then (sF σ).1 p else jk_b (bt ((sF σ).2.1 p) k)) else 0) := rfl
    rw [je_141_27, if_neg (jk_n12 hk), rf_has _ _ (by omega), jk_cI, jk_if0]
    by_cases c : bt X p = true
    · rw [if_pos c] at ih
      rw [if_pos c, if_pos c, if_pos c, rf_has _ _ (by omega), jk_cI, jk_if0]
      rw [if_pos c, es] at ih
      by_cases c2 : bt X k = true
      · rw [if_pos c2] at ih
        rw [if_pos c2, je_115, if_pos R.is]
        by_cases z : p = k
        · rw [if_pos z, ← Int32.add_assoc] at ih
          rw [if_pos (by rw [z]), R.g1, jk_bs, ro_w R.F hp, jk_bs, jk_cI, jk_succ]
          exact ih
        · rw [if_neg z, ← Int32.add_assoc] at ih
          rw [if_neg (by rw [jk_inj (by omega) (by omega)]; exact z), R.g1, jk_bs, ro_n R.F hp, jk_bs, bt_sr _ (by omega), jk_cI, jk_succ]
          exact ih
      · rw [if_neg c2, Int32.add_zero] at ih
        rw [if_neg c2, Int32.add_zero, jk_succ]
        exact ih
    · rw [if_neg c, if_neg c] at ih
      rw [if_neg c, if_neg c, if_neg c, Int32.add_zero (y + 0), jk_succ]
      exact ih
theorem rr_mu_p (R : RSt h σ) (A : AWt σ) {X : Int32} {h1 : jxH} {v : Int32} (d : Nat) (last : jb_141 rc (d + 1) 22 [(0, .ref 336), (1, .int X), (2, .int (tS (sF σ) X)), (3, .int (Int32.ofNat 12))] [] h = some (some (.int v), h1)) : ∀ (m k : Nat), k + m = 12 → jb_141 rc (d + 1) 22 [(0, .ref 336), (1, .int X), (2, .int (tSm (sF σ) X k)), (3, .int (Int32.ofNat k))] [] h = some (some (.int v), h1)
  | 0, k, e => by
    obtain rfl : k = 12 := by omega
    exact last
  | m + 1, k, e => by
    have hk : k < 12 := by omega
    have ih := rr_mu_p R A d last m (k + 1) (by omega)
    have q := rr_mu_q (rc := rc) R (X := X) hk (tSm (sF σ) X k) d 12 0 rfl
    have z0 : (if bt X k = true then rSm (sF σ) X k 0 else 0) = 0 := by split <;> rfl
    rw [z0, Int32.add_zero] at q
    have es : tSm (sF σ) X (k + 1) = tSm (sF σ) X k + (if bt X k = true then (sF σ).1 k + Int32.ofNat (bc ((sF σ).2.1 k &&& X)) else 0) := rfl
    have e2 : (if bt X k = true then rSm (sF σ) X k 12 else 0) = (if bt X k = true then (sF σ).1 k + Int32.ofNat (bc ((sF σ).2.1 k &&& X)) else 0) := by
      by_cases c : bt X k = true
      · rw [if_pos c, if_pos c, rSm_eq A.B hk c 12 (Nat.le_refl _), if_pos hk]; rfl
      · rw [if_neg c, if_neg c]
    rw [e2, ← es] at q
    rw [je_141_22, if_neg (jk_n12 hk)]
    exact q.trans ih
theorem rr_mu (R : RSt h σ) (A : AWt σ) : ∃ h', (∀ d, jx_C rc (d + 20) 141 [.ref 336] h = some (some (.int (op_mu σ).1), h')) ∧ RSt h' (op_mu σ).2 ∧ rF h h' := by
  obtain ⟨h1, r1, r2, r3⟩ := rr_minorOf (rc := rc) R A (s := (sF σ).2.2) (fun _ q => q)
  have n2 : ¬ (2 : Int64) = 0 := by decide
  unfold op_mu
  by_cases c : muE (sF σ)
  · rw [@if_pos _ (Classical.propDecidable _) c]
    obtain ⟨e', e1, e2, e3⟩ := rr_error (rc := rc) r2 A (k := 3) (by decide) (K := 3) rfl
    refine ⟨e', fun d => ?_, e2, r3.trans e3⟩
    rw [je_141, if_pos R.is, R.g1, jk_bs, ro_0 R.F, jk_bs, r1, jk_cL, if_neg n2, if_pos ((lg_and1 _).mp c), e1, jk_cI]
  · rw [@if_neg _ (Classical.propDecidable _) c]
    obtain ⟨h2, s1, s2, s3⟩ := rr_inertiaOf (rc := rc) r2 A 0
    obtain ⟨h3, t1, t2, t3⟩ := rr_inertiaOf (rc := rc) s2 A 1
    refine ⟨h3, fun d => ?_, t2, (r3.trans s3).trans t3⟩
    rw [je_141, if_pos R.is, R.g1, jk_bs, ro_0 R.F, jk_bs, r1, jk_cL, if_neg n2, if_neg (fun z => c ((lg_and1 _).mpr z)), rr_leastWu r2 A, jk_cI]
    have last : ∀ X, jb_141 rc (d + 18 + 1) 22 [(0, .ref 336), (1, .int X), (2, .int (tS (sF σ) X)), (3, .int (Int32.ofNat 12))] [] h1 = some (some (.int ((iIn (sF σ) 0 - iIn (sF σ) 1) - tS (sF σ) X)), h3) := fun X => by
      rw [je_141_22, if_pos (by decide), s1, jk_cI, t1, jk_cI]
    exact rr_mu_p (rc := rc) r2 A (d + 18) (last _) 12 0 rfl
theorem wr_g7 {w : wrW} {R : Nat → Int32} {x y : Int32} (H : wr_at h a w R x y) : jx_gI (jx_at h a) 2 7 = some w.2.2.2.1 := by rw [H.1]; rfl
theorem wr_g8 {w : wrW} {R : Nat → Int32} {x y : Int32} (H : wr_at h a w R x y) : jx_gI (jx_at h a) 2 8 = some w.2.2.2.2.1 := by rw [H.1]; rfl
theorem cc_mu (C : CSt h σ) (A : AWt σ) : ∃ h', (∀ d, jx_C rc (d + 20) 19 [.ref 0] h = some (some (.int (op_mu σ).1), h')) ∧ CSt h' (op_mu σ).2 ∧ cF h h' := by
  obtain ⟨h1, r1, r2, r3, r4⟩ := rk_minorOf (rc := rc) (a := 178) C.scr.2.2.2.1 C.F A.W (by omega) (sub_V A (fun _ q => q))
  obtain ⟨C1, F1⟩ := cc_rk C A (r4.mono fun x q => ⟨by have := q.1; omega, by have := q.2; omega⟩) r2
  unfold op_mu
  by_cases c : muE (sF σ)
  · have c' : lg_cmp (Int64.ofInt (MP (sF σ) (sF σ).2.2) &&& 1) 0 = 0 := c
    rw [@if_pos _ (Classical.propDecidable _) c]
    obtain ⟨e', e1, e2, e3⟩ := cc_refuse (rc := rc) C1 A (k := 3) (by decide) (by decide) (K := 3) rfl
    refine ⟨e', fun d => ?_, e2, F1.trans0 ⟨r4.1, r4.2.1⟩ e3⟩
    rw [je_19, if_pos C.is, C.g6, jk_bs, C.g1, jk_bs, jk_bs, fo_g2 C.F, jk_bs, r1, jk_cL, if_pos c', e1, jk_cI]
  · have c' : ¬ lg_cmp (Int64.ofInt (MP (sF σ) (sF σ).2.2) &&& 1) 0 = 0 := c
    rw [@if_neg _ (Classical.propDecidable _) c]
    obtain ⟨h2, o, par, sz, v, s, s1, s2, s3, s4, s5, s6⟩ := sg_sort (rc := rc) (pr := 0) (lf := fun x => x) (fun x d h => cl_left0 x (d + 1)) (a := 178) C1.scr.2.2.2.1 C1.F A.W (by omega)
    obtain ⟨f0, f1, f2⟩ := iv_fin A.W s2 s3
    obtain ⟨C2, F2⟩ := cc_rk C1 A s6 s5
    obtain ⟨g, hg⟩ := s5.2.2.2.2
    have W : wr_at h2 178 (v.1, v.2.1, s.2.2.1, s.2.2.2.1, s.2.2.2.2.1, s.2.2.2.2.2) g v.2.2.1 v.2.2.2 := ⟨s4.1, g, hg, fun _ _ => rfl⟩
    obtain ⟨h3, t1, t2, t3⟩ := wr_solve (rc := rc) A.B C2.F (by omega) W
    obtain ⟨C3, F3⟩ := cc_rk C2 A (t3.mono fun x hx => by unfold jWr at hx; exact ⟨by omega, by omega⟩) (wr_rk s5 t3 t2)
    refine ⟨h3, fun d => ?_, C3, (F1.trans0 ⟨r4.1, r4.2.1⟩ F2).trans0 ⟨s6.1.trans r4.1, s6.2.1.trans r4.2.1⟩ F3⟩
    rw [je_19, if_pos C.is, C.g6, jk_bs, C.g1, jk_bs, jk_bs, fo_g2 C.F, jk_bs, r1, jk_cL, if_neg c', C1.g6, jk_bs, C1.g1, jk_bs, s1, jk_cV, C2.g6, jk_bs, C2.g1, jk_bs, t1, jk_cV, C3.g6, jk_bs, wr_g7 t2, jk_bs, jk_bs, wr_g8 t2, jk_bs, C3.g1, jk_bs, jk_bs, wr_g11 t2, jk_bs, fo_tsum C3.F A.B, jk_cI]
    show some (some (Value.int ((s.2.2.2.1 - s.2.2.2.2.1) - tS (sF σ) (wuX (sF σ)))), h3) = _
    rw [f0, f1]
theorem aa_mu (A : AWt σ) : AWt (op_mu σ).2 := by
  unfold op_mu
  by_cases c : muE (sF σ)
  · rw [@if_pos _ (Classical.propDecidable _) c]; exact aa_er A
  · rw [@if_neg _ (Classical.propDecidable _) c]; exact A
end
