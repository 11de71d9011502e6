/-! count() -/
def jq_jobs (c : jC) : Int32 := jk_sum (fun i => if i < c.1 then Int32.ofNat (c.2.2.2 i) else 0) 6
def jq_held (sh : jH) : Int32 := jk_sum (fun i => jk_b (sh i).isSome) 4
def op_count (σ : jSt) (w : Int32) : Int32 × jSt := if w = 0 then (Int32.ofNat (bc (sF σ).2.2), σ) else if w = 1 then (jF_trees (sF σ), σ) else if w = 2 then (jk_sum (fun p => Int32.ofNat (bc ((sF σ).2.1 p))) 12 / 2, σ) else if w = 3 then (jk_sum (sF σ).1 12, σ) else if w = 4 then (Int32.ofNat σ.2.1.1, σ) else if w = 5 then (Int32.ofNat σ.2.1.2.1 - Int32.ofNat σ.2.1.1, σ) else if w = 6 then (Int32.ofNat (sC σ).1, σ) else if w = 7 then (Int32.ofNat σ.2.2.2.2.2.2.1, σ) else if w = 8 then (jq_held σ.2.2.1, σ) else if w = 9 then (jq_jobs (sC σ), σ) else er σ 1
section
variable {rc : Nat → Nat × (Nat → Int32)} {h h' : jxH} {σ : jSt} {c : jC} {a b : Nat} {g : jF}
theorem jk_sum_cut {g : Nat → Int32} {n : Nat} (hz : ∀ k, n ≤ k → g k = 0) : ∀ m, jk_sum g (n + m) = jk_sum g n
  | 0 => rfl
  | m + 1 => by
    show jk_sum g (n + m) + g (n + m) = jk_sum g n
    rw [jk_sum_cut hz m, hz _ (by omega), Int32.add_zero]
theorem cr_all_l (H : cr_at h a c) (h6 : c.1 ≤ 6) (d : Nat) : ∀ (m k : Nat), k + m = 6 → jb_219 rc (d + 2) 4 [(0, .ref a), (1, .int (jk_sum (fun i => if i < c.1 then Int32.ofNat (c.2.2.2 i) else 0) k)), (2, .int (Int32.ofNat k))] [] h = some (some (.int (jq_jobs c)), h)
  | 0, k, e => by
    obtain rfl : k = 6 := by omega
    rw [je_219_4, if_pos (by decide)]; rfl
  | m + 1, k, e => by
    have i := cr_all_l H h6 d m (k + 1) (by omega)
    rw [show jk_sum (fun i => if i < c.1 then Int32.ofNat (c.2.2.2 i) else 0) (k + 1) = jk_sum (fun i => if i < c.1 then Int32.ofNat (c.2.2.2 i) else 0) k + (if k < c.1 then Int32.ofNat (c.2.2.2 k) else 0) from rfl] at i
    rw [je_219_4, if_neg (by rw [show (6 : Int32) = Int32.ofNat 6 from rfl, jk_le (by decide) (by omega)]; omega)]
    by_cases q : k < c.1
    · rw [cr_jobs H h6 q, jk_cI, jk_succ]
      rw [if_pos q] at i
      exact i
    · rw [if_neg q] at i
      rw [je_218, if_pos (cr_is H), cr_has H h6, jk_cI, jk_if0, if_neg (fun z => by
        obtain ⟨j, hj, e'⟩ := (jp_crew_iff h6).mp z
        rw [jk_inj (by omega) (by omega)] at e'
        omega), jk_cI, jk_succ]
      exact i
theorem cr_all (H : cr_at h a c) (h6 : c.1 ≤ 6) (d : Nat) : jx_C rc (d + 3) 219 [.ref a] h = some (some (.int (jq_jobs c)), h) := by
  rw [je_219, if_pos (cr_is H)]
  exact cr_all_l H h6 d 6 0 (by omega)
theorem cc_held_l (C : CSt h σ) (d : Nat) : ∀ (m k : Nat), k + m = 4 → jb_58 rc d 4 [(0, .ref 0), (1, .int (jk_sum (fun i => jk_b (σ.2.2.1 i).isSome) k)), (2, .int (Int32.ofNat k))] [] h = some (some (.int (jq_held σ.2.2.1)), h)
  | 0, k, e => by
    obtain rfl : k = 4 := by omega
    rw [je_58_4, if_pos (by decide)]; rfl
  | m + 1, k, e => by
    have i := cc_held_l C d m (k + 1) (by omega)
    rw [show jk_sum (fun i => jk_b (σ.2.2.1 i).isSome) (k + 1) = jk_sum (fun i => jk_b (σ.2.2.1 i).isSome) k + jk_b (σ.2.2.1 k).isSome from rfl] at i
    obtain ⟨Q, R, q, r, n, a1, a2, a3⟩ := C.dyn
    rw [je_58_4, if_neg (by rw [show (4 : Int32) = Int32.ofNat 4 from rfl, jk_le (by decide) (by omega)]; omega), C.g11, jk_bs, q, jk_aQ (by omega) (by decide), jk_bs, jk_succ]
    rcases a1 k (by omega) with ⟨b, b'⟩ | ⟨f, b, e1, e2, -⟩
    · rw [b'] 
      rw [b] at i
      exact i
    · rw [e2]
      rw [e1] at i
      exact i
theorem cc_held (C : CSt h σ) (d : Nat) : jx_C rc (d + 1) 58 [.ref 0] h = some (some (.int (jq_held σ.2.2.1)), h) := by
  rw [je_58, if_pos C.is]
  exact cc_held_l C d 4 0 (by omega)
theorem CSt.tp (C : CSt h σ) : tp_at h σ.2.2.2.2.2.2 := C.2.2.2.2.2.2.1
theorem tp_len {p : jP} (H : tp_at h p) : jx_gI (jx_at h 320) 7 2 = some (Int32.ofNat p.1) := by rw [H.1]; rfl
theorem CSt.hired (C : CSt h σ) : jx_gI (jx_at h 325) 0 3 = some (Int32.ofNat (sC σ).1) := cr_g3 C.crew
theorem cc_count (C : CSt h σ) (A : AWt σ) (w : Int32) : ∃ h', (∀ d, jx_C rc (d + 20) 51 [.ref 0, .int w] h = some (some (.int (op_count σ w).1), h')) ∧ CSt h' (op_count σ w).2 ∧ cF h h' := by
  unfold op_count
  have h6 := A.crew.1
  by_cases w0 : w = 0
  · subst w0
    rw [if_pos rfl]
    refine ⟨h, fun d => ?_, C, cFid⟩
    rw [je_51, if_pos C.is, if_pos rfl, C.g1, jk_bs, fo_size C.F A.B.s, jk_cI]
  rw [if_neg w0]
  by_cases w1 : w = 1
  · subst w1
    rw [if_pos rfl]
    refine ⟨h, fun d => ?_, C, cFid⟩
    rw [je_51, if_pos C.is, if_neg (by decide), if_pos (by decide), C.g1, jk_bs, fo_trees C.F A.B.s A.B.n, jk_cI]
  rw [if_neg w1]
  by_cases w2 : w = 2
  · subst w2
    rw [if_pos rfl]
    refine ⟨h, fun d => ?_, C, cFid⟩
    rw [je_51, if_pos C.is, if_neg (by decide), if_neg (by decide), if_pos (by decide), C.g1, jk_bs, fo_edges C.F A.B.n, jk_cI]
  rw [if_neg w2]
  by_cases w3 : w = 3
  · subst w3
    rw [if_pos rfl]
    refine ⟨h, fun d => ?_, C, cFid⟩
    rw [je_51, if_pos C.is, if_neg (by decide), if_neg (by decide), if_neg (by decide), if_pos (by decide), C.g1, jk_bs, fo_weightSum C.F, jk_cI]
  rw [if_neg w3]
  by_cases w4 : w = 4
  · subst w4
    rw [if_pos rfl]
    refine ⟨h, fun d => ?_, C, cFid⟩
    rw [je_51, if_pos C.is, if_neg (by decide), if_neg (by decide), if_neg (by decide), if_neg (by decide), if_pos (by decide), C.g4, jk_bs, ct_g1 C.tr, jk_bs]
  rw [if_neg w4]
  by_cases w5 : w = 5
  · subst w5
    rw [if_pos rfl]
    refine ⟨h, fun d => ?_, C, cFid⟩
    rw [je_51, if_pos C.is, if_neg (by decide), if_neg (by decide), if_neg (by decide), if_neg (by decide), if_neg (by decide), if_pos (by decide), C.g4, jk_bs, ct_g2 C.tr, jk_bs, jk_bs, ct_g1 C.tr, jk_bs]
  rw [if_neg w5]
  by_cases w6 : w = 6
  · subst w6
    rw [if_pos rfl]
    refine ⟨h, fun d => ?_, C, cFid⟩
    rw [je_51, if_pos C.is, if_neg (by decide), if_neg (by decide), if_neg (by decide), if_neg (by decide), if_neg (by decide), if_neg (by decide), if_pos (by decide), C.g13, jk_bs, C.hired, jk_bs]
  rw [if_neg w6]
  by_cases w7 : w = 7
  · subst w7
    rw [if_pos rfl]
    refine ⟨h, fun d => ?_, C, cFid⟩
    rw [je_51, if_pos C.is, if_neg (by decide), if_neg (by decide), if_neg (by decide), if_neg (by decide), if_neg (by decide), if_neg (by decide), if_neg (by decide), if_pos (by decide), C.g10, jk_bs, tp_len C.tp, jk_bs]
  rw [if_neg w7]
  by_cases w8 : w = 8
  · subst w8
    rw [if_pos rfl]
    refine ⟨h, fun d => ?_, C, cFid⟩
    rw [je_51, if_pos C.is, if_neg (by decide), if_neg (by decide), if_neg (by decide), if_neg (by decide), if_neg (by decide), if_neg (by decide), if_neg (by decide), if_neg (by decide), if_pos (by decide), cc_held C, jk_cI]
  rw [if_neg w8]
  by_cases w9 : w = 9
  · subst w9
    rw [if_pos rfl]
    refine ⟨h, fun d => ?_, C, cFid⟩
    rw [je_51, if_pos C.is, if_neg (by decide), if_neg (by decide), if_neg (by decide), if_neg (by decide), if_neg (by decide), if_neg (by decide), if_neg (by decide), if_neg (by decide), if_neg (by decide), if_pos (by decide), C.g13, jk_bs, cr_all C.crew h6, jk_cI]
  rw [if_neg w9]
  obtain ⟨e', e1, e2, e3⟩ := cc_refuse (rc := rc) C A (k := 1) (by decide) (by decide) (K := 1) rfl
  refine ⟨e', fun d => ?_, e2, e3⟩
  rw [je_51, if_pos C.is, if_neg w0, if_neg (show ¬ w = 0 + 1 from w1), if_neg (show ¬ w = 0 + 1 + 1 from w2), if_neg (show ¬ w = 0 + 1 + 1 + 1 from w3), if_neg (show ¬ w = 0 + 1 + 1 + 1 + 1 from w4), if_neg (show ¬ w = 0 + 1 + 1 + 1 + 1 + 1 from w5), if_neg (show ¬ w = 0 + 1 + 1 + 1 + 1 + 1 + 1 from w6), if_neg (show ¬ w = 0 + 1 + 1 + 1 + 1 + 1 + 1 + 1 from w7), if_neg (show ¬ w = 0 + 1 + 1 + 1 + 1 + 1 + 1 + 1 + 1 from w8), if_neg (show ¬ w = 0 + 1 + 1 + 1 + 1 + 1 + 1 + 1 + 1 + 1 from w9), e1, jk_cI]
theorem aa_count (A : AWt σ) (w : Int32) : AWt (op_count σ w).2 := by
  unfold op_count
  repeat' split
  all_goals first | exact A | exact aa_er A
-- the reference
theorem rr_edges_l (R : RSt h σ) (d : Nat) : ∀ (m k : Nat), k + m = 12 → jb_205 rc (d + 1) 4 [(0, .ref 336), (1, .int (jk_sum (fun p => Int32.ofNat (bc ((sF σ).2.1 p))) k)), (2, .int (Int32.ofNat k))] [] h = some (some (.int (jk_sum (fun p => Int32.ofNat (bc ((sF σ).2.1 p))) 12 / 2)), h)
  | 0, k, e => by
    obtain rfl : k = 12 := by omega
    rw [je_205_4, if_pos (by decide), if_neg (by decide)]
  | m + 1, k, e => by
    have hk : k < 12 := by omega
    rw [je_205_4, if_neg (jk_n12 hk), R.g1, jk_bs, ro_n R.F hk, jk_bs, rf_many, jk_cI, jk_succ]
    exact rr_edges_l R d m (k + 1) (by omega)
theorem rr_held_l (R : RSt h σ) (d : Nat) : ∀ (m k : Nat), k + m = 4 → jb_206 rc d 4 [(0, .ref 336), (1, .int (jk_sum (fun i => jk_b (σ.2.2.1 i).isSome) k)), (2, .int (Int32.ofNat k))] [] h = some (some (.int (jq_held σ.2.2.1)), h)
  | 0, k, e => by
    obtain rfl : k = 4 := by omega
    rw [je_206_4, if_pos (by decide)]; rfl
  | m + 1, k, e => by
    have i := rr_held_l R d m (k + 1) (by omega)
    rw [show jk_sum (fun i => jk_b (σ.2.2.1 i).isSome) (k + 1) = jk_sum (fun i => jk_b (σ.2.2.1 i).isSome) k + jk_b (σ.2.2.1 k).isSome from rfl] at i
    obtain ⟨-, ⟨B, b1, b2⟩, -⟩ := R.sh
    rw [je_206_4, if_neg (by rw [show (4 : Int32) = Int32.ofNat 4 from rfl, jk_le (by decide) (by omega)]; omega), R.g23, jk_bs, b1, jk_aI (by omega) (by decide), jk_bs, b2 k (by omega), jk_if0, jk_succ]
    by_cases z : (σ.2.2.1 k).isSome = true
    · rw [if_pos z]
      rw [z] at i
      exact i
    · rw [if_neg z]
      rw [Bool.not_eq_true] at z
      rw [z] at i
      exact i
theorem rr_jobs_l (R : RSt h σ) (A : AWt σ) (d : Nat) : ∀ (m k : Nat), k + m = (sC σ).1 → jb_207 rc d 4 [(0, .ref 336), (1, .int (jk_sum (fun i => if i < (sC σ).1 then Int32.ofNat ((sC σ).2.2.2 i) else 0) k)), (2, .int (Int32.ofNat k))] [] h = some (some (.int (jq_jobs (sC σ))), h)
  | 0, k, e => by
    have h6 := A.crew.1
    rw [je_207_4, R.hired, jk_bs, if_pos (by rw [jk_le (by omega) (by omega)]; omega)]
    have z := jk_sum_cut (g := fun i => if i < (sC σ).1 then Int32.ofNat ((sC σ).2.2.2 i) else 0) (n := k) (fun j hj => if_neg (by omega)) (6 - k)
    rw [show k + (6 - k) = 6 by omega] at z
    rw [← z]; rfl
  | m + 1, k, e => by
    have h6 := A.crew.1
    have i := rr_jobs_l R A d m (k + 1) (by omega)
    rw [show jk_sum (fun i => if i < (sC σ).1 then Int32.ofNat ((sC σ).2.2.2 i) else 0) (k + 1) = jk_sum (fun i => if i < (sC σ).1 then Int32.ofNat ((sC σ).2.2.2 i) else 0) k + (if k < (sC σ).1 then Int32.ofNat ((sC σ).2.2.2 k) else 0) from rfl, if_pos (show k < (sC σ).1 by omega)] at i
    rw [je_207_4, R.hired, jk_bs, if_neg (by rw [jk_le (by omega) (by omega)]; omega), R.g26, jk_bs, m_crew_2 R.crew h6 (by omega), jk_bs, jk_succ]
    exact i
theorem RSt.taped (R : RSt h σ) : jx_gI (jx_at h 336) 12 11 = some (Int32.ofNat σ.2.2.2.2.2.2.1) := by
  obtain ⟨⟨a, b, c, d, e, f, g, k, o, -⟩, -⟩ := R
  rw [o]; rfl
theorem rr_count (R : RSt h σ) (A : AWt σ) (w : Int32) : ∃ h', (∀ d, jx_C rc (d + 20) 208 [.ref 336, .int w] h = some (some (.int (op_count σ w).1), h')) ∧ RSt h' (op_count σ w).2 ∧ rF h h' := by
  unfold op_count
  have h6 := A.crew.1
  by_cases w0 : w = 0
  · subst w0
    rw [if_pos rfl]
    refine ⟨h, fun d => ?_, R, Fr.rfl⟩
    rw [je_208, if_pos R.is, if_pos rfl, R.g1, jk_bs, ro_0 R.F, jk_bs, rf_many, jk_cI]
  rw [if_neg w0]
  by_cases w1 : w = 1
  · subst w1
    rw [if_pos rfl]
    refine ⟨h, fun d => ?_, R, Fr.rfl⟩
    rw [je_208, if_pos R.is, if_neg (by decide), if_pos (by decide), R.g1, jk_bs, rf_trees R.F A.W, jk_cI]
  rw [if_neg w1]
  by_cases w2 : w = 2
  · subst w2
    rw [if_pos rfl]
    refine ⟨h, fun d => ?_, R, Fr.rfl⟩
    have Q := rr_edges_l (rc := rc) R (d + 17) 12 0 (by omega)
    rw [je_208, if_pos R.is, if_neg (by decide), if_neg (by decide), if_pos (by decide), je_205, if_pos R.is]
    exact congrArg (fun z => jx_cI z _) Q
  rw [if_neg w2]
  by_cases w3 : w = 3
  · subst w3
    rw [if_pos rfl]
    refine ⟨h, fun d => ?_, R, Fr.rfl⟩
    have Q := rf_weights (rc := rc) R.F A.B (d + 17) 12 0 (by omega)
    rw [je_208, if_pos R.is, if_neg (by decide), if_neg (by decide), if_neg (by decide), if_pos (by decide), R.g1, jk_bs, je_186]
    exact congrArg (fun z => jx_cI z _) Q
  rw [if_neg w3]
  by_cases w4 : w = 4
  · subst w4
    rw [if_pos rfl]
    refine ⟨h, fun d => ?_, R, Fr.rfl⟩
    rw [je_208, if_pos R.is, if_neg (by decide), if_neg (by decide), if_neg (by decide), if_neg (by decide), if_pos (by decide), R.done, jk_bs]
  rw [if_neg w4]
  by_cases w5 : w = 5
  · subst w5
    rw [if_pos rfl]
    refine ⟨h, fun d => ?_, R, Fr.rfl⟩
    rw [je_208, if_pos R.is, if_neg (by decide), if_neg (by decide), if_neg (by decide), if_neg (by decide), if_neg (by decide), if_pos (by decide), R.all, jk_bs, R.done, jk_bs]
  rw [if_neg w5]
  by_cases w6 : w = 6
  · subst w6
    rw [if_pos rfl]
    refine ⟨h, fun d => ?_, R, Fr.rfl⟩
    rw [je_208, if_pos R.is, if_neg (by decide), if_neg (by decide), if_neg (by decide), if_neg (by decide), if_neg (by decide), if_neg (by decide), if_pos (by decide), R.hired, jk_bs]
  rw [if_neg w6]
  by_cases w7 : w = 7
  · subst w7
    rw [if_pos rfl]
    refine ⟨h, fun d => ?_, R, Fr.rfl⟩
    rw [je_208, if_pos R.is, if_neg (by decide), if_neg (by decide), if_neg (by decide), if_neg (by decide), if_neg (by decide), if_neg (by decide), if_neg (by decide), if_pos (by decide), R.taped, jk_bs]
  rw [if_neg w7]
  by_cases w8 : w = 8
  · subst w8
    rw [if_pos rfl]
    refine ⟨h, fun d => ?_, R, Fr.rfl⟩
    have Q := rr_held_l (rc := rc) R (d + 18) 4 0 (by omega)
    rw [je_208, if_pos R.is, if_neg (by decide), if_neg (by decide), if_neg (by decide), if_neg (by decide), if_neg (by decide), if_neg (by decide), if_neg (by decide), if_neg (by decide), if_pos (by decide), je_206, if_pos R.is]
    exact congrArg (fun z => jx_cI z _) Q
  rw [if_neg w8]
  by_cases w9 : w = 9
  · subst w9
    rw [if_pos rfl]
    refine ⟨h, fun d => ?_, R, Fr.rfl⟩
    have Q := rr_jobs_l (rc := rc) R A (d + 18) (sC σ).1 0 (by omega)
    rw [je_208, if_pos R.is, if_neg (by decide), if_neg (by decide), if_neg (by decide), if_neg (by decide), if_neg (by decide), if_neg (by decide), if_neg (by decide), if_neg (by decide), if_neg (by decide), if_pos (by decide), je_207, if_pos R.is]
    exact congrArg (fun z => jx_cI z _) Q
  rw [if_neg w9]
  obtain ⟨e', e1, e2, e3⟩ := rr_error (rc := rc) R A (k := 1) (by decide) (K := 1) rfl
  refine ⟨e', fun d => ?_, e2, e3⟩
  rw [je_208, if_pos R.is, if_neg w0, if_neg (show ¬ w = 0 + 1 from w1), if_neg (show ¬ w = 0 + 1 + 1 from w2), if_neg (show ¬ w = 0 + 1 + 1 + 1 from w3), if_neg (show ¬ w = 0 + 1 + 1 + 1 + 1 from w4), if_neg (show ¬ w = 0 + 1 + 1 + 1 + 1 + 1 from w5), if_neg (show ¬ w = 0 + 1 + 1 + 1 + 1 + 1 + 1 from w6), if_neg (show ¬ w = 0 + 1 + 1 + 1 + 1 + 1 + 1 + 1 from w7), if_neg (show ¬ w = 0 + 1 + 1 + 1 + 1 + 1 + 1 + 1 + 1 from w8), if_neg (show ¬ w = 0 + 1 + 1 + 1 + 1 + 1 + 1 + 1 + 1 + 1 from w9), e1, jk_cI]
end
