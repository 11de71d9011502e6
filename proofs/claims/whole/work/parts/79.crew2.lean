/-! The crew: worker, workerIs, become, as, both ways -/
def jc_un : Nat → Int32 → Int32 → Bool
  | 0, _, _ => false
  | m + 1, x, y => if jp_kind x = true then (if x = y then true else jc_un m (jr_3 x.toNatClampNeg) y) else false
theorem jc_un_under {x y : Int32} (hx : jp_kind x = true) (hy : jp_kind y = true) : jc_un 6 x y = jc_under x y := by
  obtain ⟨i, hi, rfl⟩ := jp_kind_iff.mp hx
  obtain ⟨j, hj, rfl⟩ := jp_kind_iff.mp hy
  have h : ∀ i : Nat, i < 6 → ∀ j : Nat, j < 6 → jc_un 6 (Int32.ofNat i) (Int32.ofNat j) = jc_under (Int32.ofNat i) (Int32.ofNat j) := by decide +kernel
  exact h i hi j hj
section
variable {rc : Nat → Nat × (Nat → Int32)} {h h' : jxH} {σ : jSt} {P : Nat → Prop} {a : Nat} {c : jC}
theorem cr_under_l (hr : jk_rom rc) (y : Int32) (d : Nat) : ∀ (m k : Nat) (x : Int32), k + m = 6 → jb_220 rc (d + 1) 4 [(1, .int y), (2, .int x), (3, .int (Int32.ofNat k))] [] h = some (some (.int (jk_b (jc_un m x y))), h)
  | 0, k, x, e => by
    obtain rfl : k = 6 := by omega
    rw [je_220_4, if_pos (by decide), if_pos jk_r0']; rfl
  | m + 1, k, x, e => by
    rw [je_220_4, if_neg (by rw [show (6 : Int32) = Int32.ofNat 6 from rfl, jk_le (by decide) (by omega)]; omega), cl_isKind, jk_cI, jk_if0]
    unfold jc_un
    by_cases c1 : jp_kind x = true
    · rw [if_pos c1, if_pos c1]
      by_cases c2 : x = y
      · rw [if_pos c2, if_pos c2, if_pos (show jx_bool (1 : Int32) = true by simp [jx_bool])]; rfl
      · obtain ⟨i, hi, rfl⟩ := jp_kind_iff.mp c1
        rw [if_neg c2, if_neg c2, hr.2.2.1, if_neg (by rw [jk_outf (by omega) (by decide)]; decide), hr.2.2.2.2.2, jk_succ]
        exact cr_under_l hr y d m (k + 1) _ (by omega)
    · rw [if_neg c1, if_neg c1, if_pos jk_r0']; rfl
theorem cr_under (hr : jk_rom rc) {x y : Int32} (hx : jp_kind x = true) (hy : jp_kind y = true) (d : Nat) : jx_C rc (d + 2) 220 [.int x, .int y] h = some (some (.int (jk_b (jc_under x y))), h) := by
  rw [je_220, ← jc_un_under hx hy]
  exact cr_under_l hr y d 6 0 x (by omega)
theorem CSt.crew (C : CSt h σ) : cr_at h 325 (sC σ) := C.2.2.2.2.1
theorem AWt.crew (A : AWt σ) : cr_W (sC σ) := A.2.2.2.1
theorem cc_crew {c' : jC} (C : CSt h σ) (A : AWt σ) (F : Fr (jI 325 4) h h') (S : cr_at h' 325 c') : CSt h' (setC σ c') ∧ cF h h' :=
  ⟨CS_crew A.tr.2.1 C F (fun x q => ⟨q.1, by have := q.2; omega⟩) S, cF.of F (fun x q => by have := q.2; omega)⟩
theorem cc_worker (C : CSt h σ) (A : AWt σ) (k s : Int32) : ∃ h', (∀ d, jx_C rc (d + 20) 32 [.ref 0, .int k, .int s] h = some (some (.int (op_worker σ k s).1), h')) ∧ CSt h' (op_worker σ k s).2 ∧ cF h h' := by
  unfold op_worker
  obtain ⟨e', e1, e2, e3⟩ := cc_refuse (rc := rc) C A (k := 1) (by decide) (by decide) (K := 1) rfl
  by_cases c0 : jp_kind k = true
  · rw [if_pos c0]
    by_cases c1 : jp_start s = true
    · rw [if_pos c1]
      obtain ⟨j, hj, rfl⟩ := jp_start_iff.mp c1
      rw [show pn (Int32.ofNat j) = j from jk_cl (by omega)]
      by_cases c2 : (sC σ).1 < 6
      · rw [if_pos c2]
        obtain ⟨h1, r1, r2, r3⟩ := cr_hire (rc := rc) C.crew c2 k j
        obtain ⟨C1, F1⟩ := cc_crew C A r3 r2
        refine ⟨h1, fun d => ?_, C1, F1⟩
        rw [je_32, if_pos C.is, cl_isKind, jk_cI, jk_if0, if_pos c0, cl_isStart, jk_cI, jk_if0, if_pos c1, C.g13, jk_bs, r1, jk_cI, if_pos (by rw [show (0 : Int32) = Int32.ofNat 0 from rfl, jk_le (by decide) (by omega)]; omega)]
      · rw [if_neg c2]
        obtain ⟨f', f1, f2, f3⟩ := cc_refuse (rc := rc) C A (k := 4) (by decide) (by decide) (K := 4) rfl
        refine ⟨f', fun d => ?_, f2, f3⟩
        have w6 : (sC σ).1 = 6 := by have := A.crew.1; omega
        rw [je_32, if_pos C.is, cl_isKind, jk_cI, jk_if0, if_pos c0, cl_isStart, jk_cI, jk_if0, if_pos c1, C.g13, jk_bs, je_213, if_pos (cr_is C.crew), cr_g3 C.crew, jk_bs, if_neg (jk_nn (by omega)), jk_bs, if_neg (by rw [w6]; decide), jk_cI, if_neg (by decide), f1, jk_cI]
    · rw [if_neg c1]
      refine ⟨e', fun d => ?_, e2, e3⟩
      rw [je_32, if_pos C.is, cl_isKind, jk_cI, jk_if0, if_pos c0, cl_isStart, jk_cI, jk_if0, if_neg c1, e1, jk_cI]
  · rw [if_neg c0]
    refine ⟨e', fun d => ?_, e2, e3⟩
    rw [je_32, if_pos C.is, cl_isKind, jk_cI, jk_if0, if_neg c0, e1, jk_cI]
theorem cc_workerIs (C : CSt h σ) (A : AWt σ) (i w : Int32) : ∃ h', (∀ d, jx_C rc (d + 20) 33 [.ref 0, .int i, .int w] h = some (some (.int (op_workerIs σ i w).1), h')) ∧ CSt h' (op_workerIs σ i w).2 ∧ cF h h' := by
  unfold op_workerIs
  obtain ⟨e', e1, e2, e3⟩ := cc_refuse (rc := rc) C A (k := 1) (by decide) (by decide) (K := 1) rfl
  have h6 := A.crew.1
  by_cases c0 : jp_crew (sC σ) i = true
  · rw [if_pos c0]
    obtain ⟨j, hj, rfl⟩ := (jp_crew_iff h6).mp c0
    rw [pn_6 (by omega)]
    have st : ∀ d, jx_C rc (d + 20) 33 [.ref 0, .int (Int32.ofNat j), .int w] h = _ := fun d => by
      rw [je_33, if_pos C.is, C.g13, jk_bs, cr_has C.crew h6, jk_cI, jk_if0, if_pos c0]
    by_cases w0 : w = 0
    · rw [if_pos w0]
      refine ⟨h, fun d => ?_, C, cFid⟩
      rw [st d, if_pos w0, C.g13, jk_bs, cr_kind C.crew h6 hj, jk_cI]
    rw [if_neg w0]
    by_cases w1 : w = 1
    · rw [if_pos w1]
      refine ⟨h, fun d => ?_, C, cFid⟩
      rw [st d, if_neg w0, if_pos (show w = 0 + 1 from w1), C.g13, jk_bs, cr_start C.crew h6 hj, jk_cI]
    rw [if_neg w1]
    by_cases w2 : w = 2
    · rw [if_pos w2]
      refine ⟨h, fun d => ?_, C, cFid⟩
      rw [st d, if_neg w0, if_neg (show ¬ w = 0 + 1 from w1), if_pos (show w = 0 + 1 + 1 from w2), C.g13, jk_bs, cr_jobs C.crew h6 hj, jk_cI]
    rw [if_neg w2]
    by_cases w3 : w = 3
    · rw [if_pos w3]
      refine ⟨h, fun d => ?_, C, cFid⟩
      rw [st d, if_neg w0, if_neg (show ¬ w = 0 + 1 from w1), if_neg (show ¬ w = 0 + 1 + 1 from w2), if_pos (show w = 0 + 1 + 1 + 1 from w3), C.g13, jk_bs, cr_kind C.crew h6 hj, jk_cI, C.g13, jk_bs, cr_start C.crew h6 hj, jk_cI, cr_cost, jk_cI]
    rw [if_neg w3]
    refine ⟨e', fun d => ?_, e2, e3⟩
    rw [st d, if_neg w0, if_neg (show ¬ w = 0 + 1 from w1), if_neg (show ¬ w = 0 + 1 + 1 from w2), if_neg (show ¬ w = 0 + 1 + 1 + 1 from w3), e1, jk_cI]
  · rw [if_neg c0]
    refine ⟨e', fun d => ?_, e2, e3⟩
    rw [je_33, if_pos C.is, C.g13, jk_bs, cr_has C.crew h6, jk_cI, jk_if0, if_neg c0, e1, jk_cI]
theorem cc_become (C : CSt h σ) (A : AWt σ) (i k : Int32) : ∃ h', (∀ d, jx_C rc (d + 20) 34 [.ref 0, .int i, .int k] h = some (some (.int (op_become σ i k).1), h')) ∧ CSt h' (op_become σ i k).2 ∧ cF h h' := by
  unfold op_become
  obtain ⟨e', e1, e2, e3⟩ := cc_refuse (rc := rc) C A (k := 1) (by decide) (by decide) (K := 1) rfl
  have h6 := A.crew.1
  by_cases c0 : jp_crew (sC σ) i = true
  · rw [if_pos c0]
    by_cases c1 : jp_kind k = true
    · rw [if_pos c1]
      obtain ⟨j, hj, rfl⟩ := (jp_crew_iff h6).mp c0
      rw [pn_6 (by omega)]
      obtain ⟨h1, r1, r2, r3⟩ := cr_train (rc := rc) C.crew h6 hj k
      obtain ⟨C1, F1⟩ := cc_crew C A r3 r2
      refine ⟨h1, fun d => ?_, C1, F1⟩
      rw [je_34, if_pos C.is, C.g13, jk_bs, cr_has C.crew h6, jk_cI, jk_if0, if_pos c0, cl_isKind, jk_cI, jk_if0, if_pos c1, C.g13, jk_bs, cr_kind C.crew h6 hj, jk_cI, C.g13, jk_bs, r1, jk_cV]
    · rw [if_neg c1]
      refine ⟨e', fun d => ?_, e2, e3⟩
      rw [je_34, if_pos C.is, C.g13, jk_bs, cr_has C.crew h6, jk_cI, jk_if0, if_pos c0, cl_isKind, jk_cI, jk_if0, if_neg c1, e1, jk_cI]
  · rw [if_neg c0]
    refine ⟨e', fun d => ?_, e2, e3⟩
    rw [je_34, if_pos C.is, C.g13, jk_bs, cr_has C.crew h6, jk_cI, jk_if0, if_neg c0, e1, jk_cI]
theorem cc_as (hr : jk_rom rc) (C : CSt h σ) (A : AWt σ) (i k : Int32) : ∃ h', (∀ d, jx_C rc (d + 20) 35 [.ref 0, .int i, .int k] h = some (some (.int (op_as σ i k).1), h')) ∧ CSt h' (op_as σ i k).2 ∧ cF h h' := by
  unfold op_as
  obtain ⟨e', e1, e2, e3⟩ := cc_refuse (rc := rc) C A (k := 1) (by decide) (by decide) (K := 1) rfl
  have h6 := A.crew.1
  by_cases c0 : jp_crew (sC σ) i = true
  · rw [if_pos c0]
    by_cases c1 : jp_kind k = true
    · rw [if_pos c1]
      obtain ⟨j, hj, rfl⟩ := (jp_crew_iff h6).mp c0
      rw [pn_6 (by omega)]
      have U := fun d => cr_under (rc := rc) (h := h) hr (A.crew.2 j hj).1 c1 d
      by_cases c2 : jc_under ((sC σ).2.1 j) k = true
      · rw [if_pos c2]
        refine ⟨h, fun d => ?_, C, cFid⟩
        rw [je_35, if_pos C.is, C.g13, jk_bs, cr_has C.crew h6, jk_cI, jk_if0, if_pos c0, cl_isKind, jk_cI, jk_if0, if_pos c1, C.g13, jk_bs, cr_kind C.crew h6 hj, jk_cI, U, jk_cI, jk_if0, if_pos c2, C.g13, jk_bs, cr_start C.crew h6 hj, jk_cI]
      · rw [if_neg c2]
        obtain ⟨f', f1, f2, f3⟩ := cc_refuse (rc := rc) C A (k := 6) (by decide) (by decide) (K := 6) rfl
        refine ⟨f', fun d => ?_, f2, f3⟩
        rw [je_35, if_pos C.is, C.g13, jk_bs, cr_has C.crew h6, jk_cI, jk_if0, if_pos c0, cl_isKind, jk_cI, jk_if0, if_pos c1, C.g13, jk_bs, cr_kind C.crew h6 hj, jk_cI, U, jk_cI, jk_if0, if_neg c2, f1, jk_cI]
    · rw [if_neg c1]
      refine ⟨e', fun d => ?_, e2, e3⟩
      rw [je_35, if_pos C.is, C.g13, jk_bs, cr_has C.crew h6, jk_cI, jk_if0, if_pos c0, cl_isKind, jk_cI, jk_if0, if_neg c1, e1, jk_cI]
  · rw [if_neg c0]
    refine ⟨e', fun d => ?_, e2, e3⟩
    rw [je_35, if_pos C.is, C.g13, jk_bs, cr_has C.crew h6, jk_cI, jk_if0, if_neg c0, e1, jk_cI]
end
