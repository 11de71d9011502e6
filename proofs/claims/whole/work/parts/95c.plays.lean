/-! plays(), both ways -/
/-- the move that a number tells -/
def jq_mn (v : Int32) : Option jM := if v = 600 then some (6, 0, 0, 0, 0) else if v < 0 then none else if v / 100 = 0 ∨ v / 100 = 4 ∨ v / 100 = 5 then some (v / 100, v - v / 100 * 100, 0, 0, 0) else none
def jq_py (e : jSh) : Nat → Nat → jF → Nat × jF
  | 0, k, f => (k, f)
  | m + 1, k, f => if k < e.2.1 then (match jq_mn (e.2.2 k) with
    | some mv => if jf_ref f false mv = 0 then jq_py e m (k + 1) (jf_act f mv) else (k, f)
    | none => (k, f)) else (k, f)
def op_plays (σ : jSt) (k w : Int32) : Int32 × jSt := if jp_four k = true then (if jp_part w = true then (match sE σ (pn k) with
  | some e => (if w = 0 then Int32.ofNat (jq_py e 24 0 (sF σ)).1 else Int32.ofNat (bc (jq_py e 24 0 (sF σ)).2.2.2), σ)
  | none => er σ 7) else er σ 1) else er σ 1
section
variable {rc : Nat → Nat × (Nat → Int32)} {h h' : jxH} {σ : jSt} {P : Nat → Prop} {e : jSh} {b a t : Nat} {f g : jF} {m : jM} {sg : Int32}
theorem jr_045 {k : Int32} (h : k = 0 ∨ k = 4 ∨ k = 5) (p : Int32) : jm_norm (k, p, 0, 0, 0) = (k, p, 0, 0, 0) := by
  have h0 : jr_has 0 = 1 := by decide
  have h4 : jr_has 4 = 1 := by decide
  have h5 : jr_has 5 = 1 := by decide
  rcases h with rfl | rfl | rfl <;> simp [jm_norm, h0, h4, h5, jk_l1_1]
theorem st_number (hr : jk_rom rc) (H : st_at h t m sg) (v : Int32) : ∃ h1, (∃ m1, st_at h1 t m1 sg) ∧ Fr (fun x => x = t) h h1 ∧ (∀ mv, jq_mn v = some mv → st_at h1 t mv sg) ∧ ∀ d, jx_C rc (d + 2) 282 [.ref t, .int v] h = some (some (.int (jk_b (jq_mn v).isSome)), h1) := by
  have b1 : jx_bool (1 : Int32) = true := by simp [jx_bool]
  unfold jq_mn
  by_cases c6 : v = 600
  · rw [if_pos c6]
    obtain ⟨h1, r1, r2, r3⟩ := st_mean hr H 6 0 0 0 0
    have r2' : st_at h1 t (6, 0, 0, 0, 0) sg := by
      rw [show jm_norm (6, 0, 0, 0, 0) = (6, 0, 0, 0, 0) by
        unfold jm_norm
        simp] at r2
      exact r2
    refine ⟨h1, ⟨_, r2⟩, r3, fun mv q => by cases q; exact r2', fun d => ?_⟩
    rw [je_282, if_pos (st_is H), if_pos c6, r1, jk_cV, if_pos b1]
    rfl
  rw [if_neg c6]
  by_cases c0 : v < 0
  · rw [if_pos c0]
    refine ⟨h, ⟨_, H⟩, Fr.rfl, fun mv q => (by cases q), fun d => ?_⟩
    rw [je_282, if_pos (st_is H), if_neg c6, if_neg (fun z => by rw [Int32.lt_iff_toInt_lt] at c0; rw [Int32.le_iff_toInt_le] at z; omega), if_pos jk_r0']
    rfl
  rw [if_neg c0]
  have c0' : 0 ≤ v := by rw [Int32.lt_iff_toInt_lt] at c0; rw [Int32.le_iff_toInt_le]; omega
  obtain ⟨h1, r1, r2, r3⟩ := st_mean hr H (v / 100) (v - v / 100 * 100) 0 0 0
  have st : ∀ d, jx_C rc (d + 2) 282 [.ref t, .int v] h = _ := fun d => by
    rw [je_282, if_pos (st_is H), if_neg c6, if_pos c0', if_neg (by decide), if_neg (by decide), r1, jk_cV, st_g0 r2, jk_bs, show (jm_norm (v / 100, v - v / 100 * 100, 0, 0, 0)).1 = v / 100 from rfl]
  by_cases cc : v / 100 = 0 ∨ v / 100 = 4 ∨ v / 100 = 5
  · rw [if_pos cc]
    have r2' : st_at h1 t (v / 100, v - v / 100 * 100, 0, 0, 0) sg := by rw [jr_045 cc] at r2; exact r2
    refine ⟨h1, ⟨_, r2⟩, r3, fun mv q => by cases q; exact r2', fun d => ?_⟩
    rw [st d]
    rcases cc with z | z | z
    · rw [if_pos z, if_pos b1]; rfl
    · rw [if_neg (by rw [z]; decide), jk_bs, if_pos z, if_pos b1]; rfl
    · rw [if_neg (by rw [z]; decide), jk_bs, if_neg (by rw [z]; decide), jk_bs, if_pos z, if_pos b1]; rfl
  · rw [if_neg cc]
    refine ⟨h1, ⟨_, r2⟩, r3, fun mv q => (by cases q), fun d => ?_⟩
    rw [st d, if_neg (fun z => cc (Or.inl z)), jk_bs, if_neg (fun z => cc (Or.inr (Or.inl z))), jk_bs, if_neg (fun z => cc (Or.inr (Or.inr z))), if_pos jk_r0']
    rfl
theorem cc_py_l (hr : jk_rom rc) (A : AWt σ) (hb : 451 ≤ b) (hn : e.2.1 ≤ 24) (w : Int32) : ∀ (m k : Nat) (h : jxH) (g : jF), k + m = 24 → CSt h σ → ea_at h b e → fo_at h 5 g → jf_W g → ∃ h', (∀ d, jb_48 rc (d + 7) 30 [(0, .ref 0), (2, .int w), (3, .ref b), (4, .int (Int32.ofNat k))] [] h = some (some (.int (if w = 0 then Int32.ofNat (jq_py e m k g).1 else Int32.ofNat (bc (jq_py e m k g).2.2.2))), h')) ∧ CSt h' σ ∧ cF h h'
  | m, k, h, g, q, C, E, G, W => by
    have fin : ∀ {h : jxH}, CSt h σ → fo_at h 5 g → ∀ d, (if w = 0 then some (some (.int (Int32.ofNat k)), h) else (jx_gR (jx_at h 0) 11 2).bind fun b1 => jx_cI (jx_C rc (d + 7) 227 [.ref b1] h) fun v3 h2 => some (some (.int v3), h2)) = some (some (.int (if w = 0 then Int32.ofNat k else Int32.ofNat (bc g.2.2))), h) := fun C G d => by
      by_cases w0 : w = 0
      · rw [if_pos w0, if_pos w0]
      · rw [if_neg w0, if_neg w0, C.g2, jk_bs, fo_size G W.1.s, jk_cI]
    cases m with
    | zero =>
      obtain rfl : k = 24 := by omega
      refine ⟨h, fun d => ?_, C, cFid⟩
      rw [je_48_30, if_pos (by decide)]
      exact fin C G d
    | succ m =>
      have st : ∀ d, jb_48 rc (d + 7) 30 [(0, .ref 0), (2, .int w), (3, .ref b), (4, .int (Int32.ofNat k))] [] h = _ := fun d => by
        rw [je_48_30, if_neg (by rw [show (24 : Int32) = Int32.ofNat 24 from rfl, jk_le (by decide) (by omega)]; omega), ea_has E, jk_cI, jk_if0]
      unfold jq_py
      by_cases c1 : k < e.2.1
      · rw [if_pos c1]
        have c1' := (jq_shas_iff (e := e) hn).mpr ⟨k, c1, rfl⟩
        obtain ⟨-, ⟨⟨m0, sg0, s0⟩, -⟩, -⟩ := C.scr
        obtain ⟨h1, ⟨m1, r1⟩, r2, r3, r4⟩ := st_number (rc := rc) hr s0 (e.2.2 k)
        obtain ⟨C1, F1⟩ := cc_step C A r2 ⟨_, _, r1⟩
        have G1 := fo_fr r2 (fun x a b => by omega) G
        have E1 : ea_at h1 b e := ea_fr r2 (fun x a b => by omega) E
        have st2 : ∀ d, jb_48 rc (d + 7) 30 [(0, .ref 0), (2, .int w), (3, .ref b), (4, .int (Int32.ofNat k))] [] h = _ := fun d => by
          rw [st d, if_pos c1', C.g3, jk_bs, ea_read E hn c1, jk_cI, r4, jk_cI, jk_if0]
        cases hm : jq_mn (e.2.2 k) with
        | none =>
          refine ⟨h1, fun d => ?_, C1, F1⟩
          rw [st2 d, hm, if_neg (by decide)]
          exact fin C1 G1 d
        | some mv =>
          dsimp only
          have s1 := r3 mv hm
          have st3 : ∀ d, jb_48 rc (d + 7) 30 [(0, .ref 0), (2, .int w), (3, .ref b), (4, .int (Int32.ofNat k))] [] h = _ := fun d => by
            rw [st2 d, hm, if_pos (show (some mv).isSome = true from rfl), C1.g3, jk_bs, C1.g2, jk_bs, show (0 : Int32) = jk_b false from rfl, st_refusal hr s1 G1 W.1.n W.1.s, jk_cI, show jk_b false = (0 : Int32) from rfl]
          by_cases cr : jf_ref g false mv = 0
          · rw [if_pos cr]
            obtain ⟨h2, t1, t2, t3⟩ := st_act (rc := rc) s1 G1 W.1 (by omega) cr
            obtain ⟨C2, F2⟩ := cc_th C1 A t3 t2
            have E2 : ea_at h2 b e := ea_fr t3 (fun x a b z => by have := z.2; omega) E1
            obtain ⟨h3, u1, u2, u3⟩ := cc_py_l hr A hb hn w m (k + 1) h2 (jf_act g mv) (by omega) C2 E2 t2 (jf_W_act W cr)
            refine ⟨h3, fun d => ?_, u2, F1.trans0 ⟨r2.1, r2.2.1⟩ (F2.trans0 ⟨t3.1, t3.2.1⟩ u3)⟩
            rw [st3 d, if_pos cr, C1.g3, jk_bs, C1.g2, jk_bs, t1, jk_cV, jk_succ]
            exact u1 d
          · rw [if_neg cr]
            refine ⟨h1, fun d => ?_, C1, F1⟩
            rw [st3 d, if_neg cr]
            exact fin C1 G1 d
      · rw [if_neg c1]
        refine ⟨h, fun d => ?_, C, cFid⟩
        rw [st d, if_neg (fun z => by
          obtain ⟨k', l, e'⟩ := (jq_shas_iff hn).mp z
          rw [jk_inj (by omega) (by omega)] at e'; omega)]
        exact fin C G d
theorem cc_plays (hr : jk_rom rc) (C : CSt h σ) (A : AWt σ) (k w : Int32) : ∃ h', (∀ d, jx_C rc (d + 20) 48 [.ref 0, .int k, .int w] h = some (some (.int (op_plays σ k w).1), h')) ∧ CSt h' (op_plays σ k w).2 ∧ cF h h' := by
  unfold op_plays
  obtain ⟨e', e1, e2, e3⟩ := cc_refuse (rc := rc) C A (k := 1) (by decide) (by decide) (K := 1) rfl
  by_cases c0 : jp_four k = true
  · rw [if_pos c0]
    obtain ⟨j, hj, rfl⟩ := jp_four_iff.mp c0
    rw [pn_4 hj]
    obtain ⟨n1, n2, n3⟩ := four_ok hj
    have st : ∀ d, jx_C rc (d + 20) 48 [.ref 0, .int (Int32.ofNat j), .int w] h = _ := fun d => by
      rw [je_48, if_pos C.is, if_neg n1, if_neg n3, cl_isPart, jk_cI, jk_if0]
    by_cases cw : jp_part w = true
    · rw [if_pos cw]
      have st2 : ∀ d, jx_C rc (d + 20) 48 [.ref 0, .int (Int32.ofNat j), .int w] h = _ := fun d => by
        rw [st d, if_pos cw, C.g12, jk_bs]
      rcases ed_get C.dyn hj with ⟨b1, b2⟩ | ⟨e, b, b1, b2, b3, b4, b5⟩
      · obtain ⟨f', f1, f2, f3⟩ := cc_refuse (rc := rc) C A (k := 7) (by decide) (by decide) (K := 7) rfl
        rw [show sE σ j = none from b1]
        refine ⟨f', fun d => ?_, f2, f3⟩
        rw [st2 d, b2, jk_bs, jk_mon, f1, jk_cI]
      · rw [show sE σ j = some e from b1]
        obtain ⟨⟨f0, p0⟩, -⟩ := C.scr
        obtain ⟨h1, r1, r2, r3⟩ := fo_follow (rc := rc) p0 C.F (Or.inr (by omega))
        obtain ⟨C1, F1⟩ := cc_th C A r3 r2
        obtain ⟨h2, s1, s2, s3⟩ := cc_py_l (rc := rc) hr A b3 (A.ss j e hj b1).2 w 24 0 h1 (sF σ) (by omega) C1 (ea_fr r3 (fun x a b z => by have := z.2; omega) b4) r2 A.W
        refine ⟨h2, fun d => ?_, s2, F1.trans0 ⟨r3.1, r3.2.1⟩ s3⟩
        rw [st2 d, b2, jk_bs, jk_mos, C.g2, jk_bs, C.g1, jk_bs, r1, jk_cV]
        exact s1 (d + 12)
    · rw [if_neg cw]
      refine ⟨e', fun d => ?_, e2, e3⟩
      rw [st d, if_neg cw, e1, jk_cI]
  · rw [if_neg c0]
    refine ⟨e', fun d => ?_, e2, e3⟩
    rw [je_48, if_pos C.is]
    rcases four_no c0 with z | ⟨z1, z2, z3⟩
    · rw [if_pos z, e1, jk_cI]
    · rw [if_neg z1, if_pos z3, e1, jk_cI]
theorem aa_plays (A : AWt σ) (k w : Int32) : AWt (op_plays σ k w).2 := by
  unfold op_plays
  repeat' split
  all_goals first | exact A | exact aa_er A
end
