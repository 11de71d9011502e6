/-! In thought to the end: the class; rest() -/
section
variable {rc : Nat → Nat × (Nat → Int32)} {h h' : jxH} {σ : jSt} {P : Nat → Prop} {g : jF}
theorem cc_th (C : CSt h σ) (A : AWt σ) (F : Fr (jI 5 3) h h') (G : fo_at h' 5 g) : CSt h' σ ∧ cF h h' := by
  have n : ∀ x, ¬ (5 ≤ x ∧ x < 8) → ¬ jI 5 3 x := fun x a b => a ⟨b.1, by have := b.2; omega⟩
  refine ⟨CS_scr A.tr.2.1 C F (fun x q => Or.inl ⟨by have := q.1; omega, by have := q.2; omega⟩) ?_, cF.of F (fun x q => by have := q.2; omega)⟩
  obtain ⟨-, s, w, r, p, t, e⟩ := C.scr
  exact ⟨⟨g, G⟩, sk_fr F (fun x a b => n x (by omega)) s, wk_fr F (fun x a b => n x (by omega)) w, rk_fr F (fun x a b => n x (by omega)) r, sp_fr F (fun x a b => n x (by omega)) p, tx_fr F (fun x a b => n x (by omega)) t, se_fr F (fun x a b => n x (by omega)) e⟩
theorem cc_end_l (hr : jk_rom rc) {kind : Int32} {s : Nat} (hs : s ≤ 9) (A : AWt σ) : ∀ (m k : Nat) (h : jxH) (g : jF), k + m = 12 → CSt h σ → fo_at h 5 g → jf_W g → ∃ h', (∀ d, jb_57 rc (d + 7) 7 [(0, .ref 0), (1, .int kind), (2, .int (Int32.ofNat s)), (3, .int (Int32.ofNat k))] [] h = some (some (.int (Int32.ofNat (k + (jw_end m g kind s).1))), h')) ∧ CSt h' σ ∧ cF h h' ∧ h'.1 = h.1 ∧ h'.2.1 = h.2.1 ∧ fo_at h' 5 (jw_end m g kind s).2
  | 0, k, h, g, e, C, G, W => by
    obtain rfl : k = 12 := by omega
    refine ⟨h, fun d => ?_, C, cFid, rfl, rfl, G⟩
    rw [je_57_7, if_pos (by decide)]
    rfl
  | m + 1, k, h, g, e, C, G, W => by
    obtain ⟨-, ⟨⟨m0, sg0, s0⟩, -⟩, -⟩ := C.scr
    obtain ⟨h1, ⟨m1, r1⟩, r2, r3, r4⟩ := cr_plan (rc := rc) hr s0 G W.1 (by omega) kind (mm := s) (by omega)
    obtain ⟨C1, F1⟩ := cc_step C A r2 ⟨_, _, r1⟩
    have G1 := fo_fr r2 (fun x a b => by omega) G
    have st : ∀ d, jb_57 rc (d + 7) 7 [(0, .ref 0), (1, .int kind), (2, .int (Int32.ofNat s)), (3, .int (Int32.ofNat k))] [] h = _ := fun d => by
      rw [je_57_7, if_neg (jk_n12 (by omega)), C.g3, jk_bs, C.g2, jk_bs, r4, jk_cI, jk_if0]
    cases hp : jn_plan g kind s with
    | none =>
      have e0 : jw_end (m + 1) g kind s = (0, g) := by unfold jw_end; rw [hp]
      rw [e0]
      refine ⟨h1, fun d => ?_, C1, F1, r2.1, r2.2.1, G1⟩
      rw [st d, hp, if_neg (by decide)]
      rfl
    | some x =>
      obtain ⟨kk, j⟩ := x
      obtain ⟨w1, w2, w3⟩ := jn_W_plan g kind s kk j hp
      obtain ⟨h2, t1, t2, t3⟩ := st_act (rc := rc) (r3 kk j hp) G1 W.1 (by omega) w3
      obtain ⟨C2, F2⟩ := cc_th C1 A t3 t2
      have e1 : jw_end (m + 1) g kind s = ((jw_end m (jf_act g (kk, Int32.ofNat j, 0, 0, 0)) kind s).1 + 1, (jw_end m (jf_act g (kk, Int32.ofNat j, 0, 0, 0)) kind s).2) := by
        conv => lhs; unfold jw_end
        rw [hp]
      rw [e1]
      obtain ⟨h3, u1, u2, u3, u4, u5, u6⟩ := cc_end_l hr hs A m (k + 1) h2 (jf_act g (kk, Int32.ofNat j, 0, 0, 0)) (by omega) C2 t2 (jf_W_act W w3)
      rw [show k + ((jw_end m (jf_act g (kk, Int32.ofNat j, 0, 0, 0)) kind s).1 + 1) = k + 1 + (jw_end m (jf_act g (kk, Int32.ofNat j, 0, 0, 0)) kind s).1 by omega]
      refine ⟨h3, fun d => ?_, u2, F1.trans0 ⟨r2.1, r2.2.1⟩ (F2.trans0 ⟨t3.1, t3.2.1⟩ u3), u4.trans (t3.1.trans r2.1), u5.trans (t3.2.1.trans r2.2.1), u6⟩
      rw [st d, hp, if_pos (show (some (kk, j)).isSome = true from rfl), C1.g3, jk_bs, C1.g2, jk_bs, t1, jk_cV, jk_succ]
      exact u1 d
/-- thinkToTheEnd() -/
theorem cc_end (hr : jk_rom rc) (C : CSt h σ) (A : AWt σ) (kind : Int32) {s : Nat} (hs : s ≤ 9) : ∃ h', (∀ d, jx_C rc (d + 8) 57 [.ref 0, .int kind, .int (Int32.ofNat s)] h = some (some (.int (Int32.ofNat (jw_end 12 (sF σ) kind s).1)), h')) ∧ CSt h' σ ∧ cF h h' ∧ h'.1 = h.1 ∧ h'.2.1 = h.2.1 ∧ fo_at h' 5 (jw_end 12 (sF σ) kind s).2 := by
  obtain ⟨⟨f0, p0⟩, -⟩ := C.scr
  obtain ⟨h1, r1, r2, r3⟩ := fo_follow (rc := rc) p0 C.F (Or.inr (by omega))
  obtain ⟨C1, F1⟩ := cc_th C A r3 r2
  obtain ⟨h2, s1, s2, s3, s4, s5, s6⟩ := cc_end_l (rc := rc) hr hs (kind := kind) A 12 0 h1 (sF σ) (by omega) C1 r2 A.W
  refine ⟨h2, fun d => ?_, s2, F1.trans0 ⟨r3.1, r3.2.1⟩ s3, s4.trans r3.1, s5.trans r3.2.1, s6⟩
  have := s1 d
  rw [Nat.zero_add] at this
  rw [je_57, if_pos C.is, C.g2, jk_bs, C.g1, jk_bs, r1, jk_cV]
  exact this
def op_rest (σ : jSt) (i w : Int32) : Int32 × jSt := if jp_crew (sC σ) i = true then (if w < 0 then er σ 1 else if w ≤ 2 then (if w = 0 then (Int32.ofNat (jw_end 12 (sF σ) ((sC σ).2.1 (pn i)) ((sC σ).2.2.1 (pn i))).1, σ) else if w = 1 then (Int32.ofNat (bc (jw_end 12 (sF σ) ((sC σ).2.1 (pn i)) ((sC σ).2.2.1 (pn i))).2.2.2), σ) else (jk_sum (jw_end 12 (sF σ) ((sC σ).2.1 (pn i)) ((sC σ).2.2.1 (pn i))).2.1 12, σ)) else er σ 1) else er σ 1
theorem cc_rest (hr : jk_rom rc) (C : CSt h σ) (A : AWt σ) (i w : Int32) : ∃ h', (∀ d, jx_C rc (d + 20) 38 [.ref 0, .int i, .int w] h = some (some (.int (op_rest σ i w).1), h')) ∧ CSt h' (op_rest σ i w).2 ∧ cF h h' := by
  unfold op_rest
  obtain ⟨e', e1, e2, e3⟩ := cc_refuse (rc := rc) C A (k := 1) (by decide) (by decide) (K := 1) rfl
  have h6 := A.crew.1
  by_cases c0 : jp_crew (sC σ) i = true
  · rw [if_pos c0]
    obtain ⟨j, hj, rfl⟩ := (jp_crew_iff h6).mp c0
    rw [pn_6 (by omega)]
    by_cases c1 : w < 0
    · rw [if_pos c1]
      refine ⟨e', fun d => ?_, e2, e3⟩
      rw [je_38, if_pos C.is, C.g13, jk_bs, cr_has C.crew h6, jk_cI, jk_if0, if_pos c0, if_pos c1, e1, jk_cI]
    rw [if_neg c1]
    by_cases c2 : w ≤ 2
    · rw [if_pos c2]
      obtain ⟨h1, r1, C1, F1, -, -, G⟩ := cc_end (rc := rc) hr C A ((sC σ).2.1 j) (A.crew.2 j hj).2.1
      have W := jw_end_W (kind := (sC σ).2.1 j) (s := (sC σ).2.2.1 j) 12 (sF σ) A.W
      have st : ∀ d, jx_C rc (d + 20) 38 [.ref 0, .int (Int32.ofNat j), .int w] h = _ := fun d => by
        rw [je_38, if_pos C.is, C.g13, jk_bs, cr_has C.crew h6, jk_cI, jk_if0, if_pos c0, if_neg c1, if_pos c2, C.g13, jk_bs, cr_kind C.crew h6 hj, jk_cI, C.g13, jk_bs, cr_start C.crew h6 hj, jk_cI, r1, jk_cI]
      by_cases w0 : w = 0
      · rw [if_pos w0]
        refine ⟨h1, fun d => ?_, C1, F1⟩
        rw [st d, if_pos w0]
      rw [if_neg w0]
      by_cases w1 : w = 1
      · rw [if_pos w1]
        refine ⟨h1, fun d => ?_, C1, F1⟩
        rw [st d, if_neg w0, if_pos w1, C1.g2, jk_bs, fo_size G W.1.s, jk_cI]
      rw [if_neg w1]
      refine ⟨h1, fun d => ?_, C1, F1⟩
      rw [st d, if_neg w0, if_neg w1, C1.g2, jk_bs, fo_weightSum G, jk_cI]
    · rw [if_neg c2]
      refine ⟨e', fun d => ?_, e2, e3⟩
      rw [je_38, if_pos C.is, C.g13, jk_bs, cr_has C.crew h6, jk_cI, jk_if0, if_pos c0, if_neg c1, if_neg c2, e1, jk_cI]
  · rw [if_neg c0]
    refine ⟨e', fun d => ?_, e2, e3⟩
    rw [je_38, if_pos C.is, C.g13, jk_bs, cr_has C.crew h6, jk_cI, jk_if0, if_neg c0, e1, jk_cI]
theorem aa_rest (A : AWt σ) (i w : Int32) : AWt (op_rest σ i w).2 := by
  unfold op_rest
  repeat' split
  all_goals first | exact A | exact aa_er A
end
